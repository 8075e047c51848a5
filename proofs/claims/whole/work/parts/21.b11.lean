theorem dX12_isDone_0 : decode cX12_isDone 0 = .ok (.aload_n 0, 1) := by decide +kernel
theorem dX12_isDone_1 : decode cX12_isDone 1 = .ok (.iload_n 1, 1) := by decide +kernel
theorem dX12_isDone_2 : decode cX12_isDone 2 = .ok (.iconst 1, 1) := by decide +kernel
theorem dX12_isDone_3 : decode cX12_isDone 3 = .ok (.invokevirtual 397, 3) := by decide +kernel
theorem dX12_isDone_6 : decode cX12_isDone 6 = .ok (.istore_n 2, 1) := by decide +kernel
theorem dX12_isDone_7 : decode cX12_isDone 7 = .ok (.aload_n 0, 1) := by decide +kernel
theorem dX12_isDone_8 : decode cX12_isDone 8 = .ok (.iload_n 1, 1) := by decide +kernel
theorem dX12_isDone_9 : decode cX12_isDone 9 = .ok (.iconst 0, 1) := by decide +kernel
theorem dX12_isDone_10 : decode cX12_isDone 10 = .ok (.invokevirtual 397, 3) := by decide +kernel
theorem dX12_isDone_13 : decode cX12_isDone 13 = .ok (.iconst 2, 1) := by decide +kernel
theorem dX12_isDone_14 : decode cX12_isDone 14 = .ok (.if_icmp .ne 9, 3) := by decide +kernel
theorem dX12_isDone_17 : decode cX12_isDone 17 = .ok (.aload_n 0, 1) := by decide +kernel
theorem dX12_isDone_18 : decode cX12_isDone 18 = .ok (.invokevirtual 391, 3) := by decide +kernel
theorem dX12_isDone_21 : decode cX12_isDone 21 = .ok (.iconst 1, 1) := by decide +kernel
theorem dX12_isDone_22 : decode cX12_isDone 22 = .ok (.ireturn, 1) := by decide +kernel
theorem dX12_isDone_23 : decode cX12_isDone 23 = .ok (.aload_n 0, 1) := by decide +kernel
theorem dX12_isDone_24 : decode cX12_isDone 24 = .ok (.iload_n 1, 1) := by decide +kernel
theorem dX12_isDone_25 : decode cX12_isDone 25 = .ok (.iconst 0, 1) := by decide +kernel
theorem dX12_isDone_26 : decode cX12_isDone 26 = .ok (.invokevirtual 397, 3) := by decide +kernel
theorem dX12_isDone_29 : decode cX12_isDone 29 = .ok (.iconst 1, 1) := by decide +kernel
theorem dX12_isDone_30 : decode cX12_isDone 30 = .ok (.if_icmp .ne 11, 3) := by decide +kernel
theorem dX12_isDone_33 : decode cX12_isDone 33 = .ok (.aload_n 0, 1) := by decide +kernel
theorem dX12_isDone_34 : decode cX12_isDone 34 = .ok (.iload_n 2, 1) := by decide +kernel
theorem dX12_isDone_35 : decode cX12_isDone 35 = .ok (.invokevirtual 382, 3) := by decide +kernel
theorem dX12_isDone_38 : decode cX12_isDone 38 = .ok (.pop, 1) := by decide +kernel
theorem dX12_isDone_39 : decode cX12_isDone 39 = .ok (.iconst 1, 1) := by decide +kernel
theorem dX12_isDone_40 : decode cX12_isDone 40 = .ok (.ireturn, 1) := by decide +kernel
theorem dX12_isDone_41 : decode cX12_isDone 41 = .ok (.aload_n 0, 1) := by decide +kernel
theorem dX12_isDone_42 : decode cX12_isDone 42 = .ok (.iload_n 2, 1) := by decide +kernel
theorem dX12_isDone_43 : decode cX12_isDone 43 = .ok (.aload_n 0, 1) := by decide +kernel
theorem dX12_isDone_44 : decode cX12_isDone 44 = .ok (.iload_n 1, 1) := by decide +kernel
theorem dX12_isDone_45 : decode cX12_isDone 45 = .ok (.iconst 2, 1) := by decide +kernel
theorem dX12_isDone_46 : decode cX12_isDone 46 = .ok (.invokevirtual 397, 3) := by decide +kernel
theorem dX12_isDone_49 : decode cX12_isDone 49 = .ok (.aload_n 0, 1) := by decide +kernel
theorem dX12_isDone_50 : decode cX12_isDone 50 = .ok (.iload_n 1, 1) := by decide +kernel
theorem dX12_isDone_51 : decode cX12_isDone 51 = .ok (.iconst 3, 1) := by decide +kernel
theorem dX12_isDone_52 : decode cX12_isDone 52 = .ok (.invokevirtual 397, 3) := by decide +kernel
theorem dX12_isDone_55 : decode cX12_isDone 55 = .ok (.invokevirtual 373, 3) := by decide +kernel
theorem dX12_isDone_58 : decode cX12_isDone 58 = .ok (.ifCond .ne 5, 3) := by decide +kernel
theorem dX12_isDone_61 : decode cX12_isDone 61 = .ok (.iconst 0, 1) := by decide +kernel
theorem dX12_isDone_62 : decode cX12_isDone 62 = .ok (.ireturn, 1) := by decide +kernel
theorem dX12_isDone_63 : decode cX12_isDone 63 = .ok (.aload_n 0, 1) := by decide +kernel
theorem dX12_isDone_64 : decode cX12_isDone 64 = .ok (.iload_n 2, 1) := by decide +kernel
theorem dX12_isDone_65 : decode cX12_isDone 65 = .ok (.aload_n 0, 1) := by decide +kernel
theorem dX12_isDone_66 : decode cX12_isDone 66 = .ok (.iload_n 1, 1) := by decide +kernel
theorem dX12_isDone_67 : decode cX12_isDone 67 = .ok (.iconst 2, 1) := by decide +kernel
theorem dX12_isDone_68 : decode cX12_isDone 68 = .ok (.invokevirtual 397, 3) := by decide +kernel
theorem dX12_isDone_71 : decode cX12_isDone 71 = .ok (.aload_n 0, 1) := by decide +kernel
theorem dX12_isDone_72 : decode cX12_isDone 72 = .ok (.iload_n 1, 1) := by decide +kernel
theorem dX12_isDone_73 : decode cX12_isDone 73 = .ok (.iconst 3, 1) := by decide +kernel
theorem dX12_isDone_74 : decode cX12_isDone 74 = .ok (.invokevirtual 397, 3) := by decide +kernel
theorem dX12_isDone_77 : decode cX12_isDone 77 = .ok (.invokevirtual 379, 3) := by decide +kernel
theorem dX12_isDone_80 : decode cX12_isDone 80 = .ok (.pop, 1) := by decide +kernel
theorem dX12_isDone_81 : decode cX12_isDone 81 = .ok (.iconst 1, 1) := by decide +kernel
theorem dX12_isDone_82 : decode cX12_isDone 82 = .ok (.ireturn, 1) := by decide +kernel
theorem eX12_isDone {l : Launch} {g : jm_G} {d : Nat} {v1 : Int} (hg : jm_HR g) {mu : jm_M} {Q : Option Value → jm_M → Prop} (h : (0 ≤ ((4 * v1) + 1) ∧ ((4 * v1) + 1) < 480) ∧ ∀ x2, x2 = (mu.1 19 ((4 * v1) + 1)) → (0 ≤ ((4 * v1) + 0) ∧ ((4 * v1) + 0) < 480) ∧ (¬ (mu.1 19 ((4 * v1) + 0)) = 2 → (0 ≤ ((4 * v1) + 0) ∧ ((4 * v1) + 0) < 480) ∧ (¬ (mu.1 19 ((4 * v1) + 0)) = 1 → (0 ≤ ((4 * v1) + 2) ∧ ((4 * v1) + 2) < 480) ∧ (0 ≤ ((4 * v1) + 3) ∧ ((4 * v1) + 3) < 480) ∧ jm_R l g (d + 1) iX12_canCall [.ref 0, jm_i x2, jm_i (mu.1 19 ((4 * v1) + 2)), jm_i (mu.1 19 ((4 * v1) + 3))] mu (jm_qi fun z8 m7 => (¬ z8 = 0 → (0 ≤ ((4 * v1) + 2) ∧ ((4 * v1) + 2) < 480) ∧ (0 ≤ ((4 * v1) + 3) ∧ ((4 * v1) + 3) < 480) ∧ jm_R l g (d + 1) iX12_sings [.ref 0, jm_i x2, jm_i (m7.1 19 ((4 * v1) + 2)), jm_i (m7.1 19 ((4 * v1) + 3))] m7 (jm_qi fun z14 m13 => Q (some (jm_i 1)) m13)) ∧ (z8 = 0 → Q (some (jm_i 0)) m7))) ∧ ((mu.1 19 ((4 * v1) + 0)) = 1 → jm_R l g (d + 1) iX12_crosses [.ref 0, jm_i x2] mu (jm_qi fun z18 m17 => Q (some (jm_i 1)) m17))) ∧ ((mu.1 19 ((4 * v1) + 0)) = 2 → jm_R l g (d + 1) iX12_restsDay [.ref 0] mu (jm_qv fun m21 => Q (some (jm_i 1)) m21))) : jm_R l g (d + 2) iX12_isDone [.ref 0, jm_i v1] mu Q := by
  refine jm_enter [(0, .ref 0), (1, jm_i v1)] (by decide) (Nat.le_of_ble_eq_true rfl) rfl ?_
  refine jm_mrI (fun hm0 => ?_)
  refine jm_aload_n (pc := 0) 0 dX12_isDone_0 rfl ?_
  refine jm_iload_n (pc := 1) 1 dX12_isDone_1 rfl ?_
  refine jm_iconst (pc := 2) dX12_isDone_2 ?_
  have hg1 := h.1
  have h := h.2
  refine jm_inlvi (pc := 3) (As := [_, _]) (st := []) iX12_ofDeed dX12_isDone_3 mX12_397 (cR0 hg) ⟨_, rfl, rfl⟩ rfl rfl (Nat.le_of_ble_eq_true rfl) (pX12_ofDeed hg hg1 (jm_kIi ?_))
  have h := h _ rfl
  refine jm_istore_n (pc := 6) (lv' := [(2, _), (0, _), (1, _)]) dX12_isDone_6 (by decide) rfl ?_
  refine jm_aload_n (pc := 7) 1 dX12_isDone_7 rfl ?_
  refine jm_iload_n (pc := 8) 2 dX12_isDone_8 rfl ?_
  refine jm_iconst (pc := 9) dX12_isDone_9 ?_
  have hg3 := h.1
  have h := h.2
  refine jm_inlvi (pc := 10) (As := [_, _]) (st := []) iX12_ofDeed dX12_isDone_10 mX12_397 (cR0 hg) ⟨_, rfl, rfl⟩ rfl rfl (Nat.le_of_ble_eq_true rfl) (pX12_ofDeed hg hg3 (jm_kIi ?_))
  refine jm_iconst (pc := 13) dX12_isDone_13 ?_
  refine jm_icmp_ne (pc := 14) 23 dX12_isDone_14 rfl (hm0 _ _) ⟨by decide, by decide⟩ (fun q => ?_) (fun q => ?_)
  · have h := h.1 q
    refine jm_aload_n (pc := 23) 1 dX12_isDone_23 rfl ?_
    refine jm_iload_n (pc := 24) 2 dX12_isDone_24 rfl ?_
    refine jm_iconst (pc := 25) dX12_isDone_25 ?_
    have hg4 := h.1
    have h := h.2
    refine jm_inlvi (pc := 26) (As := [_, _]) (st := []) iX12_ofDeed dX12_isDone_26 mX12_397 (cR0 hg) ⟨_, rfl, rfl⟩ rfl rfl (Nat.le_of_ble_eq_true rfl) (pX12_ofDeed hg hg4 (jm_kIi ?_))
    refine jm_iconst (pc := 29) dX12_isDone_29 ?_
    refine jm_icmp_ne (pc := 30) 41 dX12_isDone_30 rfl (hm0 _ _) ⟨by decide, by decide⟩ (fun q => ?_) (fun q => ?_)
    · have h := h.1 q
      refine jm_aload_n (pc := 41) 1 dX12_isDone_41 rfl ?_
      refine jm_iload_n (pc := 42) 0 dX12_isDone_42 rfl ?_
      refine jm_aload_n (pc := 43) 1 dX12_isDone_43 rfl ?_
      refine jm_iload_n (pc := 44) 2 dX12_isDone_44 rfl ?_
      refine jm_iconst (pc := 45) dX12_isDone_45 ?_
      have hg5 := h.1
      have h := h.2
      refine jm_inlvi (pc := 46) (As := [_, _]) (st := [_, _]) iX12_ofDeed dX12_isDone_46 mX12_397 (cR0 hg) ⟨_, rfl, rfl⟩ rfl rfl (Nat.le_of_ble_eq_true rfl) (pX12_ofDeed hg hg5 (jm_kIi ?_))
      refine jm_aload_n (pc := 49) 1 dX12_isDone_49 rfl ?_
      refine jm_iload_n (pc := 50) 2 dX12_isDone_50 rfl ?_
      refine jm_iconst (pc := 51) dX12_isDone_51 ?_
      have hg6 := h.1
      have h := h.2
      refine jm_inlvi (pc := 52) (As := [_, _]) (st := [_, _, _]) iX12_ofDeed dX12_isDone_52 mX12_397 (cR0 hg) ⟨_, rfl, rfl⟩ rfl rfl (Nat.le_of_ble_eq_true rfl) (pX12_ofDeed hg hg6 (jm_kIi ?_))
      refine jm_callvi (pc := 55) (As := [_, _, _]) (st := []) iX12_canCall dX12_isDone_55 mX12_373 (cR0 hg) ⟨_, rfl, rfl⟩ rfl rfl (Nat.le_of_ble_eq_true rfl) h (fun z8 m7 hz9 h hm10 => ?_)
      refine jm_if_ne (pc := 58) 63 dX12_isDone_58 rfl hz9 (fun q => ?_) (fun q => ?_)
      · have h := h.1 q
        refine jm_aload_n (pc := 63) 1 dX12_isDone_63 rfl ?_
        refine jm_iload_n (pc := 64) 0 dX12_isDone_64 rfl ?_
        refine jm_aload_n (pc := 65) 1 dX12_isDone_65 rfl ?_
        refine jm_iload_n (pc := 66) 2 dX12_isDone_66 rfl ?_
        refine jm_iconst (pc := 67) dX12_isDone_67 ?_
        have hg11 := h.1
        have h := h.2
        refine jm_inlvi (pc := 68) (As := [_, _]) (st := [_, _]) iX12_ofDeed dX12_isDone_68 mX12_397 (cR0 hg) ⟨_, rfl, rfl⟩ rfl rfl (Nat.le_of_ble_eq_true rfl) (pX12_ofDeed hg hg11 (jm_kIi ?_))
        refine jm_aload_n (pc := 71) 1 dX12_isDone_71 rfl ?_
        refine jm_iload_n (pc := 72) 2 dX12_isDone_72 rfl ?_
        refine jm_iconst (pc := 73) dX12_isDone_73 ?_
        have hg12 := h.1
        have h := h.2
        refine jm_inlvi (pc := 74) (As := [_, _]) (st := [_, _, _]) iX12_ofDeed dX12_isDone_74 mX12_397 (cR0 hg) ⟨_, rfl, rfl⟩ rfl rfl (Nat.le_of_ble_eq_true rfl) (pX12_ofDeed hg hg12 (jm_kIi ?_))
        refine jm_callvi (pc := 77) (As := [_, _, _]) (st := []) iX12_sings dX12_isDone_77 mX12_379 (cR0 hg) ⟨_, rfl, rfl⟩ rfl rfl (Nat.le_of_ble_eq_true rfl) h (fun z14 m13 hz15 h hm16 => ?_)
        refine jm_pop (pc := 80) _ dX12_isDone_80 rfl ?_
        refine jm_iconst (pc := 81) dX12_isDone_81 ?_
        exact jm_zret (pc := 82) dX12_isDone_82 rfl (Or.inr rfl) h
      · have h := h.2 q
        refine jm_iconst (pc := 61) dX12_isDone_61 ?_
        exact jm_zret (pc := 62) dX12_isDone_62 rfl (Or.inl rfl) h
    · have h := h.2 q
      refine jm_aload_n (pc := 33) 1 dX12_isDone_33 rfl ?_
      refine jm_iload_n (pc := 34) 0 dX12_isDone_34 rfl ?_
      refine jm_callvi (pc := 35) (As := [_]) (st := []) iX12_crosses dX12_isDone_35 mX12_382 (cR0 hg) ⟨_, rfl, rfl⟩ rfl rfl (Nat.le_of_ble_eq_true rfl) h (fun z18 m17 hz19 h hm20 => ?_)
      refine jm_pop (pc := 38) _ dX12_isDone_38 rfl ?_
      refine jm_iconst (pc := 39) dX12_isDone_39 ?_
      exact jm_zret (pc := 40) dX12_isDone_40 rfl (Or.inr rfl) h
  · have h := h.2 q
    refine jm_aload_n (pc := 17) 1 dX12_isDone_17 rfl ?_
    refine jm_callvv (pc := 18) (As := []) (st := []) iX12_restsDay dX12_isDone_18 mX12_391 (cR0 hg) ⟨_, rfl, rfl⟩ rfl rfl (Nat.le_of_ble_eq_true rfl) h (fun m21 h hm24 => ?_)
    refine jm_iconst (pc := 21) dX12_isDone_21 ?_
    exact jm_zret (pc := 22) dX12_isDone_22 rfl (Or.inr rfl) h
theorem dX12_trial_0 : decode cX12_trial 0 = .ok (.aload_n 0, 1) := by decide +kernel
theorem dX12_trial_1 : decode cX12_trial 1 = .ok (.iconst 0, 1) := by decide +kernel
theorem dX12_trial_2 : decode cX12_trial 2 = .ok (.putfield 104, 3) := by decide +kernel
theorem dX12_trial_5 : decode cX12_trial 5 = .ok (.aload_n 0, 1) := by decide +kernel
theorem dX12_trial_6 : decode cX12_trial 6 = .ok (.getfield 7, 3) := by decide +kernel
theorem dX12_trial_9 : decode cX12_trial 9 = .ok (.iconst 0, 1) := by decide +kernel
theorem dX12_trial_10 : decode cX12_trial 10 = .ok (.iaload, 1) := by decide +kernel
theorem dX12_trial_11 : decode cX12_trial 11 = .ok (.aload_n 0, 1) := by decide +kernel
theorem dX12_trial_12 : decode cX12_trial 12 = .ok (.invokevirtual 400, 3) := by decide +kernel
theorem dX12_trial_15 : decode cX12_trial 15 = .ok (.iadd, 1) := by decide +kernel
theorem dX12_trial_16 : decode cX12_trial 16 = .ok (.sipush 999, 3) := by decide +kernel
theorem dX12_trial_19 : decode cX12_trial 19 = .ok (.if_icmp .le 5, 3) := by decide +kernel
theorem dX12_trial_22 : decode cX12_trial 22 = .ok (.iconst (-1), 1) := by decide +kernel
theorem dX12_trial_23 : decode cX12_trial 23 = .ok (.ireturn, 1) := by decide +kernel
theorem dX12_trial_24 : decode cX12_trial 24 = .ok (.aload_n 0, 1) := by decide +kernel
theorem dX12_trial_25 : decode cX12_trial 25 = .ok (.invokevirtual 376, 3) := by decide +kernel
theorem dX12_trial_28 : decode cX12_trial 28 = .ok (.iconst 0, 1) := by decide +kernel
theorem dX12_trial_29 : decode cX12_trial 29 = .ok (.istore_n 1, 1) := by decide +kernel
theorem dX12_trial_30 : decode cX12_trial 30 = .ok (.iconst 0, 1) := by decide +kernel
theorem dX12_trial_31 : decode cX12_trial 31 = .ok (.istore_n 2, 1) := by decide +kernel
theorem dX12_trial_32 : decode cX12_trial 32 = .ok (.iload_n 2, 1) := by decide +kernel
theorem dX12_trial_33 : decode cX12_trial 33 = .ok (.aload_n 0, 1) := by decide +kernel
theorem dX12_trial_34 : decode cX12_trial 34 = .ok (.getfield 293, 3) := by decide +kernel
theorem dX12_trial_37 : decode cX12_trial 37 = .ok (.if_icmp .ge 21, 3) := by decide +kernel
theorem dX12_trial_40 : decode cX12_trial 40 = .ok (.aload_n 0, 1) := by decide +kernel
theorem dX12_trial_41 : decode cX12_trial 41 = .ok (.iload_n 2, 1) := by decide +kernel
theorem dX12_trial_42 : decode cX12_trial 42 = .ok (.invokevirtual 403, 3) := by decide +kernel
theorem dX12_trial_45 : decode cX12_trial 45 = .ok (.ifCond .eq 7, 3) := by decide +kernel
theorem dX12_trial_48 : decode cX12_trial 48 = .ok (.iload_n 1, 1) := by decide +kernel
theorem dX12_trial_49 : decode cX12_trial 49 = .ok (.iconst 1, 1) := by decide +kernel
theorem dX12_trial_50 : decode cX12_trial 50 = .ok (.iadd, 1) := by decide +kernel
theorem dX12_trial_51 : decode cX12_trial 51 = .ok (.istore_n 1, 1) := by decide +kernel
theorem dX12_trial_52 : decode cX12_trial 52 = .ok (.iinc 2 1, 3) := by decide +kernel
theorem dX12_trial_55 : decode cX12_trial 55 = .ok (.goto (-23), 3) := by decide +kernel
theorem dX12_trial_58 : decode cX12_trial 58 = .ok (.iload_n 1, 1) := by decide +kernel
theorem dX12_trial_59 : decode cX12_trial 59 = .ok (.ireturn, 1) := by decide +kernel
theorem bX12_trial_32 {l : Launch} {g : jm_G} {d : Nat} {v1 v2 : Int} (hg : jm_HR g) {mu : jm_M} {Q : Option Value → jm_M → Prop} (h : jm_rg v2 ∧ ((mu.1 0 39) ≤ v2 → Q (some (jm_i v1)) mu) ∧ (v2 < (mu.1 0 39) → jm_R l g d iX12_isDone [.ref 0, jm_i v2] mu (jm_qi fun z3 m2 => (z3 = 0 → jm_V l g (d + 1) iX12_trial 32 [(0, .ref 0), (1, jm_i v1), (2, jm_i (v2 + 1))] [] m2 Q) ∧ (¬ z3 = 0 → ∀ x6, x6 = (v1 + 1) → jm_V l g (d + 1) iX12_trial 32 [(0, .ref 0), (1, jm_i x6), (2, jm_i (v2 + 1))] [] m2 Q)))) : jm_V l g (d + 1) iX12_trial 32 [(0, .ref 0), (1, jm_i v1), (2, jm_i v2)] [] mu Q := by
  refine jm_mrI (fun hm0 => ?_)
  refine jm_iload_n (pc := 32) 2 dX12_trial_32 rfl ?_
  refine jm_aload_n (pc := 33) 0 dX12_trial_33 rfl ?_
  refine jm_geti (pc := 34) 39 dX12_trial_34 fX12_293 (cR0 hg) rfl ?_
  have hg1 := h.1
  have h := h.2
  refine jm_icmp_ge (pc := 37) 58 dX12_trial_37 rfl hg1 (hm0 _ _) (fun q => ?_) (fun q => ?_)
  · have h := h.1 q
    refine jm_iload_n (pc := 58) 1 dX12_trial_58 rfl ?_
    exact jm_iret (pc := 59) dX12_trial_59 rfl h
  · have h := h.2 q
    refine jm_aload_n (pc := 40) 0 dX12_trial_40 rfl ?_
    refine jm_iload_n (pc := 41) 2 dX12_trial_41 rfl ?_
    refine jm_callvi (pc := 42) (As := [_]) (st := []) iX12_isDone dX12_trial_42 mX12_403 (cR0 hg) ⟨_, rfl, rfl⟩ rfl rfl (Nat.le_of_ble_eq_true rfl) h (fun z3 m2 hz4 h hm5 => ?_)
    refine jm_if_eq (pc := 45) 52 dX12_trial_45 rfl hz4 (fun q => ?_) (fun q => ?_)
    · have h := h.1 q
      refine jm_iinc (pc := 52) (lv' := [(2, _), (0, _), (1, _)]) 2 dX12_trial_52 rfl (by decide) rfl ?_
      refine jm_goto (pc := 55) 32 dX12_trial_55 rfl ?_
      exact jm_sub [1, 2, 0] rfl h
    · have h := h.2 q
      refine jm_iload_n (pc := 48) 1 dX12_trial_48 rfl ?_
      refine jm_iconst (pc := 49) dX12_trial_49 ?_
      refine jm_iadd (pc := 50) dX12_trial_50 ?_
      have h := h _ rfl
      refine jm_istore_n (pc := 51) (lv' := [(1, _), (0, _), (2, _)]) dX12_trial_51 (by decide) rfl ?_
      refine jm_iinc (pc := 52) (lv' := [(2, _), (1, _), (0, _)]) 2 dX12_trial_52 rfl (by decide) rfl ?_
      refine jm_goto (pc := 55) 32 dX12_trial_55 rfl ?_
      exact jm_sub [2, 1, 0] rfl h
theorem eX12_trial {l : Launch} {g : jm_G} {d : Nat} (hg : jm_HR g) {mu : jm_M} {Q : Option Value → jm_M → Prop} (h : ∀ m1, m1 = jm_wr mu 0 0 0 → jm_R l g d iX12_restsOfTrial [.ref 0] m1 (jm_qi fun z4 m3 => jm_rg ((m1.1 1 0) + z4) ∧ (((m1.1 1 0) + z4) ≤ 999 → jm_R l g d iX12_keepsAhead [.ref 0] m3 (jm_qv fun m8 => jm_V l g (d + 1) iX12_trial 32 [(0, .ref 0), (1, jm_i 0), (2, jm_i 0)] [] m8 Q)) ∧ (999 < ((m1.1 1 0) + z4) → Q (some (jm_i (-1))) m3))) : jm_R l g (d + 1) iX12_trial [.ref 0] mu Q := by
  refine jm_enter [(0, .ref 0)] (by decide) (Nat.le_of_ble_eq_true rfl) rfl ?_
  refine jm_mrI (fun hm0 => ?_)
  refine jm_aload_n (pc := 0) 0 dX12_trial_0 rfl ?_
  refine jm_iconst (pc := 1) dX12_trial_1 ?_
  refine jm_put (pc := 2) 0 dX12_trial_2 fX12_104 ftX12 (fun q h => by cases h; rfl) (jm_nI _) (jm_fI _) (cR0 hg) rfl ⟨by decide, by decide⟩ ?_
  have h := h _ rfl
  refine jm_mrI (fun hm2 => ?_)
  refine jm_aload_n (pc := 5) 0 dX12_trial_5 rfl ?_
  refine jm_getr (pc := 6) 1 dX12_trial_6 fX12_7 (cR0 hg) rfl ?_
  refine jm_iconst (pc := 9) dX12_trial_9 ?_
  refine jm_iald (pc := 10) dX12_trial_10 (cR1 hg) (by decide) (by decide) (by decide) ?_
  refine jm_aload_n (pc := 11) 0 dX12_trial_11 rfl ?_
  refine jm_callvi (pc := 12) (As := []) (st := [_]) iX12_restsOfTrial dX12_trial_12 mX12_400 (cR0 hg) ⟨_, rfl, rfl⟩ rfl rfl (Nat.le_of_ble_eq_true rfl) h (fun z4 m3 hz5 h hm6 => ?_)
  refine jm_iadd (pc := 15) dX12_trial_15 ?_
  refine jm_sipush (pc := 16) dX12_trial_16 (by decide) ?_
  have hg7 := h.1
  have h := h.2
  refine jm_icmp_le (pc := 19) 24 dX12_trial_19 rfl hg7 ⟨by decide, by decide⟩ (fun q => ?_) (fun q => ?_)
  · have h := h.1 q
    refine jm_aload_n (pc := 24) 0 dX12_trial_24 rfl ?_
    refine jm_callvv (pc := 25) (As := []) (st := []) iX12_keepsAhead dX12_trial_25 mX12_376 (cR0 hg) ⟨_, rfl, rfl⟩ rfl rfl (Nat.le_of_ble_eq_true rfl) h (fun m8 h hm11 => ?_)
    refine jm_iconst (pc := 28) dX12_trial_28 ?_
    refine jm_istore_n (pc := 29) (lv' := [(1, _), (0, _)]) dX12_trial_29 (by decide) rfl ?_
    refine jm_iconst (pc := 30) dX12_trial_30 ?_
    refine jm_istore_n (pc := 31) (lv' := [(2, _), (1, _), (0, _)]) dX12_trial_31 (by decide) rfl ?_
    exact jm_sub [2, 1, 0] rfl h
  · have h := h.2 q
    refine jm_iconst (pc := 22) dX12_trial_22 ?_
    exact jm_iret (pc := 23) dX12_trial_23 rfl h
theorem dX12_of_0 : decode cX12_of 0 = .ok (.aload_n 0, 1) := by decide +kernel
theorem dX12_of_1 : decode cX12_of 1 = .ok (.iconst 0, 1) := by decide +kernel
theorem dX12_of_2 : decode cX12_of 2 = .ok (.putfield 104, 3) := by decide +kernel
theorem dX12_of_5 : decode cX12_of 5 = .ok (.aload_n 0, 1) := by decide +kernel
theorem dX12_of_6 : decode cX12_of 6 = .ok (.iload_n 1, 1) := by decide +kernel
theorem dX12_of_7 : decode cX12_of 7 = .ok (.invokevirtual 132, 3) := by decide +kernel
theorem dX12_of_10 : decode cX12_of 10 = .ok (.ifCond .ne 6, 3) := by decide +kernel
theorem dX12_of_13 : decode cX12_of 13 = .ok (.bipush (-2), 2) := by decide +kernel
theorem dX12_of_15 : decode cX12_of 15 = .ok (.ireturn, 1) := by decide +kernel
theorem dX12_of_16 : decode cX12_of 16 = .ok (.iload_n 2, 1) := by decide +kernel
theorem dX12_of_17 : decode cX12_of 17 = .ok (.ifCond .ne 10, 3) := by decide +kernel
theorem dX12_of_20 : decode cX12_of 20 = .ok (.aload_n 0, 1) := by decide +kernel
theorem dX12_of_21 : decode cX12_of 21 = .ok (.getfield 16, 3) := by decide +kernel
theorem dX12_of_24 : decode cX12_of 24 = .ok (.iload_n 1, 1) := by decide +kernel
theorem dX12_of_25 : decode cX12_of 25 = .ok (.iaload, 1) := by decide +kernel
theorem dX12_of_26 : decode cX12_of 26 = .ok (.ireturn, 1) := by decide +kernel
theorem dX12_of_27 : decode cX12_of 27 = .ok (.iload_n 2, 1) := by decide +kernel
theorem dX12_of_28 : decode cX12_of 28 = .ok (.iconst 1, 1) := by decide +kernel
theorem dX12_of_29 : decode cX12_of 29 = .ok (.if_icmp .ne 10, 3) := by decide +kernel
theorem dX12_of_32 : decode cX12_of 32 = .ok (.aload_n 0, 1) := by decide +kernel
theorem dX12_of_33 : decode cX12_of 33 = .ok (.getfield 19, 3) := by decide +kernel
theorem dX12_of_36 : decode cX12_of 36 = .ok (.iload_n 1, 1) := by decide +kernel
theorem dX12_of_37 : decode cX12_of 37 = .ok (.iaload, 1) := by decide +kernel
theorem dX12_of_38 : decode cX12_of 38 = .ok (.ireturn, 1) := by decide +kernel
theorem dX12_of_39 : decode cX12_of 39 = .ok (.iload_n 2, 1) := by decide +kernel
theorem dX12_of_40 : decode cX12_of 40 = .ok (.iconst 2, 1) := by decide +kernel
theorem dX12_of_41 : decode cX12_of 41 = .ok (.if_icmp .ne 10, 3) := by decide +kernel
theorem dX12_of_44 : decode cX12_of 44 = .ok (.aload_n 0, 1) := by decide +kernel
theorem dX12_of_45 : decode cX12_of 45 = .ok (.getfield 22, 3) := by decide +kernel
theorem dX12_of_48 : decode cX12_of 48 = .ok (.iload_n 1, 1) := by decide +kernel
theorem dX12_of_49 : decode cX12_of 49 = .ok (.iaload, 1) := by decide +kernel
theorem dX12_of_50 : decode cX12_of 50 = .ok (.ireturn, 1) := by decide +kernel
theorem dX12_of_51 : decode cX12_of 51 = .ok (.iload_n 2, 1) := by decide +kernel
theorem dX12_of_52 : decode cX12_of 52 = .ok (.iconst 3, 1) := by decide +kernel
theorem dX12_of_53 : decode cX12_of 53 = .ok (.if_icmp .ne 9, 3) := by decide +kernel
theorem dX12_of_56 : decode cX12_of 56 = .ok (.aload_n 0, 1) := by decide +kernel
theorem dX12_of_57 : decode cX12_of 57 = .ok (.iload_n 1, 1) := by decide +kernel
theorem dX12_of_58 : decode cX12_of 58 = .ok (.invokevirtual 317, 3) := by decide +kernel
theorem dX12_of_61 : decode cX12_of 61 = .ok (.ireturn, 1) := by decide +kernel
theorem dX12_of_62 : decode cX12_of 62 = .ok (.iload_n 2, 1) := by decide +kernel
theorem dX12_of_63 : decode cX12_of 63 = .ok (.iconst 4, 1) := by decide +kernel
theorem dX12_of_64 : decode cX12_of 64 = .ok (.if_icmp .ne 13, 3) := by decide +kernel
theorem dX12_of_67 : decode cX12_of 67 = .ok (.aload_n 0, 1) := by decide +kernel
theorem dX12_of_68 : decode cX12_of 68 = .ok (.getfield 7, 3) := by decide +kernel
theorem dX12_of_71 : decode cX12_of 71 = .ok (.bipush 14, 2) := by decide +kernel
theorem dX12_of_73 : decode cX12_of 73 = .ok (.iload_n 1, 1) := by decide +kernel
theorem dX12_of_74 : decode cX12_of 74 = .ok (.iadd, 1) := by decide +kernel
theorem dX12_of_75 : decode cX12_of 75 = .ok (.iaload, 1) := by decide +kernel
theorem dX12_of_76 : decode cX12_of 76 = .ok (.ireturn, 1) := by decide +kernel
theorem dX12_of_77 : decode cX12_of 77 = .ok (.iload_n 2, 1) := by decide +kernel
theorem dX12_of_78 : decode cX12_of 78 = .ok (.iconst 5, 1) := by decide +kernel
theorem dX12_of_79 : decode cX12_of 79 = .ok (.if_icmp .ne 9, 3) := by decide +kernel
theorem dX12_of_82 : decode cX12_of 82 = .ok (.aload_n 0, 1) := by decide +kernel
theorem dX12_of_83 : decode cX12_of 83 = .ok (.iload_n 1, 1) := by decide +kernel
theorem dX12_of_84 : decode cX12_of 84 = .ok (.invokevirtual 320, 3) := by decide +kernel
theorem dX12_of_87 : decode cX12_of 87 = .ok (.ireturn, 1) := by decide +kernel
theorem dX12_of_88 : decode cX12_of 88 = .ok (.iload_n 2, 1) := by decide +kernel
theorem dX12_of_89 : decode cX12_of 89 = .ok (.bipush 6, 2) := by decide +kernel
theorem dX12_of_91 : decode cX12_of 91 = .ok (.if_icmp .ne 11, 3) := by decide +kernel
theorem dX12_of_94 : decode cX12_of 94 = .ok (.aload_n 0, 1) := by decide +kernel
theorem dX12_of_95 : decode cX12_of 95 = .ok (.iload_n 1, 1) := by decide +kernel
theorem dX12_of_96 : decode cX12_of 96 = .ok (.iconst 0, 1) := by decide +kernel
theorem dX12_of_97 : decode cX12_of 97 = .ok (.iconst 0, 1) := by decide +kernel
theorem dX12_of_98 : decode cX12_of 98 = .ok (.invokevirtual 367, 3) := by decide +kernel
theorem dX12_of_101 : decode cX12_of 101 = .ok (.ireturn, 1) := by decide +kernel
theorem dX12_of_102 : decode cX12_of 102 = .ok (.aload_n 0, 1) := by decide +kernel
theorem dX12_of_103 : decode cX12_of 103 = .ok (.iload_n 2, 1) := by decide +kernel
theorem dX12_of_104 : decode cX12_of 104 = .ok (.bipush 10, 2) := by decide +kernel
theorem dX12_of_106 : decode cX12_of 106 = .ok (.bipush 15, 2) := by decide +kernel
theorem dX12_of_108 : decode cX12_of 108 = .ok (.invokevirtual 128, 3) := by decide +kernel
theorem dX12_of_111 : decode cX12_of 111 = .ok (.ifCond .eq 15, 3) := by decide +kernel
theorem dX12_of_114 : decode cX12_of 114 = .ok (.aload_n 0, 1) := by decide +kernel
theorem dX12_of_115 : decode cX12_of 115 = .ok (.iload_n 1, 1) := by decide +kernel
theorem dX12_of_116 : decode cX12_of 116 = .ok (.iload_n 2, 1) := by decide +kernel
theorem dX12_of_117 : decode cX12_of 117 = .ok (.bipush 10, 2) := by decide +kernel
theorem dX12_of_119 : decode cX12_of 119 = .ok (.isub, 1) := by decide +kernel
theorem dX12_of_120 : decode cX12_of 120 = .ok (.invokevirtual 341, 3) := by decide +kernel
theorem dX12_of_123 : decode cX12_of 123 = .ok (.goto 5, 3) := by decide +kernel
theorem dX12_of_126 : decode cX12_of 126 = .ok (.bipush (-2), 2) := by decide +kernel
theorem dX12_of_128 : decode cX12_of 128 = .ok (.ireturn, 1) := by decide +kernel
theorem eX12_of {l : Launch} {g : jm_G} {d : Nat} {v1 v2 : Int} (hg : jm_HR g) {mu : jm_M} {Q : Option Value → jm_M → Prop} (h : ∀ m1, m1 = jm_wr mu 0 0 0 → jm_rg v1 ∧ (0 ≤ v1 ∧ v1 < (m1.1 0 4) → jm_rg v2 ∧ (¬ v2 = 0 → (¬ v2 = 1 → (¬ v2 = 2 → (¬ v2 = 3 → (¬ v2 = 4 → (¬ v2 = 5 → (¬ v2 = 6 → (10 ≤ v2 ∧ v2 ≤ 15 → (0 ≤ ((6 * v1) + (v2 - 10)) ∧ ((6 * v1) + (v2 - 10)) < 48) ∧ Q (some (jm_i ((m1.1 6 ((6 * v1) + (v2 - 10))) - 1))) m1) ∧ (¬ (10 ≤ v2 ∧ v2 ≤ 15) → Q (some (jm_i (-2))) m1)) ∧ (v2 = 6 → jm_R l g (d + 1) iX12_shakeOf [.ref 0, jm_i v1, jm_i 0, jm_i 0] m1 (jm_qi fun z7 m6 => Q (some (jm_i z7)) m6))) ∧ (v2 = 5 → jm_R l g (d + 1) iX12_sungBy [.ref 0, jm_i v1] m1 (jm_qi fun z11 m10 => Q (some (jm_i z11)) m10))) ∧ (v2 = 4 → (0 ≤ (14 + v1) ∧ (14 + v1) < 22) ∧ Q (some (jm_i (m1.1 1 (14 + v1)))) m1)) ∧ (v2 = 3 → (0 ≤ (6 + v1) ∧ (6 + v1) < 22) ∧ Q (some (jm_i ((m1.1 1 (6 + v1)) + 50))) m1)) ∧ (v2 = 2 → (0 ≤ v1 ∧ v1 < 8) ∧ Q (some (jm_i (m1.1 5 v1))) m1)) ∧ (v2 = 1 → (0 ≤ v1 ∧ v1 < 8) ∧ Q (some (jm_i (m1.1 4 v1))) m1)) ∧ (v2 = 0 → (0 ≤ v1 ∧ v1 < 8) ∧ Q (some (jm_i (m1.1 3 v1))) m1)) ∧ (¬ (0 ≤ v1 ∧ v1 < (m1.1 0 4)) → Q (some (jm_i (-2))) m1)) : jm_R l g (d + 2) iX12_of [.ref 0, jm_i v1, jm_i v2] mu Q := by
  refine jm_enter [(0, .ref 0), (1, jm_i v1), (2, jm_i v2)] (by decide) (Nat.le_of_ble_eq_true rfl) rfl ?_
  refine jm_mrI (fun hm0 => ?_)
  refine jm_aload_n (pc := 0) 0 dX12_of_0 rfl ?_
  refine jm_iconst (pc := 1) dX12_of_1 ?_
  refine jm_put (pc := 2) 0 dX12_of_2 fX12_104 ftX12 (fun q h => by cases h; rfl) (jm_nI _) (jm_fI _) (cR0 hg) rfl ⟨by decide, by decide⟩ ?_
  have h := h _ rfl
  refine jm_mrI (fun hm2 => ?_)
  refine jm_aload_n (pc := 5) 0 dX12_of_5 rfl ?_
  refine jm_iload_n (pc := 6) 1 dX12_of_6 rfl ?_
  have hg3 := h.1
  have h := h.2
  refine jm_inlvi (pc := 7) (As := [_]) (st := []) iX12_isWitness dX12_of_7 mX12_132 (cR0 hg) ⟨_, rfl, rfl⟩ rfl rfl (Nat.le_of_ble_eq_true rfl) (pX12_isWitness hg hg3 (fun q => jm_kIi ?_) (fun q => jm_kIi ?_))
  · have h := h.1 q
    refine jm_if_ne (pc := 10) 16 dX12_of_10 rfl ⟨by decide, by decide⟩ (fun q => ?_) (fun q => absurd q (by decide))
    refine jm_iload_n (pc := 16) 2 dX12_of_16 rfl ?_
    have hg4 := h.1
    have h := h.2
    refine jm_if_ne (pc := 17) 27 dX12_of_17 rfl hg4 (fun q => ?_) (fun q => ?_)
    · have h := h.1 q
      refine jm_iload_n (pc := 27) 2 dX12_of_27 rfl ?_
      refine jm_iconst (pc := 28) dX12_of_28 ?_
      refine jm_icmp_ne (pc := 29) 39 dX12_of_29 rfl hg4 ⟨by decide, by decide⟩ (fun q => ?_) (fun q => ?_)
      · have h := h.1 q
        refine jm_iload_n (pc := 39) 2 dX12_of_39 rfl ?_
        refine jm_iconst (pc := 40) dX12_of_40 ?_
        refine jm_icmp_ne (pc := 41) 51 dX12_of_41 rfl hg4 ⟨by decide, by decide⟩ (fun q => ?_) (fun q => ?_)
        · have h := h.1 q
          refine jm_iload_n (pc := 51) 2 dX12_of_51 rfl ?_
          refine jm_iconst (pc := 52) dX12_of_52 ?_
          refine jm_icmp_ne (pc := 53) 62 dX12_of_53 rfl hg4 ⟨by decide, by decide⟩ (fun q => ?_) (fun q => ?_)
          · have h := h.1 q
            refine jm_iload_n (pc := 62) 2 dX12_of_62 rfl ?_
            refine jm_iconst (pc := 63) dX12_of_63 ?_
            refine jm_icmp_ne (pc := 64) 77 dX12_of_64 rfl hg4 ⟨by decide, by decide⟩ (fun q => ?_) (fun q => ?_)
            · have h := h.1 q
              refine jm_iload_n (pc := 77) 2 dX12_of_77 rfl ?_
              refine jm_iconst (pc := 78) dX12_of_78 ?_
              refine jm_icmp_ne (pc := 79) 88 dX12_of_79 rfl hg4 ⟨by decide, by decide⟩ (fun q => ?_) (fun q => ?_)
              · have h := h.1 q
                refine jm_iload_n (pc := 88) 2 dX12_of_88 rfl ?_
                refine jm_bipush (pc := 89) dX12_of_89 (by decide) ?_
                refine jm_icmp_ne (pc := 91) 102 dX12_of_91 rfl hg4 ⟨by decide, by decide⟩ (fun q => ?_) (fun q => ?_)
                · have h := h.1 q
                  refine jm_aload_n (pc := 102) 0 dX12_of_102 rfl ?_
                  refine jm_iload_n (pc := 103) 2 dX12_of_103 rfl ?_
                  refine jm_bipush (pc := 104) dX12_of_104 (by decide) ?_
                  refine jm_bipush (pc := 106) dX12_of_106 (by decide) ?_
                  refine jm_inlvi (pc := 108) (As := [_, _, _]) (st := []) iX12_isIn dX12_of_108 mX12_128 (cR0 hg) ⟨_, rfl, rfl⟩ rfl rfl (Nat.le_of_ble_eq_true rfl) (pX12_isIn hg hg4 ⟨by decide, by decide⟩ ⟨by decide, by decide⟩ (fun q => jm_kIi ?_) (fun q => jm_kIi ?_))
                  · have h := h.1 q
                    refine jm_if_eq (pc := 111) 126 dX12_of_111 rfl ⟨by decide, by decide⟩ (fun q => absurd q (by decide)) (fun q => ?_)
                    refine jm_aload_n (pc := 114) 0 dX12_of_114 rfl ?_
                    refine jm_iload_n (pc := 115) 1 dX12_of_115 rfl ?_
                    refine jm_iload_n (pc := 116) 2 dX12_of_116 rfl ?_
                    refine jm_bipush (pc := 117) dX12_of_117 (by decide) ?_
                    refine jm_isub (pc := 119) dX12_of_119 ?_
                    have hg5 := h.1
                    have h := h.2
                    refine jm_inlvi (pc := 120) (As := [_, _]) (st := []) iX12_claimOf dX12_of_120 mX12_341 (cR0 hg) ⟨_, rfl, rfl⟩ rfl rfl (Nat.le_of_ble_eq_true rfl) (pX12_claimOf hg hg5 (jm_kIi ?_))
                    refine jm_goto (pc := 123) 128 dX12_of_123 rfl ?_
                    exact jm_iret (pc := 128) dX12_of_128 rfl h
                  · have h := h.2 q
                    refine jm_if_eq (pc := 111) 126 dX12_of_111 rfl ⟨by decide, by decide⟩ (fun q => ?_) (fun q => absurd q (by decide))
                    refine jm_bipush (pc := 126) dX12_of_126 (by decide) ?_
                    exact jm_iret (pc := 128) dX12_of_128 rfl h
                · have h := h.2 q
                  refine jm_aload_n (pc := 94) 0 dX12_of_94 rfl ?_
                  refine jm_iload_n (pc := 95) 1 dX12_of_95 rfl ?_
                  refine jm_iconst (pc := 96) dX12_of_96 ?_
                  refine jm_iconst (pc := 97) dX12_of_97 ?_
                  refine jm_callvi (pc := 98) (As := [_, _, _]) (st := []) iX12_shakeOf dX12_of_98 mX12_367 (cR0 hg) ⟨_, rfl, rfl⟩ rfl rfl (Nat.le_of_ble_eq_true rfl) h (fun z7 m6 hz8 h hm9 => ?_)
                  exact jm_iret (pc := 101) dX12_of_101 rfl h
              · have h := h.2 q
                refine jm_aload_n (pc := 82) 0 dX12_of_82 rfl ?_
                refine jm_iload_n (pc := 83) 1 dX12_of_83 rfl ?_
                refine jm_callvi (pc := 84) (As := [_]) (st := []) iX12_sungBy dX12_of_84 mX12_320 (cR0 hg) ⟨_, rfl, rfl⟩ rfl rfl (Nat.le_of_ble_eq_true rfl) h (fun z11 m10 hz12 h hm13 => ?_)
                exact jm_iret (pc := 87) dX12_of_87 rfl h
            · have h := h.2 q
              refine jm_aload_n (pc := 67) 0 dX12_of_67 rfl ?_
              refine jm_getr (pc := 68) 1 dX12_of_68 fX12_7 (cR0 hg) rfl ?_
              refine jm_bipush (pc := 71) dX12_of_71 (by decide) ?_
              refine jm_iload_n (pc := 73) 1 dX12_of_73 rfl ?_
              refine jm_iadd (pc := 74) dX12_of_74 ?_
              have hg14 := h.1
              have h := h.2
              refine jm_iald (pc := 75) dX12_of_75 (cR1 hg) (by decide) hg14.1 hg14.2 ?_
              exact jm_iret (pc := 76) dX12_of_76 rfl h
          · have h := h.2 q
            refine jm_aload_n (pc := 56) 0 dX12_of_56 rfl ?_
            refine jm_iload_n (pc := 57) 1 dX12_of_57 rfl ?_
            have hg15 := h.1
            have h := h.2
            refine jm_inlvi (pc := 58) (As := [_]) (st := []) iX12_nerveOf dX12_of_58 mX12_317 (cR0 hg) ⟨_, rfl, rfl⟩ rfl rfl (Nat.le_of_ble_eq_true rfl) (pX12_nerveOf hg hg15 (jm_kIi ?_))
            exact jm_iret (pc := 61) dX12_of_61 rfl h
        · have h := h.2 q
          refine jm_aload_n (pc := 44) 0 dX12_of_44 rfl ?_
          refine jm_getr (pc := 45) 7 dX12_of_45 fX12_22 (cR0 hg) rfl ?_
          refine jm_iload_n (pc := 48) 1 dX12_of_48 rfl ?_
          have hg16 := h.1
          have h := h.2
          refine jm_iald (pc := 49) dX12_of_49 (cR5 hg) (by decide) hg16.1 hg16.2 ?_
          exact jm_iret (pc := 50) dX12_of_50 rfl h
      · have h := h.2 q
        refine jm_aload_n (pc := 32) 0 dX12_of_32 rfl ?_
        refine jm_getr (pc := 33) 6 dX12_of_33 fX12_19 (cR0 hg) rfl ?_
        refine jm_iload_n (pc := 36) 1 dX12_of_36 rfl ?_
        have hg17 := h.1
        have h := h.2
        refine jm_iald (pc := 37) dX12_of_37 (cR4 hg) (by decide) hg17.1 hg17.2 ?_
        exact jm_iret (pc := 38) dX12_of_38 rfl h
    · have h := h.2 q
      refine jm_aload_n (pc := 20) 0 dX12_of_20 rfl ?_
      refine jm_getr (pc := 21) 5 dX12_of_21 fX12_16 (cR0 hg) rfl ?_
      refine jm_iload_n (pc := 24) 1 dX12_of_24 rfl ?_
      have hg18 := h.1
      have h := h.2
      refine jm_iald (pc := 25) dX12_of_25 (cR3 hg) (by decide) hg18.1 hg18.2 ?_
      exact jm_iret (pc := 26) dX12_of_26 rfl h
  · have h := h.2 q
    refine jm_if_ne (pc := 10) 16 dX12_of_10 rfl ⟨by decide, by decide⟩ (fun q => absurd q (by decide)) (fun q => ?_)
    refine jm_bipush (pc := 13) dX12_of_13 (by decide) ?_
    exact jm_iret (pc := 15) dX12_of_15 rfl h
theorem dX12_testimony_0 : decode cX12_testimony 0 = .ok (.aload_n 0, 1) := by decide +kernel
theorem dX12_testimony_1 : decode cX12_testimony 1 = .ok (.iconst 0, 1) := by decide +kernel
theorem dX12_testimony_2 : decode cX12_testimony 2 = .ok (.putfield 104, 3) := by decide +kernel
theorem dX12_testimony_5 : decode cX12_testimony 5 = .ok (.aload_n 0, 1) := by decide +kernel
theorem dX12_testimony_6 : decode cX12_testimony 6 = .ok (.iload_n 1, 1) := by decide +kernel
theorem dX12_testimony_7 : decode cX12_testimony 7 = .ok (.invokevirtual 385, 3) := by decide +kernel
theorem dX12_testimony_10 : decode cX12_testimony 10 = .ok (.ifCond .eq 14, 3) := by decide +kernel
theorem dX12_testimony_13 : decode cX12_testimony 13 = .ok (.aload_n 0, 1) := by decide +kernel
theorem dX12_testimony_14 : decode cX12_testimony 14 = .ok (.iload_n 2, 1) := by decide +kernel
theorem dX12_testimony_15 : decode cX12_testimony 15 = .ok (.iconst 0, 1) := by decide +kernel
theorem dX12_testimony_16 : decode cX12_testimony 16 = .ok (.bipush 7, 2) := by decide +kernel
theorem dX12_testimony_18 : decode cX12_testimony 18 = .ok (.invokevirtual 128, 3) := by decide +kernel
theorem dX12_testimony_21 : decode cX12_testimony 21 = .ok (.ifCond .ne 5, 3) := by decide +kernel
theorem dX12_testimony_24 : decode cX12_testimony 24 = .ok (.iconst (-1), 1) := by decide +kernel
theorem dX12_testimony_25 : decode cX12_testimony 25 = .ok (.ireturn, 1) := by decide +kernel
theorem dX12_testimony_26 : decode cX12_testimony 26 = .ok (.iload_n 2, 1) := by decide +kernel
theorem dX12_testimony_27 : decode cX12_testimony 27 = .ok (.bipush 6, 2) := by decide +kernel
theorem dX12_testimony_29 : decode cX12_testimony 29 = .ok (.if_icmp .ge 10, 3) := by decide +kernel
theorem dX12_testimony_32 : decode cX12_testimony 32 = .ok (.aload_n 0, 1) := by decide +kernel
theorem dX12_testimony_33 : decode cX12_testimony 33 = .ok (.iload_n 1, 1) := by decide +kernel
theorem dX12_testimony_34 : decode cX12_testimony 34 = .ok (.iload_n 2, 1) := by decide +kernel
theorem dX12_testimony_35 : decode cX12_testimony 35 = .ok (.invokevirtual 314, 3) := by decide +kernel
theorem dX12_testimony_38 : decode cX12_testimony 38 = .ok (.ireturn, 1) := by decide +kernel
theorem dX12_testimony_39 : decode cX12_testimony 39 = .ok (.iload_n 2, 1) := by decide +kernel
theorem dX12_testimony_40 : decode cX12_testimony 40 = .ok (.bipush 6, 2) := by decide +kernel
theorem dX12_testimony_42 : decode cX12_testimony 42 = .ok (.if_icmp .ne 17, 3) := by decide +kernel
theorem dX12_testimony_45 : decode cX12_testimony 45 = .ok (.aload_n 0, 1) := by decide +kernel
theorem dX12_testimony_46 : decode cX12_testimony 46 = .ok (.iload_n 1, 1) := by decide +kernel
theorem dX12_testimony_47 : decode cX12_testimony 47 = .ok (.invokevirtual 388, 3) := by decide +kernel
theorem dX12_testimony_50 : decode cX12_testimony 50 = .ok (.ifCond .eq 7, 3) := by decide +kernel
theorem dX12_testimony_53 : decode cX12_testimony 53 = .ok (.iconst 1, 1) := by decide +kernel
theorem dX12_testimony_54 : decode cX12_testimony 54 = .ok (.goto 4, 3) := by decide +kernel
theorem dX12_testimony_57 : decode cX12_testimony 57 = .ok (.iconst 0, 1) := by decide +kernel
theorem dX12_testimony_58 : decode cX12_testimony 58 = .ok (.ireturn, 1) := by decide +kernel
theorem dX12_testimony_59 : decode cX12_testimony 59 = .ok (.aload_n 0, 1) := by decide +kernel
theorem dX12_testimony_60 : decode cX12_testimony 60 = .ok (.aload_n 0, 1) := by decide +kernel
theorem dX12_testimony_61 : decode cX12_testimony 61 = .ok (.iload_n 1, 1) := by decide +kernel
theorem dX12_testimony_62 : decode cX12_testimony 62 = .ok (.iconst 0, 1) := by decide +kernel
theorem dX12_testimony_63 : decode cX12_testimony 63 = .ok (.invokevirtual 314, 3) := by decide +kernel
theorem dX12_testimony_66 : decode cX12_testimony 66 = .ok (.aload_n 0, 1) := by decide +kernel
theorem dX12_testimony_67 : decode cX12_testimony 67 = .ok (.iload_n 1, 1) := by decide +kernel
theorem dX12_testimony_68 : decode cX12_testimony 68 = .ok (.iconst 1, 1) := by decide +kernel
theorem dX12_testimony_69 : decode cX12_testimony 69 = .ok (.invokevirtual 314, 3) := by decide +kernel
theorem dX12_testimony_72 : decode cX12_testimony 72 = .ok (.aload_n 0, 1) := by decide +kernel
theorem dX12_testimony_73 : decode cX12_testimony 73 = .ok (.iload_n 1, 1) := by decide +kernel
theorem dX12_testimony_74 : decode cX12_testimony 74 = .ok (.iconst 2, 1) := by decide +kernel
theorem dX12_testimony_75 : decode cX12_testimony 75 = .ok (.invokevirtual 314, 3) := by decide +kernel
theorem dX12_testimony_78 : decode cX12_testimony 78 = .ok (.aload_n 0, 1) := by decide +kernel
theorem dX12_testimony_79 : decode cX12_testimony 79 = .ok (.iload_n 1, 1) := by decide +kernel
theorem dX12_testimony_80 : decode cX12_testimony 80 = .ok (.iconst 3, 1) := by decide +kernel
theorem dX12_testimony_81 : decode cX12_testimony 81 = .ok (.invokevirtual 314, 3) := by decide +kernel
theorem dX12_testimony_84 : decode cX12_testimony 84 = .ok (.invokevirtual 406, 3) := by decide +kernel
theorem dX12_testimony_87 : decode cX12_testimony 87 = .ok (.ireturn, 1) := by decide +kernel
theorem eX12_testimony {l : Launch} {g : jm_G} {d : Nat} {v1 v2 : Int} (hg : jm_HR g) {mu : jm_M} {Q : Option Value → jm_M → Prop} (h : ∀ m1, m1 = jm_wr mu 0 0 0 → jm_rg v1 ∧ (0 ≤ v1 ∧ v1 < (m1.1 1 4) → jm_rg v2 ∧ (0 ≤ v2 ∧ v2 ≤ 7 → (6 ≤ v2 → (¬ v2 = 6 → (0 ≤ ((6 * v1) + 0) ∧ ((6 * v1) + 0) < 120) ∧ (0 ≤ ((6 * v1) + 1) ∧ ((6 * v1) + 1) < 120) ∧ (0 ≤ ((6 * v1) + 2) ∧ ((6 * v1) + 2) < 120) ∧ (0 ≤ ((6 * v1) + 3) ∧ ((6 * v1) + 3) < 120) ∧ jm_R l g (d + 1) iX12_weighOf [.ref 0, jm_i (m1.1 24 ((6 * v1) + 0)), jm_i (m1.1 24 ((6 * v1) + 1)), jm_i (m1.1 24 ((6 * v1) + 2)), jm_i (m1.1 24 ((6 * v1) + 3))] m1 (jm_qi fun z10 m9 => Q (some (jm_i z10)) m9)) ∧ (v2 = 6 → ((jm_and (jm_shr (m1.1 1 5) v1) 1) = 1 → Q (some (jm_i 1)) m1) ∧ (¬ ((jm_and (jm_shr (m1.1 1 5) v1) 1) = 1) → Q (some (jm_i 0)) m1))) ∧ (v2 < 6 → (0 ≤ ((6 * v1) + v2) ∧ ((6 * v1) + v2) < 120) ∧ Q (some (jm_i (m1.1 24 ((6 * v1) + v2)))) m1)) ∧ (¬ (0 ≤ v2 ∧ v2 ≤ 7) → Q (some (jm_i (-1))) m1)) ∧ (¬ (0 ≤ v1 ∧ v1 < (m1.1 1 4)) → Q (some (jm_i (-1))) m1)) : jm_R l g (d + 2) iX12_testimony [.ref 0, jm_i v1, jm_i v2] mu Q := by
  refine jm_enter [(0, .ref 0), (1, jm_i v1), (2, jm_i v2)] (by decide) (Nat.le_of_ble_eq_true rfl) rfl ?_
  refine jm_mrI (fun hm0 => ?_)
  refine jm_aload_n (pc := 0) 0 dX12_testimony_0 rfl ?_
  refine jm_iconst (pc := 1) dX12_testimony_1 ?_
  refine jm_put (pc := 2) 0 dX12_testimony_2 fX12_104 ftX12 (fun q h => by cases h; rfl) (jm_nI _) (jm_fI _) (cR0 hg) rfl ⟨by decide, by decide⟩ ?_
  have h := h _ rfl
  refine jm_mrI (fun hm2 => ?_)
  refine jm_aload_n (pc := 5) 0 dX12_testimony_5 rfl ?_
  refine jm_iload_n (pc := 6) 1 dX12_testimony_6 rfl ?_
  have hg3 := h.1
  have h := h.2
  refine jm_inlvi (pc := 7) (As := [_]) (st := []) iX12_isTestimony dX12_testimony_7 mX12_385 (cR0 hg) ⟨_, rfl, rfl⟩ rfl rfl (Nat.le_of_ble_eq_true rfl) (pX12_isTestimony hg hg3 (fun q => jm_kIi ?_) (fun q => jm_kIi ?_))
  · have h := h.1 q
    refine jm_if_eq (pc := 10) 24 dX12_testimony_10 rfl ⟨by decide, by decide⟩ (fun q => absurd q (by decide)) (fun q => ?_)
    refine jm_aload_n (pc := 13) 0 dX12_testimony_13 rfl ?_
    refine jm_iload_n (pc := 14) 2 dX12_testimony_14 rfl ?_
    refine jm_iconst (pc := 15) dX12_testimony_15 ?_
    refine jm_bipush (pc := 16) dX12_testimony_16 (by decide) ?_
    have hg4 := h.1
    have h := h.2
    refine jm_inlvi (pc := 18) (As := [_, _, _]) (st := []) iX12_isIn dX12_testimony_18 mX12_128 (cR0 hg) ⟨_, rfl, rfl⟩ rfl rfl (Nat.le_of_ble_eq_true rfl) (pX12_isIn hg hg4 ⟨by decide, by decide⟩ ⟨by decide, by decide⟩ (fun q => jm_kIi ?_) (fun q => jm_kIi ?_))
    · have h := h.1 q
      refine jm_if_ne (pc := 21) 26 dX12_testimony_21 rfl ⟨by decide, by decide⟩ (fun q => ?_) (fun q => absurd q (by decide))
      refine jm_iload_n (pc := 26) 2 dX12_testimony_26 rfl ?_
      refine jm_bipush (pc := 27) dX12_testimony_27 (by decide) ?_
      refine jm_icmp_ge (pc := 29) 39 dX12_testimony_29 rfl hg4 ⟨by decide, by decide⟩ (fun q => ?_) (fun q => ?_)
      · have h := h.1 q
        refine jm_iload_n (pc := 39) 2 dX12_testimony_39 rfl ?_
        refine jm_bipush (pc := 40) dX12_testimony_40 (by decide) ?_
        refine jm_icmp_ne (pc := 42) 59 dX12_testimony_42 rfl hg4 ⟨by decide, by decide⟩ (fun q => ?_) (fun q => ?_)
        · have h := h.1 q
          refine jm_aload_n (pc := 59) 0 dX12_testimony_59 rfl ?_
          refine jm_aload_n (pc := 60) 0 dX12_testimony_60 rfl ?_
          refine jm_iload_n (pc := 61) 1 dX12_testimony_61 rfl ?_
          refine jm_iconst (pc := 62) dX12_testimony_62 ?_
          have hg5 := h.1
          have h := h.2
          refine jm_inlvi (pc := 63) (As := [_, _]) (st := [_]) iX12_ofTestimony dX12_testimony_63 mX12_314 (cR0 hg) ⟨_, rfl, rfl⟩ rfl rfl (Nat.le_of_ble_eq_true rfl) (pX12_ofTestimony hg hg5 (jm_kIi ?_))
          refine jm_aload_n (pc := 66) 0 dX12_testimony_66 rfl ?_
          refine jm_iload_n (pc := 67) 1 dX12_testimony_67 rfl ?_
          refine jm_iconst (pc := 68) dX12_testimony_68 ?_
          have hg6 := h.1
          have h := h.2
          refine jm_inlvi (pc := 69) (As := [_, _]) (st := [_, _]) iX12_ofTestimony dX12_testimony_69 mX12_314 (cR0 hg) ⟨_, rfl, rfl⟩ rfl rfl (Nat.le_of_ble_eq_true rfl) (pX12_ofTestimony hg hg6 (jm_kIi ?_))
          refine jm_aload_n (pc := 72) 0 dX12_testimony_72 rfl ?_
          refine jm_iload_n (pc := 73) 1 dX12_testimony_73 rfl ?_
          refine jm_iconst (pc := 74) dX12_testimony_74 ?_
          have hg7 := h.1
          have h := h.2
          refine jm_inlvi (pc := 75) (As := [_, _]) (st := [_, _, _]) iX12_ofTestimony dX12_testimony_75 mX12_314 (cR0 hg) ⟨_, rfl, rfl⟩ rfl rfl (Nat.le_of_ble_eq_true rfl) (pX12_ofTestimony hg hg7 (jm_kIi ?_))
          refine jm_aload_n (pc := 78) 0 dX12_testimony_78 rfl ?_
          refine jm_iload_n (pc := 79) 1 dX12_testimony_79 rfl ?_
          refine jm_iconst (pc := 80) dX12_testimony_80 ?_
          have hg8 := h.1
          have h := h.2
          refine jm_inlvi (pc := 81) (As := [_, _]) (st := [_, _, _, _]) iX12_ofTestimony dX12_testimony_81 mX12_314 (cR0 hg) ⟨_, rfl, rfl⟩ rfl rfl (Nat.le_of_ble_eq_true rfl) (pX12_ofTestimony hg hg8 (jm_kIi ?_))
          refine jm_callvi (pc := 84) (As := [_, _, _, _]) (st := []) iX12_weighOf dX12_testimony_84 mX12_406 (cR0 hg) ⟨_, rfl, rfl⟩ rfl rfl (Nat.le_of_ble_eq_true rfl) h (fun z10 m9 hz11 h hm12 => ?_)
          exact jm_iret (pc := 87) dX12_testimony_87 rfl h
        · have h := h.2 q
          refine jm_aload_n (pc := 45) 0 dX12_testimony_45 rfl ?_
          refine jm_iload_n (pc := 46) 1 dX12_testimony_46 rfl ?_
          refine jm_inlvi (pc := 47) (As := [_]) (st := []) iX12_isStruck dX12_testimony_47 mX12_388 (cR0 hg) ⟨_, rfl, rfl⟩ rfl rfl (Nat.le_of_ble_eq_true rfl) (pX12_isStruck hg  (fun q => jm_kIi ?_) (fun q => jm_kIi ?_))
          · have h := h.1 q
            refine jm_if_eq (pc := 50) 57 dX12_testimony_50 rfl ⟨by decide, by decide⟩ (fun q => absurd q (by decide)) (fun q => ?_)
            refine jm_iconst (pc := 53) dX12_testimony_53 ?_
            refine jm_goto (pc := 54) 58 dX12_testimony_54 rfl ?_
            exact jm_iret (pc := 58) dX12_testimony_58 rfl h
          · have h := h.2 q
            refine jm_if_eq (pc := 50) 57 dX12_testimony_50 rfl ⟨by decide, by decide⟩ (fun q => ?_) (fun q => absurd q (by decide))
            refine jm_iconst (pc := 57) dX12_testimony_57 ?_
            exact jm_iret (pc := 58) dX12_testimony_58 rfl h
      · have h := h.2 q
        refine jm_aload_n (pc := 32) 0 dX12_testimony_32 rfl ?_
        refine jm_iload_n (pc := 33) 1 dX12_testimony_33 rfl ?_
        refine jm_iload_n (pc := 34) 2 dX12_testimony_34 rfl ?_
        have hg13 := h.1
        have h := h.2
        refine jm_inlvi (pc := 35) (As := [_, _]) (st := []) iX12_ofTestimony dX12_testimony_35 mX12_314 (cR0 hg) ⟨_, rfl, rfl⟩ rfl rfl (Nat.le_of_ble_eq_true rfl) (pX12_ofTestimony hg hg13 (jm_kIi ?_))
        exact jm_iret (pc := 38) dX12_testimony_38 rfl h
    · have h := h.2 q
      refine jm_if_ne (pc := 21) 26 dX12_testimony_21 rfl ⟨by decide, by decide⟩ (fun q => absurd q (by decide)) (fun q => ?_)
      refine jm_iconst (pc := 24) dX12_testimony_24 ?_
      exact jm_iret (pc := 25) dX12_testimony_25 rfl h
  · have h := h.2 q
    refine jm_if_eq (pc := 10) 24 dX12_testimony_10 rfl ⟨by decide, by decide⟩ (fun q => ?_) (fun q => absurd q (by decide))
    refine jm_iconst (pc := 24) dX12_testimony_24 ?_
    exact jm_iret (pc := 25) dX12_testimony_25 rfl h
theorem dX12_bar_0 : decode cX12_bar 0 = .ok (.aload_n 0, 1) := by decide +kernel
theorem dX12_bar_1 : decode cX12_bar 1 = .ok (.iconst 0, 1) := by decide +kernel
theorem dX12_bar_2 : decode cX12_bar 2 = .ok (.putfield 104, 3) := by decide +kernel
theorem dX12_bar_5 : decode cX12_bar 5 = .ok (.aload_n 0, 1) := by decide +kernel
theorem dX12_bar_6 : decode cX12_bar 6 = .ok (.iload_n 1, 1) := by decide +kernel
theorem dX12_bar_7 : decode cX12_bar 7 = .ok (.iconst 0, 1) := by decide +kernel
theorem dX12_bar_8 : decode cX12_bar 8 = .ok (.aload_n 0, 1) := by decide +kernel
theorem dX12_bar_9 : decode cX12_bar 9 = .ok (.getfield 7, 3) := by decide +kernel
theorem dX12_bar_12 : decode cX12_bar 12 = .ok (.iconst 3, 1) := by decide +kernel
theorem dX12_bar_13 : decode cX12_bar 13 = .ok (.iaload, 1) := by decide +kernel
theorem dX12_bar_14 : decode cX12_bar 14 = .ok (.iconst 1, 1) := by decide +kernel
theorem dX12_bar_15 : decode cX12_bar 15 = .ok (.isub, 1) := by decide +kernel
theorem dX12_bar_16 : decode cX12_bar 16 = .ok (.invokevirtual 128, 3) := by decide +kernel
theorem dX12_bar_19 : decode cX12_bar 19 = .ok (.ifCond .eq 12, 3) := by decide +kernel
theorem dX12_bar_22 : decode cX12_bar 22 = .ok (.aload_n 0, 1) := by decide +kernel
theorem dX12_bar_23 : decode cX12_bar 23 = .ok (.getfield 86, 3) := by decide +kernel
theorem dX12_bar_26 : decode cX12_bar 26 = .ok (.iload_n 1, 1) := by decide +kernel
theorem dX12_bar_27 : decode cX12_bar 27 = .ok (.iaload, 1) := by decide +kernel
theorem dX12_bar_28 : decode cX12_bar 28 = .ok (.goto 4, 3) := by decide +kernel
theorem dX12_bar_31 : decode cX12_bar 31 = .ok (.iconst (-1), 1) := by decide +kernel
theorem dX12_bar_32 : decode cX12_bar 32 = .ok (.ireturn, 1) := by decide +kernel
theorem eX12_bar {l : Launch} {g : jm_G} {d : Nat} {v1 : Int} (hg : jm_HR g) {mu : jm_M} {Q : Option Value → jm_M → Prop} (h : ∀ m1, m1 = jm_wr mu 0 0 0 → jm_rg v1 ∧ jm_rg ((m1.1 1 3) - 1) ∧ (0 ≤ v1 ∧ v1 ≤ ((m1.1 1 3) - 1) → (0 ≤ v1 ∧ v1 < 200) ∧ Q (some (jm_i (m1.1 25 v1))) m1) ∧ (¬ (0 ≤ v1 ∧ v1 ≤ ((m1.1 1 3) - 1)) → Q (some (jm_i (-1))) m1)) : jm_R l g (d + 2) iX12_bar [.ref 0, jm_i v1] mu Q := by
  refine jm_enter [(0, .ref 0), (1, jm_i v1)] (by decide) (Nat.le_of_ble_eq_true rfl) rfl ?_
  refine jm_mrI (fun hm0 => ?_)
  refine jm_aload_n (pc := 0) 0 dX12_bar_0 rfl ?_
  refine jm_iconst (pc := 1) dX12_bar_1 ?_
  refine jm_put (pc := 2) 0 dX12_bar_2 fX12_104 ftX12 (fun q h => by cases h; rfl) (jm_nI _) (jm_fI _) (cR0 hg) rfl ⟨by decide, by decide⟩ ?_
  have h := h _ rfl
  refine jm_mrI (fun hm2 => ?_)
  refine jm_aload_n (pc := 5) 0 dX12_bar_5 rfl ?_
  refine jm_iload_n (pc := 6) 1 dX12_bar_6 rfl ?_
  refine jm_iconst (pc := 7) dX12_bar_7 ?_
  refine jm_aload_n (pc := 8) 0 dX12_bar_8 rfl ?_
  refine jm_getr (pc := 9) 1 dX12_bar_9 fX12_7 (cR0 hg) rfl ?_
  refine jm_iconst (pc := 12) dX12_bar_12 ?_
  refine jm_iald (pc := 13) dX12_bar_13 (cR1 hg) (by decide) (by decide) (by decide) ?_
  refine jm_iconst (pc := 14) dX12_bar_14 ?_
  refine jm_isub (pc := 15) dX12_bar_15 ?_
  have hg3 := h.1
  have h := h.2
  have hg4 := h.1
  have h := h.2
  refine jm_inlvi (pc := 16) (As := [_, _, _]) (st := []) iX12_isIn dX12_bar_16 mX12_128 (cR0 hg) ⟨_, rfl, rfl⟩ rfl rfl (Nat.le_of_ble_eq_true rfl) (pX12_isIn hg hg3 ⟨by decide, by decide⟩ hg4 (fun q => jm_kIi ?_) (fun q => jm_kIi ?_))
  · have h := h.1 q
    refine jm_if_eq (pc := 19) 31 dX12_bar_19 rfl ⟨by decide, by decide⟩ (fun q => absurd q (by decide)) (fun q => ?_)
    refine jm_aload_n (pc := 22) 0 dX12_bar_22 rfl ?_
    refine jm_getr (pc := 23) 46 dX12_bar_23 fX12_86 (cR0 hg) rfl ?_
    refine jm_iload_n (pc := 26) 1 dX12_bar_26 rfl ?_
    have hg5 := h.1
    have h := h.2
    refine jm_iald (pc := 27) dX12_bar_27 (cR25 hg) (by decide) hg5.1 hg5.2 ?_
    refine jm_goto (pc := 28) 32 dX12_bar_28 rfl ?_
    exact jm_iret (pc := 32) dX12_bar_32 rfl h
  · have h := h.2 q
    refine jm_if_eq (pc := 19) 31 dX12_bar_19 rfl ⟨by decide, by decide⟩ (fun q => ?_) (fun q => absurd q (by decide))
    refine jm_iconst (pc := 31) dX12_bar_31 ?_
    exact jm_iret (pc := 32) dX12_bar_32 rfl h
theorem dX12_motive_0 : decode cX12_motive 0 = .ok (.aload_n 0, 1) := by decide +kernel
theorem dX12_motive_1 : decode cX12_motive 1 = .ok (.iconst 0, 1) := by decide +kernel
theorem dX12_motive_2 : decode cX12_motive 2 = .ok (.putfield 104, 3) := by decide +kernel
theorem dX12_motive_5 : decode cX12_motive 5 = .ok (.aload_n 0, 1) := by decide +kernel
theorem dX12_motive_6 : decode cX12_motive 6 = .ok (.iload_n 1, 1) := by decide +kernel
theorem dX12_motive_7 : decode cX12_motive 7 = .ok (.iconst 0, 1) := by decide +kernel
theorem dX12_motive_8 : decode cX12_motive 8 = .ok (.bipush 23, 2) := by decide +kernel
theorem dX12_motive_10 : decode cX12_motive 10 = .ok (.invokevirtual 128, 3) := by decide +kernel
theorem dX12_motive_13 : decode cX12_motive 13 = .ok (.ifCond .ne 6, 3) := by decide +kernel
theorem dX12_motive_16 : decode cX12_motive 16 = .ok (.bipush (-100), 2) := by decide +kernel
theorem dX12_motive_18 : decode cX12_motive 18 = .ok (.ireturn, 1) := by decide +kernel
theorem dX12_motive_19 : decode cX12_motive 19 = .ok (.iload_n 2, 1) := by decide +kernel
theorem dX12_motive_20 : decode cX12_motive 20 = .ok (.ifCond .ne 9, 3) := by decide +kernel
theorem dX12_motive_23 : decode cX12_motive 23 = .ok (.aload_n 0, 1) := by decide +kernel
theorem dX12_motive_24 : decode cX12_motive 24 = .ok (.iload_n 1, 1) := by decide +kernel
theorem dX12_motive_25 : decode cX12_motive 25 = .ok (.invokevirtual 335, 3) := by decide +kernel
theorem dX12_motive_28 : decode cX12_motive 28 = .ok (.ireturn, 1) := by decide +kernel
theorem dX12_motive_29 : decode cX12_motive 29 = .ok (.aload_n 0, 1) := by decide +kernel
theorem dX12_motive_30 : decode cX12_motive 30 = .ok (.iload_n 2, 1) := by decide +kernel
theorem dX12_motive_31 : decode cX12_motive 31 = .ok (.iconst 1, 1) := by decide +kernel
theorem dX12_motive_32 : decode cX12_motive 32 = .ok (.aload_n 0, 1) := by decide +kernel
theorem dX12_motive_33 : decode cX12_motive 33 = .ok (.iload_n 1, 1) := by decide +kernel
theorem dX12_motive_34 : decode cX12_motive 34 = .ok (.invokevirtual 335, 3) := by decide +kernel
theorem dX12_motive_37 : decode cX12_motive 37 = .ok (.iconst 1, 1) := by decide +kernel
theorem dX12_motive_38 : decode cX12_motive 38 = .ok (.isub, 1) := by decide +kernel
theorem dX12_motive_39 : decode cX12_motive 39 = .ok (.invokevirtual 128, 3) := by decide +kernel
theorem dX12_motive_42 : decode cX12_motive 42 = .ok (.ifCond .eq 14, 3) := by decide +kernel
theorem dX12_motive_45 : decode cX12_motive 45 = .ok (.aload_n 0, 1) := by decide +kernel
theorem dX12_motive_46 : decode cX12_motive 46 = .ok (.iload_n 1, 1) := by decide +kernel
theorem dX12_motive_47 : decode cX12_motive 47 = .ok (.iload_n 2, 1) := by decide +kernel
theorem dX12_motive_48 : decode cX12_motive 48 = .ok (.iconst 1, 1) := by decide +kernel
theorem dX12_motive_49 : decode cX12_motive 49 = .ok (.isub, 1) := by decide +kernel
theorem dX12_motive_50 : decode cX12_motive 50 = .ok (.invokevirtual 332, 3) := by decide +kernel
theorem dX12_motive_53 : decode cX12_motive 53 = .ok (.goto 5, 3) := by decide +kernel
theorem dX12_motive_56 : decode cX12_motive 56 = .ok (.bipush (-100), 2) := by decide +kernel
theorem dX12_motive_58 : decode cX12_motive 58 = .ok (.ireturn, 1) := by decide +kernel
theorem eX12_motive {l : Launch} {g : jm_G} {d : Nat} {v1 v2 : Int} (hg : jm_HR g) {mu : jm_M} {Q : Option Value → jm_M → Prop} (h : ∀ m1, m1 = jm_wr mu 0 0 0 → jm_rg v1 ∧ (0 ≤ v1 ∧ v1 ≤ 23 → jm_rg v2 ∧ (¬ v2 = 0 → (0 ≤ (8 * v1) ∧ (8 * v1) < 384) ∧ jm_rg ((m1.1 17 (8 * v1)) - 1) ∧ (1 ≤ v2 ∧ v2 ≤ ((m1.1 17 (8 * v1)) - 1) → (0 ≤ (((8 * v1) + 1) + (v2 - 1)) ∧ (((8 * v1) + 1) + (v2 - 1)) < 384) ∧ Q (some (jm_i (m1.1 17 (((8 * v1) + 1) + (v2 - 1))))) m1) ∧ (¬ (1 ≤ v2 ∧ v2 ≤ ((m1.1 17 (8 * v1)) - 1)) → Q (some (jm_i (-100))) m1)) ∧ (v2 = 0 → (0 ≤ (8 * v1) ∧ (8 * v1) < 384) ∧ Q (some (jm_i (m1.1 17 (8 * v1)))) m1)) ∧ (¬ (0 ≤ v1 ∧ v1 ≤ 23) → Q (some (jm_i (-100))) m1)) : jm_R l g (d + 2) iX12_motive [.ref 0, jm_i v1, jm_i v2] mu Q := by
  refine jm_enter [(0, .ref 0), (1, jm_i v1), (2, jm_i v2)] (by decide) (Nat.le_of_ble_eq_true rfl) rfl ?_
  refine jm_mrI (fun hm0 => ?_)
  refine jm_aload_n (pc := 0) 0 dX12_motive_0 rfl ?_
  refine jm_iconst (pc := 1) dX12_motive_1 ?_
  refine jm_put (pc := 2) 0 dX12_motive_2 fX12_104 ftX12 (fun q h => by cases h; rfl) (jm_nI _) (jm_fI _) (cR0 hg) rfl ⟨by decide, by decide⟩ ?_
  have h := h _ rfl
  refine jm_mrI (fun hm2 => ?_)
  refine jm_aload_n (pc := 5) 0 dX12_motive_5 rfl ?_
  refine jm_iload_n (pc := 6) 1 dX12_motive_6 rfl ?_
  refine jm_iconst (pc := 7) dX12_motive_7 ?_
  refine jm_bipush (pc := 8) dX12_motive_8 (by decide) ?_
  have hg3 := h.1
  have h := h.2
  refine jm_inlvi (pc := 10) (As := [_, _, _]) (st := []) iX12_isIn dX12_motive_10 mX12_128 (cR0 hg) ⟨_, rfl, rfl⟩ rfl rfl (Nat.le_of_ble_eq_true rfl) (pX12_isIn hg hg3 ⟨by decide, by decide⟩ ⟨by decide, by decide⟩ (fun q => jm_kIi ?_) (fun q => jm_kIi ?_))
  · have h := h.1 q
    refine jm_if_ne (pc := 13) 19 dX12_motive_13 rfl ⟨by decide, by decide⟩ (fun q => ?_) (fun q => absurd q (by decide))
    refine jm_iload_n (pc := 19) 2 dX12_motive_19 rfl ?_
    have hg4 := h.1
    have h := h.2
    refine jm_if_ne (pc := 20) 29 dX12_motive_20 rfl hg4 (fun q => ?_) (fun q => ?_)
    · have h := h.1 q
      refine jm_aload_n (pc := 29) 0 dX12_motive_29 rfl ?_
      refine jm_iload_n (pc := 30) 2 dX12_motive_30 rfl ?_
      refine jm_iconst (pc := 31) dX12_motive_31 ?_
      refine jm_aload_n (pc := 32) 0 dX12_motive_32 rfl ?_
      refine jm_iload_n (pc := 33) 1 dX12_motive_33 rfl ?_
      have hg5 := h.1
      have h := h.2
      refine jm_inlvi (pc := 34) (As := [_]) (st := [_, _, _]) iX12_notesOf dX12_motive_34 mX12_335 (cR0 hg) ⟨_, rfl, rfl⟩ rfl rfl (Nat.le_of_ble_eq_true rfl) (pX12_notesOf hg hg5 (jm_kIi ?_))
      refine jm_iconst (pc := 37) dX12_motive_37 ?_
      refine jm_isub (pc := 38) dX12_motive_38 ?_
      have hg6 := h.1
      have h := h.2
      refine jm_inlvi (pc := 39) (As := [_, _, _]) (st := []) iX12_isIn dX12_motive_39 mX12_128 (cR0 hg) ⟨_, rfl, rfl⟩ rfl rfl (Nat.le_of_ble_eq_true rfl) (pX12_isIn hg hg4 ⟨by decide, by decide⟩ hg6 (fun q => jm_kIi ?_) (fun q => jm_kIi ?_))
      · have h := h.1 q
        refine jm_if_eq (pc := 42) 56 dX12_motive_42 rfl ⟨by decide, by decide⟩ (fun q => absurd q (by decide)) (fun q => ?_)
        refine jm_aload_n (pc := 45) 0 dX12_motive_45 rfl ?_
        refine jm_iload_n (pc := 46) 1 dX12_motive_46 rfl ?_
        refine jm_iload_n (pc := 47) 2 dX12_motive_47 rfl ?_
        refine jm_iconst (pc := 48) dX12_motive_48 ?_
        refine jm_isub (pc := 49) dX12_motive_49 ?_
        have hg7 := h.1
        have h := h.2
        refine jm_inlvi (pc := 50) (As := [_, _]) (st := []) iX12_stepOf dX12_motive_50 mX12_332 (cR0 hg) ⟨_, rfl, rfl⟩ rfl rfl (Nat.le_of_ble_eq_true rfl) (pX12_stepOf hg hg7 (jm_kIi ?_))
        refine jm_goto (pc := 53) 58 dX12_motive_53 rfl ?_
        exact jm_iret (pc := 58) dX12_motive_58 rfl h
      · have h := h.2 q
        refine jm_if_eq (pc := 42) 56 dX12_motive_42 rfl ⟨by decide, by decide⟩ (fun q => ?_) (fun q => absurd q (by decide))
        refine jm_bipush (pc := 56) dX12_motive_56 (by decide) ?_
        exact jm_iret (pc := 58) dX12_motive_58 rfl h
    · have h := h.2 q
      refine jm_aload_n (pc := 23) 0 dX12_motive_23 rfl ?_
      refine jm_iload_n (pc := 24) 1 dX12_motive_24 rfl ?_
      have hg8 := h.1
      have h := h.2
      refine jm_inlvi (pc := 25) (As := [_]) (st := []) iX12_notesOf dX12_motive_25 mX12_335 (cR0 hg) ⟨_, rfl, rfl⟩ rfl rfl (Nat.le_of_ble_eq_true rfl) (pX12_notesOf hg hg8 (jm_kIi ?_))
      exact jm_iret (pc := 28) dX12_motive_28 rfl h
  · have h := h.2 q
    refine jm_if_ne (pc := 13) 19 dX12_motive_13 rfl ⟨by decide, by decide⟩ (fun q => absurd q (by decide)) (fun q => ?_)
    refine jm_bipush (pc := 16) dX12_motive_16 (by decide) ?_
    exact jm_iret (pc := 18) dX12_motive_18 rfl h
theorem dX12_book_0 : decode cX12_book 0 = .ok (.aload_n 0, 1) := by decide +kernel
theorem dX12_book_1 : decode cX12_book 1 = .ok (.iconst 0, 1) := by decide +kernel
theorem dX12_book_2 : decode cX12_book 2 = .ok (.putfield 104, 3) := by decide +kernel
theorem dX12_book_5 : decode cX12_book 5 = .ok (.aload_n 0, 1) := by decide +kernel
theorem dX12_book_6 : decode cX12_book 6 = .ok (.iload_n 1, 1) := by decide +kernel
theorem dX12_book_7 : decode cX12_book 7 = .ok (.iconst 0, 1) := by decide +kernel
theorem dX12_book_8 : decode cX12_book 8 = .ok (.aload_n 0, 1) := by decide +kernel
theorem dX12_book_9 : decode cX12_book 9 = .ok (.getfield 7, 3) := by decide +kernel
theorem dX12_book_12 : decode cX12_book 12 = .ok (.iconst 2, 1) := by decide +kernel
theorem dX12_book_13 : decode cX12_book 13 = .ok (.iaload, 1) := by decide +kernel
theorem dX12_book_14 : decode cX12_book 14 = .ok (.iconst 1, 1) := by decide +kernel
theorem dX12_book_15 : decode cX12_book 15 = .ok (.isub, 1) := by decide +kernel
theorem dX12_book_16 : decode cX12_book 16 = .ok (.invokevirtual 128, 3) := by decide +kernel
theorem dX12_book_19 : decode cX12_book 19 = .ok (.ifCond .eq 26, 3) := by decide +kernel
theorem dX12_book_22 : decode cX12_book 22 = .ok (.aload_n 0, 1) := by decide +kernel
theorem dX12_book_23 : decode cX12_book 23 = .ok (.iload_n 2, 1) := by decide +kernel
theorem dX12_book_24 : decode cX12_book 24 = .ok (.iconst 0, 1) := by decide +kernel
theorem dX12_book_25 : decode cX12_book 25 = .ok (.iconst 4, 1) := by decide +kernel
theorem dX12_book_26 : decode cX12_book 26 = .ok (.invokevirtual 128, 3) := by decide +kernel
theorem dX12_book_29 : decode cX12_book 29 = .ok (.ifCond .eq 16, 3) := by decide +kernel
theorem dX12_book_32 : decode cX12_book 32 = .ok (.aload_n 0, 1) := by decide +kernel
theorem dX12_book_33 : decode cX12_book 33 = .ok (.getfield 89, 3) := by decide +kernel
theorem dX12_book_36 : decode cX12_book 36 = .ok (.iconst 5, 1) := by decide +kernel
theorem dX12_book_37 : decode cX12_book 37 = .ok (.iload_n 1, 1) := by decide +kernel
theorem dX12_book_38 : decode cX12_book 38 = .ok (.imul, 1) := by decide +kernel
theorem dX12_book_39 : decode cX12_book 39 = .ok (.iload_n 2, 1) := by decide +kernel
theorem dX12_book_40 : decode cX12_book 40 = .ok (.iadd, 1) := by decide +kernel
theorem dX12_book_41 : decode cX12_book 41 = .ok (.iaload, 1) := by decide +kernel
theorem dX12_book_42 : decode cX12_book 42 = .ok (.goto 5, 3) := by decide +kernel
theorem dX12_book_45 : decode cX12_book 45 = .ok (.bipush (-2), 2) := by decide +kernel
theorem dX12_book_47 : decode cX12_book 47 = .ok (.ireturn, 1) := by decide +kernel
theorem eX12_book {l : Launch} {g : jm_G} {d : Nat} {v1 v2 : Int} (hg : jm_HR g) {mu : jm_M} {Q : Option Value → jm_M → Prop} (h : ∀ m1, m1 = jm_wr mu 0 0 0 → jm_rg v1 ∧ jm_rg ((m1.1 1 2) - 1) ∧ (0 ≤ v1 ∧ v1 ≤ ((m1.1 1 2) - 1) → jm_rg v2 ∧ (0 ≤ v2 ∧ v2 ≤ 4 → (0 ≤ ((5 * v1) + v2) ∧ ((5 * v1) + v2) < 600) ∧ Q (some (jm_i (m1.1 26 ((5 * v1) + v2)))) m1) ∧ (¬ (0 ≤ v2 ∧ v2 ≤ 4) → Q (some (jm_i (-2))) m1)) ∧ (¬ (0 ≤ v1 ∧ v1 ≤ ((m1.1 1 2) - 1)) → Q (some (jm_i (-2))) m1)) : jm_R l g (d + 2) iX12_book [.ref 0, jm_i v1, jm_i v2] mu Q := by
  refine jm_enter [(0, .ref 0), (1, jm_i v1), (2, jm_i v2)] (by decide) (Nat.le_of_ble_eq_true rfl) rfl ?_
  refine jm_mrI (fun hm0 => ?_)
  refine jm_aload_n (pc := 0) 0 dX12_book_0 rfl ?_
  refine jm_iconst (pc := 1) dX12_book_1 ?_
  refine jm_put (pc := 2) 0 dX12_book_2 fX12_104 ftX12 (fun q h => by cases h; rfl) (jm_nI _) (jm_fI _) (cR0 hg) rfl ⟨by decide, by decide⟩ ?_
  have h := h _ rfl
  refine jm_mrI (fun hm2 => ?_)
  refine jm_aload_n (pc := 5) 0 dX12_book_5 rfl ?_
  refine jm_iload_n (pc := 6) 1 dX12_book_6 rfl ?_
  refine jm_iconst (pc := 7) dX12_book_7 ?_
  refine jm_aload_n (pc := 8) 0 dX12_book_8 rfl ?_
  refine jm_getr (pc := 9) 1 dX12_book_9 fX12_7 (cR0 hg) rfl ?_
  refine jm_iconst (pc := 12) dX12_book_12 ?_
  refine jm_iald (pc := 13) dX12_book_13 (cR1 hg) (by decide) (by decide) (by decide) ?_
  refine jm_iconst (pc := 14) dX12_book_14 ?_
  refine jm_isub (pc := 15) dX12_book_15 ?_
  have hg3 := h.1
  have h := h.2
  have hg4 := h.1
  have h := h.2
  refine jm_inlvi (pc := 16) (As := [_, _, _]) (st := []) iX12_isIn dX12_book_16 mX12_128 (cR0 hg) ⟨_, rfl, rfl⟩ rfl rfl (Nat.le_of_ble_eq_true rfl) (pX12_isIn hg hg3 ⟨by decide, by decide⟩ hg4 (fun q => jm_kIi ?_) (fun q => jm_kIi ?_))
  · have h := h.1 q
    refine jm_if_eq (pc := 19) 45 dX12_book_19 rfl ⟨by decide, by decide⟩ (fun q => absurd q (by decide)) (fun q => ?_)
    refine jm_aload_n (pc := 22) 0 dX12_book_22 rfl ?_
    refine jm_iload_n (pc := 23) 2 dX12_book_23 rfl ?_
    refine jm_iconst (pc := 24) dX12_book_24 ?_
    refine jm_iconst (pc := 25) dX12_book_25 ?_
    have hg5 := h.1
    have h := h.2
    refine jm_inlvi (pc := 26) (As := [_, _, _]) (st := []) iX12_isIn dX12_book_26 mX12_128 (cR0 hg) ⟨_, rfl, rfl⟩ rfl rfl (Nat.le_of_ble_eq_true rfl) (pX12_isIn hg hg5 ⟨by decide, by decide⟩ ⟨by decide, by decide⟩ (fun q => jm_kIi ?_) (fun q => jm_kIi ?_))
    · have h := h.1 q
      refine jm_if_eq (pc := 29) 45 dX12_book_29 rfl ⟨by decide, by decide⟩ (fun q => absurd q (by decide)) (fun q => ?_)
      refine jm_aload_n (pc := 32) 0 dX12_book_32 rfl ?_
      refine jm_getr (pc := 33) 47 dX12_book_33 fX12_89 (cR0 hg) rfl ?_
      refine jm_iconst (pc := 36) dX12_book_36 ?_
      refine jm_iload_n (pc := 37) 1 dX12_book_37 rfl ?_
      refine jm_imul (pc := 38) dX12_book_38 ?_
      refine jm_iload_n (pc := 39) 2 dX12_book_39 rfl ?_
      refine jm_iadd (pc := 40) dX12_book_40 ?_
      have hg6 := h.1
      have h := h.2
      refine jm_iald (pc := 41) dX12_book_41 (cR26 hg) (by decide) hg6.1 hg6.2 ?_
      refine jm_goto (pc := 42) 47 dX12_book_42 rfl ?_
      exact jm_iret (pc := 47) dX12_book_47 rfl h
    · have h := h.2 q
      refine jm_if_eq (pc := 29) 45 dX12_book_29 rfl ⟨by decide, by decide⟩ (fun q => ?_) (fun q => absurd q (by decide))
      refine jm_bipush (pc := 45) dX12_book_45 (by decide) ?_
      exact jm_iret (pc := 47) dX12_book_47 rfl h
  · have h := h.2 q
    refine jm_if_eq (pc := 19) 45 dX12_book_19 rfl ⟨by decide, by decide⟩ (fun q => ?_) (fun q => absurd q (by decide))
    refine jm_bipush (pc := 45) dX12_book_45 (by decide) ?_
    exact jm_iret (pc := 47) dX12_book_47 rfl h
theorem dX12_findsKeys_0 : decode cX12_findsKeys 0 = .ok (.aload_n 0, 1) := by decide +kernel
theorem dX12_findsKeys_1 : decode cX12_findsKeys 1 = .ok (.iconst 0, 1) := by decide +kernel
theorem dX12_findsKeys_2 : decode cX12_findsKeys 2 = .ok (.putfield 410, 3) := by decide +kernel
theorem dX12_findsKeys_5 : decode cX12_findsKeys 5 = .ok (.aload_n 0, 1) := by decide +kernel
theorem dX12_findsKeys_6 : decode cX12_findsKeys 6 = .ok (.iconst (-1), 1) := by decide +kernel
theorem dX12_findsKeys_7 : decode cX12_findsKeys 7 = .ok (.putfield 413, 3) := by decide +kernel
theorem dX12_findsKeys_10 : decode cX12_findsKeys 10 = .ok (.aload_n 0, 1) := by decide +kernel
theorem dX12_findsKeys_11 : decode cX12_findsKeys 11 = .ok (.iconst (-1), 1) := by decide +kernel
theorem dX12_findsKeys_12 : decode cX12_findsKeys 12 = .ok (.putfield 416, 3) := by decide +kernel
theorem dX12_findsKeys_15 : decode cX12_findsKeys 15 = .ok (.iconst 0, 1) := by decide +kernel
theorem dX12_findsKeys_16 : decode cX12_findsKeys 16 = .ok (.istore_n 3, 1) := by decide +kernel
theorem dX12_findsKeys_17 : decode cX12_findsKeys 17 = .ok (.iload_n 3, 1) := by decide +kernel
theorem dX12_findsKeys_18 : decode cX12_findsKeys 18 = .ok (.bipush 60, 2) := by decide +kernel
theorem dX12_findsKeys_20 : decode cX12_findsKeys 20 = .ok (.if_icmp .ge 49, 3) := by decide +kernel
theorem dX12_findsKeys_23 : decode cX12_findsKeys 23 = .ok (.aload_n 0, 1) := by decide +kernel
theorem dX12_findsKeys_24 : decode cX12_findsKeys 24 = .ok (.iload_n 1, 1) := by decide +kernel
theorem dX12_findsKeys_25 : decode cX12_findsKeys 25 = .ok (.iload_n 2, 1) := by decide +kernel
theorem dX12_findsKeys_26 : decode cX12_findsKeys 26 = .ok (.iload_n 3, 1) := by decide +kernel
theorem dX12_findsKeys_27 : decode cX12_findsKeys 27 = .ok (.invokevirtual 351, 3) := by decide +kernel
theorem dX12_findsKeys_30 : decode cX12_findsKeys 30 = .ok (.ifCond .ne 6, 3) := by decide +kernel
theorem dX12_findsKeys_33 : decode cX12_findsKeys 33 = .ok (.goto 30, 3) := by decide +kernel
theorem dX12_findsKeys_36 : decode cX12_findsKeys 36 = .ok (.aload_n 0, 1) := by decide +kernel
theorem dX12_findsKeys_37 : decode cX12_findsKeys 37 = .ok (.getfield 410, 3) := by decide +kernel
theorem dX12_findsKeys_40 : decode cX12_findsKeys 40 = .ok (.ifCond .ne 8, 3) := by decide +kernel
theorem dX12_findsKeys_43 : decode cX12_findsKeys 43 = .ok (.aload_n 0, 1) := by decide +kernel
theorem dX12_findsKeys_44 : decode cX12_findsKeys 44 = .ok (.iload_n 3, 1) := by decide +kernel
theorem dX12_findsKeys_45 : decode cX12_findsKeys 45 = .ok (.putfield 413, 3) := by decide +kernel
theorem dX12_findsKeys_48 : decode cX12_findsKeys 48 = .ok (.aload_n 0, 1) := by decide +kernel
theorem dX12_findsKeys_49 : decode cX12_findsKeys 49 = .ok (.iload_n 3, 1) := by decide +kernel
theorem dX12_findsKeys_50 : decode cX12_findsKeys 50 = .ok (.putfield 416, 3) := by decide +kernel
theorem dX12_findsKeys_53 : decode cX12_findsKeys 53 = .ok (.aload_n 0, 1) := by decide +kernel
theorem dX12_findsKeys_54 : decode cX12_findsKeys 54 = .ok (.aload_n 0, 1) := by decide +kernel
theorem dX12_findsKeys_55 : decode cX12_findsKeys 55 = .ok (.getfield 410, 3) := by decide +kernel
theorem dX12_findsKeys_58 : decode cX12_findsKeys 58 = .ok (.iconst 1, 1) := by decide +kernel
theorem dX12_findsKeys_59 : decode cX12_findsKeys 59 = .ok (.iadd, 1) := by decide +kernel
theorem dX12_findsKeys_60 : decode cX12_findsKeys 60 = .ok (.putfield 410, 3) := by decide +kernel
theorem dX12_findsKeys_63 : decode cX12_findsKeys 63 = .ok (.iinc 3 1, 3) := by decide +kernel
theorem dX12_findsKeys_66 : decode cX12_findsKeys 66 = .ok (.goto (-49), 3) := by decide +kernel
theorem dX12_findsKeys_69 : decode cX12_findsKeys 69 = .ok (.return_, 1) := by decide +kernel
theorem bX12_findsKeys_48 {l : Launch} {g : jm_G} {d : Nat} {v1 v2 v3 : Int} (hg : jm_HR g) {mu : jm_M} {Q : Option Value → jm_M → Prop} (h : jm_rg v3 ∧ ∀ m2, m2 = jm_wr mu 0 50 v3 → jm_rg ((m2.1 0 48) + 1) ∧ ∀ m5, m5 = jm_wr m2 0 48 ((m2.1 0 48) + 1) → jm_V l g (d + 1) iX12_findsKeys 17 [(0, .ref 0), (1, jm_i v1), (2, jm_i v2), (3, jm_i (v3 + 1))] [] m5 Q) : jm_V l g (d + 1) iX12_findsKeys 48 [(0, .ref 0), (1, jm_i v1), (2, jm_i v2), (3, jm_i v3)] [] mu Q := by
  refine jm_mrI (fun hm0 => ?_)
  refine jm_aload_n (pc := 48) 0 dX12_findsKeys_48 rfl ?_
  refine jm_iload_n (pc := 49) 3 dX12_findsKeys_49 rfl ?_
  have hg1 := h.1
  have h := h.2
  refine jm_put (pc := 50) 50 dX12_findsKeys_50 fX12_416 ftX12 (fun q h => by cases h; rfl) (jm_nI _) (jm_fI _) (cR0 hg) rfl hg1 ?_
  have h := h _ rfl
  refine jm_mrI (fun hm3 => ?_)
  refine jm_aload_n (pc := 53) 0 dX12_findsKeys_53 rfl ?_
  refine jm_aload_n (pc := 54) 0 dX12_findsKeys_54 rfl ?_
  refine jm_geti (pc := 55) 48 dX12_findsKeys_55 fX12_410 (cR0 hg) rfl ?_
  refine jm_iconst (pc := 58) dX12_findsKeys_58 ?_
  refine jm_iadd (pc := 59) dX12_findsKeys_59 ?_
  have hg4 := h.1
  have h := h.2
  refine jm_put (pc := 60) 48 dX12_findsKeys_60 fX12_410 ftX12 (fun q h => by cases h; rfl) (jm_nI _) (jm_fI _) (cR0 hg) rfl hg4 ?_
  have h := h _ rfl
  refine jm_mrI (fun hm6 => ?_)
  refine jm_iinc (pc := 63) (lv' := [(3, _), (0, _), (1, _), (2, _)]) 3 dX12_findsKeys_63 rfl (by decide) rfl ?_
  refine jm_goto (pc := 66) 17 dX12_findsKeys_66 rfl ?_
  exact jm_sub [1, 2, 3, 0] rfl h
theorem bX12_findsKeys_17 {l : Launch} {g : jm_G} {d : Nat} {v1 v2 v3 : Int} (hg : jm_HR g) {mu : jm_M} {Q : Option Value → jm_M → Prop} (h : jm_rg v3 ∧ (60 ≤ v3 → Q none mu) ∧ (v3 < 60 → jm_R l g d iX12_isSung [.ref 0, jm_i v1, jm_i v2, jm_i v3] mu (jm_qi fun z3 m2 => (¬ z3 = 0 → (¬ (m2.1 0 48) = 0 → jm_V l g (d + 1) iX12_findsKeys 48 [(0, .ref 0), (1, jm_i v1), (2, jm_i v2), (3, jm_i v3)] [] m2 Q) ∧ ((m2.1 0 48) = 0 → ∀ m6, m6 = jm_wr m2 0 49 v3 → jm_V l g (d + 1) iX12_findsKeys 48 [(0, .ref 0), (1, jm_i v1), (2, jm_i v2), (3, jm_i v3)] [] m6 Q)) ∧ (z3 = 0 → jm_V l g (d + 1) iX12_findsKeys 17 [(0, .ref 0), (1, jm_i v1), (2, jm_i v2), (3, jm_i (v3 + 1))] [] m2 Q)))) : jm_V l g (d + 1) iX12_findsKeys 17 [(0, .ref 0), (1, jm_i v1), (2, jm_i v2), (3, jm_i v3)] [] mu Q := by
  refine jm_mrI (fun hm0 => ?_)
  refine jm_iload_n (pc := 17) 3 dX12_findsKeys_17 rfl ?_
  refine jm_bipush (pc := 18) dX12_findsKeys_18 (by decide) ?_
  have hg1 := h.1
  have h := h.2
  refine jm_icmp_ge (pc := 20) 69 dX12_findsKeys_20 rfl hg1 ⟨by decide, by decide⟩ (fun q => ?_) (fun q => ?_)
  · have h := h.1 q
    exact jm_vret (pc := 69) dX12_findsKeys_69 rfl h
  · have h := h.2 q
    refine jm_aload_n (pc := 23) 0 dX12_findsKeys_23 rfl ?_
    refine jm_iload_n (pc := 24) 1 dX12_findsKeys_24 rfl ?_
    refine jm_iload_n (pc := 25) 2 dX12_findsKeys_25 rfl ?_
    refine jm_iload_n (pc := 26) 3 dX12_findsKeys_26 rfl ?_
    refine jm_callvi (pc := 27) (As := [_, _, _]) (st := []) iX12_isSung dX12_findsKeys_27 mX12_351 (cR0 hg) ⟨_, rfl, rfl⟩ rfl rfl (Nat.le_of_ble_eq_true rfl) h (fun z3 m2 hz4 h hm5 => ?_)
    refine jm_if_ne (pc := 30) 36 dX12_findsKeys_30 rfl hz4 (fun q => ?_) (fun q => ?_)
    · have h := h.1 q
      refine jm_aload_n (pc := 36) 0 dX12_findsKeys_36 rfl ?_
      refine jm_geti (pc := 37) 48 dX12_findsKeys_37 fX12_410 (cR0 hg) rfl ?_
      refine jm_if_ne (pc := 40) 48 dX12_findsKeys_40 rfl (hm5 _ _) (fun q => ?_) (fun q => ?_)
      · have h := h.1 q
        exact jm_sub [0, 1, 2, 3] rfl h
      · have h := h.2 q
        refine jm_aload_n (pc := 43) 0 dX12_findsKeys_43 rfl ?_
        refine jm_iload_n (pc := 44) 3 dX12_findsKeys_44 rfl ?_
        refine jm_put (pc := 45) 49 dX12_findsKeys_45 fX12_413 ftX12 (fun q h => by cases h; rfl) (jm_nI _) (jm_fI _) (cR0 hg) rfl hg1 ?_
        have h := h _ rfl
        refine jm_mrI (fun hm7 => ?_)
        exact jm_sub [0, 1, 2, 3] rfl h
    · have h := h.2 q
      refine jm_goto (pc := 33) 63 dX12_findsKeys_33 rfl ?_
      refine jm_iinc (pc := 63) (lv' := [(3, _), (0, _), (1, _), (2, _)]) 3 dX12_findsKeys_63 rfl (by decide) rfl ?_
      refine jm_goto (pc := 66) 17 dX12_findsKeys_66 rfl ?_
      exact jm_sub [1, 2, 3, 0] rfl h
theorem eX12_findsKeys {l : Launch} {g : jm_G} {d : Nat} {v1 v2 : Int} (hg : jm_HR g) {mu : jm_M} {Q : Option Value → jm_M → Prop} (h : ∀ m1, m1 = jm_wr mu 0 48 0 → ∀ m3, m3 = jm_wr m1 0 49 (-1) → ∀ m5, m5 = jm_wr m3 0 50 (-1) → jm_V l g (d + 1) iX12_findsKeys 17 [(0, .ref 0), (1, jm_i v1), (2, jm_i v2), (3, jm_i 0)] [] m5 Q) : jm_R l g (d + 1) iX12_findsKeys [.ref 0, jm_i v1, jm_i v2] mu Q := by
  refine jm_enter [(0, .ref 0), (1, jm_i v1), (2, jm_i v2)] (by decide) (Nat.le_of_ble_eq_true rfl) rfl ?_
  refine jm_mrI (fun hm0 => ?_)
  refine jm_aload_n (pc := 0) 0 dX12_findsKeys_0 rfl ?_
  refine jm_iconst (pc := 1) dX12_findsKeys_1 ?_
  refine jm_put (pc := 2) 48 dX12_findsKeys_2 fX12_410 ftX12 (fun q h => by cases h; rfl) (jm_nI _) (jm_fI _) (cR0 hg) rfl ⟨by decide, by decide⟩ ?_
  have h := h _ rfl
  refine jm_mrI (fun hm2 => ?_)
  refine jm_aload_n (pc := 5) 0 dX12_findsKeys_5 rfl ?_
  refine jm_iconst (pc := 6) dX12_findsKeys_6 ?_
  refine jm_put (pc := 7) 49 dX12_findsKeys_7 fX12_413 ftX12 (fun q h => by cases h; rfl) (jm_nI _) (jm_fI _) (cR0 hg) rfl ⟨by decide, by decide⟩ ?_
  have h := h _ rfl
  refine jm_mrI (fun hm4 => ?_)
  refine jm_aload_n (pc := 10) 0 dX12_findsKeys_10 rfl ?_
  refine jm_iconst (pc := 11) dX12_findsKeys_11 ?_
  refine jm_put (pc := 12) 50 dX12_findsKeys_12 fX12_416 ftX12 (fun q h => by cases h; rfl) (jm_nI _) (jm_fI _) (cR0 hg) rfl ⟨by decide, by decide⟩ ?_
  have h := h _ rfl
  refine jm_mrI (fun hm6 => ?_)
  refine jm_iconst (pc := 15) dX12_findsKeys_15 ?_
  refine jm_istore_n (pc := 16) (lv' := [(3, _), (0, _), (1, _), (2, _)]) dX12_findsKeys_16 (by decide) rfl ?_
  exact jm_sub [1, 2, 3, 0] rfl h
theorem dX12_keys_0 : decode cX12_keys 0 = .ok (.aload_n 0, 1) := by decide +kernel
theorem dX12_keys_1 : decode cX12_keys 1 = .ok (.iconst 0, 1) := by decide +kernel
theorem dX12_keys_2 : decode cX12_keys 2 = .ok (.putfield 104, 3) := by decide +kernel
theorem dX12_keys_5 : decode cX12_keys 5 = .ok (.aload_n 0, 1) := by decide +kernel
theorem dX12_keys_6 : decode cX12_keys 6 = .ok (.iload_n 1, 1) := by decide +kernel
theorem dX12_keys_7 : decode cX12_keys 7 = .ok (.invokevirtual 132, 3) := by decide +kernel
theorem dX12_keys_10 : decode cX12_keys 10 = .ok (.ifCond .eq 31, 3) := by decide +kernel
theorem dX12_keys_13 : decode cX12_keys 13 = .ok (.aload_n 0, 1) := by decide +kernel
theorem dX12_keys_14 : decode cX12_keys 14 = .ok (.iload_n 2, 1) := by decide +kernel
theorem dX12_keys_15 : decode cX12_keys 15 = .ok (.invokevirtual 136, 3) := by decide +kernel
theorem dX12_keys_18 : decode cX12_keys 18 = .ok (.ifCond .eq 23, 3) := by decide +kernel
theorem dX12_keys_21 : decode cX12_keys 21 = .ok (.aload_n 0, 1) := by decide +kernel
theorem dX12_keys_22 : decode cX12_keys 22 = .ok (.iload_n 3, 1) := by decide +kernel
theorem dX12_keys_23 : decode cX12_keys 23 = .ok (.iconst 0, 1) := by decide +kernel
theorem dX12_keys_24 : decode cX12_keys 24 = .ok (.iconst 2, 1) := by decide +kernel
theorem dX12_keys_25 : decode cX12_keys 25 = .ok (.invokevirtual 128, 3) := by decide +kernel
theorem dX12_keys_28 : decode cX12_keys 28 = .ok (.ifCond .eq 13, 3) := by decide +kernel
theorem dX12_keys_31 : decode cX12_keys 31 = .ok (.aload_n 0, 1) := by decide +kernel
theorem dX12_keys_32 : decode cX12_keys 32 = .ok (.iload_n 1, 1) := by decide +kernel
theorem dX12_keys_33 : decode cX12_keys 33 = .ok (.iload_n 2, 1) := by decide +kernel
theorem dX12_keys_34 : decode cX12_keys 34 = .ok (.invokevirtual 344, 3) := by decide +kernel
theorem dX12_keys_37 : decode cX12_keys 37 = .ok (.iconst (-1), 1) := by decide +kernel
theorem dX12_keys_38 : decode cX12_keys 38 = .ok (.if_icmp .ne 5, 3) := by decide +kernel
theorem dX12_keys_41 : decode cX12_keys 41 = .ok (.iconst (-1), 1) := by decide +kernel
theorem dX12_keys_42 : decode cX12_keys 42 = .ok (.ireturn, 1) := by decide +kernel
theorem dX12_keys_43 : decode cX12_keys 43 = .ok (.aload_n 0, 1) := by decide +kernel
theorem dX12_keys_44 : decode cX12_keys 44 = .ok (.iload_n 1, 1) := by decide +kernel
theorem dX12_keys_45 : decode cX12_keys 45 = .ok (.iload_n 2, 1) := by decide +kernel
theorem dX12_keys_46 : decode cX12_keys 46 = .ok (.invokevirtual 419, 3) := by decide +kernel
theorem dX12_keys_49 : decode cX12_keys 49 = .ok (.iload_n 3, 1) := by decide +kernel
theorem dX12_keys_50 : decode cX12_keys 50 = .ok (.ifCond .ne 10, 3) := by decide +kernel
theorem dX12_keys_53 : decode cX12_keys 53 = .ok (.aload_n 0, 1) := by decide +kernel
theorem dX12_keys_54 : decode cX12_keys 54 = .ok (.getfield 410, 3) := by decide +kernel
theorem dX12_keys_57 : decode cX12_keys 57 = .ok (.goto 19, 3) := by decide +kernel
theorem dX12_keys_60 : decode cX12_keys 60 = .ok (.iload_n 3, 1) := by decide +kernel
theorem dX12_keys_61 : decode cX12_keys 61 = .ok (.iconst 1, 1) := by decide +kernel
theorem dX12_keys_62 : decode cX12_keys 62 = .ok (.if_icmp .ne 10, 3) := by decide +kernel
theorem dX12_keys_65 : decode cX12_keys 65 = .ok (.aload_n 0, 1) := by decide +kernel
theorem dX12_keys_66 : decode cX12_keys 66 = .ok (.getfield 413, 3) := by decide +kernel
theorem dX12_keys_69 : decode cX12_keys 69 = .ok (.goto 7, 3) := by decide +kernel
theorem dX12_keys_72 : decode cX12_keys 72 = .ok (.aload_n 0, 1) := by decide +kernel
theorem dX12_keys_73 : decode cX12_keys 73 = .ok (.getfield 416, 3) := by decide +kernel
theorem dX12_keys_76 : decode cX12_keys 76 = .ok (.ireturn, 1) := by decide +kernel
theorem eX12_keys {l : Launch} {g : jm_G} {d : Nat} {v1 v2 v3 : Int} (hg : jm_HR g) {mu : jm_M} {Q : Option Value → jm_M → Prop} (h : ∀ m1, m1 = jm_wr mu 0 0 0 → jm_rg v1 ∧ (0 ≤ v1 ∧ v1 < (m1.1 0 4) → jm_rg v2 ∧ (0 ≤ v2 ∧ v2 < 6 → jm_rg v3 ∧ (0 ≤ v3 ∧ v3 ≤ 2 → jm_R l g (d + 1) iX12_motiveOf [.ref 0, jm_i v1, jm_i v2] m1 (jm_qi fun z7 m6 => (¬ z7 = (-1) → jm_R l g (d + 1) iX12_findsKeys [.ref 0, jm_i v1, jm_i v2] m6 (jm_qv fun m10 => (¬ v3 = 0 → (¬ v3 = 1 → Q (some (jm_i (m10.1 0 50))) m10) ∧ (v3 = 1 → Q (some (jm_i (m10.1 0 49))) m10)) ∧ (v3 = 0 → Q (some (jm_i (m10.1 0 48))) m10))) ∧ (z7 = (-1) → Q (some (jm_i (-1))) m6))) ∧ (¬ (0 ≤ v3 ∧ v3 ≤ 2) → Q (some (jm_i (-1))) m1)) ∧ (¬ (0 ≤ v2 ∧ v2 < 6) → Q (some (jm_i (-1))) m1)) ∧ (¬ (0 ≤ v1 ∧ v1 < (m1.1 0 4)) → Q (some (jm_i (-1))) m1)) : jm_R l g (d + 2) iX12_keys [.ref 0, jm_i v1, jm_i v2, jm_i v3] mu Q := by
  refine jm_enter [(0, .ref 0), (1, jm_i v1), (2, jm_i v2), (3, jm_i v3)] (by decide) (Nat.le_of_ble_eq_true rfl) rfl ?_
  refine jm_mrI (fun hm0 => ?_)
  refine jm_aload_n (pc := 0) 0 dX12_keys_0 rfl ?_
  refine jm_iconst (pc := 1) dX12_keys_1 ?_
  refine jm_put (pc := 2) 0 dX12_keys_2 fX12_104 ftX12 (fun q h => by cases h; rfl) (jm_nI _) (jm_fI _) (cR0 hg) rfl ⟨by decide, by decide⟩ ?_
  have h := h _ rfl
  refine jm_mrI (fun hm2 => ?_)
  refine jm_aload_n (pc := 5) 0 dX12_keys_5 rfl ?_
  refine jm_iload_n (pc := 6) 1 dX12_keys_6 rfl ?_
  have hg3 := h.1
  have h := h.2
  refine jm_inlvi (pc := 7) (As := [_]) (st := []) iX12_isWitness dX12_keys_7 mX12_132 (cR0 hg) ⟨_, rfl, rfl⟩ rfl rfl (Nat.le_of_ble_eq_true rfl) (pX12_isWitness hg hg3 (fun q => jm_kIi ?_) (fun q => jm_kIi ?_))
  · have h := h.1 q
    refine jm_if_eq (pc := 10) 41 dX12_keys_10 rfl ⟨by decide, by decide⟩ (fun q => absurd q (by decide)) (fun q => ?_)
    refine jm_aload_n (pc := 13) 0 dX12_keys_13 rfl ?_
    refine jm_iload_n (pc := 14) 2 dX12_keys_14 rfl ?_
    have hg4 := h.1
    have h := h.2
    refine jm_inlvi (pc := 15) (As := [_]) (st := []) iX12_isFact dX12_keys_15 mX12_136 (cR0 hg) ⟨_, rfl, rfl⟩ rfl rfl (Nat.le_of_ble_eq_true rfl) (pX12_isFact hg hg4 (fun q => jm_kIi ?_) (fun q => jm_kIi ?_))
    · have h := h.1 q
      refine jm_if_eq (pc := 18) 41 dX12_keys_18 rfl ⟨by decide, by decide⟩ (fun q => absurd q (by decide)) (fun q => ?_)
      refine jm_aload_n (pc := 21) 0 dX12_keys_21 rfl ?_
      refine jm_iload_n (pc := 22) 3 dX12_keys_22 rfl ?_
      refine jm_iconst (pc := 23) dX12_keys_23 ?_
      refine jm_iconst (pc := 24) dX12_keys_24 ?_
      have hg5 := h.1
      have h := h.2
      refine jm_inlvi (pc := 25) (As := [_, _, _]) (st := []) iX12_isIn dX12_keys_25 mX12_128 (cR0 hg) ⟨_, rfl, rfl⟩ rfl rfl (Nat.le_of_ble_eq_true rfl) (pX12_isIn hg hg5 ⟨by decide, by decide⟩ ⟨by decide, by decide⟩ (fun q => jm_kIi ?_) (fun q => jm_kIi ?_))
      · have h := h.1 q
        refine jm_if_eq (pc := 28) 41 dX12_keys_28 rfl ⟨by decide, by decide⟩ (fun q => absurd q (by decide)) (fun q => ?_)
        refine jm_aload_n (pc := 31) 0 dX12_keys_31 rfl ?_
        refine jm_iload_n (pc := 32) 1 dX12_keys_32 rfl ?_
        refine jm_iload_n (pc := 33) 2 dX12_keys_33 rfl ?_
        refine jm_callvi (pc := 34) (As := [_, _]) (st := []) iX12_motiveOf dX12_keys_34 mX12_344 (cR0 hg) ⟨_, rfl, rfl⟩ rfl rfl (Nat.le_of_ble_eq_true rfl) h (fun z7 m6 hz8 h hm9 => ?_)
        refine jm_iconst (pc := 37) dX12_keys_37 ?_
        refine jm_icmp_ne (pc := 38) 43 dX12_keys_38 rfl hz8 ⟨by decide, by decide⟩ (fun q => ?_) (fun q => ?_)
        · have h := h.1 q
          refine jm_aload_n (pc := 43) 0 dX12_keys_43 rfl ?_
          refine jm_iload_n (pc := 44) 1 dX12_keys_44 rfl ?_
          refine jm_iload_n (pc := 45) 2 dX12_keys_45 rfl ?_
          refine jm_callvv (pc := 46) (As := [_, _]) (st := []) iX12_findsKeys dX12_keys_46 mX12_419 (cR0 hg) ⟨_, rfl, rfl⟩ rfl rfl (Nat.le_of_ble_eq_true rfl) h (fun m10 h hm13 => ?_)
          refine jm_iload_n (pc := 49) 3 dX12_keys_49 rfl ?_
          refine jm_if_ne (pc := 50) 60 dX12_keys_50 rfl hg5 (fun q => ?_) (fun q => ?_)
          · have h := h.1 q
            refine jm_iload_n (pc := 60) 3 dX12_keys_60 rfl ?_
            refine jm_iconst (pc := 61) dX12_keys_61 ?_
            refine jm_icmp_ne (pc := 62) 72 dX12_keys_62 rfl hg5 ⟨by decide, by decide⟩ (fun q => ?_) (fun q => ?_)
            · have h := h.1 q
              refine jm_aload_n (pc := 72) 0 dX12_keys_72 rfl ?_
              refine jm_geti (pc := 73) 50 dX12_keys_73 fX12_416 (cR0 hg) rfl ?_
              exact jm_iret (pc := 76) dX12_keys_76 rfl h
            · have h := h.2 q
              refine jm_aload_n (pc := 65) 0 dX12_keys_65 rfl ?_
              refine jm_geti (pc := 66) 49 dX12_keys_66 fX12_413 (cR0 hg) rfl ?_
              refine jm_goto (pc := 69) 76 dX12_keys_69 rfl ?_
              exact jm_iret (pc := 76) dX12_keys_76 rfl h
          · have h := h.2 q
            refine jm_aload_n (pc := 53) 0 dX12_keys_53 rfl ?_
            refine jm_geti (pc := 54) 48 dX12_keys_54 fX12_410 (cR0 hg) rfl ?_
            refine jm_goto (pc := 57) 76 dX12_keys_57 rfl ?_
            exact jm_iret (pc := 76) dX12_keys_76 rfl h
        · have h := h.2 q
          refine jm_iconst (pc := 41) dX12_keys_41 ?_
          exact jm_iret (pc := 42) dX12_keys_42 rfl h
      · have h := h.2 q
        refine jm_if_eq (pc := 28) 41 dX12_keys_28 rfl ⟨by decide, by decide⟩ (fun q => ?_) (fun q => absurd q (by decide))
        refine jm_iconst (pc := 41) dX12_keys_41 ?_
        exact jm_iret (pc := 42) dX12_keys_42 rfl h
    · have h := h.2 q
      refine jm_if_eq (pc := 18) 41 dX12_keys_18 rfl ⟨by decide, by decide⟩ (fun q => ?_) (fun q => absurd q (by decide))
      refine jm_iconst (pc := 41) dX12_keys_41 ?_
      exact jm_iret (pc := 42) dX12_keys_42 rfl h
  · have h := h.2 q
    refine jm_if_eq (pc := 10) 41 dX12_keys_10 rfl ⟨by decide, by decide⟩ (fun q => ?_) (fun q => absurd q (by decide))
    refine jm_iconst (pc := 41) dX12_keys_41 ?_
    exact jm_iret (pc := 42) dX12_keys_42 rfl h
theorem dX12_fair_0 : decode cX12_fair 0 = .ok (.aload_n 0, 1) := by decide +kernel
theorem dX12_fair_1 : decode cX12_fair 1 = .ok (.iconst 0, 1) := by decide +kernel
theorem dX12_fair_2 : decode cX12_fair 2 = .ok (.putfield 104, 3) := by decide +kernel
theorem dX12_fair_5 : decode cX12_fair 5 = .ok (.aload_n 0, 1) := by decide +kernel
theorem dX12_fair_6 : decode cX12_fair 6 = .ok (.iload_n 1, 1) := by decide +kernel
theorem dX12_fair_7 : decode cX12_fair 7 = .ok (.invokevirtual 132, 3) := by decide +kernel
theorem dX12_fair_10 : decode cX12_fair 10 = .ok (.ifCond .eq 44, 3) := by decide +kernel
theorem dX12_fair_13 : decode cX12_fair 13 = .ok (.aload_n 0, 1) := by decide +kernel
theorem dX12_fair_14 : decode cX12_fair 14 = .ok (.iload_n 2, 1) := by decide +kernel
theorem dX12_fair_15 : decode cX12_fair 15 = .ok (.invokevirtual 136, 3) := by decide +kernel
theorem dX12_fair_18 : decode cX12_fair 18 = .ok (.ifCond .eq 36, 3) := by decide +kernel
theorem dX12_fair_21 : decode cX12_fair 21 = .ok (.aload_n 0, 1) := by decide +kernel
theorem dX12_fair_22 : decode cX12_fair 22 = .ok (.iload_n 3, 1) := by decide +kernel
theorem dX12_fair_23 : decode cX12_fair 23 = .ok (.iconst 0, 1) := by decide +kernel
theorem dX12_fair_24 : decode cX12_fair 24 = .ok (.bipush 59, 2) := by decide +kernel
theorem dX12_fair_26 : decode cX12_fair 26 = .ok (.invokevirtual 128, 3) := by decide +kernel
theorem dX12_fair_29 : decode cX12_fair 29 = .ok (.ifCond .eq 25, 3) := by decide +kernel
theorem dX12_fair_32 : decode cX12_fair 32 = .ok (.aload_n 0, 1) := by decide +kernel
theorem dX12_fair_33 : decode cX12_fair 33 = .ok (.iload 4, 2) := by decide +kernel
theorem dX12_fair_35 : decode cX12_fair 35 = .ok (.iconst 0, 1) := by decide +kernel
theorem dX12_fair_36 : decode cX12_fair 36 = .ok (.bipush 9, 2) := by decide +kernel
theorem dX12_fair_38 : decode cX12_fair 38 = .ok (.invokevirtual 128, 3) := by decide +kernel
theorem dX12_fair_41 : decode cX12_fair 41 = .ok (.ifCond .eq 13, 3) := by decide +kernel
theorem dX12_fair_44 : decode cX12_fair 44 = .ok (.aload_n 0, 1) := by decide +kernel
theorem dX12_fair_45 : decode cX12_fair 45 = .ok (.iload_n 1, 1) := by decide +kernel
theorem dX12_fair_46 : decode cX12_fair 46 = .ok (.iload_n 2, 1) := by decide +kernel
theorem dX12_fair_47 : decode cX12_fair 47 = .ok (.iload_n 3, 1) := by decide +kernel
theorem dX12_fair_48 : decode cX12_fair 48 = .ok (.invokevirtual 351, 3) := by decide +kernel
theorem dX12_fair_51 : decode cX12_fair 51 = .ok (.ifCond .ne 5, 3) := by decide +kernel
theorem dX12_fair_54 : decode cX12_fair 54 = .ok (.iconst (-1), 1) := by decide +kernel
theorem dX12_fair_55 : decode cX12_fair 55 = .ok (.ireturn, 1) := by decide +kernel
theorem dX12_fair_56 : decode cX12_fair 56 = .ok (.aload_n 0, 1) := by decide +kernel
theorem dX12_fair_57 : decode cX12_fair 57 = .ok (.iload_n 1, 1) := by decide +kernel
theorem dX12_fair_58 : decode cX12_fair 58 = .ok (.iload_n 2, 1) := by decide +kernel
theorem dX12_fair_59 : decode cX12_fair 59 = .ok (.invokevirtual 344, 3) := by decide +kernel
theorem dX12_fair_62 : decode cX12_fair 62 = .ok (.istore 5, 2) := by decide +kernel
theorem dX12_fair_64 : decode cX12_fair 64 = .ok (.iconst 0, 1) := by decide +kernel
theorem dX12_fair_65 : decode cX12_fair 65 = .ok (.istore 6, 2) := by decide +kernel
theorem dX12_fair_67 : decode cX12_fair 67 = .ok (.iload 6, 2) := by decide +kernel
theorem dX12_fair_69 : decode cX12_fair 69 = .ok (.bipush 10, 2) := by decide +kernel
theorem dX12_fair_71 : decode cX12_fair 71 = .ok (.if_icmp .ge 28, 3) := by decide +kernel
theorem dX12_fair_74 : decode cX12_fair 74 = .ok (.aload_n 0, 1) := by decide +kernel
theorem dX12_fair_75 : decode cX12_fair 75 = .ok (.getfield 92, 3) := by decide +kernel
theorem dX12_fair_78 : decode cX12_fair 78 = .ok (.iload 6, 2) := by decide +kernel
theorem dX12_fair_80 : decode cX12_fair 80 = .ok (.iload 6, 2) := by decide +kernel
theorem dX12_fair_82 : decode cX12_fair 82 = .ok (.ifCond .ne 9, 3) := by decide +kernel
theorem dX12_fair_85 : decode cX12_fair 85 = .ok (.ldc_w 422, 3) := by decide +kernel
theorem dX12_fair_88 : decode cX12_fair 88 = .ok (.goto 4, 3) := by decide +kernel
theorem dX12_fair_91 : decode cX12_fair 91 = .ok (.iconst 0, 1) := by decide +kernel
theorem dX12_fair_92 : decode cX12_fair 92 = .ok (.iastore, 1) := by decide +kernel
theorem dX12_fair_93 : decode cX12_fair 93 = .ok (.iinc 6 1, 3) := by decide +kernel
theorem dX12_fair_96 : decode cX12_fair 96 = .ok (.goto (-29), 3) := by decide +kernel
theorem dX12_fair_99 : decode cX12_fair 99 = .ok (.iconst 0, 1) := by decide +kernel
theorem dX12_fair_100 : decode cX12_fair 100 = .ok (.istore 6, 2) := by decide +kernel
theorem dX12_fair_102 : decode cX12_fair 102 = .ok (.iload 6, 2) := by decide +kernel
theorem dX12_fair_104 : decode cX12_fair 104 = .ok (.aload_n 0, 1) := by decide +kernel
theorem dX12_fair_105 : decode cX12_fair 105 = .ok (.iload 5, 2) := by decide +kernel
theorem dX12_fair_107 : decode cX12_fair 107 = .ok (.invokevirtual 335, 3) := by decide +kernel
theorem dX12_fair_110 : decode cX12_fair 110 = .ok (.if_icmp .ge 111, 3) := by decide +kernel
theorem dX12_fair_113 : decode cX12_fair 113 = .ok (.aload_n 0, 1) := by decide +kernel
theorem dX12_fair_114 : decode cX12_fair 114 = .ok (.iload_n 1, 1) := by decide +kernel
theorem dX12_fair_115 : decode cX12_fair 115 = .ok (.iload_n 2, 1) := by decide +kernel
theorem dX12_fair_116 : decode cX12_fair 116 = .ok (.aload_n 0, 1) := by decide +kernel
theorem dX12_fair_117 : decode cX12_fair 117 = .ok (.iload_n 1, 1) := by decide +kernel
theorem dX12_fair_118 : decode cX12_fair 118 = .ok (.iload_n 2, 1) := by decide +kernel
theorem dX12_fair_119 : decode cX12_fair 119 = .ok (.invokevirtual 341, 3) := by decide +kernel
theorem dX12_fair_122 : decode cX12_fair 122 = .ok (.iload 6, 2) := by decide +kernel
theorem dX12_fair_124 : decode cX12_fair 124 = .ok (.iload_n 3, 1) := by decide +kernel
theorem dX12_fair_125 : decode cX12_fair 125 = .ok (.iconst 1, 1) := by decide +kernel
theorem dX12_fair_126 : decode cX12_fair 126 = .ok (.iadd, 1) := by decide +kernel
theorem dX12_fair_127 : decode cX12_fair 127 = .ok (.aload_n 0, 1) := by decide +kernel
theorem dX12_fair_128 : decode cX12_fair 128 = .ok (.iload 5, 2) := by decide +kernel
theorem dX12_fair_130 : decode cX12_fair 130 = .ok (.iload 6, 2) := by decide +kernel
theorem dX12_fair_132 : decode cX12_fair 132 = .ok (.invokevirtual 338, 3) := by decide +kernel
theorem dX12_fair_135 : decode cX12_fair 135 = .ok (.iadd, 1) := by decide +kernel
theorem dX12_fair_136 : decode cX12_fair 136 = .ok (.invokevirtual 363, 3) := by decide +kernel
theorem dX12_fair_139 : decode cX12_fair 139 = .ok (.istore 7, 2) := by decide +kernel
theorem dX12_fair_141 : decode cX12_fair 141 = .ok (.iload 6, 2) := by decide +kernel
theorem dX12_fair_143 : decode cX12_fair 143 = .ok (.iconst 1, 1) := by decide +kernel
theorem dX12_fair_144 : decode cX12_fair 144 = .ok (.iadd, 1) := by decide +kernel
theorem dX12_fair_145 : decode cX12_fair 145 = .ok (.istore 8, 2) := by decide +kernel
theorem dX12_fair_147 : decode cX12_fair 147 = .ok (.iload 8, 2) := by decide +kernel
theorem dX12_fair_149 : decode cX12_fair 149 = .ok (.ifCond .lt 66, 3) := by decide +kernel
theorem dX12_fair_152 : decode cX12_fair 152 = .ok (.aload_n 0, 1) := by decide +kernel
theorem dX12_fair_153 : decode cX12_fair 153 = .ok (.getfield 92, 3) := by decide +kernel
theorem dX12_fair_156 : decode cX12_fair 156 = .ok (.iload 8, 2) := by decide +kernel
theorem dX12_fair_158 : decode cX12_fair 158 = .ok (.aload_n 0, 1) := by decide +kernel
theorem dX12_fair_159 : decode cX12_fair 159 = .ok (.getfield 92, 3) := by decide +kernel
theorem dX12_fair_162 : decode cX12_fair 162 = .ok (.iload 8, 2) := by decide +kernel
theorem dX12_fair_164 : decode cX12_fair 164 = .ok (.iaload, 1) := by decide +kernel
theorem dX12_fair_165 : decode cX12_fair 165 = .ok (.i2l, 1) := by decide +kernel
theorem dX12_fair_166 : decode cX12_fair 166 = .ok (.sipush 1000, 3) := by decide +kernel
theorem dX12_fair_169 : decode cX12_fair 169 = .ok (.iload 7, 2) := by decide +kernel
theorem dX12_fair_171 : decode cX12_fair 171 = .ok (.isub, 1) := by decide +kernel
theorem dX12_fair_172 : decode cX12_fair 172 = .ok (.i2l, 1) := by decide +kernel
theorem dX12_fair_173 : decode cX12_fair 173 = .ok (.lmul, 1) := by decide +kernel
theorem dX12_fair_174 : decode cX12_fair 174 = .ok (.ldc2_w 423, 3) := by decide +kernel
theorem dX12_fair_177 : decode cX12_fair 177 = .ok (.ldiv, 1) := by decide +kernel
theorem dX12_fair_178 : decode cX12_fair 178 = .ok (.l2i, 1) := by decide +kernel
theorem dX12_fair_179 : decode cX12_fair 179 = .ok (.iload 8, 2) := by decide +kernel
theorem dX12_fair_181 : decode cX12_fair 181 = .ok (.ifCond .ne 7, 3) := by decide +kernel
theorem dX12_fair_184 : decode cX12_fair 184 = .ok (.iconst 0, 1) := by decide +kernel
theorem dX12_fair_185 : decode cX12_fair 185 = .ok (.goto 22, 3) := by decide +kernel
theorem dX12_fair_188 : decode cX12_fair 188 = .ok (.aload_n 0, 1) := by decide +kernel
theorem dX12_fair_189 : decode cX12_fair 189 = .ok (.getfield 92, 3) := by decide +kernel
theorem dX12_fair_192 : decode cX12_fair 192 = .ok (.iload 8, 2) := by decide +kernel
theorem dX12_fair_194 : decode cX12_fair 194 = .ok (.iconst 1, 1) := by decide +kernel
theorem dX12_fair_195 : decode cX12_fair 195 = .ok (.isub, 1) := by decide +kernel
theorem dX12_fair_196 : decode cX12_fair 196 = .ok (.iaload, 1) := by decide +kernel
theorem dX12_fair_197 : decode cX12_fair 197 = .ok (.i2l, 1) := by decide +kernel
theorem dX12_fair_198 : decode cX12_fair 198 = .ok (.iload 7, 2) := by decide +kernel
theorem dX12_fair_200 : decode cX12_fair 200 = .ok (.i2l, 1) := by decide +kernel
theorem dX12_fair_201 : decode cX12_fair 201 = .ok (.lmul, 1) := by decide +kernel
theorem dX12_fair_202 : decode cX12_fair 202 = .ok (.ldc2_w 423, 3) := by decide +kernel
theorem dX12_fair_205 : decode cX12_fair 205 = .ok (.ldiv, 1) := by decide +kernel
theorem dX12_fair_206 : decode cX12_fair 206 = .ok (.l2i, 1) := by decide +kernel
theorem dX12_fair_207 : decode cX12_fair 207 = .ok (.iadd, 1) := by decide +kernel
theorem dX12_fair_208 : decode cX12_fair 208 = .ok (.iastore, 1) := by decide +kernel
theorem dX12_fair_209 : decode cX12_fair 209 = .ok (.iinc 8 (-1), 3) := by decide +kernel
theorem dX12_fair_212 : decode cX12_fair 212 = .ok (.goto (-65), 3) := by decide +kernel
theorem dX12_fair_215 : decode cX12_fair 215 = .ok (.iinc 6 1, 3) := by decide +kernel
theorem dX12_fair_218 : decode cX12_fair 218 = .ok (.goto (-116), 3) := by decide +kernel
theorem dX12_fair_221 : decode cX12_fair 221 = .ok (.iconst 0, 1) := by decide +kernel
theorem dX12_fair_222 : decode cX12_fair 222 = .ok (.istore 6, 2) := by decide +kernel
theorem dX12_fair_224 : decode cX12_fair 224 = .ok (.iconst 0, 1) := by decide +kernel
theorem dX12_fair_225 : decode cX12_fair 225 = .ok (.istore 7, 2) := by decide +kernel
theorem dX12_fair_227 : decode cX12_fair 227 = .ok (.iload 7, 2) := by decide +kernel
theorem dX12_fair_229 : decode cX12_fair 229 = .ok (.iload 4, 2) := by decide +kernel
theorem dX12_fair_231 : decode cX12_fair 231 = .ok (.if_icmp .gt 21, 3) := by decide +kernel
theorem dX12_fair_234 : decode cX12_fair 234 = .ok (.iload 6, 2) := by decide +kernel
theorem dX12_fair_236 : decode cX12_fair 236 = .ok (.aload_n 0, 1) := by decide +kernel
theorem dX12_fair_237 : decode cX12_fair 237 = .ok (.getfield 92, 3) := by decide +kernel
theorem dX12_fair_240 : decode cX12_fair 240 = .ok (.iload 7, 2) := by decide +kernel
theorem dX12_fair_242 : decode cX12_fair 242 = .ok (.iaload, 1) := by decide +kernel
theorem dX12_fair_243 : decode cX12_fair 243 = .ok (.iadd, 1) := by decide +kernel
theorem dX12_fair_244 : decode cX12_fair 244 = .ok (.istore 6, 2) := by decide +kernel
theorem dX12_fair_246 : decode cX12_fair 246 = .ok (.iinc 7 1, 3) := by decide +kernel
theorem dX12_fair_249 : decode cX12_fair 249 = .ok (.goto (-22), 3) := by decide +kernel
theorem dX12_fair_252 : decode cX12_fair 252 = .ok (.iload 6, 2) := by decide +kernel
theorem dX12_fair_254 : decode cX12_fair 254 = .ok (.ireturn, 1) := by decide +kernel
theorem bX12_fair_227 {l : Launch} {g : jm_G} {d : Nat} {v4 v6 v7 : Int} (hg : jm_HR g) {mu : jm_M} {Q : Option Value → jm_M → Prop} (h : jm_rg v7 ∧ jm_rg v4 ∧ (v4 < v7 → Q (some (jm_i v6)) mu) ∧ (v7 ≤ v4 → (0 ≤ v7 ∧ v7 < 10) ∧ ∀ x4, x4 = (v6 + (mu.1 27 v7)) → jm_V l g (d + 2) iX12_fair 227 [(0, .ref 0), (4, jm_i v4), (6, jm_i x4), (7, jm_i (v7 + 1))] [] mu Q)) : jm_V l g (d + 2) iX12_fair 227 [(0, .ref 0), (4, jm_i v4), (6, jm_i v6), (7, jm_i v7)] [] mu Q := by
  refine jm_mrI (fun hm0 => ?_)
  refine jm_iload (pc := 227) 3 dX12_fair_227 rfl ?_
  refine jm_iload (pc := 229) 1 dX12_fair_229 rfl ?_
  have hg1 := h.1
  have h := h.2
  have hg2 := h.1
  have h := h.2
  refine jm_icmp_gt (pc := 231) 252 dX12_fair_231 rfl hg1 hg2 (fun q => ?_) (fun q => ?_)
  · have h := h.1 q
    refine jm_iload (pc := 252) 2 dX12_fair_252 rfl ?_
    exact jm_iret (pc := 254) dX12_fair_254 rfl h
  · have h := h.2 q
    refine jm_iload (pc := 234) 2 dX12_fair_234 rfl ?_
    refine jm_aload_n (pc := 236) 0 dX12_fair_236 rfl ?_
    refine jm_getr (pc := 237) 51 dX12_fair_237 fX12_92 (cR0 hg) rfl ?_
    refine jm_iload (pc := 240) 3 dX12_fair_240 rfl ?_
    have hg3 := h.1
    have h := h.2
    refine jm_iald (pc := 242) dX12_fair_242 (cR27 hg) (by decide) hg3.1 hg3.2 ?_
    refine jm_iadd (pc := 243) dX12_fair_243 ?_
    have h := h _ rfl
    refine jm_istore (pc := 244) (lv' := [(6, _), (0, _), (4, _), (7, _)]) dX12_fair_244 (by decide) rfl ?_
    refine jm_iinc (pc := 246) (lv' := [(7, _), (6, _), (0, _), (4, _)]) 3 dX12_fair_246 rfl (by decide) rfl ?_
    refine jm_goto (pc := 249) 227 dX12_fair_249 rfl ?_
    exact jm_sub [2, 3, 1, 0] rfl h
theorem bX12_fair_147 {l : Launch} {g : jm_G} {d : Nat} {v1 v2 v3 v4 v5 v6 v7 v8 : Int} (hg : jm_HR g) {mu : jm_M} {Q : Option Value → jm_M → Prop} (h : jm_rg v8 ∧ (v8 < 0 → jm_V l g (d + 2) iX12_fair 102 [(0, .ref 0), (1, jm_i v1), (2, jm_i v2), (3, jm_i v3), (4, jm_i v4), (5, jm_i v5), (6, jm_i (v6 + 1))] [] mu Q) ∧ (0 ≤ v8 → (0 ≤ v8 ∧ v8 < 10) ∧ (¬ v8 = 0 → (0 ≤ (v8 - 1) ∧ (v8 - 1) < 10) ∧ jm_rg ((Int32.toInt (Int64.toInt32 (((Int32.toInt64 (Int32.ofInt (mu.1 27 v8))) * (Int32.toInt64 (Int32.ofInt (1000 - v7)))) / (1000 : Int64)))) + (Int32.toInt (Int64.toInt32 (((Int32.toInt64 (Int32.ofInt (mu.1 27 (v8 - 1)))) * (Int32.toInt64 (Int32.ofInt v7))) / (1000 : Int64))))) ∧ ∀ m5, m5 = jm_wr mu 27 v8 ((Int32.toInt (Int64.toInt32 (((Int32.toInt64 (Int32.ofInt (mu.1 27 v8))) * (Int32.toInt64 (Int32.ofInt (1000 - v7)))) / (1000 : Int64)))) + (Int32.toInt (Int64.toInt32 (((Int32.toInt64 (Int32.ofInt (mu.1 27 (v8 - 1)))) * (Int32.toInt64 (Int32.ofInt v7))) / (1000 : Int64))))) → jm_V l g (d + 2) iX12_fair 147 [(0, .ref 0), (1, jm_i v1), (2, jm_i v2), (3, jm_i v3), (4, jm_i v4), (5, jm_i v5), (6, jm_i v6), (7, jm_i v7), (8, jm_i (v8 + (-1)))] [] m5 Q) ∧ (v8 = 0 → jm_rg ((Int32.toInt (Int64.toInt32 (((Int32.toInt64 (Int32.ofInt (mu.1 27 v8))) * (Int32.toInt64 (Int32.ofInt (1000 - v7)))) / (1000 : Int64)))) + 0) ∧ ∀ m8, m8 = jm_wr mu 27 v8 ((Int32.toInt (Int64.toInt32 (((Int32.toInt64 (Int32.ofInt (mu.1 27 v8))) * (Int32.toInt64 (Int32.ofInt (1000 - v7)))) / (1000 : Int64)))) + 0) → jm_V l g (d + 2) iX12_fair 147 [(0, .ref 0), (1, jm_i v1), (2, jm_i v2), (3, jm_i v3), (4, jm_i v4), (5, jm_i v5), (6, jm_i v6), (7, jm_i v7), (8, jm_i (v8 + (-1)))] [] m8 Q))) : jm_V l g (d + 2) iX12_fair 147 [(0, .ref 0), (1, jm_i v1), (2, jm_i v2), (3, jm_i v3), (4, jm_i v4), (5, jm_i v5), (6, jm_i v6), (7, jm_i v7), (8, jm_i v8)] [] mu Q := by
  refine jm_mrI (fun hm0 => ?_)
  refine jm_iload (pc := 147) 8 dX12_fair_147 rfl ?_
  have hg1 := h.1
  have h := h.2
  refine jm_if_lt (pc := 149) 215 dX12_fair_149 rfl hg1 (fun q => ?_) (fun q => ?_)
  · have h := h.1 q
    refine jm_iinc (pc := 215) (lv' := [(6, _), (0, _), (1, _), (2, _), (3, _), (4, _), (5, _), (7, _), (8, _)]) 6 dX12_fair_215 rfl (by decide) rfl ?_
    refine jm_goto (pc := 218) 102 dX12_fair_218 rfl ?_
    exact jm_sub [1, 2, 3, 4, 5, 6, 0] rfl h
  · have h := h.2 q
    refine jm_aload_n (pc := 152) 0 dX12_fair_152 rfl ?_
    refine jm_getr (pc := 153) 51 dX12_fair_153 fX12_92 (cR0 hg) rfl ?_
    refine jm_iload (pc := 156) 8 dX12_fair_156 rfl ?_
    refine jm_aload_n (pc := 158) 0 dX12_fair_158 rfl ?_
    refine jm_getr (pc := 159) 51 dX12_fair_159 fX12_92 (cR0 hg) rfl ?_
    refine jm_iload (pc := 162) 8 dX12_fair_162 rfl ?_
    have hg2 := h.1
    have h := h.2
    refine jm_iald (pc := 164) dX12_fair_164 (cR27 hg) (by decide) hg2.1 hg2.2 ?_
    refine jm_i2l (pc := 165) dX12_fair_165 ?_
    refine jm_sipush (pc := 166) dX12_fair_166 (by decide) ?_
    refine jm_iload (pc := 169) 7 dX12_fair_169 rfl ?_
    refine jm_isub (pc := 171) dX12_fair_171 ?_
    refine jm_i2l (pc := 172) dX12_fair_172 ?_
    refine jm_lmul (pc := 173) dX12_fair_173 ?_
    refine jm_ldc2 (pc := 174) dX12_fair_174 kX12_423 ?_
    refine jm_ldiv (pc := 177) (by decide) dX12_fair_177 ?_
    refine jm_l2i (pc := 178) dX12_fair_178 ?_
    refine jm_iload (pc := 179) 8 dX12_fair_179 rfl ?_
    refine jm_if_ne (pc := 181) 188 dX12_fair_181 rfl hg1 (fun q => ?_) (fun q => ?_)
    · have h := h.1 q
      refine jm_aload_n (pc := 188) 0 dX12_fair_188 rfl ?_
      refine jm_getr (pc := 189) 51 dX12_fair_189 fX12_92 (cR0 hg) rfl ?_
      refine jm_iload (pc := 192) 8 dX12_fair_192 rfl ?_
      refine jm_iconst (pc := 194) dX12_fair_194 ?_
      refine jm_isub (pc := 195) dX12_fair_195 ?_
      have hg3 := h.1
      have h := h.2
      refine jm_iald (pc := 196) dX12_fair_196 (cR27 hg) (by decide) hg3.1 hg3.2 ?_
      refine jm_i2l (pc := 197) dX12_fair_197 ?_
      refine jm_iload (pc := 198) 7 dX12_fair_198 rfl ?_
      refine jm_i2l (pc := 200) dX12_fair_200 ?_
      refine jm_lmul (pc := 201) dX12_fair_201 ?_
      refine jm_ldc2 (pc := 202) dX12_fair_202 kX12_423 ?_
      refine jm_ldiv (pc := 205) (by decide) dX12_fair_205 ?_
      refine jm_l2i (pc := 206) dX12_fair_206 ?_
      refine jm_iadd (pc := 207) dX12_fair_207 ?_
      have hg4 := h.1
      have h := h.2
      refine jm_iast (pc := 208) dX12_fair_208 (cR27 hg) (by decide) hg2.1 hg2.2 hg4 ?_
      have h := h _ rfl
      refine jm_mrI (fun hm6 => ?_)
      refine jm_iinc (pc := 209) (lv' := [(8, _), (0, _), (1, _), (2, _), (3, _), (4, _), (5, _), (6, _), (7, _)]) 8 dX12_fair_209 rfl (by decide) rfl ?_
      refine jm_goto (pc := 212) 147 dX12_fair_212 rfl ?_
      exact jm_sub [1, 2, 3, 4, 5, 6, 7, 8, 0] rfl h
    · have h := h.2 q
      refine jm_iconst (pc := 184) dX12_fair_184 ?_
      refine jm_goto (pc := 185) 207 dX12_fair_185 rfl ?_
      refine jm_iadd (pc := 207) dX12_fair_207 ?_
      have hg7 := h.1
      have h := h.2
      refine jm_iast (pc := 208) dX12_fair_208 (cR27 hg) (by decide) hg2.1 hg2.2 hg7 ?_
      have h := h _ rfl
      refine jm_mrI (fun hm9 => ?_)
      refine jm_iinc (pc := 209) (lv' := [(8, _), (0, _), (1, _), (2, _), (3, _), (4, _), (5, _), (6, _), (7, _)]) 8 dX12_fair_209 rfl (by decide) rfl ?_
      refine jm_goto (pc := 212) 147 dX12_fair_212 rfl ?_
      exact jm_sub [1, 2, 3, 4, 5, 6, 7, 8, 0] rfl h
theorem bX12_fair_102 {l : Launch} {g : jm_G} {d : Nat} {v1 v2 v3 v4 v5 v6 : Int} (hg : jm_HR g) {mu : jm_M} {Q : Option Value → jm_M → Prop} (h : (0 ≤ (8 * v5) ∧ (8 * v5) < 384) ∧ jm_rg v6 ∧ ((mu.1 17 (8 * v5)) ≤ v6 → jm_V l g (d + 2) iX12_fair 227 [(0, .ref 0), (4, jm_i v4), (6, jm_i 0), (7, jm_i 0)] [] mu Q) ∧ (v6 < (mu.1 17 (8 * v5)) → (0 ≤ ((6 * v1) + v2) ∧ ((6 * v1) + v2) < 48) ∧ jm_R l g (d + 1) iX12_aboveOf [.ref 0, jm_i v5, jm_i v6] mu (jm_qi fun z5 m4 => jm_R l g (d + 1) iX12_slipOf [.ref 0, jm_i v1, jm_i v2, jm_i ((mu.1 6 ((6 * v1) + v2)) - 1), jm_i v6, jm_i ((v3 + 1) + z5)] m4 (jm_qi fun z9 m8 => ∀ x12, x12 = (v6 + 1) → jm_V l g (d + 2) iX12_fair 147 [(0, .ref 0), (1, jm_i v1), (2, jm_i v2), (3, jm_i v3), (4, jm_i v4), (5, jm_i v5), (6, jm_i v6), (7, jm_i z9), (8, jm_i x12)] [] m8 Q)))) : jm_V l g (d + 2) iX12_fair 102 [(0, .ref 0), (1, jm_i v1), (2, jm_i v2), (3, jm_i v3), (4, jm_i v4), (5, jm_i v5), (6, jm_i v6)] [] mu Q := by
  refine jm_mrI (fun hm0 => ?_)
  refine jm_iload (pc := 102) 6 dX12_fair_102 rfl ?_
  refine jm_aload_n (pc := 104) 0 dX12_fair_104 rfl ?_
  refine jm_iload (pc := 105) 5 dX12_fair_105 rfl ?_
  have hg1 := h.1
  have h := h.2
  refine jm_inlvi (pc := 107) (As := [_]) (st := [_]) iX12_notesOf dX12_fair_107 mX12_335 (cR0 hg) ⟨_, rfl, rfl⟩ rfl rfl (Nat.le_of_ble_eq_true rfl) (pX12_notesOf hg hg1 (jm_kIi ?_))
  have hg2 := h.1
  have h := h.2
  refine jm_icmp_ge (pc := 110) 221 dX12_fair_110 rfl hg2 (hm0 _ _) (fun q => ?_) (fun q => ?_)
  · have h := h.1 q
    refine jm_iconst (pc := 221) dX12_fair_221 ?_
    refine jm_istore (pc := 222) (lv' := [(6, _), (0, _), (1, _), (2, _), (3, _), (4, _), (5, _)]) dX12_fair_222 (by decide) rfl ?_
    refine jm_iconst (pc := 224) dX12_fair_224 ?_
    refine jm_istore (pc := 225) (lv' := [(7, _), (6, _), (0, _), (1, _), (2, _), (3, _), (4, _), (5, _)]) dX12_fair_225 (by decide) rfl ?_
    exact jm_sub [2, 6, 1, 0] rfl h
  · have h := h.2 q
    refine jm_aload_n (pc := 113) 0 dX12_fair_113 rfl ?_
    refine jm_iload_n (pc := 114) 1 dX12_fair_114 rfl ?_
    refine jm_iload_n (pc := 115) 2 dX12_fair_115 rfl ?_
    refine jm_aload_n (pc := 116) 0 dX12_fair_116 rfl ?_
    refine jm_iload_n (pc := 117) 1 dX12_fair_117 rfl ?_
    refine jm_iload_n (pc := 118) 2 dX12_fair_118 rfl ?_
    have hg3 := h.1
    have h := h.2
    refine jm_inlvi (pc := 119) (As := [_, _]) (st := [_, _, _]) iX12_claimOf dX12_fair_119 mX12_341 (cR0 hg) ⟨_, rfl, rfl⟩ rfl rfl (Nat.le_of_ble_eq_true rfl) (pX12_claimOf hg hg3 (jm_kIi ?_))
    refine jm_iload (pc := 122) 6 dX12_fair_122 rfl ?_
    refine jm_iload_n (pc := 124) 3 dX12_fair_124 rfl ?_
    refine jm_iconst (pc := 125) dX12_fair_125 ?_
    refine jm_iadd (pc := 126) dX12_fair_126 ?_
    refine jm_aload_n (pc := 127) 0 dX12_fair_127 rfl ?_
    refine jm_iload (pc := 128) 5 dX12_fair_128 rfl ?_
    refine jm_iload (pc := 130) 6 dX12_fair_130 rfl ?_
    refine jm_callvi (pc := 132) (As := [_, _]) (st := [_, _, _, _, _, _]) iX12_aboveOf dX12_fair_132 mX12_338 (cR0 hg) ⟨_, rfl, rfl⟩ rfl rfl (Nat.le_of_ble_eq_true rfl) h (fun z5 m4 hz6 h hm7 => ?_)
    refine jm_iadd (pc := 135) dX12_fair_135 ?_
    refine jm_callvi (pc := 136) (As := [_, _, _, _, _]) (st := []) iX12_slipOf dX12_fair_136 mX12_363 (cR0 hg) ⟨_, rfl, rfl⟩ rfl rfl (Nat.le_of_ble_eq_true rfl) h (fun z9 m8 hz10 h hm11 => ?_)
    refine jm_istore (pc := 139) (lv' := [(7, _), (0, _), (1, _), (2, _), (3, _), (4, _), (5, _), (6, _)]) dX12_fair_139 (by decide) rfl ?_
    refine jm_iload (pc := 141) 7 dX12_fair_141 rfl ?_
    refine jm_iconst (pc := 143) dX12_fair_143 ?_
    refine jm_iadd (pc := 144) dX12_fair_144 ?_
    have h := h _ rfl
    refine jm_istore (pc := 145) (lv' := [(8, _), (7, _), (0, _), (1, _), (2, _), (3, _), (4, _), (5, _), (6, _)]) dX12_fair_145 (by decide) rfl ?_
    exact jm_sub [2, 3, 4, 5, 6, 7, 8, 1, 0] rfl h
theorem bX12_fair_67 {l : Launch} {g : jm_G} {d : Nat} {v1 v2 v3 v4 v5 v6 : Int} (hg : jm_HR g) {mu : jm_M} {Q : Option Value → jm_M → Prop} (h : jm_rg v6 ∧ (10 ≤ v6 → jm_V l g (d + 2) iX12_fair 102 [(0, .ref 0), (1, jm_i v1), (2, jm_i v2), (3, jm_i v3), (4, jm_i v4), (5, jm_i v5), (6, jm_i 0)] [] mu Q) ∧ (v6 < 10 → (¬ v6 = 0 → (0 ≤ v6 ∧ v6 < 10) ∧ ∀ m3, m3 = jm_wr mu 27 v6 0 → jm_V l g (d + 2) iX12_fair 67 [(0, .ref 0), (1, jm_i v1), (2, jm_i v2), (3, jm_i v3), (4, jm_i v4), (5, jm_i v5), (6, jm_i (v6 + 1))] [] m3 Q) ∧ (v6 = 0 → (0 ≤ v6 ∧ v6 < 10) ∧ ∀ m6, m6 = jm_wr mu 27 v6 1000000 → jm_V l g (d + 2) iX12_fair 67 [(0, .ref 0), (1, jm_i v1), (2, jm_i v2), (3, jm_i v3), (4, jm_i v4), (5, jm_i v5), (6, jm_i (v6 + 1))] [] m6 Q))) : jm_V l g (d + 2) iX12_fair 67 [(0, .ref 0), (1, jm_i v1), (2, jm_i v2), (3, jm_i v3), (4, jm_i v4), (5, jm_i v5), (6, jm_i v6)] [] mu Q := by
  refine jm_mrI (fun hm0 => ?_)
  refine jm_iload (pc := 67) 6 dX12_fair_67 rfl ?_
  refine jm_bipush (pc := 69) dX12_fair_69 (by decide) ?_
  have hg1 := h.1
  have h := h.2
  refine jm_icmp_ge (pc := 71) 99 dX12_fair_71 rfl hg1 ⟨by decide, by decide⟩ (fun q => ?_) (fun q => ?_)
  · have h := h.1 q
    refine jm_iconst (pc := 99) dX12_fair_99 ?_
    refine jm_istore (pc := 100) (lv' := [(6, _), (0, _), (1, _), (2, _), (3, _), (4, _), (5, _)]) dX12_fair_100 (by decide) rfl ?_
    exact jm_sub [1, 2, 3, 4, 5, 6, 0] rfl h
  · have h := h.2 q
    refine jm_aload_n (pc := 74) 0 dX12_fair_74 rfl ?_
    refine jm_getr (pc := 75) 51 dX12_fair_75 fX12_92 (cR0 hg) rfl ?_
    refine jm_iload (pc := 78) 6 dX12_fair_78 rfl ?_
    refine jm_iload (pc := 80) 6 dX12_fair_80 rfl ?_
    refine jm_if_ne (pc := 82) 91 dX12_fair_82 rfl hg1 (fun q => ?_) (fun q => ?_)
    · have h := h.1 q
      refine jm_iconst (pc := 91) dX12_fair_91 ?_
      have hg2 := h.1
      have h := h.2
      refine jm_iast (pc := 92) dX12_fair_92 (cR27 hg) (by decide) hg2.1 hg2.2 ⟨by decide, by decide⟩ ?_
      have h := h _ rfl
      refine jm_mrI (fun hm4 => ?_)
      refine jm_iinc (pc := 93) (lv' := [(6, _), (0, _), (1, _), (2, _), (3, _), (4, _), (5, _)]) 6 dX12_fair_93 rfl (by decide) rfl ?_
      refine jm_goto (pc := 96) 67 dX12_fair_96 rfl ?_
      exact jm_sub [1, 2, 3, 4, 5, 6, 0] rfl h
    · have h := h.2 q
      refine jm_ldcw (pc := 85) 1000000 dX12_fair_85 kX12_422 (by decide) ?_
      refine jm_goto (pc := 88) 92 dX12_fair_88 rfl ?_
      have hg5 := h.1
      have h := h.2
      refine jm_iast (pc := 92) dX12_fair_92 (cR27 hg) (by decide) hg5.1 hg5.2 ⟨by decide, by decide⟩ ?_
      have h := h _ rfl
      refine jm_mrI (fun hm7 => ?_)
      refine jm_iinc (pc := 93) (lv' := [(6, _), (0, _), (1, _), (2, _), (3, _), (4, _), (5, _)]) 6 dX12_fair_93 rfl (by decide) rfl ?_
      refine jm_goto (pc := 96) 67 dX12_fair_96 rfl ?_
      exact jm_sub [1, 2, 3, 4, 5, 6, 0] rfl h
theorem eX12_fair {l : Launch} {g : jm_G} {d : Nat} {v1 v2 v3 v4 : Int} (hg : jm_HR g) {mu : jm_M} {Q : Option Value → jm_M → Prop} (h : ∀ m1, m1 = jm_wr mu 0 0 0 → jm_rg v1 ∧ (0 ≤ v1 ∧ v1 < (m1.1 0 4) → jm_rg v2 ∧ (0 ≤ v2 ∧ v2 < 6 → jm_rg v3 ∧ (0 ≤ v3 ∧ v3 ≤ 59 → jm_rg v4 ∧ (0 ≤ v4 ∧ v4 ≤ 9 → jm_R l g (d + 1) iX12_isSung [.ref 0, jm_i v1, jm_i v2, jm_i v3] m1 (jm_qi fun z8 m7 => (¬ z8 = 0 → jm_R l g (d + 1) iX12_motiveOf [.ref 0, jm_i v1, jm_i v2] m7 (jm_qi fun z12 m11 => jm_V l g (d + 2) iX12_fair 67 [(0, .ref 0), (1, jm_i v1), (2, jm_i v2), (3, jm_i v3), (4, jm_i v4), (5, jm_i z12), (6, jm_i 0)] [] m11 Q)) ∧ (z8 = 0 → Q (some (jm_i (-1))) m7))) ∧ (¬ (0 ≤ v4 ∧ v4 ≤ 9) → Q (some (jm_i (-1))) m1)) ∧ (¬ (0 ≤ v3 ∧ v3 ≤ 59) → Q (some (jm_i (-1))) m1)) ∧ (¬ (0 ≤ v2 ∧ v2 < 6) → Q (some (jm_i (-1))) m1)) ∧ (¬ (0 ≤ v1 ∧ v1 < (m1.1 0 4)) → Q (some (jm_i (-1))) m1)) : jm_R l g (d + 2) iX12_fair [.ref 0, jm_i v1, jm_i v2, jm_i v3, jm_i v4] mu Q := by
  refine jm_enter [(0, .ref 0), (1, jm_i v1), (2, jm_i v2), (3, jm_i v3), (4, jm_i v4)] (by decide) (Nat.le_of_ble_eq_true rfl) rfl ?_
  refine jm_mrI (fun hm0 => ?_)
  refine jm_aload_n (pc := 0) 0 dX12_fair_0 rfl ?_
  refine jm_iconst (pc := 1) dX12_fair_1 ?_
  refine jm_put (pc := 2) 0 dX12_fair_2 fX12_104 ftX12 (fun q h => by cases h; rfl) (jm_nI _) (jm_fI _) (cR0 hg) rfl ⟨by decide, by decide⟩ ?_
  have h := h _ rfl
  refine jm_mrI (fun hm2 => ?_)
  refine jm_aload_n (pc := 5) 0 dX12_fair_5 rfl ?_
  refine jm_iload_n (pc := 6) 1 dX12_fair_6 rfl ?_
  have hg3 := h.1
  have h := h.2
  refine jm_inlvi (pc := 7) (As := [_]) (st := []) iX12_isWitness dX12_fair_7 mX12_132 (cR0 hg) ⟨_, rfl, rfl⟩ rfl rfl (Nat.le_of_ble_eq_true rfl) (pX12_isWitness hg hg3 (fun q => jm_kIi ?_) (fun q => jm_kIi ?_))
  · have h := h.1 q
    refine jm_if_eq (pc := 10) 54 dX12_fair_10 rfl ⟨by decide, by decide⟩ (fun q => absurd q (by decide)) (fun q => ?_)
    refine jm_aload_n (pc := 13) 0 dX12_fair_13 rfl ?_
    refine jm_iload_n (pc := 14) 2 dX12_fair_14 rfl ?_
    have hg4 := h.1
    have h := h.2
    refine jm_inlvi (pc := 15) (As := [_]) (st := []) iX12_isFact dX12_fair_15 mX12_136 (cR0 hg) ⟨_, rfl, rfl⟩ rfl rfl (Nat.le_of_ble_eq_true rfl) (pX12_isFact hg hg4 (fun q => jm_kIi ?_) (fun q => jm_kIi ?_))
    · have h := h.1 q
      refine jm_if_eq (pc := 18) 54 dX12_fair_18 rfl ⟨by decide, by decide⟩ (fun q => absurd q (by decide)) (fun q => ?_)
      refine jm_aload_n (pc := 21) 0 dX12_fair_21 rfl ?_
      refine jm_iload_n (pc := 22) 3 dX12_fair_22 rfl ?_
      refine jm_iconst (pc := 23) dX12_fair_23 ?_
      refine jm_bipush (pc := 24) dX12_fair_24 (by decide) ?_
      have hg5 := h.1
      have h := h.2
      refine jm_inlvi (pc := 26) (As := [_, _, _]) (st := []) iX12_isIn dX12_fair_26 mX12_128 (cR0 hg) ⟨_, rfl, rfl⟩ rfl rfl (Nat.le_of_ble_eq_true rfl) (pX12_isIn hg hg5 ⟨by decide, by decide⟩ ⟨by decide, by decide⟩ (fun q => jm_kIi ?_) (fun q => jm_kIi ?_))
      · have h := h.1 q
        refine jm_if_eq (pc := 29) 54 dX12_fair_29 rfl ⟨by decide, by decide⟩ (fun q => absurd q (by decide)) (fun q => ?_)
        refine jm_aload_n (pc := 32) 0 dX12_fair_32 rfl ?_
        refine jm_iload (pc := 33) 4 dX12_fair_33 rfl ?_
        refine jm_iconst (pc := 35) dX12_fair_35 ?_
        refine jm_bipush (pc := 36) dX12_fair_36 (by decide) ?_
        have hg6 := h.1
        have h := h.2
        refine jm_inlvi (pc := 38) (As := [_, _, _]) (st := []) iX12_isIn dX12_fair_38 mX12_128 (cR0 hg) ⟨_, rfl, rfl⟩ rfl rfl (Nat.le_of_ble_eq_true rfl) (pX12_isIn hg hg6 ⟨by decide, by decide⟩ ⟨by decide, by decide⟩ (fun q => jm_kIi ?_) (fun q => jm_kIi ?_))
        · have h := h.1 q
          refine jm_if_eq (pc := 41) 54 dX12_fair_41 rfl ⟨by decide, by decide⟩ (fun q => absurd q (by decide)) (fun q => ?_)
          refine jm_aload_n (pc := 44) 0 dX12_fair_44 rfl ?_
          refine jm_iload_n (pc := 45) 1 dX12_fair_45 rfl ?_
          refine jm_iload_n (pc := 46) 2 dX12_fair_46 rfl ?_
          refine jm_iload_n (pc := 47) 3 dX12_fair_47 rfl ?_
          refine jm_callvi (pc := 48) (As := [_, _, _]) (st := []) iX12_isSung dX12_fair_48 mX12_351 (cR0 hg) ⟨_, rfl, rfl⟩ rfl rfl (Nat.le_of_ble_eq_true rfl) h (fun z8 m7 hz9 h hm10 => ?_)
          refine jm_if_ne (pc := 51) 56 dX12_fair_51 rfl hz9 (fun q => ?_) (fun q => ?_)
          · have h := h.1 q
            refine jm_aload_n (pc := 56) 0 dX12_fair_56 rfl ?_
            refine jm_iload_n (pc := 57) 1 dX12_fair_57 rfl ?_
            refine jm_iload_n (pc := 58) 2 dX12_fair_58 rfl ?_
            refine jm_callvi (pc := 59) (As := [_, _]) (st := []) iX12_motiveOf dX12_fair_59 mX12_344 (cR0 hg) ⟨_, rfl, rfl⟩ rfl rfl (Nat.le_of_ble_eq_true rfl) h (fun z12 m11 hz13 h hm14 => ?_)
            refine jm_istore (pc := 62) (lv' := [(5, _), (0, _), (1, _), (2, _), (3, _), (4, _)]) dX12_fair_62 (by decide) rfl ?_
            refine jm_iconst (pc := 64) dX12_fair_64 ?_
            refine jm_istore (pc := 65) (lv' := [(6, _), (5, _), (0, _), (1, _), (2, _), (3, _), (4, _)]) dX12_fair_65 (by decide) rfl ?_
            exact jm_sub [2, 3, 4, 5, 6, 1, 0] rfl h
          · have h := h.2 q
            refine jm_iconst (pc := 54) dX12_fair_54 ?_
            exact jm_iret (pc := 55) dX12_fair_55 rfl h
        · have h := h.2 q
          refine jm_if_eq (pc := 41) 54 dX12_fair_41 rfl ⟨by decide, by decide⟩ (fun q => ?_) (fun q => absurd q (by decide))
          refine jm_iconst (pc := 54) dX12_fair_54 ?_
          exact jm_iret (pc := 55) dX12_fair_55 rfl h
      · have h := h.2 q
        refine jm_if_eq (pc := 29) 54 dX12_fair_29 rfl ⟨by decide, by decide⟩ (fun q => ?_) (fun q => absurd q (by decide))
        refine jm_iconst (pc := 54) dX12_fair_54 ?_
        exact jm_iret (pc := 55) dX12_fair_55 rfl h
    · have h := h.2 q
      refine jm_if_eq (pc := 18) 54 dX12_fair_18 rfl ⟨by decide, by decide⟩ (fun q => ?_) (fun q => absurd q (by decide))
      refine jm_iconst (pc := 54) dX12_fair_54 ?_
      exact jm_iret (pc := 55) dX12_fair_55 rfl h
  · have h := h.2 q
    refine jm_if_eq (pc := 10) 54 dX12_fair_10 rfl ⟨by decide, by decide⟩ (fun q => ?_) (fun q => absurd q (by decide))
    refine jm_iconst (pc := 54) dX12_fair_54 ?_
    exact jm_iret (pc := 55) dX12_fair_55 rfl h
theorem dX12_heard_0 : decode cX12_heard 0 = .ok (.aload_n 0, 1) := by decide +kernel
theorem dX12_heard_1 : decode cX12_heard 1 = .ok (.iconst 0, 1) := by decide +kernel
theorem dX12_heard_2 : decode cX12_heard 2 = .ok (.putfield 104, 3) := by decide +kernel
theorem dX12_heard_5 : decode cX12_heard 5 = .ok (.iload_n 1, 1) := by decide +kernel
theorem dX12_heard_6 : decode cX12_heard 6 = .ok (.ifCond .ne 10, 3) := by decide +kernel
theorem dX12_heard_9 : decode cX12_heard 9 = .ok (.aload_n 0, 1) := by decide +kernel
theorem dX12_heard_10 : decode cX12_heard 10 = .ok (.iconst 0, 1) := by decide +kernel
theorem dX12_heard_11 : decode cX12_heard 11 = .ok (.putfield 425, 3) := by decide +kernel
theorem dX12_heard_14 : decode cX12_heard 14 = .ok (.iconst 0, 1) := by decide +kernel
theorem dX12_heard_15 : decode cX12_heard 15 = .ok (.ireturn, 1) := by decide +kernel
theorem dX12_heard_16 : decode cX12_heard 16 = .ok (.aload_n 0, 1) := by decide +kernel
theorem dX12_heard_17 : decode cX12_heard 17 = .ok (.iload_n 1, 1) := by decide +kernel
theorem dX12_heard_18 : decode cX12_heard 18 = .ok (.iconst 1, 1) := by decide +kernel
theorem dX12_heard_19 : decode cX12_heard 19 = .ok (.bipush 60, 2) := by decide +kernel
theorem dX12_heard_21 : decode cX12_heard 21 = .ok (.invokevirtual 128, 3) := by decide +kernel
theorem dX12_heard_24 : decode cX12_heard 24 = .ok (.ifCond .eq 12, 3) := by decide +kernel
theorem dX12_heard_27 : decode cX12_heard 27 = .ok (.aload_n 0, 1) := by decide +kernel
theorem dX12_heard_28 : decode cX12_heard 28 = .ok (.getfield 425, 3) := by decide +kernel
theorem dX12_heard_31 : decode cX12_heard 31 = .ok (.bipush 12, 2) := by decide +kernel
theorem dX12_heard_33 : decode cX12_heard 33 = .ok (.if_icmp .ne 5, 3) := by decide +kernel
theorem dX12_heard_36 : decode cX12_heard 36 = .ok (.iconst (-1), 1) := by decide +kernel
theorem dX12_heard_37 : decode cX12_heard 37 = .ok (.ireturn, 1) := by decide +kernel
theorem dX12_heard_38 : decode cX12_heard 38 = .ok (.aload_n 0, 1) := by decide +kernel
theorem dX12_heard_39 : decode cX12_heard 39 = .ok (.getfield 95, 3) := by decide +kernel
theorem dX12_heard_42 : decode cX12_heard 42 = .ok (.aload_n 0, 1) := by decide +kernel
theorem dX12_heard_43 : decode cX12_heard 43 = .ok (.getfield 425, 3) := by decide +kernel
theorem dX12_heard_46 : decode cX12_heard 46 = .ok (.iload_n 1, 1) := by decide +kernel
theorem dX12_heard_47 : decode cX12_heard 47 = .ok (.iastore, 1) := by decide +kernel
theorem dX12_heard_48 : decode cX12_heard 48 = .ok (.aload_n 0, 1) := by decide +kernel
theorem dX12_heard_49 : decode cX12_heard 49 = .ok (.aload_n 0, 1) := by decide +kernel
theorem dX12_heard_50 : decode cX12_heard 50 = .ok (.getfield 425, 3) := by decide +kernel
theorem dX12_heard_53 : decode cX12_heard 53 = .ok (.iconst 1, 1) := by decide +kernel
theorem dX12_heard_54 : decode cX12_heard 54 = .ok (.iadd, 1) := by decide +kernel
theorem dX12_heard_55 : decode cX12_heard 55 = .ok (.putfield 425, 3) := by decide +kernel
theorem dX12_heard_58 : decode cX12_heard 58 = .ok (.aload_n 0, 1) := by decide +kernel
theorem dX12_heard_59 : decode cX12_heard 59 = .ok (.getfield 425, 3) := by decide +kernel
theorem dX12_heard_62 : decode cX12_heard 62 = .ok (.ireturn, 1) := by decide +kernel
theorem eX12_heard {l : Launch} {g : jm_G} {d : Nat} {v1 : Int} (hg : jm_HR g) {mu : jm_M} {Q : Option Value → jm_M → Prop} (h : ∀ m1, m1 = jm_wr mu 0 0 0 → jm_rg v1 ∧ (¬ v1 = 0 → (1 ≤ v1 ∧ v1 ≤ 60 → (¬ (m1.1 0 52) = 12 → (0 ≤ (m1.1 0 52) ∧ (m1.1 0 52) < 12) ∧ ∀ m5, m5 = jm_wr m1 28 (m1.1 0 52) v1 → jm_rg ((m5.1 0 52) + 1) ∧ ∀ m8, m8 = jm_wr m5 0 52 ((m5.1 0 52) + 1) → Q (some (jm_i (m8.1 0 52))) m8) ∧ ((m1.1 0 52) = 12 → Q (some (jm_i (-1))) m1)) ∧ (¬ (1 ≤ v1 ∧ v1 ≤ 60) → Q (some (jm_i (-1))) m1)) ∧ (v1 = 0 → ∀ m10, m10 = jm_wr m1 0 52 0 → Q (some (jm_i 0)) m10)) : jm_R l g (d + 2) iX12_heard [.ref 0, jm_i v1] mu Q := by
  refine jm_enter [(0, .ref 0), (1, jm_i v1)] (by decide) (Nat.le_of_ble_eq_true rfl) rfl ?_
  refine jm_mrI (fun hm0 => ?_)
  refine jm_aload_n (pc := 0) 0 dX12_heard_0 rfl ?_
  refine jm_iconst (pc := 1) dX12_heard_1 ?_
  refine jm_put (pc := 2) 0 dX12_heard_2 fX12_104 ftX12 (fun q h => by cases h; rfl) (jm_nI _) (jm_fI _) (cR0 hg) rfl ⟨by decide, by decide⟩ ?_
  have h := h _ rfl
  refine jm_mrI (fun hm2 => ?_)
  refine jm_iload_n (pc := 5) 1 dX12_heard_5 rfl ?_
  have hg3 := h.1
  have h := h.2
  refine jm_if_ne (pc := 6) 16 dX12_heard_6 rfl hg3 (fun q => ?_) (fun q => ?_)
  · have h := h.1 q
    refine jm_aload_n (pc := 16) 0 dX12_heard_16 rfl ?_
    refine jm_iload_n (pc := 17) 1 dX12_heard_17 rfl ?_
    refine jm_iconst (pc := 18) dX12_heard_18 ?_
    refine jm_bipush (pc := 19) dX12_heard_19 (by decide) ?_
    refine jm_inlvi (pc := 21) (As := [_, _, _]) (st := []) iX12_isIn dX12_heard_21 mX12_128 (cR0 hg) ⟨_, rfl, rfl⟩ rfl rfl (Nat.le_of_ble_eq_true rfl) (pX12_isIn hg hg3 ⟨by decide, by decide⟩ ⟨by decide, by decide⟩ (fun q => jm_kIi ?_) (fun q => jm_kIi ?_))
    · have h := h.1 q
      refine jm_if_eq (pc := 24) 36 dX12_heard_24 rfl ⟨by decide, by decide⟩ (fun q => absurd q (by decide)) (fun q => ?_)
      refine jm_aload_n (pc := 27) 0 dX12_heard_27 rfl ?_
      refine jm_geti (pc := 28) 52 dX12_heard_28 fX12_425 (cR0 hg) rfl ?_
      refine jm_bipush (pc := 31) dX12_heard_31 (by decide) ?_
      refine jm_icmp_ne (pc := 33) 38 dX12_heard_33 rfl (hm2 _ _) ⟨by decide, by decide⟩ (fun q => ?_) (fun q => ?_)
      · have h := h.1 q
        refine jm_aload_n (pc := 38) 0 dX12_heard_38 rfl ?_
        refine jm_getr (pc := 39) 53 dX12_heard_39 fX12_95 (cR0 hg) rfl ?_
        refine jm_aload_n (pc := 42) 0 dX12_heard_42 rfl ?_
        refine jm_geti (pc := 43) 52 dX12_heard_43 fX12_425 (cR0 hg) rfl ?_
        refine jm_iload_n (pc := 46) 1 dX12_heard_46 rfl ?_
        have hg4 := h.1
        have h := h.2
        refine jm_iast (pc := 47) dX12_heard_47 (cR28 hg) (by decide) hg4.1 hg4.2 hg3 ?_
        have h := h _ rfl
        refine jm_mrI (fun hm6 => ?_)
        refine jm_aload_n (pc := 48) 0 dX12_heard_48 rfl ?_
        refine jm_aload_n (pc := 49) 0 dX12_heard_49 rfl ?_
        refine jm_geti (pc := 50) 52 dX12_heard_50 fX12_425 (cR0 hg) rfl ?_
        refine jm_iconst (pc := 53) dX12_heard_53 ?_
        refine jm_iadd (pc := 54) dX12_heard_54 ?_
        have hg7 := h.1
        have h := h.2
        refine jm_put (pc := 55) 52 dX12_heard_55 fX12_425 ftX12 (fun q h => by cases h; rfl) (jm_nI _) (jm_fI _) (cR0 hg) rfl hg7 ?_
        have h := h _ rfl
        refine jm_mrI (fun hm9 => ?_)
        refine jm_aload_n (pc := 58) 0 dX12_heard_58 rfl ?_
        refine jm_geti (pc := 59) 52 dX12_heard_59 fX12_425 (cR0 hg) rfl ?_
        exact jm_iret (pc := 62) dX12_heard_62 rfl h
      · have h := h.2 q
        refine jm_iconst (pc := 36) dX12_heard_36 ?_
        exact jm_iret (pc := 37) dX12_heard_37 rfl h
    · have h := h.2 q
      refine jm_if_eq (pc := 24) 36 dX12_heard_24 rfl ⟨by decide, by decide⟩ (fun q => ?_) (fun q => absurd q (by decide))
      refine jm_iconst (pc := 36) dX12_heard_36 ?_
      exact jm_iret (pc := 37) dX12_heard_37 rfl h
  · have h := h.2 q
    refine jm_aload_n (pc := 9) 0 dX12_heard_9 rfl ?_
    refine jm_iconst (pc := 10) dX12_heard_10 ?_
    refine jm_put (pc := 11) 52 dX12_heard_11 fX12_425 ftX12 (fun q h => by cases h; rfl) (jm_nI _) (jm_fI _) (cR0 hg) rfl ⟨by decide, by decide⟩ ?_
    have h := h _ rfl
    refine jm_mrI (fun hm11 => ?_)
    refine jm_iconst (pc := 14) dX12_heard_14 ?_
    exact jm_iret (pc := 15) dX12_heard_15 rfl h
theorem dX12_unlikeTo_0 : decode cX12_unlikeTo 0 = .ok (.bipush 99, 2) := by decide +kernel
theorem dX12_unlikeTo_2 : decode cX12_unlikeTo 2 = .ok (.istore_n 2, 1) := by decide +kernel
theorem dX12_unlikeTo_3 : decode cX12_unlikeTo 3 = .ok (.iconst 0, 1) := by decide +kernel
theorem dX12_unlikeTo_4 : decode cX12_unlikeTo 4 = .ok (.istore_n 3, 1) := by decide +kernel
theorem dX12_unlikeTo_5 : decode cX12_unlikeTo 5 = .ok (.iload_n 3, 1) := by decide +kernel
theorem dX12_unlikeTo_6 : decode cX12_unlikeTo 6 = .ok (.bipush 60, 2) := by decide +kernel
theorem dX12_unlikeTo_8 : decode cX12_unlikeTo 8 = .ok (.if_icmp .ge 80, 3) := by decide +kernel
theorem dX12_unlikeTo_11 : decode cX12_unlikeTo 11 = .ok (.aload_n 0, 1) := by decide +kernel
theorem dX12_unlikeTo_12 : decode cX12_unlikeTo 12 = .ok (.iload_n 1, 1) := by decide +kernel
theorem dX12_unlikeTo_13 : decode cX12_unlikeTo 13 = .ok (.iload_n 3, 1) := by decide +kernel
theorem dX12_unlikeTo_14 : decode cX12_unlikeTo 14 = .ok (.iconst 1, 1) := by decide +kernel
theorem dX12_unlikeTo_15 : decode cX12_unlikeTo 15 = .ok (.bipush 60, 2) := by decide +kernel
theorem dX12_unlikeTo_17 : decode cX12_unlikeTo 17 = .ok (.invokevirtual 347, 3) := by decide +kernel
theorem dX12_unlikeTo_20 : decode cX12_unlikeTo 20 = .ok (.ifCond .ne 6, 3) := by decide +kernel
theorem dX12_unlikeTo_23 : decode cX12_unlikeTo 23 = .ok (.goto 59, 3) := by decide +kernel
theorem dX12_unlikeTo_26 : decode cX12_unlikeTo 26 = .ok (.iconst 0, 1) := by decide +kernel
theorem dX12_unlikeTo_27 : decode cX12_unlikeTo 27 = .ok (.istore 4, 2) := by decide +kernel
theorem dX12_unlikeTo_29 : decode cX12_unlikeTo 29 = .ok (.iconst 0, 1) := by decide +kernel
theorem dX12_unlikeTo_30 : decode cX12_unlikeTo 30 = .ok (.istore 5, 2) := by decide +kernel
theorem dX12_unlikeTo_32 : decode cX12_unlikeTo 32 = .ok (.iload 5, 2) := by decide +kernel
theorem dX12_unlikeTo_34 : decode cX12_unlikeTo 34 = .ok (.aload_n 0, 1) := by decide +kernel
theorem dX12_unlikeTo_35 : decode cX12_unlikeTo 35 = .ok (.getfield 425, 3) := by decide +kernel
theorem dX12_unlikeTo_38 : decode cX12_unlikeTo 38 = .ok (.if_icmp .ge 36, 3) := by decide +kernel
theorem dX12_unlikeTo_41 : decode cX12_unlikeTo 41 = .ok (.iload_n 3, 1) := by decide +kernel
theorem dX12_unlikeTo_42 : decode cX12_unlikeTo 42 = .ok (.iconst 1, 1) := by decide +kernel
theorem dX12_unlikeTo_43 : decode cX12_unlikeTo 43 = .ok (.iadd, 1) := by decide +kernel
theorem dX12_unlikeTo_44 : decode cX12_unlikeTo 44 = .ok (.aload_n 0, 1) := by decide +kernel
theorem dX12_unlikeTo_45 : decode cX12_unlikeTo 45 = .ok (.iload_n 1, 1) := by decide +kernel
theorem dX12_unlikeTo_46 : decode cX12_unlikeTo 46 = .ok (.iload 5, 2) := by decide +kernel
theorem dX12_unlikeTo_48 : decode cX12_unlikeTo 48 = .ok (.invokevirtual 338, 3) := by decide +kernel
theorem dX12_unlikeTo_51 : decode cX12_unlikeTo 51 = .ok (.iadd, 1) := by decide +kernel
theorem dX12_unlikeTo_52 : decode cX12_unlikeTo 52 = .ok (.aload_n 0, 1) := by decide +kernel
theorem dX12_unlikeTo_53 : decode cX12_unlikeTo 53 = .ok (.getfield 95, 3) := by decide +kernel
theorem dX12_unlikeTo_56 : decode cX12_unlikeTo 56 = .ok (.iload 5, 2) := by decide +kernel
theorem dX12_unlikeTo_58 : decode cX12_unlikeTo 58 = .ok (.iaload, 1) := by decide +kernel
theorem dX12_unlikeTo_59 : decode cX12_unlikeTo 59 = .ok (.if_icmp .eq 9, 3) := by decide +kernel
theorem dX12_unlikeTo_62 : decode cX12_unlikeTo 62 = .ok (.iload 4, 2) := by decide +kernel
theorem dX12_unlikeTo_64 : decode cX12_unlikeTo 64 = .ok (.iconst 1, 1) := by decide +kernel
theorem dX12_unlikeTo_65 : decode cX12_unlikeTo 65 = .ok (.iadd, 1) := by decide +kernel
theorem dX12_unlikeTo_66 : decode cX12_unlikeTo 66 = .ok (.istore 4, 2) := by decide +kernel
theorem dX12_unlikeTo_68 : decode cX12_unlikeTo 68 = .ok (.iinc 5 1, 3) := by decide +kernel
theorem dX12_unlikeTo_71 : decode cX12_unlikeTo 71 = .ok (.goto (-39), 3) := by decide +kernel
theorem dX12_unlikeTo_74 : decode cX12_unlikeTo 74 = .ok (.aload_n 0, 1) := by decide +kernel
theorem dX12_unlikeTo_75 : decode cX12_unlikeTo 75 = .ok (.iload_n 2, 1) := by decide +kernel
theorem dX12_unlikeTo_76 : decode cX12_unlikeTo 76 = .ok (.iload 4, 2) := by decide +kernel
theorem dX12_unlikeTo_78 : decode cX12_unlikeTo 78 = .ok (.invokevirtual 428, 3) := by decide +kernel
theorem dX12_unlikeTo_81 : decode cX12_unlikeTo 81 = .ok (.istore_n 2, 1) := by decide +kernel
theorem dX12_unlikeTo_82 : decode cX12_unlikeTo 82 = .ok (.iinc 3 1, 3) := by decide +kernel
theorem dX12_unlikeTo_85 : decode cX12_unlikeTo 85 = .ok (.goto (-80), 3) := by decide +kernel
theorem dX12_unlikeTo_88 : decode cX12_unlikeTo 88 = .ok (.iload_n 2, 1) := by decide +kernel
theorem dX12_unlikeTo_89 : decode cX12_unlikeTo 89 = .ok (.ireturn, 1) := by decide +kernel
theorem bX12_unlikeTo_32 {l : Launch} {g : jm_G} {d : Nat} {v1 v2 v3 v4 v5 : Int} (hg : jm_HR g) {mu : jm_M} {Q : Option Value → jm_M → Prop} (h : jm_rg v5 ∧ ((mu.1 0 52) ≤ v5 → jm_R l g d iX12_lesser [.ref 0, jm_i v2, jm_i v4] mu (jm_qi fun z3 m2 => jm_V l g (d + 1) iX12_unlikeTo 5 [(0, .ref 0), (1, jm_i v1), (2, jm_i z3), (3, jm_i (v3 + 1))] [] m2 Q)) ∧ (v5 < (mu.1 0 52) → jm_R l g d iX12_aboveOf [.ref 0, jm_i v1, jm_i v5] mu (jm_qi fun z7 m6 => (0 ≤ v5 ∧ v5 < 12) ∧ jm_rg ((v3 + 1) + z7) ∧ (((v3 + 1) + z7) = (m6.1 28 v5) → jm_V l g (d + 1) iX12_unlikeTo 32 [(0, .ref 0), (1, jm_i v1), (2, jm_i v2), (3, jm_i v3), (4, jm_i v4), (5, jm_i (v5 + 1))] [] m6 Q) ∧ (¬ ((v3 + 1) + z7) = (m6.1 28 v5) → ∀ x12, x12 = (v4 + 1) → jm_V l g (d + 1) iX12_unlikeTo 32 [(0, .ref 0), (1, jm_i v1), (2, jm_i v2), (3, jm_i v3), (4, jm_i x12), (5, jm_i (v5 + 1))] [] m6 Q)))) : jm_V l g (d + 1) iX12_unlikeTo 32 [(0, .ref 0), (1, jm_i v1), (2, jm_i v2), (3, jm_i v3), (4, jm_i v4), (5, jm_i v5)] [] mu Q := by
  refine jm_mrI (fun hm0 => ?_)
  refine jm_iload (pc := 32) 5 dX12_unlikeTo_32 rfl ?_
  refine jm_aload_n (pc := 34) 0 dX12_unlikeTo_34 rfl ?_
  refine jm_geti (pc := 35) 52 dX12_unlikeTo_35 fX12_425 (cR0 hg) rfl ?_
  have hg1 := h.1
  have h := h.2
  refine jm_icmp_ge (pc := 38) 74 dX12_unlikeTo_38 rfl hg1 (hm0 _ _) (fun q => ?_) (fun q => ?_)
  · have h := h.1 q
    refine jm_aload_n (pc := 74) 0 dX12_unlikeTo_74 rfl ?_
    refine jm_iload_n (pc := 75) 2 dX12_unlikeTo_75 rfl ?_
    refine jm_iload (pc := 76) 4 dX12_unlikeTo_76 rfl ?_
    refine jm_callvi (pc := 78) (As := [_, _]) (st := []) iX12_lesser dX12_unlikeTo_78 mX12_428 (cR0 hg) ⟨_, rfl, rfl⟩ rfl rfl (Nat.le_of_ble_eq_true rfl) h (fun z3 m2 hz4 h hm5 => ?_)
    refine jm_istore_n (pc := 81) (lv' := [(2, _), (0, _), (1, _), (3, _), (4, _), (5, _)]) dX12_unlikeTo_81 (by decide) rfl ?_
    refine jm_iinc (pc := 82) (lv' := [(3, _), (2, _), (0, _), (1, _), (4, _), (5, _)]) 3 dX12_unlikeTo_82 rfl (by decide) rfl ?_
    refine jm_goto (pc := 85) 5 dX12_unlikeTo_85 rfl ?_
    exact jm_sub [2, 3, 1, 0] rfl h
  · have h := h.2 q
    refine jm_iload_n (pc := 41) 3 dX12_unlikeTo_41 rfl ?_
    refine jm_iconst (pc := 42) dX12_unlikeTo_42 ?_
    refine jm_iadd (pc := 43) dX12_unlikeTo_43 ?_
    refine jm_aload_n (pc := 44) 0 dX12_unlikeTo_44 rfl ?_
    refine jm_iload_n (pc := 45) 1 dX12_unlikeTo_45 rfl ?_
    refine jm_iload (pc := 46) 5 dX12_unlikeTo_46 rfl ?_
    refine jm_callvi (pc := 48) (As := [_, _]) (st := [_]) iX12_aboveOf dX12_unlikeTo_48 mX12_338 (cR0 hg) ⟨_, rfl, rfl⟩ rfl rfl (Nat.le_of_ble_eq_true rfl) h (fun z7 m6 hz8 h hm9 => ?_)
    refine jm_iadd (pc := 51) dX12_unlikeTo_51 ?_
    refine jm_aload_n (pc := 52) 0 dX12_unlikeTo_52 rfl ?_
    refine jm_getr (pc := 53) 53 dX12_unlikeTo_53 fX12_95 (cR0 hg) rfl ?_
    refine jm_iload (pc := 56) 5 dX12_unlikeTo_56 rfl ?_
    have hg10 := h.1
    have h := h.2
    refine jm_iald (pc := 58) dX12_unlikeTo_58 (cR28 hg) (by decide) hg10.1 hg10.2 ?_
    have hg11 := h.1
    have h := h.2
    refine jm_icmp_eq (pc := 59) 68 dX12_unlikeTo_59 rfl hg11 (hm9 _ _) (fun q => ?_) (fun q => ?_)
    · have h := h.1 q
      refine jm_iinc (pc := 68) (lv' := [(5, _), (0, _), (1, _), (2, _), (3, _), (4, _)]) 5 dX12_unlikeTo_68 rfl (by decide) rfl ?_
      refine jm_goto (pc := 71) 32 dX12_unlikeTo_71 rfl ?_
      exact jm_sub [1, 2, 3, 4, 5, 0] rfl h
    · have h := h.2 q
      refine jm_iload (pc := 62) 4 dX12_unlikeTo_62 rfl ?_
      refine jm_iconst (pc := 64) dX12_unlikeTo_64 ?_
      refine jm_iadd (pc := 65) dX12_unlikeTo_65 ?_
      have h := h _ rfl
      refine jm_istore (pc := 66) (lv' := [(4, _), (0, _), (1, _), (2, _), (3, _), (5, _)]) dX12_unlikeTo_66 (by decide) rfl ?_
      refine jm_iinc (pc := 68) (lv' := [(5, _), (4, _), (0, _), (1, _), (2, _), (3, _)]) 5 dX12_unlikeTo_68 rfl (by decide) rfl ?_
      refine jm_goto (pc := 71) 32 dX12_unlikeTo_71 rfl ?_
      exact jm_sub [2, 3, 4, 5, 1, 0] rfl h
theorem bX12_unlikeTo_5 {l : Launch} {g : jm_G} {d : Nat} {v1 v2 v3 : Int} (hg : jm_HR g) {mu : jm_M} {Q : Option Value → jm_M → Prop} (h : jm_rg v3 ∧ (60 ≤ v3 → Q (some (jm_i v2)) mu) ∧ (v3 < 60 → jm_R l g d iX12_canSing [.ref 0, jm_i v1, jm_i v3, jm_i 1, jm_i 60] mu (jm_qi fun z3 m2 => (¬ z3 = 0 → jm_V l g (d + 1) iX12_unlikeTo 32 [(0, .ref 0), (1, jm_i v1), (2, jm_i v2), (3, jm_i v3), (4, jm_i 0), (5, jm_i 0)] [] m2 Q) ∧ (z3 = 0 → jm_V l g (d + 1) iX12_unlikeTo 5 [(0, .ref 0), (1, jm_i v1), (2, jm_i v2), (3, jm_i (v3 + 1))] [] m2 Q)))) : jm_V l g (d + 1) iX12_unlikeTo 5 [(0, .ref 0), (1, jm_i v1), (2, jm_i v2), (3, jm_i v3)] [] mu Q := by
  refine jm_mrI (fun hm0 => ?_)
  refine jm_iload_n (pc := 5) 3 dX12_unlikeTo_5 rfl ?_
  refine jm_bipush (pc := 6) dX12_unlikeTo_6 (by decide) ?_
  have hg1 := h.1
  have h := h.2
  refine jm_icmp_ge (pc := 8) 88 dX12_unlikeTo_8 rfl hg1 ⟨by decide, by decide⟩ (fun q => ?_) (fun q => ?_)
  · have h := h.1 q
    refine jm_iload_n (pc := 88) 2 dX12_unlikeTo_88 rfl ?_
    exact jm_iret (pc := 89) dX12_unlikeTo_89 rfl h
  · have h := h.2 q
    refine jm_aload_n (pc := 11) 0 dX12_unlikeTo_11 rfl ?_
    refine jm_iload_n (pc := 12) 1 dX12_unlikeTo_12 rfl ?_
    refine jm_iload_n (pc := 13) 3 dX12_unlikeTo_13 rfl ?_
    refine jm_iconst (pc := 14) dX12_unlikeTo_14 ?_
    refine jm_bipush (pc := 15) dX12_unlikeTo_15 (by decide) ?_
    refine jm_callvi (pc := 17) (As := [_, _, _, _]) (st := []) iX12_canSing dX12_unlikeTo_17 mX12_347 (cR0 hg) ⟨_, rfl, rfl⟩ rfl rfl (Nat.le_of_ble_eq_true rfl) h (fun z3 m2 hz4 h hm5 => ?_)
    refine jm_if_ne (pc := 20) 26 dX12_unlikeTo_20 rfl hz4 (fun q => ?_) (fun q => ?_)
    · have h := h.1 q
      refine jm_iconst (pc := 26) dX12_unlikeTo_26 ?_
      refine jm_istore (pc := 27) (lv' := [(4, _), (0, _), (1, _), (2, _), (3, _)]) dX12_unlikeTo_27 (by decide) rfl ?_
      refine jm_iconst (pc := 29) dX12_unlikeTo_29 ?_
      refine jm_istore (pc := 30) (lv' := [(5, _), (4, _), (0, _), (1, _), (2, _), (3, _)]) dX12_unlikeTo_30 (by decide) rfl ?_
      exact jm_sub [2, 3, 4, 5, 1, 0] rfl h
    · have h := h.2 q
      refine jm_goto (pc := 23) 82 dX12_unlikeTo_23 rfl ?_
      refine jm_iinc (pc := 82) (lv' := [(3, _), (0, _), (1, _), (2, _)]) 3 dX12_unlikeTo_82 rfl (by decide) rfl ?_
      refine jm_goto (pc := 85) 5 dX12_unlikeTo_85 rfl ?_
      exact jm_sub [1, 2, 3, 0] rfl h
theorem eX12_unlikeTo {l : Launch} {g : jm_G} {d : Nat} {v1 : Int} (hg : jm_HR g) {mu : jm_M} {Q : Option Value → jm_M → Prop} (h : jm_V l g (d + 1) iX12_unlikeTo 5 [(0, .ref 0), (1, jm_i v1), (2, jm_i 99), (3, jm_i 0)] [] mu Q) : jm_R l g (d + 1) iX12_unlikeTo [.ref 0, jm_i v1] mu Q := by
  refine jm_enter [(0, .ref 0), (1, jm_i v1)] (by decide) (Nat.le_of_ble_eq_true rfl) rfl ?_
  refine jm_mrI (fun hm0 => ?_)
  refine jm_bipush (pc := 0) dX12_unlikeTo_0 (by decide) ?_
  refine jm_istore_n (pc := 2) (lv' := [(2, _), (0, _), (1, _)]) dX12_unlikeTo_2 (by decide) rfl ?_
  refine jm_iconst (pc := 3) dX12_unlikeTo_3 ?_
  refine jm_istore_n (pc := 4) (lv' := [(3, _), (2, _), (0, _), (1, _)]) dX12_unlikeTo_4 (by decide) rfl ?_
  exact jm_sub [2, 3, 1, 0] rfl h
theorem dX12_read_0 : decode cX12_read 0 = .ok (.aload_n 0, 1) := by decide +kernel
theorem dX12_read_1 : decode cX12_read 1 = .ok (.iconst 0, 1) := by decide +kernel
theorem dX12_read_2 : decode cX12_read 2 = .ok (.putfield 104, 3) := by decide +kernel
theorem dX12_read_5 : decode cX12_read 5 = .ok (.aload_n 0, 1) := by decide +kernel
theorem dX12_read_6 : decode cX12_read 6 = .ok (.iload_n 1, 1) := by decide +kernel
theorem dX12_read_7 : decode cX12_read 7 = .ok (.iconst 0, 1) := by decide +kernel
theorem dX12_read_8 : decode cX12_read 8 = .ok (.bipush 9, 2) := by decide +kernel
theorem dX12_read_10 : decode cX12_read 10 = .ok (.invokevirtual 128, 3) := by decide +kernel
theorem dX12_read_13 : decode cX12_read 13 = .ok (.ifCond .eq 13, 3) := by decide +kernel
theorem dX12_read_16 : decode cX12_read 16 = .ok (.aload_n 0, 1) := by decide +kernel
theorem dX12_read_17 : decode cX12_read 17 = .ok (.iload_n 2, 1) := by decide +kernel
theorem dX12_read_18 : decode cX12_read 18 = .ok (.iconst 0, 1) := by decide +kernel
theorem dX12_read_19 : decode cX12_read 19 = .ok (.iconst 2, 1) := by decide +kernel
theorem dX12_read_20 : decode cX12_read 20 = .ok (.invokevirtual 128, 3) := by decide +kernel
theorem dX12_read_23 : decode cX12_read 23 = .ok (.ifCond .ne 5, 3) := by decide +kernel
theorem dX12_read_26 : decode cX12_read 26 = .ok (.iconst (-1), 1) := by decide +kernel
theorem dX12_read_27 : decode cX12_read 27 = .ok (.ireturn, 1) := by decide +kernel
theorem dX12_read_28 : decode cX12_read 28 = .ok (.iconst 0, 1) := by decide +kernel
theorem dX12_read_29 : decode cX12_read 29 = .ok (.istore_n 3, 1) := by decide +kernel
theorem dX12_read_30 : decode cX12_read 30 = .ok (.iconst (-1), 1) := by decide +kernel
theorem dX12_read_31 : decode cX12_read 31 = .ok (.istore 4, 2) := by decide +kernel
theorem dX12_read_33 : decode cX12_read 33 = .ok (.bipush 23, 2) := by decide +kernel
theorem dX12_read_35 : decode cX12_read 35 = .ok (.istore 5, 2) := by decide +kernel
theorem dX12_read_37 : decode cX12_read 37 = .ok (.iload 5, 2) := by decide +kernel
theorem dX12_read_39 : decode cX12_read 39 = .ok (.ifCond .lt 52, 3) := by decide +kernel
theorem dX12_read_42 : decode cX12_read 42 = .ok (.aload_n 0, 1) := by decide +kernel
theorem dX12_read_43 : decode cX12_read 43 = .ok (.iload 5, 2) := by decide +kernel
theorem dX12_read_45 : decode cX12_read 45 = .ok (.invokevirtual 335, 3) := by decide +kernel
theorem dX12_read_48 : decode cX12_read 48 = .ok (.ifCond .eq 37, 3) := by decide +kernel
theorem dX12_read_51 : decode cX12_read 51 = .ok (.aload_n 0, 1) := by decide +kernel
theorem dX12_read_52 : decode cX12_read 52 = .ok (.iload 5, 2) := by decide +kernel
theorem dX12_read_54 : decode cX12_read 54 = .ok (.invokevirtual 335, 3) := by decide +kernel
theorem dX12_read_57 : decode cX12_read 57 = .ok (.aload_n 0, 1) := by decide +kernel
theorem dX12_read_58 : decode cX12_read 58 = .ok (.getfield 425, 3) := by decide +kernel
theorem dX12_read_61 : decode cX12_read 61 = .ok (.if_icmp .ne 24, 3) := by decide +kernel
theorem dX12_read_64 : decode cX12_read 64 = .ok (.aload_n 0, 1) := by decide +kernel
theorem dX12_read_65 : decode cX12_read 65 = .ok (.iload 5, 2) := by decide +kernel
theorem dX12_read_67 : decode cX12_read 67 = .ok (.invokevirtual 431, 3) := by decide +kernel
theorem dX12_read_70 : decode cX12_read 70 = .ok (.iload_n 1, 1) := by decide +kernel
theorem dX12_read_71 : decode cX12_read 71 = .ok (.if_icmp .le 6, 3) := by decide +kernel
theorem dX12_read_74 : decode cX12_read 74 = .ok (.goto 11, 3) := by decide +kernel
theorem dX12_read_77 : decode cX12_read 77 = .ok (.iload 5, 2) := by decide +kernel
theorem dX12_read_79 : decode cX12_read 79 = .ok (.istore 4, 2) := by decide +kernel
theorem dX12_read_81 : decode cX12_read 81 = .ok (.iload_n 3, 1) := by decide +kernel
theorem dX12_read_82 : decode cX12_read 82 = .ok (.iconst 1, 1) := by decide +kernel
theorem dX12_read_83 : decode cX12_read 83 = .ok (.iadd, 1) := by decide +kernel
theorem dX12_read_84 : decode cX12_read 84 = .ok (.istore_n 3, 1) := by decide +kernel
theorem dX12_read_85 : decode cX12_read 85 = .ok (.iinc 5 (-1), 3) := by decide +kernel
theorem dX12_read_88 : decode cX12_read 88 = .ok (.goto (-51), 3) := by decide +kernel
theorem dX12_read_91 : decode cX12_read 91 = .ok (.iload_n 2, 1) := by decide +kernel
theorem dX12_read_92 : decode cX12_read 92 = .ok (.ifCond .ne 5, 3) := by decide +kernel
theorem dX12_read_95 : decode cX12_read 95 = .ok (.iload_n 3, 1) := by decide +kernel
theorem dX12_read_96 : decode cX12_read 96 = .ok (.ireturn, 1) := by decide +kernel
theorem dX12_read_97 : decode cX12_read 97 = .ok (.iload 4, 2) := by decide +kernel
theorem dX12_read_99 : decode cX12_read 99 = .ok (.iconst (-1), 1) := by decide +kernel
theorem dX12_read_100 : decode cX12_read 100 = .ok (.if_icmp .eq 8, 3) := by decide +kernel
theorem dX12_read_103 : decode cX12_read 103 = .ok (.iload_n 2, 1) := by decide +kernel
theorem dX12_read_104 : decode cX12_read 104 = .ok (.iconst 1, 1) := by decide +kernel
theorem dX12_read_105 : decode cX12_read 105 = .ok (.if_icmp .ne 8, 3) := by decide +kernel
theorem dX12_read_108 : decode cX12_read 108 = .ok (.iload 4, 2) := by decide +kernel
theorem dX12_read_110 : decode cX12_read 110 = .ok (.goto 9, 3) := by decide +kernel
theorem dX12_read_113 : decode cX12_read 113 = .ok (.aload_n 0, 1) := by decide +kernel
theorem dX12_read_114 : decode cX12_read 114 = .ok (.iload 4, 2) := by decide +kernel
theorem dX12_read_116 : decode cX12_read 116 = .ok (.invokevirtual 431, 3) := by decide +kernel
theorem dX12_read_119 : decode cX12_read 119 = .ok (.ireturn, 1) := by decide +kernel
theorem bX12_read_37 {l : Launch} {g : jm_G} {d : Nat} {v1 v2 v3 v4 v5 : Int} (hg : jm_HR g) {mu : jm_M} {Q : Option Value → jm_M → Prop} (h : jm_rg v5 ∧ (v5 < 0 → jm_rg v2 ∧ (¬ v2 = 0 → jm_rg v4 ∧ (v4 = (-1) → Q (some (jm_i v4)) mu) ∧ (¬ v4 = (-1) → (¬ v2 = 1 → jm_R l g (d + 1) iX12_unlikeTo [.ref 0, jm_i v4] mu (jm_qi fun z5 m4 => Q (some (jm_i z5)) m4)) ∧ (v2 = 1 → Q (some (jm_i v4)) mu))) ∧ (v2 = 0 → Q (some (jm_i v3)) mu)) ∧ (0 ≤ v5 → (0 ≤ (8 * v5) ∧ (8 * v5) < 384) ∧ ((mu.1 17 (8 * v5)) = 0 → jm_V l g (d + 2) iX12_read 37 [(0, .ref 0), (1, jm_i v1), (2, jm_i v2), (3, jm_i v3), (4, jm_i v4), (5, jm_i (v5 + (-1)))] [] mu Q) ∧ (¬ (mu.1 17 (8 * v5)) = 0 → (0 ≤ (8 * v5) ∧ (8 * v5) < 384) ∧ (¬ (mu.1 17 (8 * v5)) = (mu.1 0 52) → jm_V l g (d + 2) iX12_read 37 [(0, .ref 0), (1, jm_i v1), (2, jm_i v2), (3, jm_i v3), (4, jm_i v4), (5, jm_i (v5 + (-1)))] [] mu Q) ∧ ((mu.1 17 (8 * v5)) = (mu.1 0 52) → jm_R l g (d + 1) iX12_unlikeTo [.ref 0, jm_i v5] mu (jm_qi fun z11 m10 => jm_rg v1 ∧ (z11 ≤ v1 → ∀ x15, x15 = (v3 + 1) → jm_V l g (d + 2) iX12_read 37 [(0, .ref 0), (1, jm_i v1), (2, jm_i v2), (3, jm_i x15), (4, jm_i v5), (5, jm_i (v5 + (-1)))] [] m10 Q) ∧ (v1 < z11 → jm_V l g (d + 2) iX12_read 37 [(0, .ref 0), (1, jm_i v1), (2, jm_i v2), (3, jm_i v3), (4, jm_i v4), (5, jm_i (v5 + (-1)))] [] m10 Q)))))) : jm_V l g (d + 2) iX12_read 37 [(0, .ref 0), (1, jm_i v1), (2, jm_i v2), (3, jm_i v3), (4, jm_i v4), (5, jm_i v5)] [] mu Q := by
  refine jm_mrI (fun hm0 => ?_)
  refine jm_iload (pc := 37) 5 dX12_read_37 rfl ?_
  have hg1 := h.1
  have h := h.2
  refine jm_if_lt (pc := 39) 91 dX12_read_39 rfl hg1 (fun q => ?_) (fun q => ?_)
  · have h := h.1 q
    refine jm_iload_n (pc := 91) 2 dX12_read_91 rfl ?_
    have hg2 := h.1
    have h := h.2
    refine jm_if_ne (pc := 92) 97 dX12_read_92 rfl hg2 (fun q => ?_) (fun q => ?_)
    · have h := h.1 q
      refine jm_iload (pc := 97) 4 dX12_read_97 rfl ?_
      refine jm_iconst (pc := 99) dX12_read_99 ?_
      have hg3 := h.1
      have h := h.2
      refine jm_icmp_eq (pc := 100) 108 dX12_read_100 rfl hg3 ⟨by decide, by decide⟩ (fun q => ?_) (fun q => ?_)
      · have h := h.1 q
        refine jm_iload (pc := 108) 4 dX12_read_108 rfl ?_
        refine jm_goto (pc := 110) 119 dX12_read_110 rfl ?_
        exact jm_iret (pc := 119) dX12_read_119 rfl h
      · have h := h.2 q
        refine jm_iload_n (pc := 103) 2 dX12_read_103 rfl ?_
        refine jm_iconst (pc := 104) dX12_read_104 ?_
        refine jm_icmp_ne (pc := 105) 113 dX12_read_105 rfl hg2 ⟨by decide, by decide⟩ (fun q => ?_) (fun q => ?_)
        · have h := h.1 q
          refine jm_aload_n (pc := 113) 0 dX12_read_113 rfl ?_
          refine jm_iload (pc := 114) 4 dX12_read_114 rfl ?_
          refine jm_callvi (pc := 116) (As := [_]) (st := []) iX12_unlikeTo dX12_read_116 mX12_431 (cR0 hg) ⟨_, rfl, rfl⟩ rfl rfl (Nat.le_of_ble_eq_true rfl) h (fun z5 m4 hz6 h hm7 => ?_)
          exact jm_iret (pc := 119) dX12_read_119 rfl h
        · have h := h.2 q
          refine jm_iload (pc := 108) 4 dX12_read_108 rfl ?_
          refine jm_goto (pc := 110) 119 dX12_read_110 rfl ?_
          exact jm_iret (pc := 119) dX12_read_119 rfl h
    · have h := h.2 q
      refine jm_iload_n (pc := 95) 3 dX12_read_95 rfl ?_
      exact jm_iret (pc := 96) dX12_read_96 rfl h
  · have h := h.2 q
    refine jm_aload_n (pc := 42) 0 dX12_read_42 rfl ?_
    refine jm_iload (pc := 43) 5 dX12_read_43 rfl ?_
    have hg8 := h.1
    have h := h.2
    refine jm_inlvi (pc := 45) (As := [_]) (st := []) iX12_notesOf dX12_read_45 mX12_335 (cR0 hg) ⟨_, rfl, rfl⟩ rfl rfl (Nat.le_of_ble_eq_true rfl) (pX12_notesOf hg hg8 (jm_kIi ?_))
    refine jm_if_eq (pc := 48) 85 dX12_read_48 rfl (hm0 _ _) (fun q => ?_) (fun q => ?_)
    · have h := h.1 q
      refine jm_iinc (pc := 85) (lv' := [(5, _), (0, _), (1, _), (2, _), (3, _), (4, _)]) 5 dX12_read_85 rfl (by decide) rfl ?_
      refine jm_goto (pc := 88) 37 dX12_read_88 rfl ?_
      exact jm_sub [1, 2, 3, 4, 5, 0] rfl h
    · have h := h.2 q
      refine jm_aload_n (pc := 51) 0 dX12_read_51 rfl ?_
      refine jm_iload (pc := 52) 5 dX12_read_52 rfl ?_
      have hg9 := h.1
      have h := h.2
      refine jm_inlvi (pc := 54) (As := [_]) (st := []) iX12_notesOf dX12_read_54 mX12_335 (cR0 hg) ⟨_, rfl, rfl⟩ rfl rfl (Nat.le_of_ble_eq_true rfl) (pX12_notesOf hg hg9 (jm_kIi ?_))
      refine jm_aload_n (pc := 57) 0 dX12_read_57 rfl ?_
      refine jm_geti (pc := 58) 52 dX12_read_58 fX12_425 (cR0 hg) rfl ?_
      refine jm_icmp_ne (pc := 61) 85 dX12_read_61 rfl (hm0 _ _) (hm0 _ _) (fun q => ?_) (fun q => ?_)
      · have h := h.1 q
        refine jm_iinc (pc := 85) (lv' := [(5, _), (0, _), (1, _), (2, _), (3, _), (4, _)]) 5 dX12_read_85 rfl (by decide) rfl ?_
        refine jm_goto (pc := 88) 37 dX12_read_88 rfl ?_
        exact jm_sub [1, 2, 3, 4, 5, 0] rfl h
      · have h := h.2 q
        refine jm_aload_n (pc := 64) 0 dX12_read_64 rfl ?_
        refine jm_iload (pc := 65) 5 dX12_read_65 rfl ?_
        refine jm_callvi (pc := 67) (As := [_]) (st := []) iX12_unlikeTo dX12_read_67 mX12_431 (cR0 hg) ⟨_, rfl, rfl⟩ rfl rfl (Nat.le_of_ble_eq_true rfl) h (fun z11 m10 hz12 h hm13 => ?_)
        refine jm_iload_n (pc := 70) 1 dX12_read_70 rfl ?_
        have hg14 := h.1
        have h := h.2
        refine jm_icmp_le (pc := 71) 77 dX12_read_71 rfl hz12 hg14 (fun q => ?_) (fun q => ?_)
        · have h := h.1 q
          refine jm_iload (pc := 77) 5 dX12_read_77 rfl ?_
          refine jm_istore (pc := 79) (lv' := [(4, _), (0, _), (1, _), (2, _), (3, _), (5, _)]) dX12_read_79 (by decide) rfl ?_
          refine jm_iload_n (pc := 81) 4 dX12_read_81 rfl ?_
          refine jm_iconst (pc := 82) dX12_read_82 ?_
          refine jm_iadd (pc := 83) dX12_read_83 ?_
          have h := h _ rfl
          refine jm_istore_n (pc := 84) (lv' := [(3, _), (4, _), (0, _), (1, _), (2, _), (5, _)]) dX12_read_84 (by decide) rfl ?_
          refine jm_iinc (pc := 85) (lv' := [(5, _), (3, _), (4, _), (0, _), (1, _), (2, _)]) 5 dX12_read_85 rfl (by decide) rfl ?_
          refine jm_goto (pc := 88) 37 dX12_read_88 rfl ?_
          exact jm_sub [3, 4, 5, 1, 2, 0] rfl h
        · have h := h.2 q
          refine jm_goto (pc := 74) 85 dX12_read_74 rfl ?_
          refine jm_iinc (pc := 85) (lv' := [(5, _), (0, _), (1, _), (2, _), (3, _), (4, _)]) 5 dX12_read_85 rfl (by decide) rfl ?_
          refine jm_goto (pc := 88) 37 dX12_read_88 rfl ?_
          exact jm_sub [1, 2, 3, 4, 5, 0] rfl h
theorem eX12_read {l : Launch} {g : jm_G} {d : Nat} {v1 v2 : Int} (hg : jm_HR g) {mu : jm_M} {Q : Option Value → jm_M → Prop} (h : ∀ m1, m1 = jm_wr mu 0 0 0 → jm_rg v1 ∧ (0 ≤ v1 ∧ v1 ≤ 9 → jm_rg v2 ∧ (0 ≤ v2 ∧ v2 ≤ 2 → jm_V l g (d + 2) iX12_read 37 [(0, .ref 0), (1, jm_i v1), (2, jm_i v2), (3, jm_i 0), (4, jm_i (-1)), (5, jm_i 23)] [] m1 Q) ∧ (¬ (0 ≤ v2 ∧ v2 ≤ 2) → Q (some (jm_i (-1))) m1)) ∧ (¬ (0 ≤ v1 ∧ v1 ≤ 9) → Q (some (jm_i (-1))) m1)) : jm_R l g (d + 2) iX12_read [.ref 0, jm_i v1, jm_i v2] mu Q := by
  refine jm_enter [(0, .ref 0), (1, jm_i v1), (2, jm_i v2)] (by decide) (Nat.le_of_ble_eq_true rfl) rfl ?_
  refine jm_mrI (fun hm0 => ?_)
  refine jm_aload_n (pc := 0) 0 dX12_read_0 rfl ?_
  refine jm_iconst (pc := 1) dX12_read_1 ?_
  refine jm_put (pc := 2) 0 dX12_read_2 fX12_104 ftX12 (fun q h => by cases h; rfl) (jm_nI _) (jm_fI _) (cR0 hg) rfl ⟨by decide, by decide⟩ ?_
  have h := h _ rfl
  refine jm_mrI (fun hm2 => ?_)
  refine jm_aload_n (pc := 5) 0 dX12_read_5 rfl ?_
  refine jm_iload_n (pc := 6) 1 dX12_read_6 rfl ?_
  refine jm_iconst (pc := 7) dX12_read_7 ?_
  refine jm_bipush (pc := 8) dX12_read_8 (by decide) ?_
  have hg3 := h.1
  have h := h.2
  refine jm_inlvi (pc := 10) (As := [_, _, _]) (st := []) iX12_isIn dX12_read_10 mX12_128 (cR0 hg) ⟨_, rfl, rfl⟩ rfl rfl (Nat.le_of_ble_eq_true rfl) (pX12_isIn hg hg3 ⟨by decide, by decide⟩ ⟨by decide, by decide⟩ (fun q => jm_kIi ?_) (fun q => jm_kIi ?_))
  · have h := h.1 q
    refine jm_if_eq (pc := 13) 26 dX12_read_13 rfl ⟨by decide, by decide⟩ (fun q => absurd q (by decide)) (fun q => ?_)
    refine jm_aload_n (pc := 16) 0 dX12_read_16 rfl ?_
    refine jm_iload_n (pc := 17) 2 dX12_read_17 rfl ?_
    refine jm_iconst (pc := 18) dX12_read_18 ?_
    refine jm_iconst (pc := 19) dX12_read_19 ?_
    have hg4 := h.1
    have h := h.2
    refine jm_inlvi (pc := 20) (As := [_, _, _]) (st := []) iX12_isIn dX12_read_20 mX12_128 (cR0 hg) ⟨_, rfl, rfl⟩ rfl rfl (Nat.le_of_ble_eq_true rfl) (pX12_isIn hg hg4 ⟨by decide, by decide⟩ ⟨by decide, by decide⟩ (fun q => jm_kIi ?_) (fun q => jm_kIi ?_))
    · have h := h.1 q
      refine jm_if_ne (pc := 23) 28 dX12_read_23 rfl ⟨by decide, by decide⟩ (fun q => ?_) (fun q => absurd q (by decide))
      refine jm_iconst (pc := 28) dX12_read_28 ?_
      refine jm_istore_n (pc := 29) (lv' := [(3, _), (0, _), (1, _), (2, _)]) dX12_read_29 (by decide) rfl ?_
      refine jm_iconst (pc := 30) dX12_read_30 ?_
      refine jm_istore (pc := 31) (lv' := [(4, _), (3, _), (0, _), (1, _), (2, _)]) dX12_read_31 (by decide) rfl ?_
      refine jm_bipush (pc := 33) dX12_read_33 (by decide) ?_
      refine jm_istore (pc := 35) (lv' := [(5, _), (4, _), (3, _), (0, _), (1, _), (2, _)]) dX12_read_35 (by decide) rfl ?_
      exact jm_sub [3, 4, 5, 2, 1, 0] rfl h
    · have h := h.2 q
      refine jm_if_ne (pc := 23) 28 dX12_read_23 rfl ⟨by decide, by decide⟩ (fun q => absurd q (by decide)) (fun q => ?_)
      refine jm_iconst (pc := 26) dX12_read_26 ?_
      exact jm_iret (pc := 27) dX12_read_27 rfl h
  · have h := h.2 q
    refine jm_if_eq (pc := 13) 26 dX12_read_13 rfl ⟨by decide, by decide⟩ (fun q => ?_) (fun q => absurd q (by decide))
    refine jm_iconst (pc := 26) dX12_read_26 ?_
    exact jm_iret (pc := 27) dX12_read_27 rfl h
theorem dX12_doSound_0 : decode cX12_doSound 0 = .ok (.iload_n 1, 1) := by decide +kernel
theorem dX12_doSound_1 : decode cX12_doSound 1 = .ok (.ifCond .le 31, 3) := by decide +kernel
theorem dX12_doSound_4 : decode cX12_doSound 4 = .ok (.iload_n 2, 1) := by decide +kernel
theorem dX12_doSound_5 : decode cX12_doSound 5 = .ok (.ifCond .le 27, 3) := by decide +kernel
theorem dX12_doSound_8 : decode cX12_doSound 8 = .ok (.aload_n 0, 1) := by decide +kernel
theorem dX12_doSound_9 : decode cX12_doSound 9 = .ok (.invokevirtual 434, 3) := by decide +kernel
theorem dX12_doSound_12 : decode cX12_doSound 12 = .ok (.aload_n 0, 1) := by decide +kernel
theorem dX12_doSound_13 : decode cX12_doSound 13 = .ok (.iload_n 1, 1) := by decide +kernel
theorem dX12_doSound_14 : decode cX12_doSound 14 = .ok (.iload_n 2, 1) := by decide +kernel
theorem dX12_doSound_15 : decode cX12_doSound 15 = .ok (.invokevirtual 437, 3) := by decide +kernel
theorem dX12_doSound_18 : decode cX12_doSound 18 = .ok (.bipush 12, 2) := by decide +kernel
theorem dX12_doSound_20 : decode cX12_doSound 20 = .ok (.irem, 1) := by decide +kernel
theorem dX12_doSound_21 : decode cX12_doSound 21 = .ok (.ishr, 1) := by decide +kernel
theorem dX12_doSound_22 : decode cX12_doSound 22 = .ok (.iconst 1, 1) := by decide +kernel
theorem dX12_doSound_23 : decode cX12_doSound 23 = .ok (.iand, 1) := by decide +kernel
theorem dX12_doSound_24 : decode cX12_doSound 24 = .ok (.iconst 1, 1) := by decide +kernel
theorem dX12_doSound_25 : decode cX12_doSound 25 = .ok (.if_icmp .ne 7, 3) := by decide +kernel
theorem dX12_doSound_28 : decode cX12_doSound 28 = .ok (.iconst 1, 1) := by decide +kernel
theorem dX12_doSound_29 : decode cX12_doSound 29 = .ok (.goto 4, 3) := by decide +kernel
theorem dX12_doSound_32 : decode cX12_doSound 32 = .ok (.iconst 0, 1) := by decide +kernel
theorem dX12_doSound_33 : decode cX12_doSound 33 = .ok (.ireturn, 1) := by decide +kernel
theorem eX12_doSound {l : Launch} {g : jm_G} {d : Nat} {v1 v2 : Int} (hg : jm_HR g) {mu : jm_M} {Q : Option Value → jm_M → Prop} (h : jm_rg v1 ∧ (v1 ≤ 0 → Q (some (jm_i 0)) mu) ∧ (0 < v1 → jm_rg v2 ∧ (v2 ≤ 0 → Q (some (jm_i 0)) mu) ∧ (0 < v2 → jm_R l g (d + 1) iX12_far [.ref 0, jm_i v1, jm_i v2] mu (jm_qi fun z4 m3 => (¬ (jm_and (jm_shr (jm_xor 953 (mu.1 0 9)) (Int.tmod z4 12)) 1) = 1 → Q (some (jm_i 0)) m3) ∧ ((jm_and (jm_shr (jm_xor 953 (mu.1 0 9)) (Int.tmod z4 12)) 1) = 1 → Q (some (jm_i 1)) m3))))) : jm_R l g (d + 2) iX12_doSound [.ref 0, jm_i v1, jm_i v2] mu Q := by
  refine jm_enter [(0, .ref 0), (1, jm_i v1), (2, jm_i v2)] (by decide) (Nat.le_of_ble_eq_true rfl) rfl ?_
  refine jm_mrI (fun hm0 => ?_)
  refine jm_iload_n (pc := 0) 1 dX12_doSound_0 rfl ?_
  have hg1 := h.1
  have h := h.2
  refine jm_if_le (pc := 1) 32 dX12_doSound_1 rfl hg1 (fun q => ?_) (fun q => ?_)
  · have h := h.1 q
    refine jm_iconst (pc := 32) dX12_doSound_32 ?_
    exact jm_zret (pc := 33) dX12_doSound_33 rfl (Or.inl rfl) h
  · have h := h.2 q
    refine jm_iload_n (pc := 4) 2 dX12_doSound_4 rfl ?_
    have hg2 := h.1
    have h := h.2
    refine jm_if_le (pc := 5) 32 dX12_doSound_5 rfl hg2 (fun q => ?_) (fun q => ?_)
    · have h := h.1 q
      refine jm_iconst (pc := 32) dX12_doSound_32 ?_
      exact jm_zret (pc := 33) dX12_doSound_33 rfl (Or.inl rfl) h
    · have h := h.2 q
      refine jm_aload_n (pc := 8) 0 dX12_doSound_8 rfl ?_
      refine jm_inlvi (pc := 9) (As := []) (st := []) iX12_soundNow dX12_doSound_9 mX12_434 (cR0 hg) ⟨_, rfl, rfl⟩ rfl rfl (Nat.le_of_ble_eq_true rfl) (pX12_soundNow hg  (jm_kIi ?_))
      refine jm_aload_n (pc := 12) 0 dX12_doSound_12 rfl ?_
      refine jm_iload_n (pc := 13) 1 dX12_doSound_13 rfl ?_
      refine jm_iload_n (pc := 14) 2 dX12_doSound_14 rfl ?_
      refine jm_callvi (pc := 15) (As := [_, _]) (st := [_]) iX12_far dX12_doSound_15 mX12_437 (cR0 hg) ⟨_, rfl, rfl⟩ rfl rfl (Nat.le_of_ble_eq_true rfl) h (fun z4 m3 hz5 h hm6 => ?_)
      refine jm_bipush (pc := 18) dX12_doSound_18 (by decide) ?_
      refine jm_irem (pc := 20) hz5 ⟨by decide, by decide⟩ (by decide) dX12_doSound_20 ?_
      refine jm_ishr (pc := 21) dX12_doSound_21 ?_
      refine jm_iconst (pc := 22) dX12_doSound_22 ?_
      refine jm_iand (pc := 23) dX12_doSound_23 ?_
      refine jm_iconst (pc := 24) dX12_doSound_24 ?_
      refine jm_icmp_ne (pc := 25) 32 dX12_doSound_25 rfl (jm_rgT _) ⟨by decide, by decide⟩ (fun q => ?_) (fun q => ?_)
      · have h := h.1 q
        refine jm_iconst (pc := 32) dX12_doSound_32 ?_
        exact jm_zret (pc := 33) dX12_doSound_33 rfl (Or.inl rfl) h
      · have h := h.2 q
        refine jm_iconst (pc := 28) dX12_doSound_28 ?_
        refine jm_goto (pc := 29) 33 dX12_doSound_29 rfl ?_
        exact jm_zret (pc := 33) dX12_doSound_33 rfl (Or.inr rfl) h
theorem dX12_duet_0 : decode cX12_duet 0 = .ok (.aload_n 0, 1) := by decide +kernel
theorem dX12_duet_1 : decode cX12_duet 1 = .ok (.iconst 0, 1) := by decide +kernel
theorem dX12_duet_2 : decode cX12_duet 2 = .ok (.putfield 104, 3) := by decide +kernel
theorem dX12_duet_5 : decode cX12_duet 5 = .ok (.aload_n 0, 1) := by decide +kernel
theorem dX12_duet_6 : decode cX12_duet 6 = .ok (.iload_n 1, 1) := by decide +kernel
theorem dX12_duet_7 : decode cX12_duet 7 = .ok (.invokevirtual 385, 3) := by decide +kernel
theorem dX12_duet_10 : decode cX12_duet 10 = .ok (.ifCond .eq 11, 3) := by decide +kernel
theorem dX12_duet_13 : decode cX12_duet 13 = .ok (.aload_n 0, 1) := by decide +kernel
theorem dX12_duet_14 : decode cX12_duet 14 = .ok (.iload_n 2, 1) := by decide +kernel
theorem dX12_duet_15 : decode cX12_duet 15 = .ok (.invokevirtual 385, 3) := by decide +kernel
theorem dX12_duet_18 : decode cX12_duet 18 = .ok (.ifCond .ne 5, 3) := by decide +kernel
theorem dX12_duet_21 : decode cX12_duet 21 = .ok (.iconst (-1), 1) := by decide +kernel
theorem dX12_duet_22 : decode cX12_duet 22 = .ok (.ireturn, 1) := by decide +kernel
theorem dX12_duet_23 : decode cX12_duet 23 = .ok (.iconst 0, 1) := by decide +kernel
theorem dX12_duet_24 : decode cX12_duet 24 = .ok (.istore_n 3, 1) := by decide +kernel
theorem dX12_duet_25 : decode cX12_duet 25 = .ok (.iconst 0, 1) := by decide +kernel
theorem dX12_duet_26 : decode cX12_duet 26 = .ok (.istore 4, 2) := by decide +kernel
theorem dX12_duet_28 : decode cX12_duet 28 = .ok (.iload 4, 2) := by decide +kernel
theorem dX12_duet_30 : decode cX12_duet 30 = .ok (.aload_n 0, 1) := by decide +kernel
theorem dX12_duet_31 : decode cX12_duet 31 = .ok (.iload_n 1, 1) := by decide +kernel
theorem dX12_duet_32 : decode cX12_duet 32 = .ok (.iconst 5, 1) := by decide +kernel
theorem dX12_duet_33 : decode cX12_duet 33 = .ok (.invokevirtual 314, 3) := by decide +kernel
theorem dX12_duet_36 : decode cX12_duet 36 = .ok (.if_icmp .ge 59, 3) := by decide +kernel
theorem dX12_duet_39 : decode cX12_duet 39 = .ok (.iload 4, 2) := by decide +kernel
theorem dX12_duet_41 : decode cX12_duet 41 = .ok (.aload_n 0, 1) := by decide +kernel
theorem dX12_duet_42 : decode cX12_duet 42 = .ok (.iload_n 2, 1) := by decide +kernel
theorem dX12_duet_43 : decode cX12_duet 43 = .ok (.iconst 5, 1) := by decide +kernel
theorem dX12_duet_44 : decode cX12_duet 44 = .ok (.invokevirtual 314, 3) := by decide +kernel
theorem dX12_duet_47 : decode cX12_duet 47 = .ok (.if_icmp .ge 48, 3) := by decide +kernel
theorem dX12_duet_50 : decode cX12_duet 50 = .ok (.aload_n 0, 1) := by decide +kernel
theorem dX12_duet_51 : decode cX12_duet 51 = .ok (.aload_n 0, 1) := by decide +kernel
theorem dX12_duet_52 : decode cX12_duet 52 = .ok (.getfield 86, 3) := by decide +kernel
theorem dX12_duet_55 : decode cX12_duet 55 = .ok (.aload_n 0, 1) := by decide +kernel
theorem dX12_duet_56 : decode cX12_duet 56 = .ok (.iload_n 1, 1) := by decide +kernel
theorem dX12_duet_57 : decode cX12_duet 57 = .ok (.iconst 4, 1) := by decide +kernel
theorem dX12_duet_58 : decode cX12_duet 58 = .ok (.invokevirtual 314, 3) := by decide +kernel
theorem dX12_duet_61 : decode cX12_duet 61 = .ok (.iload 4, 2) := by decide +kernel
theorem dX12_duet_63 : decode cX12_duet 63 = .ok (.iadd, 1) := by decide +kernel
theorem dX12_duet_64 : decode cX12_duet 64 = .ok (.iaload, 1) := by decide +kernel
theorem dX12_duet_65 : decode cX12_duet 65 = .ok (.aload_n 0, 1) := by decide +kernel
theorem dX12_duet_66 : decode cX12_duet 66 = .ok (.getfield 86, 3) := by decide +kernel
theorem dX12_duet_69 : decode cX12_duet 69 = .ok (.aload_n 0, 1) := by decide +kernel
theorem dX12_duet_70 : decode cX12_duet 70 = .ok (.iload_n 2, 1) := by decide +kernel
theorem dX12_duet_71 : decode cX12_duet 71 = .ok (.iconst 4, 1) := by decide +kernel
theorem dX12_duet_72 : decode cX12_duet 72 = .ok (.invokevirtual 314, 3) := by decide +kernel
theorem dX12_duet_75 : decode cX12_duet 75 = .ok (.iload 4, 2) := by decide +kernel
theorem dX12_duet_77 : decode cX12_duet 77 = .ok (.iadd, 1) := by decide +kernel
theorem dX12_duet_78 : decode cX12_duet 78 = .ok (.iaload, 1) := by decide +kernel
theorem dX12_duet_79 : decode cX12_duet 79 = .ok (.invokevirtual 440, 3) := by decide +kernel
theorem dX12_duet_82 : decode cX12_duet 82 = .ok (.ifCond .eq 7, 3) := by decide +kernel
theorem dX12_duet_85 : decode cX12_duet 85 = .ok (.iload_n 3, 1) := by decide +kernel
theorem dX12_duet_86 : decode cX12_duet 86 = .ok (.iconst 1, 1) := by decide +kernel
theorem dX12_duet_87 : decode cX12_duet 87 = .ok (.iadd, 1) := by decide +kernel
theorem dX12_duet_88 : decode cX12_duet 88 = .ok (.istore_n 3, 1) := by decide +kernel
theorem dX12_duet_89 : decode cX12_duet 89 = .ok (.iinc 4 1, 3) := by decide +kernel
theorem dX12_duet_92 : decode cX12_duet 92 = .ok (.goto (-64), 3) := by decide +kernel
theorem dX12_duet_95 : decode cX12_duet 95 = .ok (.iload_n 3, 1) := by decide +kernel
theorem dX12_duet_96 : decode cX12_duet 96 = .ok (.ireturn, 1) := by decide +kernel
theorem bX12_duet_28 {l : Launch} {g : jm_G} {d : Nat} {v1 v2 v3 v4 : Int} (hg : jm_HR g) {mu : jm_M} {Q : Option Value → jm_M → Prop} (h : (0 ≤ ((6 * v1) + 5) ∧ ((6 * v1) + 5) < 120) ∧ jm_rg v4 ∧ ((mu.1 24 ((6 * v1) + 5)) ≤ v4 → Q (some (jm_i v3)) mu) ∧ (v4 < (mu.1 24 ((6 * v1) + 5)) → (0 ≤ ((6 * v2) + 5) ∧ ((6 * v2) + 5) < 120) ∧ ((mu.1 24 ((6 * v2) + 5)) ≤ v4 → Q (some (jm_i v3)) mu) ∧ (v4 < (mu.1 24 ((6 * v2) + 5)) → (0 ≤ ((6 * v1) + 4) ∧ ((6 * v1) + 4) < 120) ∧ (0 ≤ ((mu.1 24 ((6 * v1) + 4)) + v4) ∧ ((mu.1 24 ((6 * v1) + 4)) + v4) < 200) ∧ (0 ≤ ((6 * v2) + 4) ∧ ((6 * v2) + 4) < 120) ∧ (0 ≤ ((mu.1 24 ((6 * v2) + 4)) + v4) ∧ ((mu.1 24 ((6 * v2) + 4)) + v4) < 200) ∧ jm_R l g (d + 1) iX12_doSound [.ref 0, jm_i (mu.1 25 ((mu.1 24 ((6 * v1) + 4)) + v4)), jm_i (mu.1 25 ((mu.1 24 ((6 * v2) + 4)) + v4))] mu (jm_qi fun z9 m8 => (z9 = 0 → jm_V l g (d + 2) iX12_duet 28 [(0, .ref 0), (1, jm_i v1), (2, jm_i v2), (3, jm_i v3), (4, jm_i (v4 + 1))] [] m8 Q) ∧ (¬ z9 = 0 → ∀ x12, x12 = (v3 + 1) → jm_V l g (d + 2) iX12_duet 28 [(0, .ref 0), (1, jm_i v1), (2, jm_i v2), (3, jm_i x12), (4, jm_i (v4 + 1))] [] m8 Q))))) : jm_V l g (d + 2) iX12_duet 28 [(0, .ref 0), (1, jm_i v1), (2, jm_i v2), (3, jm_i v3), (4, jm_i v4)] [] mu Q := by
  refine jm_mrI (fun hm0 => ?_)
  refine jm_iload (pc := 28) 4 dX12_duet_28 rfl ?_
  refine jm_aload_n (pc := 30) 0 dX12_duet_30 rfl ?_
  refine jm_iload_n (pc := 31) 1 dX12_duet_31 rfl ?_
  refine jm_iconst (pc := 32) dX12_duet_32 ?_
  have hg1 := h.1
  have h := h.2
  refine jm_inlvi (pc := 33) (As := [_, _]) (st := [_]) iX12_ofTestimony dX12_duet_33 mX12_314 (cR0 hg) ⟨_, rfl, rfl⟩ rfl rfl (Nat.le_of_ble_eq_true rfl) (pX12_ofTestimony hg hg1 (jm_kIi ?_))
  have hg2 := h.1
  have h := h.2
  refine jm_icmp_ge (pc := 36) 95 dX12_duet_36 rfl hg2 (hm0 _ _) (fun q => ?_) (fun q => ?_)
  · have h := h.1 q
    refine jm_iload_n (pc := 95) 3 dX12_duet_95 rfl ?_
    exact jm_iret (pc := 96) dX12_duet_96 rfl h
  · have h := h.2 q
    refine jm_iload (pc := 39) 4 dX12_duet_39 rfl ?_
    refine jm_aload_n (pc := 41) 0 dX12_duet_41 rfl ?_
    refine jm_iload_n (pc := 42) 2 dX12_duet_42 rfl ?_
    refine jm_iconst (pc := 43) dX12_duet_43 ?_
    have hg3 := h.1
    have h := h.2
    refine jm_inlvi (pc := 44) (As := [_, _]) (st := [_]) iX12_ofTestimony dX12_duet_44 mX12_314 (cR0 hg) ⟨_, rfl, rfl⟩ rfl rfl (Nat.le_of_ble_eq_true rfl) (pX12_ofTestimony hg hg3 (jm_kIi ?_))
    refine jm_icmp_ge (pc := 47) 95 dX12_duet_47 rfl hg2 (hm0 _ _) (fun q => ?_) (fun q => ?_)
    · have h := h.1 q
      refine jm_iload_n (pc := 95) 3 dX12_duet_95 rfl ?_
      exact jm_iret (pc := 96) dX12_duet_96 rfl h
    · have h := h.2 q
      refine jm_aload_n (pc := 50) 0 dX12_duet_50 rfl ?_
      refine jm_aload_n (pc := 51) 0 dX12_duet_51 rfl ?_
      refine jm_getr (pc := 52) 46 dX12_duet_52 fX12_86 (cR0 hg) rfl ?_
      refine jm_aload_n (pc := 55) 0 dX12_duet_55 rfl ?_
      refine jm_iload_n (pc := 56) 1 dX12_duet_56 rfl ?_
      refine jm_iconst (pc := 57) dX12_duet_57 ?_
      have hg4 := h.1
      have h := h.2
      refine jm_inlvi (pc := 58) (As := [_, _]) (st := [_, _]) iX12_ofTestimony dX12_duet_58 mX12_314 (cR0 hg) ⟨_, rfl, rfl⟩ rfl rfl (Nat.le_of_ble_eq_true rfl) (pX12_ofTestimony hg hg4 (jm_kIi ?_))
      refine jm_iload (pc := 61) 4 dX12_duet_61 rfl ?_
      refine jm_iadd (pc := 63) dX12_duet_63 ?_
      have hg5 := h.1
      have h := h.2
      refine jm_iald (pc := 64) dX12_duet_64 (cR25 hg) (by decide) hg5.1 hg5.2 ?_
      refine jm_aload_n (pc := 65) 0 dX12_duet_65 rfl ?_
      refine jm_getr (pc := 66) 46 dX12_duet_66 fX12_86 (cR0 hg) rfl ?_
      refine jm_aload_n (pc := 69) 0 dX12_duet_69 rfl ?_
      refine jm_iload_n (pc := 70) 2 dX12_duet_70 rfl ?_
      refine jm_iconst (pc := 71) dX12_duet_71 ?_
      have hg6 := h.1
      have h := h.2
      refine jm_inlvi (pc := 72) (As := [_, _]) (st := [_, _, _]) iX12_ofTestimony dX12_duet_72 mX12_314 (cR0 hg) ⟨_, rfl, rfl⟩ rfl rfl (Nat.le_of_ble_eq_true rfl) (pX12_ofTestimony hg hg6 (jm_kIi ?_))
      refine jm_iload (pc := 75) 4 dX12_duet_75 rfl ?_
      refine jm_iadd (pc := 77) dX12_duet_77 ?_
      have hg7 := h.1
      have h := h.2
      refine jm_iald (pc := 78) dX12_duet_78 (cR25 hg) (by decide) hg7.1 hg7.2 ?_
      refine jm_callvi (pc := 79) (As := [_, _]) (st := []) iX12_doSound dX12_duet_79 mX12_440 (cR0 hg) ⟨_, rfl, rfl⟩ rfl rfl (Nat.le_of_ble_eq_true rfl) h (fun z9 m8 hz10 h hm11 => ?_)
      refine jm_if_eq (pc := 82) 89 dX12_duet_82 rfl hz10 (fun q => ?_) (fun q => ?_)
      · have h := h.1 q
        refine jm_iinc (pc := 89) (lv' := [(4, _), (0, _), (1, _), (2, _), (3, _)]) 4 dX12_duet_89 rfl (by decide) rfl ?_
        refine jm_goto (pc := 92) 28 dX12_duet_92 rfl ?_
        exact jm_sub [1, 2, 3, 4, 0] rfl h
      · have h := h.2 q
        refine jm_iload_n (pc := 85) 3 dX12_duet_85 rfl ?_
        refine jm_iconst (pc := 86) dX12_duet_86 ?_
        refine jm_iadd (pc := 87) dX12_duet_87 ?_
        have h := h _ rfl
        refine jm_istore_n (pc := 88) (lv' := [(3, _), (0, _), (1, _), (2, _), (4, _)]) dX12_duet_88 (by decide) rfl ?_
        refine jm_iinc (pc := 89) (lv' := [(4, _), (3, _), (0, _), (1, _), (2, _)]) 4 dX12_duet_89 rfl (by decide) rfl ?_
        refine jm_goto (pc := 92) 28 dX12_duet_92 rfl ?_
        exact jm_sub [2, 3, 4, 1, 0] rfl h
theorem eX12_duet {l : Launch} {g : jm_G} {d : Nat} {v1 v2 : Int} (hg : jm_HR g) {mu : jm_M} {Q : Option Value → jm_M → Prop} (h : ∀ m1, m1 = jm_wr mu 0 0 0 → jm_rg v1 ∧ (0 ≤ v1 ∧ v1 < (m1.1 1 4) → jm_rg v2 ∧ (0 ≤ v2 ∧ v2 < (m1.1 1 4) → jm_V l g (d + 2) iX12_duet 28 [(0, .ref 0), (1, jm_i v1), (2, jm_i v2), (3, jm_i 0), (4, jm_i 0)] [] m1 Q) ∧ (¬ (0 ≤ v2 ∧ v2 < (m1.1 1 4)) → Q (some (jm_i (-1))) m1)) ∧ (¬ (0 ≤ v1 ∧ v1 < (m1.1 1 4)) → Q (some (jm_i (-1))) m1)) : jm_R l g (d + 2) iX12_duet [.ref 0, jm_i v1, jm_i v2] mu Q := by
  refine jm_enter [(0, .ref 0), (1, jm_i v1), (2, jm_i v2)] (by decide) (Nat.le_of_ble_eq_true rfl) rfl ?_
  refine jm_mrI (fun hm0 => ?_)
  refine jm_aload_n (pc := 0) 0 dX12_duet_0 rfl ?_
  refine jm_iconst (pc := 1) dX12_duet_1 ?_
  refine jm_put (pc := 2) 0 dX12_duet_2 fX12_104 ftX12 (fun q h => by cases h; rfl) (jm_nI _) (jm_fI _) (cR0 hg) rfl ⟨by decide, by decide⟩ ?_
  have h := h _ rfl
  refine jm_mrI (fun hm2 => ?_)
  refine jm_aload_n (pc := 5) 0 dX12_duet_5 rfl ?_
  refine jm_iload_n (pc := 6) 1 dX12_duet_6 rfl ?_
  have hg3 := h.1
  have h := h.2
  refine jm_inlvi (pc := 7) (As := [_]) (st := []) iX12_isTestimony dX12_duet_7 mX12_385 (cR0 hg) ⟨_, rfl, rfl⟩ rfl rfl (Nat.le_of_ble_eq_true rfl) (pX12_isTestimony hg hg3 (fun q => jm_kIi ?_) (fun q => jm_kIi ?_))
  · have h := h.1 q
    refine jm_if_eq (pc := 10) 21 dX12_duet_10 rfl ⟨by decide, by decide⟩ (fun q => absurd q (by decide)) (fun q => ?_)
    refine jm_aload_n (pc := 13) 0 dX12_duet_13 rfl ?_
    refine jm_iload_n (pc := 14) 2 dX12_duet_14 rfl ?_
    have hg4 := h.1
    have h := h.2
    refine jm_inlvi (pc := 15) (As := [_]) (st := []) iX12_isTestimony dX12_duet_15 mX12_385 (cR0 hg) ⟨_, rfl, rfl⟩ rfl rfl (Nat.le_of_ble_eq_true rfl) (pX12_isTestimony hg hg4 (fun q => jm_kIi ?_) (fun q => jm_kIi ?_))
    · have h := h.1 q
      refine jm_if_ne (pc := 18) 23 dX12_duet_18 rfl ⟨by decide, by decide⟩ (fun q => ?_) (fun q => absurd q (by decide))
      refine jm_iconst (pc := 23) dX12_duet_23 ?_
      refine jm_istore_n (pc := 24) (lv' := [(3, _), (0, _), (1, _), (2, _)]) dX12_duet_24 (by decide) rfl ?_
      refine jm_iconst (pc := 25) dX12_duet_25 ?_
      refine jm_istore (pc := 26) (lv' := [(4, _), (3, _), (0, _), (1, _), (2, _)]) dX12_duet_26 (by decide) rfl ?_
      exact jm_sub [2, 3, 4, 1, 0] rfl h
    · have h := h.2 q
      refine jm_if_ne (pc := 18) 23 dX12_duet_18 rfl ⟨by decide, by decide⟩ (fun q => absurd q (by decide)) (fun q => ?_)
      refine jm_iconst (pc := 21) dX12_duet_21 ?_
      exact jm_iret (pc := 22) dX12_duet_22 rfl h
  · have h := h.2 q
    refine jm_if_eq (pc := 10) 21 dX12_duet_10 rfl ⟨by decide, by decide⟩ (fun q => ?_) (fun q => absurd q (by decide))
    refine jm_iconst (pc := 21) dX12_duet_21 ?_
    exact jm_iret (pc := 22) dX12_duet_22 rfl h
theorem dX12_soundsWith_0 : decode cX12_soundsWith 0 = .ok (.iconst 0, 1) := by decide +kernel
theorem dX12_soundsWith_1 : decode cX12_soundsWith 1 = .ok (.istore 4, 2) := by decide +kernel
theorem dX12_soundsWith_3 : decode cX12_soundsWith 3 = .ok (.iconst 0, 1) := by decide +kernel
theorem dX12_soundsWith_4 : decode cX12_soundsWith 4 = .ok (.istore 5, 2) := by decide +kernel
theorem dX12_soundsWith_6 : decode cX12_soundsWith 6 = .ok (.iload 5, 2) := by decide +kernel
theorem dX12_soundsWith_8 : decode cX12_soundsWith 8 = .ok (.aload_n 0, 1) := by decide +kernel
theorem dX12_soundsWith_9 : decode cX12_soundsWith 9 = .ok (.iload_n 1, 1) := by decide +kernel
theorem dX12_soundsWith_10 : decode cX12_soundsWith 10 = .ok (.invokevirtual 335, 3) := by decide +kernel
theorem dX12_soundsWith_13 : decode cX12_soundsWith 13 = .ok (.if_icmp .ge 58, 3) := by decide +kernel
theorem dX12_soundsWith_16 : decode cX12_soundsWith 16 = .ok (.iload 5, 2) := by decide +kernel
theorem dX12_soundsWith_18 : decode cX12_soundsWith 18 = .ok (.aload_n 0, 1) := by decide +kernel
theorem dX12_soundsWith_19 : decode cX12_soundsWith 19 = .ok (.iload_n 3, 1) := by decide +kernel
theorem dX12_soundsWith_20 : decode cX12_soundsWith 20 = .ok (.iconst 5, 1) := by decide +kernel
theorem dX12_soundsWith_21 : decode cX12_soundsWith 21 = .ok (.invokevirtual 314, 3) := by decide +kernel
theorem dX12_soundsWith_24 : decode cX12_soundsWith 24 = .ok (.if_icmp .ge 47, 3) := by decide +kernel
theorem dX12_soundsWith_27 : decode cX12_soundsWith 27 = .ok (.aload_n 0, 1) := by decide +kernel
theorem dX12_soundsWith_28 : decode cX12_soundsWith 28 = .ok (.iload_n 2, 1) := by decide +kernel
theorem dX12_soundsWith_29 : decode cX12_soundsWith 29 = .ok (.iconst 1, 1) := by decide +kernel
theorem dX12_soundsWith_30 : decode cX12_soundsWith 30 = .ok (.iadd, 1) := by decide +kernel
theorem dX12_soundsWith_31 : decode cX12_soundsWith 31 = .ok (.aload_n 0, 1) := by decide +kernel
theorem dX12_soundsWith_32 : decode cX12_soundsWith 32 = .ok (.iload_n 1, 1) := by decide +kernel
theorem dX12_soundsWith_33 : decode cX12_soundsWith 33 = .ok (.iload 5, 2) := by decide +kernel
theorem dX12_soundsWith_35 : decode cX12_soundsWith 35 = .ok (.invokevirtual 338, 3) := by decide +kernel
theorem dX12_soundsWith_38 : decode cX12_soundsWith 38 = .ok (.iadd, 1) := by decide +kernel
theorem dX12_soundsWith_39 : decode cX12_soundsWith 39 = .ok (.aload_n 0, 1) := by decide +kernel
theorem dX12_soundsWith_40 : decode cX12_soundsWith 40 = .ok (.getfield 86, 3) := by decide +kernel
theorem dX12_soundsWith_43 : decode cX12_soundsWith 43 = .ok (.aload_n 0, 1) := by decide +kernel
theorem dX12_soundsWith_44 : decode cX12_soundsWith 44 = .ok (.iload_n 3, 1) := by decide +kernel
theorem dX12_soundsWith_45 : decode cX12_soundsWith 45 = .ok (.iconst 4, 1) := by decide +kernel
theorem dX12_soundsWith_46 : decode cX12_soundsWith 46 = .ok (.invokevirtual 314, 3) := by decide +kernel
theorem dX12_soundsWith_49 : decode cX12_soundsWith 49 = .ok (.iload 5, 2) := by decide +kernel
theorem dX12_soundsWith_51 : decode cX12_soundsWith 51 = .ok (.iadd, 1) := by decide +kernel
theorem dX12_soundsWith_52 : decode cX12_soundsWith 52 = .ok (.iaload, 1) := by decide +kernel
theorem dX12_soundsWith_53 : decode cX12_soundsWith 53 = .ok (.invokevirtual 440, 3) := by decide +kernel
theorem dX12_soundsWith_56 : decode cX12_soundsWith 56 = .ok (.ifCond .eq 9, 3) := by decide +kernel
theorem dX12_soundsWith_59 : decode cX12_soundsWith 59 = .ok (.iload 4, 2) := by decide +kernel
theorem dX12_soundsWith_61 : decode cX12_soundsWith 61 = .ok (.iconst 1, 1) := by decide +kernel
theorem dX12_soundsWith_62 : decode cX12_soundsWith 62 = .ok (.iadd, 1) := by decide +kernel
theorem dX12_soundsWith_63 : decode cX12_soundsWith 63 = .ok (.istore 4, 2) := by decide +kernel
theorem dX12_soundsWith_65 : decode cX12_soundsWith 65 = .ok (.iinc 5 1, 3) := by decide +kernel
theorem dX12_soundsWith_68 : decode cX12_soundsWith 68 = .ok (.goto (-62), 3) := by decide +kernel
theorem dX12_soundsWith_71 : decode cX12_soundsWith 71 = .ok (.iload 4, 2) := by decide +kernel
theorem dX12_soundsWith_73 : decode cX12_soundsWith 73 = .ok (.ireturn, 1) := by decide +kernel
theorem bX12_soundsWith_6 {l : Launch} {g : jm_G} {d : Nat} {v1 v2 v3 v4 v5 : Int} (hg : jm_HR g) {mu : jm_M} {Q : Option Value → jm_M → Prop} (h : (0 ≤ (8 * v1) ∧ (8 * v1) < 384) ∧ jm_rg v5 ∧ ((mu.1 17 (8 * v1)) ≤ v5 → Q (some (jm_i v4)) mu) ∧ (v5 < (mu.1 17 (8 * v1)) → (0 ≤ ((6 * v3) + 5) ∧ ((6 * v3) + 5) < 120) ∧ ((mu.1 24 ((6 * v3) + 5)) ≤ v5 → Q (some (jm_i v4)) mu) ∧ (v5 < (mu.1 24 ((6 * v3) + 5)) → jm_R l g (d + 1) iX12_aboveOf [.ref 0, jm_i v1, jm_i v5] mu (jm_qi fun z5 m4 => (0 ≤ ((6 * v3) + 4) ∧ ((6 * v3) + 4) < 120) ∧ (0 ≤ ((m4.1 24 ((6 * v3) + 4)) + v5) ∧ ((m4.1 24 ((6 * v3) + 4)) + v5) < 200) ∧ jm_R l g (d + 1) iX12_doSound [.ref 0, jm_i ((v2 + 1) + z5), jm_i (m4.1 25 ((m4.1 24 ((6 * v3) + 4)) + v5))] m4 (jm_qi fun z11 m10 => (z11 = 0 → jm_V l g (d + 2) iX12_soundsWith 6 [(0, .ref 0), (1, jm_i v1), (2, jm_i v2), (3, jm_i v3), (4, jm_i v4), (5, jm_i (v5 + 1))] [] m10 Q) ∧ (¬ z11 = 0 → ∀ x14, x14 = (v4 + 1) → jm_V l g (d + 2) iX12_soundsWith 6 [(0, .ref 0), (1, jm_i v1), (2, jm_i v2), (3, jm_i v3), (4, jm_i x14), (5, jm_i (v5 + 1))] [] m10 Q)))))) : jm_V l g (d + 2) iX12_soundsWith 6 [(0, .ref 0), (1, jm_i v1), (2, jm_i v2), (3, jm_i v3), (4, jm_i v4), (5, jm_i v5)] [] mu Q := by
  refine jm_mrI (fun hm0 => ?_)
  refine jm_iload (pc := 6) 5 dX12_soundsWith_6 rfl ?_
  refine jm_aload_n (pc := 8) 0 dX12_soundsWith_8 rfl ?_
  refine jm_iload_n (pc := 9) 1 dX12_soundsWith_9 rfl ?_
  have hg1 := h.1
  have h := h.2
  refine jm_inlvi (pc := 10) (As := [_]) (st := [_]) iX12_notesOf dX12_soundsWith_10 mX12_335 (cR0 hg) ⟨_, rfl, rfl⟩ rfl rfl (Nat.le_of_ble_eq_true rfl) (pX12_notesOf hg hg1 (jm_kIi ?_))
  have hg2 := h.1
  have h := h.2
  refine jm_icmp_ge (pc := 13) 71 dX12_soundsWith_13 rfl hg2 (hm0 _ _) (fun q => ?_) (fun q => ?_)
  · have h := h.1 q
    refine jm_iload (pc := 71) 4 dX12_soundsWith_71 rfl ?_
    exact jm_iret (pc := 73) dX12_soundsWith_73 rfl h
  · have h := h.2 q
    refine jm_iload (pc := 16) 5 dX12_soundsWith_16 rfl ?_
    refine jm_aload_n (pc := 18) 0 dX12_soundsWith_18 rfl ?_
    refine jm_iload_n (pc := 19) 3 dX12_soundsWith_19 rfl ?_
    refine jm_iconst (pc := 20) dX12_soundsWith_20 ?_
    have hg3 := h.1
    have h := h.2
    refine jm_inlvi (pc := 21) (As := [_, _]) (st := [_]) iX12_ofTestimony dX12_soundsWith_21 mX12_314 (cR0 hg) ⟨_, rfl, rfl⟩ rfl rfl (Nat.le_of_ble_eq_true rfl) (pX12_ofTestimony hg hg3 (jm_kIi ?_))
    refine jm_icmp_ge (pc := 24) 71 dX12_soundsWith_24 rfl hg2 (hm0 _ _) (fun q => ?_) (fun q => ?_)
    · have h := h.1 q
      refine jm_iload (pc := 71) 4 dX12_soundsWith_71 rfl ?_
      exact jm_iret (pc := 73) dX12_soundsWith_73 rfl h
    · have h := h.2 q
      refine jm_aload_n (pc := 27) 0 dX12_soundsWith_27 rfl ?_
      refine jm_iload_n (pc := 28) 2 dX12_soundsWith_28 rfl ?_
      refine jm_iconst (pc := 29) dX12_soundsWith_29 ?_
      refine jm_iadd (pc := 30) dX12_soundsWith_30 ?_
      refine jm_aload_n (pc := 31) 0 dX12_soundsWith_31 rfl ?_
      refine jm_iload_n (pc := 32) 1 dX12_soundsWith_32 rfl ?_
      refine jm_iload (pc := 33) 5 dX12_soundsWith_33 rfl ?_
      refine jm_callvi (pc := 35) (As := [_, _]) (st := [_, _]) iX12_aboveOf dX12_soundsWith_35 mX12_338 (cR0 hg) ⟨_, rfl, rfl⟩ rfl rfl (Nat.le_of_ble_eq_true rfl) h (fun z5 m4 hz6 h hm7 => ?_)
      refine jm_iadd (pc := 38) dX12_soundsWith_38 ?_
      refine jm_aload_n (pc := 39) 0 dX12_soundsWith_39 rfl ?_
      refine jm_getr (pc := 40) 46 dX12_soundsWith_40 fX12_86 (cR0 hg) rfl ?_
      refine jm_aload_n (pc := 43) 0 dX12_soundsWith_43 rfl ?_
      refine jm_iload_n (pc := 44) 3 dX12_soundsWith_44 rfl ?_
      refine jm_iconst (pc := 45) dX12_soundsWith_45 ?_
      have hg8 := h.1
      have h := h.2
      refine jm_inlvi (pc := 46) (As := [_, _]) (st := [_, _, _]) iX12_ofTestimony dX12_soundsWith_46 mX12_314 (cR0 hg) ⟨_, rfl, rfl⟩ rfl rfl (Nat.le_of_ble_eq_true rfl) (pX12_ofTestimony hg hg8 (jm_kIi ?_))
      refine jm_iload (pc := 49) 5 dX12_soundsWith_49 rfl ?_
      refine jm_iadd (pc := 51) dX12_soundsWith_51 ?_
      have hg9 := h.1
      have h := h.2
      refine jm_iald (pc := 52) dX12_soundsWith_52 (cR25 hg) (by decide) hg9.1 hg9.2 ?_
      refine jm_callvi (pc := 53) (As := [_, _]) (st := []) iX12_doSound dX12_soundsWith_53 mX12_440 (cR0 hg) ⟨_, rfl, rfl⟩ rfl rfl (Nat.le_of_ble_eq_true rfl) h (fun z11 m10 hz12 h hm13 => ?_)
      refine jm_if_eq (pc := 56) 65 dX12_soundsWith_56 rfl hz12 (fun q => ?_) (fun q => ?_)
      · have h := h.1 q
        refine jm_iinc (pc := 65) (lv' := [(5, _), (0, _), (1, _), (2, _), (3, _), (4, _)]) 5 dX12_soundsWith_65 rfl (by decide) rfl ?_
        refine jm_goto (pc := 68) 6 dX12_soundsWith_68 rfl ?_
        exact jm_sub [1, 2, 3, 4, 5, 0] rfl h
      · have h := h.2 q
        refine jm_iload (pc := 59) 4 dX12_soundsWith_59 rfl ?_
        refine jm_iconst (pc := 61) dX12_soundsWith_61 ?_
        refine jm_iadd (pc := 62) dX12_soundsWith_62 ?_
        have h := h _ rfl
        refine jm_istore (pc := 63) (lv' := [(4, _), (0, _), (1, _), (2, _), (3, _), (5, _)]) dX12_soundsWith_63 (by decide) rfl ?_
        refine jm_iinc (pc := 65) (lv' := [(5, _), (4, _), (0, _), (1, _), (2, _), (3, _)]) 5 dX12_soundsWith_65 rfl (by decide) rfl ?_
        refine jm_goto (pc := 68) 6 dX12_soundsWith_68 rfl ?_
        exact jm_sub [2, 3, 4, 5, 1, 0] rfl h
theorem eX12_soundsWith {l : Launch} {g : jm_G} {d : Nat} {v1 v2 v3 : Int} (hg : jm_HR g) {mu : jm_M} {Q : Option Value → jm_M → Prop} (h : jm_V l g (d + 2) iX12_soundsWith 6 [(0, .ref 0), (1, jm_i v1), (2, jm_i v2), (3, jm_i v3), (4, jm_i 0), (5, jm_i 0)] [] mu Q) : jm_R l g (d + 2) iX12_soundsWith [.ref 0, jm_i v1, jm_i v2, jm_i v3] mu Q := by
  refine jm_enter [(0, .ref 0), (1, jm_i v1), (2, jm_i v2), (3, jm_i v3)] (by decide) (Nat.le_of_ble_eq_true rfl) rfl ?_
  refine jm_mrI (fun hm0 => ?_)
  refine jm_iconst (pc := 0) dX12_soundsWith_0 ?_
  refine jm_istore (pc := 1) (lv' := [(4, _), (0, _), (1, _), (2, _), (3, _)]) dX12_soundsWith_1 (by decide) rfl ?_
  refine jm_iconst (pc := 3) dX12_soundsWith_3 ?_
  refine jm_istore (pc := 4) (lv' := [(5, _), (4, _), (0, _), (1, _), (2, _), (3, _)]) dX12_soundsWith_4 (by decide) rfl ?_
  exact jm_sub [2, 3, 4, 5, 1, 0] rfl h
