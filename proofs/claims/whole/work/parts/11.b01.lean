theorem dX4_readSum_0 : decode cX4_readSum 0 = .ok (.aload_n 0, 1) := by decide +kernel
theorem dX4_readSum_1 : decode cX4_readSum 1 = .ok (.invokevirtual 74, 3) := by decide +kernel
theorem dX4_readSum_4 : decode cX4_readSum 4 = .ok (.ifCond .ne 5, 3) := by decide +kernel
theorem dX4_readSum_7 : decode cX4_readSum 7 = .ok (.iconst 0, 1) := by decide +kernel
theorem dX4_readSum_8 : decode cX4_readSum 8 = .ok (.ireturn, 1) := by decide +kernel
theorem dX4_readSum_9 : decode cX4_readSum 9 = .ok (.iconst 0, 1) := by decide +kernel
theorem dX4_readSum_10 : decode cX4_readSum 10 = .ok (.istore_n 1, 1) := by decide +kernel
theorem dX4_readSum_11 : decode cX4_readSum 11 = .ok (.iload_n 1, 1) := by decide +kernel
theorem dX4_readSum_12 : decode cX4_readSum 12 = .ok (.sipush 400, 3) := by decide +kernel
theorem dX4_readSum_15 : decode cX4_readSum 15 = .ok (.if_icmp .ge 68, 3) := by decide +kernel
theorem dX4_readSum_18 : decode cX4_readSum 18 = .ok (.aload_n 0, 1) := by decide +kernel
theorem dX4_readSum_19 : decode cX4_readSum 19 = .ok (.getfield 17, 3) := by decide +kernel
theorem dX4_readSum_22 : decode cX4_readSum 22 = .ok (.invokevirtual 28, 3) := by decide +kernel
theorem dX4_readSum_25 : decode cX4_readSum 25 = .ok (.istore_n 2, 1) := by decide +kernel
theorem dX4_readSum_26 : decode cX4_readSum 26 = .ok (.iload_n 2, 1) := by decide +kernel
theorem dX4_readSum_27 : decode cX4_readSum 27 = .ok (.bipush 43, 2) := by decide +kernel
theorem dX4_readSum_29 : decode cX4_readSum 29 = .ok (.if_icmp .eq 11, 3) := by decide +kernel
theorem dX4_readSum_32 : decode cX4_readSum 32 = .ok (.iload_n 2, 1) := by decide +kernel
theorem dX4_readSum_33 : decode cX4_readSum 33 = .ok (.bipush 45, 2) := by decide +kernel
theorem dX4_readSum_35 : decode cX4_readSum 35 = .ok (.if_icmp .eq 5, 3) := by decide +kernel
theorem dX4_readSum_38 : decode cX4_readSum 38 = .ok (.iconst 1, 1) := by decide +kernel
theorem dX4_readSum_39 : decode cX4_readSum 39 = .ok (.ireturn, 1) := by decide +kernel
theorem dX4_readSum_40 : decode cX4_readSum 40 = .ok (.aload_n 0, 1) := by decide +kernel
theorem dX4_readSum_41 : decode cX4_readSum 41 = .ok (.getfield 17, 3) := by decide +kernel
theorem dX4_readSum_44 : decode cX4_readSum 44 = .ok (.invokevirtual 40, 3) := by decide +kernel
theorem dX4_readSum_47 : decode cX4_readSum 47 = .ok (.aload_n 0, 1) := by decide +kernel
theorem dX4_readSum_48 : decode cX4_readSum 48 = .ok (.invokevirtual 74, 3) := by decide +kernel
theorem dX4_readSum_51 : decode cX4_readSum 51 = .ok (.ifCond .ne 5, 3) := by decide +kernel
theorem dX4_readSum_54 : decode cX4_readSum 54 = .ok (.iconst 0, 1) := by decide +kernel
theorem dX4_readSum_55 : decode cX4_readSum 55 = .ok (.ireturn, 1) := by decide +kernel
theorem dX4_readSum_56 : decode cX4_readSum 56 = .ok (.aload_n 0, 1) := by decide +kernel
theorem dX4_readSum_57 : decode cX4_readSum 57 = .ok (.getfield 21, 3) := by decide +kernel
theorem dX4_readSum_60 : decode cX4_readSum 60 = .ok (.iload_n 2, 1) := by decide +kernel
theorem dX4_readSum_61 : decode cX4_readSum 61 = .ok (.bipush 43, 2) := by decide +kernel
theorem dX4_readSum_63 : decode cX4_readSum 63 = .ok (.if_icmp .ne 7, 3) := by decide +kernel
theorem dX4_readSum_66 : decode cX4_readSum 66 = .ok (.iconst 5, 1) := by decide +kernel
theorem dX4_readSum_67 : decode cX4_readSum 67 = .ok (.goto 5, 3) := by decide +kernel
theorem dX4_readSum_70 : decode cX4_readSum 70 = .ok (.bipush 6, 2) := by decide +kernel
theorem dX4_readSum_72 : decode cX4_readSum 72 = .ok (.iconst 0, 1) := by decide +kernel
theorem dX4_readSum_73 : decode cX4_readSum 73 = .ok (.invokevirtual 66, 3) := by decide +kernel
theorem dX4_readSum_76 : decode cX4_readSum 76 = .ok (.pop, 1) := by decide +kernel
theorem dX4_readSum_77 : decode cX4_readSum 77 = .ok (.iinc 1 1, 3) := by decide +kernel
theorem dX4_readSum_80 : decode cX4_readSum 80 = .ok (.goto (-69), 3) := by decide +kernel
theorem dX4_readSum_83 : decode cX4_readSum 83 = .ok (.iconst 0, 1) := by decide +kernel
theorem dX4_readSum_84 : decode cX4_readSum 84 = .ok (.ireturn, 1) := by decide +kernel
theorem bX4_readSum_72 {l : Launch} {g : jm_G} {d : Nat} {v1 s0 : Int} (hg : jm_HC g) {mu : jm_M} {Q : Option Value → jm_M → Prop} (h : jm_R l g (d + 1) iX3_addOrder [.ref 49, jm_i s0, jm_i 0] mu (jm_qi fun z2 m1 => jm_V l g (d + 2) iX4_readSum 11 [(0, .ref 63), (1, jm_i (v1 + 1))] [] m1 Q)) : jm_V l g (d + 2) iX4_readSum 72 [(0, .ref 63), (1, jm_i v1)] [jm_i s0, .ref 49] mu Q := by
  refine jm_mrI (fun hm0 => ?_)
  refine jm_iconst (pc := 72) dX4_readSum_72 ?_
  refine jm_callvi (pc := 73) (As := [_, _]) (st := []) iX3_addOrder dX4_readSum_73 mX4_66 (cC49 hg) ⟨_, rfl, rfl⟩ rfl rfl (Nat.le_of_ble_eq_true rfl) h (fun z2 m1 hz3 h hm4 => ?_)
  refine jm_pop (pc := 76) _ dX4_readSum_76 rfl ?_
  refine jm_iinc (pc := 77) (lv' := [(1, _), (0, _)]) 1 dX4_readSum_77 rfl (by decide) rfl ?_
  refine jm_goto (pc := 80) 11 dX4_readSum_80 rfl ?_
  exact jm_sub [1, 0] rfl h
theorem bX4_readSum_40 {l : Launch} {g : jm_G} {d : Nat} {v1 v2 : Int} (hg : jm_HC g) {mu : jm_M} {Q : Option Value → jm_M → Prop} (h : jm_R l g (d + 1) iX7_skip [.ref 1] mu (jm_qv fun m1 => jm_R l g (d + 1) iX4_readProduct [.ref 63] m1 (jm_qi fun z6 m5 => (¬ z6 = 0 → jm_rg v2 ∧ (¬ v2 = 43 → jm_V l g (d + 2) iX4_readSum 72 [(0, .ref 63), (1, jm_i v1)] [jm_i 6, .ref 49] m5 Q) ∧ (v2 = 43 → jm_V l g (d + 2) iX4_readSum 72 [(0, .ref 63), (1, jm_i v1)] [jm_i 5, .ref 49] m5 Q)) ∧ (z6 = 0 → Q (some (jm_i 0)) m5)))) : jm_V l g (d + 2) iX4_readSum 40 [(0, .ref 63), (1, jm_i v1), (2, jm_i v2)] [] mu Q := by
  refine jm_mrI (fun hm0 => ?_)
  refine jm_aload_n (pc := 40) 0 dX4_readSum_40 rfl ?_
  refine jm_getr (pc := 41) 0 dX4_readSum_41 fX4_17 (cC63 hg) rfl ?_
  refine jm_callvv (pc := 44) (As := []) (st := []) iX7_skip dX4_readSum_44 mX4_40 (cC1 hg) ⟨_, rfl, rfl⟩ rfl rfl (Nat.le_of_ble_eq_true rfl) h (fun m1 h hm4 => ?_)
  refine jm_aload_n (pc := 47) 0 dX4_readSum_47 rfl ?_
  refine jm_callvi (pc := 48) (As := []) (st := []) iX4_readProduct dX4_readSum_48 mX4_74 (cC63 hg) ⟨_, rfl, rfl⟩ rfl rfl (Nat.le_of_ble_eq_true rfl) h (fun z6 m5 hz7 h hm8 => ?_)
  refine jm_if_ne (pc := 51) 56 dX4_readSum_51 rfl hz7 (fun q => ?_) (fun q => ?_)
  · have h := h.1 q
    refine jm_aload_n (pc := 56) 0 dX4_readSum_56 rfl ?_
    refine jm_getr (pc := 57) 1 dX4_readSum_57 fX4_21 (cC63 hg) rfl ?_
    refine jm_iload_n (pc := 60) 2 dX4_readSum_60 rfl ?_
    refine jm_bipush (pc := 61) dX4_readSum_61 (by decide) ?_
    have hg9 := h.1
    have h := h.2
    refine jm_icmp_ne (pc := 63) 70 dX4_readSum_63 rfl hg9 ⟨by decide, by decide⟩ (fun q => ?_) (fun q => ?_)
    · have h := h.1 q
      refine jm_bipush (pc := 70) dX4_readSum_70 (by decide) ?_
      exact jm_sub [0, 1] rfl h
    · have h := h.2 q
      refine jm_iconst (pc := 66) dX4_readSum_66 ?_
      refine jm_goto (pc := 67) 72 dX4_readSum_67 rfl ?_
      exact jm_sub [0, 1] rfl h
  · have h := h.2 q
    refine jm_iconst (pc := 54) dX4_readSum_54 ?_
    exact jm_zret (pc := 55) dX4_readSum_55 rfl (Or.inl rfl) h
theorem bX4_readSum_11 {l : Launch} {g : jm_G} {d : Nat} {v1 : Int} (hg : jm_HC g) {mu : jm_M} {Q : Option Value → jm_M → Prop} (h : jm_rg v1 ∧ (400 ≤ v1 → Q (some (jm_i 0)) mu) ∧ (v1 < 400 → (0 ≤ (mu.1 1 8) ∧ (mu.1 1 8) < 401) ∧ ∀ x3, x3 = (mu.1 3 (mu.1 1 8)) → (x3 = 43 → jm_V l g (d + 2) iX4_readSum 40 [(0, .ref 63), (1, jm_i v1), (2, jm_i x3)] [] mu Q) ∧ (¬ x3 = 43 → (x3 = 45 → jm_V l g (d + 2) iX4_readSum 40 [(0, .ref 63), (1, jm_i v1), (2, jm_i x3)] [] mu Q) ∧ (¬ x3 = 45 → Q (some (jm_i 1)) mu)))) : jm_V l g (d + 2) iX4_readSum 11 [(0, .ref 63), (1, jm_i v1)] [] mu Q := by
  refine jm_mrI (fun hm0 => ?_)
  refine jm_iload_n (pc := 11) 1 dX4_readSum_11 rfl ?_
  refine jm_sipush (pc := 12) dX4_readSum_12 (by decide) ?_
  have hg1 := h.1
  have h := h.2
  refine jm_icmp_ge (pc := 15) 83 dX4_readSum_15 rfl hg1 ⟨by decide, by decide⟩ (fun q => ?_) (fun q => ?_)
  · have h := h.1 q
    refine jm_iconst (pc := 83) dX4_readSum_83 ?_
    exact jm_zret (pc := 84) dX4_readSum_84 rfl (Or.inl rfl) h
  · have h := h.2 q
    refine jm_aload_n (pc := 18) 0 dX4_readSum_18 rfl ?_
    refine jm_getr (pc := 19) 0 dX4_readSum_19 fX4_17 (cC63 hg) rfl ?_
    have hg2 := h.1
    have h := h.2
    refine jm_inlvi (pc := 22) (As := []) (st := []) iX7_kind dX4_readSum_22 mX4_28 (cC1 hg) ⟨_, rfl, rfl⟩ rfl rfl (Nat.le_of_ble_eq_true rfl) (pX7_kind hg hg2 (jm_kIi ?_))
    have h := h _ rfl
    refine jm_istore_n (pc := 25) (lv' := [(2, _), (0, _), (1, _)]) dX4_readSum_25 (by decide) rfl ?_
    refine jm_iload_n (pc := 26) 0 dX4_readSum_26 rfl ?_
    refine jm_bipush (pc := 27) dX4_readSum_27 (by decide) ?_
    refine jm_icmp_eq (pc := 29) 40 dX4_readSum_29 rfl (hm0 _ _) ⟨by decide, by decide⟩ (fun q => ?_) (fun q => ?_)
    · have h := h.1 q
      exact jm_sub [1, 2, 0] rfl h
    · have h := h.2 q
      refine jm_iload_n (pc := 32) 0 dX4_readSum_32 rfl ?_
      refine jm_bipush (pc := 33) dX4_readSum_33 (by decide) ?_
      refine jm_icmp_eq (pc := 35) 40 dX4_readSum_35 rfl (hm0 _ _) ⟨by decide, by decide⟩ (fun q => ?_) (fun q => ?_)
      · have h := h.1 q
        exact jm_sub [1, 2, 0] rfl h
      · have h := h.2 q
        refine jm_iconst (pc := 38) dX4_readSum_38 ?_
        exact jm_zret (pc := 39) dX4_readSum_39 rfl (Or.inr rfl) h
theorem eX4_readSum {l : Launch} {g : jm_G} {d : Nat} (hg : jm_HC g) {mu : jm_M} {Q : Option Value → jm_M → Prop} (h : jm_R l g (d + 1) iX4_readProduct [.ref 63] mu (jm_qi fun z2 m1 => (¬ z2 = 0 → jm_V l g (d + 2) iX4_readSum 11 [(0, .ref 63), (1, jm_i 0)] [] m1 Q) ∧ (z2 = 0 → Q (some (jm_i 0)) m1))) : jm_R l g (d + 2) iX4_readSum [.ref 63] mu Q := by
  refine jm_enter [(0, .ref 63)] (by decide) (Nat.le_of_ble_eq_true rfl) rfl ?_
  refine jm_mrI (fun hm0 => ?_)
  refine jm_aload_n (pc := 0) 0 dX4_readSum_0 rfl ?_
  refine jm_callvi (pc := 1) (As := []) (st := []) iX4_readProduct dX4_readSum_1 mX4_74 (cC63 hg) ⟨_, rfl, rfl⟩ rfl rfl (Nat.le_of_ble_eq_true rfl) h (fun z2 m1 hz3 h hm4 => ?_)
  refine jm_if_ne (pc := 4) 9 dX4_readSum_4 rfl hz3 (fun q => ?_) (fun q => ?_)
  · have h := h.1 q
    refine jm_iconst (pc := 9) dX4_readSum_9 ?_
    refine jm_istore_n (pc := 10) (lv' := [(1, _), (0, _)]) dX4_readSum_10 (by decide) rfl ?_
    exact jm_sub [1, 0] rfl h
  · have h := h.2 q
    refine jm_iconst (pc := 7) dX4_readSum_7 ?_
    exact jm_zret (pc := 8) dX4_readSum_8 rfl (Or.inl rfl) h
theorem dX7_take_0 : decode cX7_take 0 = .ok (.aload_n 0, 1) := by decide +kernel
theorem dX7_take_1 : decode cX7_take 1 = .ok (.getfield 25, 3) := by decide +kernel
theorem dX7_take_4 : decode cX7_take 4 = .ok (.aload_n 0, 1) := by decide +kernel
theorem dX7_take_5 : decode cX7_take 5 = .ok (.getfield 37, 3) := by decide +kernel
theorem dX7_take_8 : decode cX7_take 8 = .ok (.iaload, 1) := by decide +kernel
theorem dX7_take_9 : decode cX7_take 9 = .ok (.iload_n 1, 1) := by decide +kernel
theorem dX7_take_10 : decode cX7_take 10 = .ok (.if_icmp .eq 9, 3) := by decide +kernel
theorem dX7_take_13 : decode cX7_take 13 = .ok (.aload_n 0, 1) := by decide +kernel
theorem dX7_take_14 : decode cX7_take 14 = .ok (.iconst 1, 1) := by decide +kernel
theorem dX7_take_15 : decode cX7_take 15 = .ok (.invokevirtual 40, 3) := by decide +kernel
theorem dX7_take_18 : decode cX7_take 18 = .ok (.ireturn, 1) := by decide +kernel
theorem dX7_take_19 : decode cX7_take 19 = .ok (.aload_n 0, 1) := by decide +kernel
theorem dX7_take_20 : decode cX7_take 20 = .ok (.invokevirtual 44, 3) := by decide +kernel
theorem dX7_take_23 : decode cX7_take 23 = .ok (.iconst 1, 1) := by decide +kernel
theorem dX7_take_24 : decode cX7_take 24 = .ok (.ireturn, 1) := by decide +kernel
theorem eX7_take {l : Launch} {g : jm_G} {d : Nat} {v1 : Int} (hg : jm_HC g) {mu : jm_M} {Q : Option Value → jm_M → Prop} (h : (0 ≤ (mu.1 1 8) ∧ (mu.1 1 8) < 401) ∧ jm_rg v1 ∧ ((mu.1 3 (mu.1 1 8)) = v1 → jm_R l g (d + 1) iX7_skip [.ref 1] mu (jm_qv fun m3 => Q (some (jm_i 1)) m3)) ∧ (¬ (mu.1 3 (mu.1 1 8)) = v1 → (0 ≤ ((jm_wr mu 1 2 1).1 1 8) ∧ ((jm_wr mu 1 2 1).1 1 8) < 401) ∧ ∀ m8, m8 = (jm_wr (jm_wr mu 1 2 1) 1 3 ((jm_wr mu 1 2 1).1 4 ((jm_wr mu 1 2 1).1 1 8))) → Q (some (jm_i 0)) m8)) : jm_R l g (d + 2) iX7_take [.ref 1, jm_i v1] mu Q := by
  refine jm_enter [(0, .ref 1), (1, jm_i v1)] (by decide) (Nat.le_of_ble_eq_true rfl) rfl ?_
  refine jm_mrI (fun hm0 => ?_)
  refine jm_aload_n (pc := 0) 0 dX7_take_0 rfl ?_
  refine jm_getr (pc := 1) 4 dX7_take_1 fX7_25 (cC1 hg) rfl ?_
  refine jm_aload_n (pc := 4) 0 dX7_take_4 rfl ?_
  refine jm_geti (pc := 5) 8 dX7_take_5 fX7_37 (cC1 hg) rfl ?_
  have hg1 := h.1
  have h := h.2
  refine jm_iald (pc := 8) dX7_take_8 (cC3 hg) (by decide) hg1.1 hg1.2 ?_
  refine jm_iload_n (pc := 9) 1 dX7_take_9 rfl ?_
  have hg2 := h.1
  have h := h.2
  refine jm_icmp_eq (pc := 10) 19 dX7_take_10 rfl (hm0 _ _) hg2 (fun q => ?_) (fun q => ?_)
  · have h := h.1 q
    refine jm_aload_n (pc := 19) 0 dX7_take_19 rfl ?_
    refine jm_callvv (pc := 20) (As := []) (st := []) iX7_skip dX7_take_20 mX7_44 (cC1 hg) ⟨_, rfl, rfl⟩ rfl rfl (Nat.le_of_ble_eq_true rfl) h (fun m3 h hm6 => ?_)
    refine jm_iconst (pc := 23) dX7_take_23 ?_
    exact jm_zret (pc := 24) dX7_take_24 rfl (Or.inr rfl) h
  · have h := h.2 q
    refine jm_aload_n (pc := 13) 0 dX7_take_13 rfl ?_
    refine jm_iconst (pc := 14) dX7_take_14 ?_
    have hg7 := h.1
    have h := h.2
    refine jm_inlvi (pc := 15) (As := [_]) (st := []) iX7_refuse dX7_take_15 mX7_40 (cC1 hg) ⟨_, rfl, rfl⟩ rfl rfl (Nat.le_of_ble_eq_true rfl) (pX7_refuse hg ⟨by decide, by decide⟩ hg7 (jm_kIi ?_))
    have h := h _ rfl
    refine jm_mrI (fun hm9 => ?_)
    exact jm_zret (pc := 18) dX7_take_18 rfl (Or.inl rfl) h
theorem dX4_readTest_0 : decode cX4_readTest 0 = .ok (.aload_n 0, 1) := by decide +kernel
theorem dX4_readTest_1 : decode cX4_readTest 1 = .ok (.getfield 17, 3) := by decide +kernel
theorem dX4_readTest_4 : decode cX4_readTest 4 = .ok (.invokevirtual 28, 3) := by decide +kernel
theorem dX4_readTest_7 : decode cX4_readTest 7 = .ok (.istore_n 2, 1) := by decide +kernel
theorem dX4_readTest_8 : decode cX4_readTest 8 = .ok (.iload_n 2, 1) := by decide +kernel
theorem dX4_readTest_9 : decode cX4_readTest 9 = .ok (.sipush 306, 3) := by decide +kernel
theorem dX4_readTest_12 : decode cX4_readTest 12 = .ok (.if_icmp .eq 9, 3) := by decide +kernel
theorem dX4_readTest_15 : decode cX4_readTest 15 = .ok (.iload_n 2, 1) := by decide +kernel
theorem dX4_readTest_16 : decode cX4_readTest 16 = .ok (.bipush 40, 2) := by decide +kernel
theorem dX4_readTest_18 : decode cX4_readTest 18 = .ok (.if_icmp .ne 18, 3) := by decide +kernel
theorem dX4_readTest_21 : decode cX4_readTest 21 = .ok (.iload_n 1, 1) := by decide +kernel
theorem dX4_readTest_22 : decode cX4_readTest 22 = .ok (.bipush 8, 2) := by decide +kernel
theorem dX4_readTest_24 : decode cX4_readTest 24 = .ok (.if_icmp .lt 12, 3) := by decide +kernel
theorem dX4_readTest_27 : decode cX4_readTest 27 = .ok (.aload_n 0, 1) := by decide +kernel
theorem dX4_readTest_28 : decode cX4_readTest 28 = .ok (.getfield 17, 3) := by decide +kernel
theorem dX4_readTest_31 : decode cX4_readTest 31 = .ok (.iconst 3, 1) := by decide +kernel
theorem dX4_readTest_32 : decode cX4_readTest 32 = .ok (.invokevirtual 36, 3) := by decide +kernel
theorem dX4_readTest_35 : decode cX4_readTest 35 = .ok (.ireturn, 1) := by decide +kernel
theorem dX4_readTest_36 : decode cX4_readTest 36 = .ok (.iload_n 2, 1) := by decide +kernel
theorem dX4_readTest_37 : decode cX4_readTest 37 = .ok (.bipush 40, 2) := by decide +kernel
theorem dX4_readTest_39 : decode cX4_readTest 39 = .ok (.if_icmp .ne 31, 3) := by decide +kernel
theorem dX4_readTest_42 : decode cX4_readTest 42 = .ok (.aload_n 0, 1) := by decide +kernel
theorem dX4_readTest_43 : decode cX4_readTest 43 = .ok (.iload_n 1, 1) := by decide +kernel
theorem dX4_readTest_44 : decode cX4_readTest 44 = .ok (.iconst 1, 1) := by decide +kernel
theorem dX4_readTest_45 : decode cX4_readTest 45 = .ok (.iadd, 1) := by decide +kernel
theorem dX4_readTest_46 : decode cX4_readTest 46 = .ok (.invokevirtual 54, 3) := by decide +kernel
theorem dX4_readTest_49 : decode cX4_readTest 49 = .ok (.ifCond .eq 19, 3) := by decide +kernel
theorem dX4_readTest_52 : decode cX4_readTest 52 = .ok (.aload_n 0, 1) := by decide +kernel
theorem dX4_readTest_53 : decode cX4_readTest 53 = .ok (.getfield 17, 3) := by decide +kernel
theorem dX4_readTest_56 : decode cX4_readTest 56 = .ok (.bipush 41, 2) := by decide +kernel
theorem dX4_readTest_58 : decode cX4_readTest 58 = .ok (.invokevirtual 60, 3) := by decide +kernel
theorem dX4_readTest_61 : decode cX4_readTest 61 = .ok (.ifCond .eq 7, 3) := by decide +kernel
theorem dX4_readTest_64 : decode cX4_readTest 64 = .ok (.iconst 1, 1) := by decide +kernel
theorem dX4_readTest_65 : decode cX4_readTest 65 = .ok (.goto 4, 3) := by decide +kernel
theorem dX4_readTest_68 : decode cX4_readTest 68 = .ok (.iconst 0, 1) := by decide +kernel
theorem dX4_readTest_69 : decode cX4_readTest 69 = .ok (.ireturn, 1) := by decide +kernel
theorem dX4_readTest_70 : decode cX4_readTest 70 = .ok (.iload_n 2, 1) := by decide +kernel
theorem dX4_readTest_71 : decode cX4_readTest 71 = .ok (.sipush 306, 3) := by decide +kernel
theorem dX4_readTest_74 : decode cX4_readTest 74 = .ok (.if_icmp .ne 38, 3) := by decide +kernel
theorem dX4_readTest_77 : decode cX4_readTest 77 = .ok (.aload_n 0, 1) := by decide +kernel
theorem dX4_readTest_78 : decode cX4_readTest 78 = .ok (.getfield 17, 3) := by decide +kernel
theorem dX4_readTest_81 : decode cX4_readTest 81 = .ok (.invokevirtual 40, 3) := by decide +kernel
theorem dX4_readTest_84 : decode cX4_readTest 84 = .ok (.aload_n 0, 1) := by decide +kernel
theorem dX4_readTest_85 : decode cX4_readTest 85 = .ok (.iload_n 1, 1) := by decide +kernel
theorem dX4_readTest_86 : decode cX4_readTest 86 = .ok (.iconst 1, 1) := by decide +kernel
theorem dX4_readTest_87 : decode cX4_readTest 87 = .ok (.iadd, 1) := by decide +kernel
theorem dX4_readTest_88 : decode cX4_readTest 88 = .ok (.invokevirtual 63, 3) := by decide +kernel
theorem dX4_readTest_91 : decode cX4_readTest 91 = .ok (.ifCond .eq 19, 3) := by decide +kernel
theorem dX4_readTest_94 : decode cX4_readTest 94 = .ok (.aload_n 0, 1) := by decide +kernel
theorem dX4_readTest_95 : decode cX4_readTest 95 = .ok (.getfield 21, 3) := by decide +kernel
theorem dX4_readTest_98 : decode cX4_readTest 98 = .ok (.iconst 3, 1) := by decide +kernel
theorem dX4_readTest_99 : decode cX4_readTest 99 = .ok (.iconst 0, 1) := by decide +kernel
theorem dX4_readTest_100 : decode cX4_readTest 100 = .ok (.invokevirtual 66, 3) := by decide +kernel
theorem dX4_readTest_103 : decode cX4_readTest 103 = .ok (.ifCond .eq 7, 3) := by decide +kernel
theorem dX4_readTest_106 : decode cX4_readTest 106 = .ok (.iconst 1, 1) := by decide +kernel
theorem dX4_readTest_107 : decode cX4_readTest 107 = .ok (.goto 4, 3) := by decide +kernel
theorem dX4_readTest_110 : decode cX4_readTest 110 = .ok (.iconst 0, 1) := by decide +kernel
theorem dX4_readTest_111 : decode cX4_readTest 111 = .ok (.ireturn, 1) := by decide +kernel
theorem dX4_readTest_112 : decode cX4_readTest 112 = .ok (.aload_n 0, 1) := by decide +kernel
theorem dX4_readTest_113 : decode cX4_readTest 113 = .ok (.invokevirtual 47, 3) := by decide +kernel
theorem dX4_readTest_116 : decode cX4_readTest 116 = .ok (.ifCond .ne 5, 3) := by decide +kernel
theorem dX4_readTest_119 : decode cX4_readTest 119 = .ok (.iconst 0, 1) := by decide +kernel
theorem dX4_readTest_120 : decode cX4_readTest 120 = .ok (.ireturn, 1) := by decide +kernel
theorem dX4_readTest_121 : decode cX4_readTest 121 = .ok (.aload_n 0, 1) := by decide +kernel
theorem dX4_readTest_122 : decode cX4_readTest 122 = .ok (.getfield 17, 3) := by decide +kernel
theorem dX4_readTest_125 : decode cX4_readTest 125 = .ok (.invokevirtual 28, 3) := by decide +kernel
theorem dX4_readTest_128 : decode cX4_readTest 128 = .ok (.invokestatic 70, 3) := by decide +kernel
theorem dX4_readTest_131 : decode cX4_readTest 131 = .ok (.istore_n 3, 1) := by decide +kernel
theorem dX4_readTest_132 : decode cX4_readTest 132 = .ok (.iload_n 3, 1) := by decide +kernel
theorem dX4_readTest_133 : decode cX4_readTest 133 = .ok (.iconst (-1), 1) := by decide +kernel
theorem dX4_readTest_134 : decode cX4_readTest 134 = .ok (.if_icmp .ne 12, 3) := by decide +kernel
theorem dX4_readTest_137 : decode cX4_readTest 137 = .ok (.aload_n 0, 1) := by decide +kernel
theorem dX4_readTest_138 : decode cX4_readTest 138 = .ok (.getfield 17, 3) := by decide +kernel
theorem dX4_readTest_141 : decode cX4_readTest 141 = .ok (.iconst 1, 1) := by decide +kernel
theorem dX4_readTest_142 : decode cX4_readTest 142 = .ok (.invokevirtual 36, 3) := by decide +kernel
theorem dX4_readTest_145 : decode cX4_readTest 145 = .ok (.ireturn, 1) := by decide +kernel
theorem dX4_readTest_146 : decode cX4_readTest 146 = .ok (.aload_n 0, 1) := by decide +kernel
theorem dX4_readTest_147 : decode cX4_readTest 147 = .ok (.getfield 17, 3) := by decide +kernel
theorem dX4_readTest_150 : decode cX4_readTest 150 = .ok (.invokevirtual 40, 3) := by decide +kernel
theorem dX4_readTest_153 : decode cX4_readTest 153 = .ok (.aload_n 0, 1) := by decide +kernel
theorem dX4_readTest_154 : decode cX4_readTest 154 = .ok (.invokevirtual 47, 3) := by decide +kernel
theorem dX4_readTest_157 : decode cX4_readTest 157 = .ok (.ifCond .eq 19, 3) := by decide +kernel
theorem dX4_readTest_160 : decode cX4_readTest 160 = .ok (.aload_n 0, 1) := by decide +kernel
theorem dX4_readTest_161 : decode cX4_readTest 161 = .ok (.getfield 21, 3) := by decide +kernel
theorem dX4_readTest_164 : decode cX4_readTest 164 = .ok (.iload_n 3, 1) := by decide +kernel
theorem dX4_readTest_165 : decode cX4_readTest 165 = .ok (.iconst 0, 1) := by decide +kernel
theorem dX4_readTest_166 : decode cX4_readTest 166 = .ok (.invokevirtual 66, 3) := by decide +kernel
theorem dX4_readTest_169 : decode cX4_readTest 169 = .ok (.ifCond .eq 7, 3) := by decide +kernel
theorem dX4_readTest_172 : decode cX4_readTest 172 = .ok (.iconst 1, 1) := by decide +kernel
theorem dX4_readTest_173 : decode cX4_readTest 173 = .ok (.goto 4, 3) := by decide +kernel
theorem dX4_readTest_176 : decode cX4_readTest 176 = .ok (.iconst 0, 1) := by decide +kernel
theorem dX4_readTest_177 : decode cX4_readTest 177 = .ok (.ireturn, 1) := by decide +kernel
theorem bX4_readTest_36 {l : Launch} {g : jm_G} {d : Nat} {v1 v2 : Int} (hg : jm_HC g) {mu : jm_M} {Q : Option Value → jm_M → Prop} (h : jm_rg v2 ∧ (¬ v2 = 40 → (¬ v2 = 306 → jm_R l g (d + 1) iX4_readSum [.ref 63] mu (jm_qi fun z3 m2 => (¬ z3 = 0 → (0 ≤ (m2.1 1 8) ∧ (m2.1 1 8) < 401) ∧ jm_R l g (d + 1) iX4_comparisonOf [jm_i (m2.1 3 (m2.1 1 8))] m2 (jm_qi fun z8 m7 => (¬ z8 = (-1) → jm_R l g (d + 1) iX7_skip [.ref 1] m7 (jm_qv fun m11 => jm_R l g (d + 1) iX4_readSum [.ref 63] m11 (jm_qi fun z16 m15 => (z16 = 0 → Q (some (jm_i 0)) m15) ∧ (¬ z16 = 0 → jm_R l g (d + 1) iX3_addOrder [.ref 49, jm_i z8, jm_i 0] m15 (jm_qi fun z20 m19 => (z20 = 0 → Q (some (jm_i 0)) m19) ∧ (¬ z20 = 0 → Q (some (jm_i 1)) m19)))))) ∧ (z8 = (-1) → (0 ≤ ((jm_wr m7 1 2 1).1 1 8) ∧ ((jm_wr m7 1 2 1).1 1 8) < 401) ∧ ∀ m24, m24 = (jm_wr (jm_wr m7 1 2 1) 1 3 ((jm_wr m7 1 2 1).1 4 ((jm_wr m7 1 2 1).1 1 8))) → Q (some (jm_i 0)) m24))) ∧ (z3 = 0 → Q (some (jm_i 0)) m2))) ∧ (v2 = 306 → jm_R l g (d + 1) iX7_skip [.ref 1] mu (jm_qv fun m26 => jm_R l g (d + 1) iX4_readTest [.ref 63, jm_i (v1 + 1)] m26 (jm_qi fun z31 m30 => (z31 = 0 → Q (some (jm_i 0)) m30) ∧ (¬ z31 = 0 → jm_R l g (d + 1) iX3_addOrder [.ref 49, jm_i 3, jm_i 0] m30 (jm_qi fun z35 m34 => (z35 = 0 → Q (some (jm_i 0)) m34) ∧ (¬ z35 = 0 → Q (some (jm_i 1)) m34))))))) ∧ (v2 = 40 → jm_R l g (d + 1) iX4_readCondition [.ref 63, jm_i (v1 + 1)] mu (jm_qi fun z39 m38 => (z39 = 0 → Q (some (jm_i 0)) m38) ∧ (¬ z39 = 0 → jm_R l g (d + 1) iX7_take [.ref 1, jm_i 41] m38 (jm_qi fun z43 m42 => (z43 = 0 → Q (some (jm_i 0)) m42) ∧ (¬ z43 = 0 → Q (some (jm_i 1)) m42)))))) : jm_V l g (d + 2) iX4_readTest 36 [(0, .ref 63), (1, jm_i v1), (2, jm_i v2)] [] mu Q := by
  refine jm_mrI (fun hm0 => ?_)
  refine jm_iload_n (pc := 36) 2 dX4_readTest_36 rfl ?_
  refine jm_bipush (pc := 37) dX4_readTest_37 (by decide) ?_
  have hg1 := h.1
  have h := h.2
  refine jm_icmp_ne (pc := 39) 70 dX4_readTest_39 rfl hg1 ⟨by decide, by decide⟩ (fun q => ?_) (fun q => ?_)
  · have h := h.1 q
    refine jm_iload_n (pc := 70) 2 dX4_readTest_70 rfl ?_
    refine jm_sipush (pc := 71) dX4_readTest_71 (by decide) ?_
    refine jm_icmp_ne (pc := 74) 112 dX4_readTest_74 rfl hg1 ⟨by decide, by decide⟩ (fun q => ?_) (fun q => ?_)
    · have h := h.1 q
      refine jm_aload_n (pc := 112) 0 dX4_readTest_112 rfl ?_
      refine jm_callvi (pc := 113) (As := []) (st := []) iX4_readSum dX4_readTest_113 mX4_47 (cC63 hg) ⟨_, rfl, rfl⟩ rfl rfl (Nat.le_of_ble_eq_true rfl) h (fun z3 m2 hz4 h hm5 => ?_)
      refine jm_if_ne (pc := 116) 121 dX4_readTest_116 rfl hz4 (fun q => ?_) (fun q => ?_)
      · have h := h.1 q
        refine jm_aload_n (pc := 121) 0 dX4_readTest_121 rfl ?_
        refine jm_getr (pc := 122) 0 dX4_readTest_122 fX4_17 (cC63 hg) rfl ?_
        have hg6 := h.1
        have h := h.2
        refine jm_inlvi (pc := 125) (As := []) (st := []) iX7_kind dX4_readTest_125 mX4_28 (cC1 hg) ⟨_, rfl, rfl⟩ rfl rfl (Nat.le_of_ble_eq_true rfl) (pX7_kind hg hg6 (jm_kIi ?_))
        refine jm_callsi (pc := 128) (As := [_]) (st := []) iX4_comparisonOf dX4_readTest_128 mX4_70 rfl rfl (Nat.le_of_ble_eq_true rfl) h (fun z8 m7 hz9 h hm10 => ?_)
        refine jm_istore_n (pc := 131) (lv' := [(3, _), (0, _), (1, _), (2, _)]) dX4_readTest_131 (by decide) rfl ?_
        refine jm_iload_n (pc := 132) 0 dX4_readTest_132 rfl ?_
        refine jm_iconst (pc := 133) dX4_readTest_133 ?_
        refine jm_icmp_ne (pc := 134) 146 dX4_readTest_134 rfl hz9 ⟨by decide, by decide⟩ (fun q => ?_) (fun q => ?_)
        · have h := h.1 q
          refine jm_aload_n (pc := 146) 1 dX4_readTest_146 rfl ?_
          refine jm_getr (pc := 147) 0 dX4_readTest_147 fX4_17 (cC63 hg) rfl ?_
          refine jm_callvv (pc := 150) (As := []) (st := []) iX7_skip dX4_readTest_150 mX4_40 (cC1 hg) ⟨_, rfl, rfl⟩ rfl rfl (Nat.le_of_ble_eq_true rfl) h (fun m11 h hm14 => ?_)
          refine jm_aload_n (pc := 153) 1 dX4_readTest_153 rfl ?_
          refine jm_callvi (pc := 154) (As := []) (st := []) iX4_readSum dX4_readTest_154 mX4_47 (cC63 hg) ⟨_, rfl, rfl⟩ rfl rfl (Nat.le_of_ble_eq_true rfl) h (fun z16 m15 hz17 h hm18 => ?_)
          refine jm_if_eq (pc := 157) 176 dX4_readTest_157 rfl hz17 (fun q => ?_) (fun q => ?_)
          · have h := h.1 q
            refine jm_iconst (pc := 176) dX4_readTest_176 ?_
            exact jm_zret (pc := 177) dX4_readTest_177 rfl (Or.inl rfl) h
          · have h := h.2 q
            refine jm_aload_n (pc := 160) 1 dX4_readTest_160 rfl ?_
            refine jm_getr (pc := 161) 1 dX4_readTest_161 fX4_21 (cC63 hg) rfl ?_
            refine jm_iload_n (pc := 164) 0 dX4_readTest_164 rfl ?_
            refine jm_iconst (pc := 165) dX4_readTest_165 ?_
            refine jm_callvi (pc := 166) (As := [_, _]) (st := []) iX3_addOrder dX4_readTest_166 mX4_66 (cC49 hg) ⟨_, rfl, rfl⟩ rfl rfl (Nat.le_of_ble_eq_true rfl) h (fun z20 m19 hz21 h hm22 => ?_)
            refine jm_if_eq (pc := 169) 176 dX4_readTest_169 rfl hz21 (fun q => ?_) (fun q => ?_)
            · have h := h.1 q
              refine jm_iconst (pc := 176) dX4_readTest_176 ?_
              exact jm_zret (pc := 177) dX4_readTest_177 rfl (Or.inl rfl) h
            · have h := h.2 q
              refine jm_iconst (pc := 172) dX4_readTest_172 ?_
              refine jm_goto (pc := 173) 177 dX4_readTest_173 rfl ?_
              exact jm_zret (pc := 177) dX4_readTest_177 rfl (Or.inr rfl) h
        · have h := h.2 q
          refine jm_aload_n (pc := 137) 1 dX4_readTest_137 rfl ?_
          refine jm_getr (pc := 138) 0 dX4_readTest_138 fX4_17 (cC63 hg) rfl ?_
          refine jm_iconst (pc := 141) dX4_readTest_141 ?_
          have hg23 := h.1
          have h := h.2
          refine jm_inlvi (pc := 142) (As := [_]) (st := []) iX7_refuse dX4_readTest_142 mX4_36 (cC1 hg) ⟨_, rfl, rfl⟩ rfl rfl (Nat.le_of_ble_eq_true rfl) (pX7_refuse hg ⟨by decide, by decide⟩ hg23 (jm_kIi ?_))
          have h := h _ rfl
          refine jm_mrI (fun hm25 => ?_)
          exact jm_zret (pc := 145) dX4_readTest_145 rfl (Or.inl rfl) h
      · have h := h.2 q
        refine jm_iconst (pc := 119) dX4_readTest_119 ?_
        exact jm_zret (pc := 120) dX4_readTest_120 rfl (Or.inl rfl) h
    · have h := h.2 q
      refine jm_aload_n (pc := 77) 0 dX4_readTest_77 rfl ?_
      refine jm_getr (pc := 78) 0 dX4_readTest_78 fX4_17 (cC63 hg) rfl ?_
      refine jm_callvv (pc := 81) (As := []) (st := []) iX7_skip dX4_readTest_81 mX4_40 (cC1 hg) ⟨_, rfl, rfl⟩ rfl rfl (Nat.le_of_ble_eq_true rfl) h (fun m26 h hm29 => ?_)
      refine jm_aload_n (pc := 84) 0 dX4_readTest_84 rfl ?_
      refine jm_iload_n (pc := 85) 1 dX4_readTest_85 rfl ?_
      refine jm_iconst (pc := 86) dX4_readTest_86 ?_
      refine jm_iadd (pc := 87) dX4_readTest_87 ?_
      refine jm_callvi (pc := 88) (As := [_]) (st := []) iX4_readTest dX4_readTest_88 mX4_63 (cC63 hg) ⟨_, rfl, rfl⟩ rfl rfl (Nat.le_of_ble_eq_true rfl) h (fun z31 m30 hz32 h hm33 => ?_)
      refine jm_if_eq (pc := 91) 110 dX4_readTest_91 rfl hz32 (fun q => ?_) (fun q => ?_)
      · have h := h.1 q
        refine jm_iconst (pc := 110) dX4_readTest_110 ?_
        exact jm_zret (pc := 111) dX4_readTest_111 rfl (Or.inl rfl) h
      · have h := h.2 q
        refine jm_aload_n (pc := 94) 0 dX4_readTest_94 rfl ?_
        refine jm_getr (pc := 95) 1 dX4_readTest_95 fX4_21 (cC63 hg) rfl ?_
        refine jm_iconst (pc := 98) dX4_readTest_98 ?_
        refine jm_iconst (pc := 99) dX4_readTest_99 ?_
        refine jm_callvi (pc := 100) (As := [_, _]) (st := []) iX3_addOrder dX4_readTest_100 mX4_66 (cC49 hg) ⟨_, rfl, rfl⟩ rfl rfl (Nat.le_of_ble_eq_true rfl) h (fun z35 m34 hz36 h hm37 => ?_)
        refine jm_if_eq (pc := 103) 110 dX4_readTest_103 rfl hz36 (fun q => ?_) (fun q => ?_)
        · have h := h.1 q
          refine jm_iconst (pc := 110) dX4_readTest_110 ?_
          exact jm_zret (pc := 111) dX4_readTest_111 rfl (Or.inl rfl) h
        · have h := h.2 q
          refine jm_iconst (pc := 106) dX4_readTest_106 ?_
          refine jm_goto (pc := 107) 111 dX4_readTest_107 rfl ?_
          exact jm_zret (pc := 111) dX4_readTest_111 rfl (Or.inr rfl) h
  · have h := h.2 q
    refine jm_aload_n (pc := 42) 0 dX4_readTest_42 rfl ?_
    refine jm_iload_n (pc := 43) 1 dX4_readTest_43 rfl ?_
    refine jm_iconst (pc := 44) dX4_readTest_44 ?_
    refine jm_iadd (pc := 45) dX4_readTest_45 ?_
    refine jm_callvi (pc := 46) (As := [_]) (st := []) iX4_readCondition dX4_readTest_46 mX4_54 (cC63 hg) ⟨_, rfl, rfl⟩ rfl rfl (Nat.le_of_ble_eq_true rfl) h (fun z39 m38 hz40 h hm41 => ?_)
    refine jm_if_eq (pc := 49) 68 dX4_readTest_49 rfl hz40 (fun q => ?_) (fun q => ?_)
    · have h := h.1 q
      refine jm_iconst (pc := 68) dX4_readTest_68 ?_
      exact jm_zret (pc := 69) dX4_readTest_69 rfl (Or.inl rfl) h
    · have h := h.2 q
      refine jm_aload_n (pc := 52) 0 dX4_readTest_52 rfl ?_
      refine jm_getr (pc := 53) 0 dX4_readTest_53 fX4_17 (cC63 hg) rfl ?_
      refine jm_bipush (pc := 56) dX4_readTest_56 (by decide) ?_
      refine jm_callvi (pc := 58) (As := [_]) (st := []) iX7_take dX4_readTest_58 mX4_60 (cC1 hg) ⟨_, rfl, rfl⟩ rfl rfl (Nat.le_of_ble_eq_true rfl) h (fun z43 m42 hz44 h hm45 => ?_)
      refine jm_if_eq (pc := 61) 68 dX4_readTest_61 rfl hz44 (fun q => ?_) (fun q => ?_)
      · have h := h.1 q
        refine jm_iconst (pc := 68) dX4_readTest_68 ?_
        exact jm_zret (pc := 69) dX4_readTest_69 rfl (Or.inl rfl) h
      · have h := h.2 q
        refine jm_iconst (pc := 64) dX4_readTest_64 ?_
        refine jm_goto (pc := 65) 69 dX4_readTest_65 rfl ?_
        exact jm_zret (pc := 69) dX4_readTest_69 rfl (Or.inr rfl) h
theorem bX4_readTest_21 {l : Launch} {g : jm_G} {d : Nat} {v1 v2 : Int} (hg : jm_HC g) {mu : jm_M} {Q : Option Value → jm_M → Prop} (h : jm_rg v1 ∧ (v1 < 8 → jm_V l g (d + 2) iX4_readTest 36 [(0, .ref 63), (1, jm_i v1), (2, jm_i v2)] [] mu Q) ∧ (8 ≤ v1 → (0 ≤ ((jm_wr mu 1 2 3).1 1 8) ∧ ((jm_wr mu 1 2 3).1 1 8) < 401) ∧ ∀ m3, m3 = (jm_wr (jm_wr mu 1 2 3) 1 3 ((jm_wr mu 1 2 3).1 4 ((jm_wr mu 1 2 3).1 1 8))) → Q (some (jm_i 0)) m3)) : jm_V l g (d + 2) iX4_readTest 21 [(0, .ref 63), (1, jm_i v1), (2, jm_i v2)] [] mu Q := by
  refine jm_mrI (fun hm0 => ?_)
  refine jm_iload_n (pc := 21) 1 dX4_readTest_21 rfl ?_
  refine jm_bipush (pc := 22) dX4_readTest_22 (by decide) ?_
  have hg1 := h.1
  have h := h.2
  refine jm_icmp_lt (pc := 24) 36 dX4_readTest_24 rfl hg1 ⟨by decide, by decide⟩ (fun q => ?_) (fun q => ?_)
  · have h := h.1 q
    exact jm_sub [0, 1, 2] rfl h
  · have h := h.2 q
    refine jm_aload_n (pc := 27) 0 dX4_readTest_27 rfl ?_
    refine jm_getr (pc := 28) 0 dX4_readTest_28 fX4_17 (cC63 hg) rfl ?_
    refine jm_iconst (pc := 31) dX4_readTest_31 ?_
    have hg2 := h.1
    have h := h.2
    refine jm_inlvi (pc := 32) (As := [_]) (st := []) iX7_refuse dX4_readTest_32 mX4_36 (cC1 hg) ⟨_, rfl, rfl⟩ rfl rfl (Nat.le_of_ble_eq_true rfl) (pX7_refuse hg ⟨by decide, by decide⟩ hg2 (jm_kIi ?_))
    have h := h _ rfl
    refine jm_mrI (fun hm4 => ?_)
    exact jm_zret (pc := 35) dX4_readTest_35 rfl (Or.inl rfl) h
theorem eX4_readTest {l : Launch} {g : jm_G} {d : Nat} {v1 : Int} (hg : jm_HC g) {mu : jm_M} {Q : Option Value → jm_M → Prop} (h : (0 ≤ (mu.1 1 8) ∧ (mu.1 1 8) < 401) ∧ ∀ x2, x2 = (mu.1 3 (mu.1 1 8)) → (x2 = 306 → jm_V l g (d + 2) iX4_readTest 21 [(0, .ref 63), (1, jm_i v1), (2, jm_i x2)] [] mu Q) ∧ (¬ x2 = 306 → (¬ x2 = 40 → jm_V l g (d + 2) iX4_readTest 36 [(0, .ref 63), (1, jm_i v1), (2, jm_i x2)] [] mu Q) ∧ (x2 = 40 → jm_V l g (d + 2) iX4_readTest 21 [(0, .ref 63), (1, jm_i v1), (2, jm_i x2)] [] mu Q))) : jm_R l g (d + 2) iX4_readTest [.ref 63, jm_i v1] mu Q := by
  refine jm_enter [(0, .ref 63), (1, jm_i v1)] (by decide) (Nat.le_of_ble_eq_true rfl) rfl ?_
  refine jm_mrI (fun hm0 => ?_)
  refine jm_aload_n (pc := 0) 0 dX4_readTest_0 rfl ?_
  refine jm_getr (pc := 1) 0 dX4_readTest_1 fX4_17 (cC63 hg) rfl ?_
  have hg1 := h.1
  have h := h.2
  refine jm_inlvi (pc := 4) (As := []) (st := []) iX7_kind dX4_readTest_4 mX4_28 (cC1 hg) ⟨_, rfl, rfl⟩ rfl rfl (Nat.le_of_ble_eq_true rfl) (pX7_kind hg hg1 (jm_kIi ?_))
  have h := h _ rfl
  refine jm_istore_n (pc := 7) (lv' := [(2, _), (0, _), (1, _)]) dX4_readTest_7 (by decide) rfl ?_
  refine jm_iload_n (pc := 8) 0 dX4_readTest_8 rfl ?_
  refine jm_sipush (pc := 9) dX4_readTest_9 (by decide) ?_
  refine jm_icmp_eq (pc := 12) 21 dX4_readTest_12 rfl (hm0 _ _) ⟨by decide, by decide⟩ (fun q => ?_) (fun q => ?_)
  · have h := h.1 q
    exact jm_sub [1, 2, 0] rfl h
  · have h := h.2 q
    refine jm_iload_n (pc := 15) 0 dX4_readTest_15 rfl ?_
    refine jm_bipush (pc := 16) dX4_readTest_16 (by decide) ?_
    refine jm_icmp_ne (pc := 18) 36 dX4_readTest_18 rfl (hm0 _ _) ⟨by decide, by decide⟩ (fun q => ?_) (fun q => ?_)
    · have h := h.1 q
      exact jm_sub [1, 2, 0] rfl h
    · have h := h.2 q
      exact jm_sub [1, 2, 0] rfl h
theorem dX4_readCondition_0 : decode cX4_readCondition 0 = .ok (.iconst 0, 1) := by decide +kernel
theorem dX4_readCondition_1 : decode cX4_readCondition 1 = .ok (.istore_n 2, 1) := by decide +kernel
theorem dX4_readCondition_2 : decode cX4_readCondition 2 = .ok (.iconst 0, 1) := by decide +kernel
theorem dX4_readCondition_3 : decode cX4_readCondition 3 = .ok (.istore_n 3, 1) := by decide +kernel
theorem dX4_readCondition_4 : decode cX4_readCondition 4 = .ok (.iconst 0, 1) := by decide +kernel
theorem dX4_readCondition_5 : decode cX4_readCondition 5 = .ok (.istore 4, 2) := by decide +kernel
theorem dX4_readCondition_7 : decode cX4_readCondition 7 = .ok (.iload 4, 2) := by decide +kernel
theorem dX4_readCondition_9 : decode cX4_readCondition 9 = .ok (.sipush 400, 3) := by decide +kernel
theorem dX4_readCondition_12 : decode cX4_readCondition 12 = .ok (.if_icmp .ge 116, 3) := by decide +kernel
theorem dX4_readCondition_15 : decode cX4_readCondition 15 = .ok (.aload_n 0, 1) := by decide +kernel
theorem dX4_readCondition_16 : decode cX4_readCondition 16 = .ok (.getfield 17, 3) := by decide +kernel
theorem dX4_readCondition_19 : decode cX4_readCondition 19 = .ok (.invokevirtual 40, 3) := by decide +kernel
theorem dX4_readCondition_22 : decode cX4_readCondition 22 = .ok (.aload_n 0, 1) := by decide +kernel
theorem dX4_readCondition_23 : decode cX4_readCondition 23 = .ok (.iload_n 1, 1) := by decide +kernel
theorem dX4_readCondition_24 : decode cX4_readCondition 24 = .ok (.invokevirtual 63, 3) := by decide +kernel
theorem dX4_readCondition_27 : decode cX4_readCondition 27 = .ok (.ifCond .ne 5, 3) := by decide +kernel
theorem dX4_readCondition_30 : decode cX4_readCondition 30 = .ok (.iconst 0, 1) := by decide +kernel
theorem dX4_readCondition_31 : decode cX4_readCondition 31 = .ok (.ireturn, 1) := by decide +kernel
theorem dX4_readCondition_32 : decode cX4_readCondition 32 = .ok (.iload_n 2, 1) := by decide +kernel
theorem dX4_readCondition_33 : decode cX4_readCondition 33 = .ok (.ifCond .eq 14, 3) := by decide +kernel
theorem dX4_readCondition_36 : decode cX4_readCondition 36 = .ok (.aload_n 0, 1) := by decide +kernel
theorem dX4_readCondition_37 : decode cX4_readCondition 37 = .ok (.getfield 21, 3) := by decide +kernel
theorem dX4_readCondition_40 : decode cX4_readCondition 40 = .ok (.bipush 10, 2) := by decide +kernel
theorem dX4_readCondition_42 : decode cX4_readCondition 42 = .ok (.iconst 0, 1) := by decide +kernel
theorem dX4_readCondition_43 : decode cX4_readCondition 43 = .ok (.invokevirtual 66, 3) := by decide +kernel
theorem dX4_readCondition_46 : decode cX4_readCondition 46 = .ok (.pop, 1) := by decide +kernel
theorem dX4_readCondition_47 : decode cX4_readCondition 47 = .ok (.aload_n 0, 1) := by decide +kernel
theorem dX4_readCondition_48 : decode cX4_readCondition 48 = .ok (.getfield 17, 3) := by decide +kernel
theorem dX4_readCondition_51 : decode cX4_readCondition 51 = .ok (.invokevirtual 28, 3) := by decide +kernel
theorem dX4_readCondition_54 : decode cX4_readCondition 54 = .ok (.sipush 305, 3) := by decide +kernel
theorem dX4_readCondition_57 : decode cX4_readCondition 57 = .ok (.if_icmp .ne 7, 3) := by decide +kernel
theorem dX4_readCondition_60 : decode cX4_readCondition 60 = .ok (.iconst 1, 1) := by decide +kernel
theorem dX4_readCondition_61 : decode cX4_readCondition 61 = .ok (.goto 4, 3) := by decide +kernel
theorem dX4_readCondition_64 : decode cX4_readCondition 64 = .ok (.iconst 0, 1) := by decide +kernel
theorem dX4_readCondition_65 : decode cX4_readCondition 65 = .ok (.istore_n 2, 1) := by decide +kernel
theorem dX4_readCondition_66 : decode cX4_readCondition 66 = .ok (.iload_n 2, 1) := by decide +kernel
theorem dX4_readCondition_67 : decode cX4_readCondition 67 = .ok (.ifCond .ne 18, 3) := by decide +kernel
theorem dX4_readCondition_70 : decode cX4_readCondition 70 = .ok (.iload_n 3, 1) := by decide +kernel
theorem dX4_readCondition_71 : decode cX4_readCondition 71 = .ok (.ifCond .eq 14, 3) := by decide +kernel
theorem dX4_readCondition_74 : decode cX4_readCondition 74 = .ok (.aload_n 0, 1) := by decide +kernel
theorem dX4_readCondition_75 : decode cX4_readCondition 75 = .ok (.getfield 21, 3) := by decide +kernel
theorem dX4_readCondition_78 : decode cX4_readCondition 78 = .ok (.bipush 11, 2) := by decide +kernel
theorem dX4_readCondition_80 : decode cX4_readCondition 80 = .ok (.iconst 0, 1) := by decide +kernel
theorem dX4_readCondition_81 : decode cX4_readCondition 81 = .ok (.invokevirtual 66, 3) := by decide +kernel
theorem dX4_readCondition_84 : decode cX4_readCondition 84 = .ok (.pop, 1) := by decide +kernel
theorem dX4_readCondition_85 : decode cX4_readCondition 85 = .ok (.iload_n 2, 1) := by decide +kernel
theorem dX4_readCondition_86 : decode cX4_readCondition 86 = .ok (.ifCond .eq 7, 3) := by decide +kernel
theorem dX4_readCondition_89 : decode cX4_readCondition 89 = .ok (.iload_n 3, 1) := by decide +kernel
theorem dX4_readCondition_90 : decode cX4_readCondition 90 = .ok (.goto 21, 3) := by decide +kernel
theorem dX4_readCondition_93 : decode cX4_readCondition 93 = .ok (.aload_n 0, 1) := by decide +kernel
theorem dX4_readCondition_94 : decode cX4_readCondition 94 = .ok (.getfield 17, 3) := by decide +kernel
theorem dX4_readCondition_97 : decode cX4_readCondition 97 = .ok (.invokevirtual 28, 3) := by decide +kernel
theorem dX4_readCondition_100 : decode cX4_readCondition 100 = .ok (.sipush 304, 3) := by decide +kernel
theorem dX4_readCondition_103 : decode cX4_readCondition 103 = .ok (.if_icmp .ne 7, 3) := by decide +kernel
theorem dX4_readCondition_106 : decode cX4_readCondition 106 = .ok (.iconst 1, 1) := by decide +kernel
theorem dX4_readCondition_107 : decode cX4_readCondition 107 = .ok (.goto 4, 3) := by decide +kernel
theorem dX4_readCondition_110 : decode cX4_readCondition 110 = .ok (.iconst 0, 1) := by decide +kernel
theorem dX4_readCondition_111 : decode cX4_readCondition 111 = .ok (.istore_n 3, 1) := by decide +kernel
theorem dX4_readCondition_112 : decode cX4_readCondition 112 = .ok (.iload_n 2, 1) := by decide +kernel
theorem dX4_readCondition_113 : decode cX4_readCondition 113 = .ok (.ifCond .ne 9, 3) := by decide +kernel
theorem dX4_readCondition_116 : decode cX4_readCondition 116 = .ok (.iload_n 3, 1) := by decide +kernel
theorem dX4_readCondition_117 : decode cX4_readCondition 117 = .ok (.ifCond .ne 5, 3) := by decide +kernel
theorem dX4_readCondition_120 : decode cX4_readCondition 120 = .ok (.iconst 1, 1) := by decide +kernel
theorem dX4_readCondition_121 : decode cX4_readCondition 121 = .ok (.ireturn, 1) := by decide +kernel
theorem dX4_readCondition_122 : decode cX4_readCondition 122 = .ok (.iinc 4 1, 3) := by decide +kernel
theorem dX4_readCondition_125 : decode cX4_readCondition 125 = .ok (.goto (-118), 3) := by decide +kernel
theorem dX4_readCondition_128 : decode cX4_readCondition 128 = .ok (.iconst 0, 1) := by decide +kernel
theorem dX4_readCondition_129 : decode cX4_readCondition 129 = .ok (.ireturn, 1) := by decide +kernel
theorem bX4_readCondition_111 {l : Launch} {g : jm_G} {d : Nat} {v1 v2 v4 s0 : Int} (hg : jm_HC g) {mu : jm_M} {Q : Option Value → jm_M → Prop} (h : jm_rg v2 ∧ (¬ v2 = 0 → jm_V l g (d + 2) iX4_readCondition 7 [(0, .ref 63), (1, jm_i v1), (2, jm_i v2), (3, jm_i s0), (4, jm_i (v4 + 1))] [] mu Q) ∧ (v2 = 0 → jm_rg s0 ∧ (¬ s0 = 0 → jm_V l g (d + 2) iX4_readCondition 7 [(0, .ref 63), (1, jm_i v1), (2, jm_i v2), (3, jm_i s0), (4, jm_i (v4 + 1))] [] mu Q) ∧ (s0 = 0 → Q (some (jm_i 1)) mu))) : jm_V l g (d + 2) iX4_readCondition 111 [(0, .ref 63), (1, jm_i v1), (2, jm_i v2), (4, jm_i v4)] [jm_i s0] mu Q := by
  refine jm_mrI (fun hm0 => ?_)
  refine jm_istore_n (pc := 111) (lv' := [(3, _), (0, _), (1, _), (2, _), (4, _)]) dX4_readCondition_111 (by decide) rfl ?_
  refine jm_iload_n (pc := 112) 3 dX4_readCondition_112 rfl ?_
  have hg1 := h.1
  have h := h.2
  refine jm_if_ne (pc := 113) 122 dX4_readCondition_113 rfl hg1 (fun q => ?_) (fun q => ?_)
  · have h := h.1 q
    refine jm_iinc (pc := 122) (lv' := [(4, _), (3, _), (0, _), (1, _), (2, _)]) 4 dX4_readCondition_122 rfl (by decide) rfl ?_
    refine jm_goto (pc := 125) 7 dX4_readCondition_125 rfl ?_
    exact jm_sub [2, 3, 4, 1, 0] rfl h
  · have h := h.2 q
    refine jm_iload_n (pc := 116) 0 dX4_readCondition_116 rfl ?_
    have hg2 := h.1
    have h := h.2
    refine jm_if_ne (pc := 117) 122 dX4_readCondition_117 rfl hg2 (fun q => ?_) (fun q => ?_)
    · have h := h.1 q
      refine jm_iinc (pc := 122) (lv' := [(4, _), (3, _), (0, _), (1, _), (2, _)]) 4 dX4_readCondition_122 rfl (by decide) rfl ?_
      refine jm_goto (pc := 125) 7 dX4_readCondition_125 rfl ?_
      exact jm_sub [2, 3, 4, 1, 0] rfl h
    · have h := h.2 q
      refine jm_iconst (pc := 120) dX4_readCondition_120 ?_
      exact jm_zret (pc := 121) dX4_readCondition_121 rfl (Or.inr rfl) h
theorem bX4_readCondition_85 {l : Launch} {g : jm_G} {d : Nat} {v1 v2 v3 v4 : Int} (hg : jm_HC g) {mu : jm_M} {Q : Option Value → jm_M → Prop} (h : jm_rg v2 ∧ (v2 = 0 → (0 ≤ (mu.1 1 8) ∧ (mu.1 1 8) < 401) ∧ (¬ (mu.1 3 (mu.1 1 8)) = 304 → jm_V l g (d + 2) iX4_readCondition 111 [(0, .ref 63), (1, jm_i v1), (2, jm_i v2), (4, jm_i v4)] [jm_i 0] mu Q) ∧ ((mu.1 3 (mu.1 1 8)) = 304 → jm_V l g (d + 2) iX4_readCondition 111 [(0, .ref 63), (1, jm_i v1), (2, jm_i v2), (4, jm_i v4)] [jm_i 1] mu Q)) ∧ (¬ v2 = 0 → jm_V l g (d + 2) iX4_readCondition 111 [(0, .ref 63), (1, jm_i v1), (2, jm_i v2), (4, jm_i v4)] [jm_i v3] mu Q)) : jm_V l g (d + 2) iX4_readCondition 85 [(0, .ref 63), (1, jm_i v1), (2, jm_i v2), (3, jm_i v3), (4, jm_i v4)] [] mu Q := by
  refine jm_mrI (fun hm0 => ?_)
  refine jm_iload_n (pc := 85) 2 dX4_readCondition_85 rfl ?_
  have hg1 := h.1
  have h := h.2
  refine jm_if_eq (pc := 86) 93 dX4_readCondition_86 rfl hg1 (fun q => ?_) (fun q => ?_)
  · have h := h.1 q
    refine jm_aload_n (pc := 93) 0 dX4_readCondition_93 rfl ?_
    refine jm_getr (pc := 94) 0 dX4_readCondition_94 fX4_17 (cC63 hg) rfl ?_
    have hg2 := h.1
    have h := h.2
    refine jm_inlvi (pc := 97) (As := []) (st := []) iX7_kind dX4_readCondition_97 mX4_28 (cC1 hg) ⟨_, rfl, rfl⟩ rfl rfl (Nat.le_of_ble_eq_true rfl) (pX7_kind hg hg2 (jm_kIi ?_))
    refine jm_sipush (pc := 100) dX4_readCondition_100 (by decide) ?_
    refine jm_icmp_ne (pc := 103) 110 dX4_readCondition_103 rfl (hm0 _ _) ⟨by decide, by decide⟩ (fun q => ?_) (fun q => ?_)
    · have h := h.1 q
      refine jm_iconst (pc := 110) dX4_readCondition_110 ?_
      exact jm_sub [0, 1, 2, 4] rfl h
    · have h := h.2 q
      refine jm_iconst (pc := 106) dX4_readCondition_106 ?_
      refine jm_goto (pc := 107) 111 dX4_readCondition_107 rfl ?_
      exact jm_sub [0, 1, 2, 4] rfl h
  · have h := h.2 q
    refine jm_iload_n (pc := 89) 3 dX4_readCondition_89 rfl ?_
    refine jm_goto (pc := 90) 111 dX4_readCondition_90 rfl ?_
    exact jm_sub [0, 1, 2, 4] rfl h
theorem bX4_readCondition_65 {l : Launch} {g : jm_G} {d : Nat} {v1 v3 v4 s0 : Int} (hg : jm_HC g) {mu : jm_M} {Q : Option Value → jm_M → Prop} (h : jm_rg s0 ∧ (¬ s0 = 0 → jm_V l g (d + 2) iX4_readCondition 85 [(0, .ref 63), (1, jm_i v1), (2, jm_i s0), (3, jm_i v3), (4, jm_i v4)] [] mu Q) ∧ (s0 = 0 → jm_rg v3 ∧ (v3 = 0 → jm_V l g (d + 2) iX4_readCondition 85 [(0, .ref 63), (1, jm_i v1), (2, jm_i s0), (3, jm_i v3), (4, jm_i v4)] [] mu Q) ∧ (¬ v3 = 0 → jm_R l g (d + 1) iX3_addOrder [.ref 49, jm_i 11, jm_i 0] mu (jm_qi fun z4 m3 => jm_V l g (d + 2) iX4_readCondition 85 [(0, .ref 63), (1, jm_i v1), (2, jm_i s0), (3, jm_i v3), (4, jm_i v4)] [] m3 Q)))) : jm_V l g (d + 2) iX4_readCondition 65 [(0, .ref 63), (1, jm_i v1), (3, jm_i v3), (4, jm_i v4)] [jm_i s0] mu Q := by
  refine jm_mrI (fun hm0 => ?_)
  refine jm_istore_n (pc := 65) (lv' := [(2, _), (0, _), (1, _), (3, _), (4, _)]) dX4_readCondition_65 (by decide) rfl ?_
  refine jm_iload_n (pc := 66) 0 dX4_readCondition_66 rfl ?_
  have hg1 := h.1
  have h := h.2
  refine jm_if_ne (pc := 67) 85 dX4_readCondition_67 rfl hg1 (fun q => ?_) (fun q => ?_)
  · have h := h.1 q
    exact jm_sub [1, 2, 0, 3, 4] rfl h
  · have h := h.2 q
    refine jm_iload_n (pc := 70) 3 dX4_readCondition_70 rfl ?_
    have hg2 := h.1
    have h := h.2
    refine jm_if_eq (pc := 71) 85 dX4_readCondition_71 rfl hg2 (fun q => ?_) (fun q => ?_)
    · have h := h.1 q
      exact jm_sub [1, 2, 0, 3, 4] rfl h
    · have h := h.2 q
      refine jm_aload_n (pc := 74) 1 dX4_readCondition_74 rfl ?_
      refine jm_getr (pc := 75) 1 dX4_readCondition_75 fX4_21 (cC63 hg) rfl ?_
      refine jm_bipush (pc := 78) dX4_readCondition_78 (by decide) ?_
      refine jm_iconst (pc := 80) dX4_readCondition_80 ?_
      refine jm_callvi (pc := 81) (As := [_, _]) (st := []) iX3_addOrder dX4_readCondition_81 mX4_66 (cC49 hg) ⟨_, rfl, rfl⟩ rfl rfl (Nat.le_of_ble_eq_true rfl) h (fun z4 m3 hz5 h hm6 => ?_)
      refine jm_pop (pc := 84) _ dX4_readCondition_84 rfl ?_
      exact jm_sub [1, 2, 0, 3, 4] rfl h
theorem bX4_readCondition_47 {l : Launch} {g : jm_G} {d : Nat} {v1 v3 v4 : Int} (hg : jm_HC g) {mu : jm_M} {Q : Option Value → jm_M → Prop} (h : (0 ≤ (mu.1 1 8) ∧ (mu.1 1 8) < 401) ∧ (¬ (mu.1 3 (mu.1 1 8)) = 305 → jm_V l g (d + 2) iX4_readCondition 65 [(0, .ref 63), (1, jm_i v1), (3, jm_i v3), (4, jm_i v4)] [jm_i 0] mu Q) ∧ ((mu.1 3 (mu.1 1 8)) = 305 → jm_V l g (d + 2) iX4_readCondition 65 [(0, .ref 63), (1, jm_i v1), (3, jm_i v3), (4, jm_i v4)] [jm_i 1] mu Q)) : jm_V l g (d + 2) iX4_readCondition 47 [(0, .ref 63), (1, jm_i v1), (3, jm_i v3), (4, jm_i v4)] [] mu Q := by
  refine jm_mrI (fun hm0 => ?_)
  refine jm_aload_n (pc := 47) 0 dX4_readCondition_47 rfl ?_
  refine jm_getr (pc := 48) 0 dX4_readCondition_48 fX4_17 (cC63 hg) rfl ?_
  have hg1 := h.1
  have h := h.2
  refine jm_inlvi (pc := 51) (As := []) (st := []) iX7_kind dX4_readCondition_51 mX4_28 (cC1 hg) ⟨_, rfl, rfl⟩ rfl rfl (Nat.le_of_ble_eq_true rfl) (pX7_kind hg hg1 (jm_kIi ?_))
  refine jm_sipush (pc := 54) dX4_readCondition_54 (by decide) ?_
  refine jm_icmp_ne (pc := 57) 64 dX4_readCondition_57 rfl (hm0 _ _) ⟨by decide, by decide⟩ (fun q => ?_) (fun q => ?_)
  · have h := h.1 q
    refine jm_iconst (pc := 64) dX4_readCondition_64 ?_
    exact jm_sub [0, 1, 2, 3] rfl h
  · have h := h.2 q
    refine jm_iconst (pc := 60) dX4_readCondition_60 ?_
    refine jm_goto (pc := 61) 65 dX4_readCondition_61 rfl ?_
    exact jm_sub [0, 1, 2, 3] rfl h
theorem bX4_readCondition_7 {l : Launch} {g : jm_G} {d : Nat} {v1 v2 v3 v4 : Int} (hg : jm_HC g) {mu : jm_M} {Q : Option Value → jm_M → Prop} (h : jm_rg v4 ∧ (400 ≤ v4 → Q (some (jm_i 0)) mu) ∧ (v4 < 400 → jm_R l g (d + 1) iX7_skip [.ref 1] mu (jm_qv fun m2 => jm_R l g (d + 1) iX4_readTest [.ref 63, jm_i v1] m2 (jm_qi fun z7 m6 => (¬ z7 = 0 → jm_rg v2 ∧ (v2 = 0 → jm_V l g (d + 2) iX4_readCondition 47 [(0, .ref 63), (1, jm_i v1), (3, jm_i v3), (4, jm_i v4)] [] m6 Q) ∧ (¬ v2 = 0 → jm_R l g (d + 1) iX3_addOrder [.ref 49, jm_i 10, jm_i 0] m6 (jm_qi fun z12 m11 => jm_V l g (d + 2) iX4_readCondition 47 [(0, .ref 63), (1, jm_i v1), (3, jm_i v3), (4, jm_i v4)] [] m11 Q))) ∧ (z7 = 0 → Q (some (jm_i 0)) m6))))) : jm_V l g (d + 2) iX4_readCondition 7 [(0, .ref 63), (1, jm_i v1), (2, jm_i v2), (3, jm_i v3), (4, jm_i v4)] [] mu Q := by
  refine jm_mrI (fun hm0 => ?_)
  refine jm_iload (pc := 7) 4 dX4_readCondition_7 rfl ?_
  refine jm_sipush (pc := 9) dX4_readCondition_9 (by decide) ?_
  have hg1 := h.1
  have h := h.2
  refine jm_icmp_ge (pc := 12) 128 dX4_readCondition_12 rfl hg1 ⟨by decide, by decide⟩ (fun q => ?_) (fun q => ?_)
  · have h := h.1 q
    refine jm_iconst (pc := 128) dX4_readCondition_128 ?_
    exact jm_zret (pc := 129) dX4_readCondition_129 rfl (Or.inl rfl) h
  · have h := h.2 q
    refine jm_aload_n (pc := 15) 0 dX4_readCondition_15 rfl ?_
    refine jm_getr (pc := 16) 0 dX4_readCondition_16 fX4_17 (cC63 hg) rfl ?_
    refine jm_callvv (pc := 19) (As := []) (st := []) iX7_skip dX4_readCondition_19 mX4_40 (cC1 hg) ⟨_, rfl, rfl⟩ rfl rfl (Nat.le_of_ble_eq_true rfl) h (fun m2 h hm5 => ?_)
    refine jm_aload_n (pc := 22) 0 dX4_readCondition_22 rfl ?_
    refine jm_iload_n (pc := 23) 1 dX4_readCondition_23 rfl ?_
    refine jm_callvi (pc := 24) (As := [_]) (st := []) iX4_readTest dX4_readCondition_24 mX4_63 (cC63 hg) ⟨_, rfl, rfl⟩ rfl rfl (Nat.le_of_ble_eq_true rfl) h (fun z7 m6 hz8 h hm9 => ?_)
    refine jm_if_ne (pc := 27) 32 dX4_readCondition_27 rfl hz8 (fun q => ?_) (fun q => ?_)
    · have h := h.1 q
      refine jm_iload_n (pc := 32) 2 dX4_readCondition_32 rfl ?_
      have hg10 := h.1
      have h := h.2
      refine jm_if_eq (pc := 33) 47 dX4_readCondition_33 rfl hg10 (fun q => ?_) (fun q => ?_)
      · have h := h.1 q
        exact jm_sub [0, 1, 3, 4] rfl h
      · have h := h.2 q
        refine jm_aload_n (pc := 36) 0 dX4_readCondition_36 rfl ?_
        refine jm_getr (pc := 37) 1 dX4_readCondition_37 fX4_21 (cC63 hg) rfl ?_
        refine jm_bipush (pc := 40) dX4_readCondition_40 (by decide) ?_
        refine jm_iconst (pc := 42) dX4_readCondition_42 ?_
        refine jm_callvi (pc := 43) (As := [_, _]) (st := []) iX3_addOrder dX4_readCondition_43 mX4_66 (cC49 hg) ⟨_, rfl, rfl⟩ rfl rfl (Nat.le_of_ble_eq_true rfl) h (fun z12 m11 hz13 h hm14 => ?_)
        refine jm_pop (pc := 46) _ dX4_readCondition_46 rfl ?_
        exact jm_sub [0, 1, 3, 4] rfl h
    · have h := h.2 q
      refine jm_iconst (pc := 30) dX4_readCondition_30 ?_
      exact jm_zret (pc := 31) dX4_readCondition_31 rfl (Or.inl rfl) h
theorem eX4_readCondition {l : Launch} {g : jm_G} {d : Nat} {v1 : Int} (hg : jm_HC g) {mu : jm_M} {Q : Option Value → jm_M → Prop} (h : jm_V l g (d + 2) iX4_readCondition 7 [(0, .ref 63), (1, jm_i v1), (2, jm_i 0), (3, jm_i 0), (4, jm_i 0)] [] mu Q) : jm_R l g (d + 2) iX4_readCondition [.ref 63, jm_i v1] mu Q := by
  refine jm_enter [(0, .ref 63), (1, jm_i v1)] (by decide) (Nat.le_of_ble_eq_true rfl) rfl ?_
  refine jm_mrI (fun hm0 => ?_)
  refine jm_iconst (pc := 0) dX4_readCondition_0 ?_
  refine jm_istore_n (pc := 1) (lv' := [(2, _), (0, _), (1, _)]) dX4_readCondition_1 (by decide) rfl ?_
  refine jm_iconst (pc := 2) dX4_readCondition_2 ?_
  refine jm_istore_n (pc := 3) (lv' := [(3, _), (2, _), (0, _), (1, _)]) dX4_readCondition_3 (by decide) rfl ?_
  refine jm_iconst (pc := 4) dX4_readCondition_4 ?_
  refine jm_istore (pc := 5) (lv' := [(4, _), (3, _), (2, _), (0, _), (1, _)]) dX4_readCondition_5 (by decide) rfl ?_
  exact jm_sub [3, 4, 2, 1, 0] rfl h
theorem dX4_readLines_0 : decode cX4_readLines 0 = .ok (.aload_n 0, 1) := by decide +kernel
theorem dX4_readLines_1 : decode cX4_readLines 1 = .ok (.getfield 21, 3) := by decide +kernel
theorem dX4_readLines_4 : decode cX4_readLines 4 = .ok (.invokevirtual 25, 3) := by decide +kernel
theorem dX4_readLines_7 : decode cX4_readLines 7 = .ok (.iconst 0, 1) := by decide +kernel
theorem dX4_readLines_8 : decode cX4_readLines 8 = .ok (.istore_n 1, 1) := by decide +kernel
theorem dX4_readLines_9 : decode cX4_readLines 9 = .ok (.iload_n 1, 1) := by decide +kernel
theorem dX4_readLines_10 : decode cX4_readLines 10 = .ok (.bipush 16, 2) := by decide +kernel
theorem dX4_readLines_12 : decode cX4_readLines 12 = .ok (.if_icmp .gt 142, 3) := by decide +kernel
theorem dX4_readLines_15 : decode cX4_readLines 15 = .ok (.aload_n 0, 1) := by decide +kernel
theorem dX4_readLines_16 : decode cX4_readLines 16 = .ok (.getfield 17, 3) := by decide +kernel
theorem dX4_readLines_19 : decode cX4_readLines 19 = .ok (.invokevirtual 28, 3) := by decide +kernel
theorem dX4_readLines_22 : decode cX4_readLines 22 = .ok (.istore_n 2, 1) := by decide +kernel
theorem dX4_readLines_23 : decode cX4_readLines 23 = .ok (.iload_n 2, 1) := by decide +kernel
theorem dX4_readLines_24 : decode cX4_readLines 24 = .ok (.sipush 257, 3) := by decide +kernel
theorem dX4_readLines_27 : decode cX4_readLines 27 = .ok (.if_icmp .ne 5, 3) := by decide +kernel
theorem dX4_readLines_30 : decode cX4_readLines 30 = .ok (.iconst 1, 1) := by decide +kernel
theorem dX4_readLines_31 : decode cX4_readLines 31 = .ok (.ireturn, 1) := by decide +kernel
theorem dX4_readLines_32 : decode cX4_readLines 32 = .ok (.iload_n 2, 1) := by decide +kernel
theorem dX4_readLines_33 : decode cX4_readLines 33 = .ok (.sipush 300, 3) := by decide +kernel
theorem dX4_readLines_36 : decode cX4_readLines 36 = .ok (.sipush 302, 3) := by decide +kernel
theorem dX4_readLines_39 : decode cX4_readLines 39 = .ok (.invokestatic 32, 3) := by decide +kernel
theorem dX4_readLines_42 : decode cX4_readLines 42 = .ok (.ifCond .ne 12, 3) := by decide +kernel
theorem dX4_readLines_45 : decode cX4_readLines 45 = .ok (.aload_n 0, 1) := by decide +kernel
theorem dX4_readLines_46 : decode cX4_readLines 46 = .ok (.getfield 17, 3) := by decide +kernel
theorem dX4_readLines_49 : decode cX4_readLines 49 = .ok (.iconst 1, 1) := by decide +kernel
theorem dX4_readLines_50 : decode cX4_readLines 50 = .ok (.invokevirtual 36, 3) := by decide +kernel
theorem dX4_readLines_53 : decode cX4_readLines 53 = .ok (.ireturn, 1) := by decide +kernel
theorem dX4_readLines_54 : decode cX4_readLines 54 = .ok (.iload_n 1, 1) := by decide +kernel
theorem dX4_readLines_55 : decode cX4_readLines 55 = .ok (.bipush 16, 2) := by decide +kernel
theorem dX4_readLines_57 : decode cX4_readLines 57 = .ok (.if_icmp .ne 12, 3) := by decide +kernel
theorem dX4_readLines_60 : decode cX4_readLines 60 = .ok (.aload_n 0, 1) := by decide +kernel
theorem dX4_readLines_61 : decode cX4_readLines 61 = .ok (.getfield 17, 3) := by decide +kernel
theorem dX4_readLines_64 : decode cX4_readLines 64 = .ok (.iconst 3, 1) := by decide +kernel
theorem dX4_readLines_65 : decode cX4_readLines 65 = .ok (.invokevirtual 36, 3) := by decide +kernel
theorem dX4_readLines_68 : decode cX4_readLines 68 = .ok (.ireturn, 1) := by decide +kernel
theorem dX4_readLines_69 : decode cX4_readLines 69 = .ok (.aload_n 0, 1) := by decide +kernel
theorem dX4_readLines_70 : decode cX4_readLines 70 = .ok (.getfield 17, 3) := by decide +kernel
theorem dX4_readLines_73 : decode cX4_readLines 73 = .ok (.invokevirtual 40, 3) := by decide +kernel
theorem dX4_readLines_76 : decode cX4_readLines 76 = .ok (.aload_n 0, 1) := by decide +kernel
theorem dX4_readLines_77 : decode cX4_readLines 77 = .ok (.getfield 21, 3) := by decide +kernel
theorem dX4_readLines_80 : decode cX4_readLines 80 = .ok (.iload_n 2, 1) := by decide +kernel
theorem dX4_readLines_81 : decode cX4_readLines 81 = .ok (.sipush 300, 3) := by decide +kernel
theorem dX4_readLines_84 : decode cX4_readLines 84 = .ok (.isub, 1) := by decide +kernel
theorem dX4_readLines_85 : decode cX4_readLines 85 = .ok (.invokevirtual 43, 3) := by decide +kernel
theorem dX4_readLines_88 : decode cX4_readLines 88 = .ok (.aload_n 0, 1) := by decide +kernel
theorem dX4_readLines_89 : decode cX4_readLines 89 = .ok (.invokevirtual 47, 3) := by decide +kernel
theorem dX4_readLines_92 : decode cX4_readLines 92 = .ok (.ifCond .ne 5, 3) := by decide +kernel
theorem dX4_readLines_95 : decode cX4_readLines 95 = .ok (.iconst 0, 1) := by decide +kernel
theorem dX4_readLines_96 : decode cX4_readLines 96 = .ok (.ireturn, 1) := by decide +kernel
theorem dX4_readLines_97 : decode cX4_readLines 97 = .ok (.aload_n 0, 1) := by decide +kernel
theorem dX4_readLines_98 : decode cX4_readLines 98 = .ok (.getfield 21, 3) := by decide +kernel
theorem dX4_readLines_101 : decode cX4_readLines 101 = .ok (.invokevirtual 51, 3) := by decide +kernel
theorem dX4_readLines_104 : decode cX4_readLines 104 = .ok (.aload_n 0, 1) := by decide +kernel
theorem dX4_readLines_105 : decode cX4_readLines 105 = .ok (.getfield 17, 3) := by decide +kernel
theorem dX4_readLines_108 : decode cX4_readLines 108 = .ok (.invokevirtual 28, 3) := by decide +kernel
theorem dX4_readLines_111 : decode cX4_readLines 111 = .ok (.sipush 303, 3) := by decide +kernel
theorem dX4_readLines_114 : decode cX4_readLines 114 = .ok (.if_icmp .ne 13, 3) := by decide +kernel
theorem dX4_readLines_117 : decode cX4_readLines 117 = .ok (.aload_n 0, 1) := by decide +kernel
theorem dX4_readLines_118 : decode cX4_readLines 118 = .ok (.iconst 0, 1) := by decide +kernel
theorem dX4_readLines_119 : decode cX4_readLines 119 = .ok (.invokevirtual 54, 3) := by decide +kernel
theorem dX4_readLines_122 : decode cX4_readLines 122 = .ok (.ifCond .ne 5, 3) := by decide +kernel
theorem dX4_readLines_125 : decode cX4_readLines 125 = .ok (.iconst 0, 1) := by decide +kernel
theorem dX4_readLines_126 : decode cX4_readLines 126 = .ok (.ireturn, 1) := by decide +kernel
theorem dX4_readLines_127 : decode cX4_readLines 127 = .ok (.aload_n 0, 1) := by decide +kernel
theorem dX4_readLines_128 : decode cX4_readLines 128 = .ok (.getfield 21, 3) := by decide +kernel
theorem dX4_readLines_131 : decode cX4_readLines 131 = .ok (.invokevirtual 57, 3) := by decide +kernel
theorem dX4_readLines_134 : decode cX4_readLines 134 = .ok (.aload_n 0, 1) := by decide +kernel
theorem dX4_readLines_135 : decode cX4_readLines 135 = .ok (.getfield 17, 3) := by decide +kernel
theorem dX4_readLines_138 : decode cX4_readLines 138 = .ok (.bipush 59, 2) := by decide +kernel
theorem dX4_readLines_140 : decode cX4_readLines 140 = .ok (.invokevirtual 60, 3) := by decide +kernel
theorem dX4_readLines_143 : decode cX4_readLines 143 = .ok (.ifCond .ne 5, 3) := by decide +kernel
theorem dX4_readLines_146 : decode cX4_readLines 146 = .ok (.iconst 0, 1) := by decide +kernel
theorem dX4_readLines_147 : decode cX4_readLines 147 = .ok (.ireturn, 1) := by decide +kernel
theorem dX4_readLines_148 : decode cX4_readLines 148 = .ok (.iinc 1 1, 3) := by decide +kernel
theorem dX4_readLines_151 : decode cX4_readLines 151 = .ok (.goto (-142), 3) := by decide +kernel
theorem dX4_readLines_154 : decode cX4_readLines 154 = .ok (.iconst 0, 1) := by decide +kernel
theorem dX4_readLines_155 : decode cX4_readLines 155 = .ok (.ireturn, 1) := by decide +kernel
theorem bX4_readLines_127 {l : Launch} {g : jm_G} {d : Nat} {v1 : Int} (hg : jm_HC g) {mu : jm_M} {Q : Option Value → jm_M → Prop} (h : jm_R l g (d + 1) iX3_closeLine [.ref 49] mu (jm_qv fun m1 => jm_R l g (d + 1) iX7_take [.ref 1, jm_i 59] m1 (jm_qi fun z6 m5 => (¬ z6 = 0 → jm_V l g (d + 2) iX4_readLines 9 [(0, .ref 63), (1, jm_i (v1 + 1))] [] m5 Q) ∧ (z6 = 0 → Q (some (jm_i 0)) m5)))) : jm_V l g (d + 2) iX4_readLines 127 [(0, .ref 63), (1, jm_i v1)] [] mu Q := by
  refine jm_mrI (fun hm0 => ?_)
  refine jm_aload_n (pc := 127) 0 dX4_readLines_127 rfl ?_
  refine jm_getr (pc := 128) 1 dX4_readLines_128 fX4_21 (cC63 hg) rfl ?_
  refine jm_callvv (pc := 131) (As := []) (st := []) iX3_closeLine dX4_readLines_131 mX4_57 (cC49 hg) ⟨_, rfl, rfl⟩ rfl rfl (Nat.le_of_ble_eq_true rfl) h (fun m1 h hm4 => ?_)
  refine jm_aload_n (pc := 134) 0 dX4_readLines_134 rfl ?_
  refine jm_getr (pc := 135) 0 dX4_readLines_135 fX4_17 (cC63 hg) rfl ?_
  refine jm_bipush (pc := 138) dX4_readLines_138 (by decide) ?_
  refine jm_callvi (pc := 140) (As := [_]) (st := []) iX7_take dX4_readLines_140 mX4_60 (cC1 hg) ⟨_, rfl, rfl⟩ rfl rfl (Nat.le_of_ble_eq_true rfl) h (fun z6 m5 hz7 h hm8 => ?_)
  refine jm_if_ne (pc := 143) 148 dX4_readLines_143 rfl hz7 (fun q => ?_) (fun q => ?_)
  · have h := h.1 q
    refine jm_iinc (pc := 148) (lv' := [(1, _), (0, _)]) 1 dX4_readLines_148 rfl (by decide) rfl ?_
    refine jm_goto (pc := 151) 9 dX4_readLines_151 rfl ?_
    exact jm_sub [1, 0] rfl h
  · have h := h.2 q
    refine jm_iconst (pc := 146) dX4_readLines_146 ?_
    exact jm_zret (pc := 147) dX4_readLines_147 rfl (Or.inl rfl) h
theorem bX4_readLines_9 {l : Launch} {g : jm_G} {d : Nat} {v1 : Int} (hg : jm_HC g) {mu : jm_M} {Q : Option Value → jm_M → Prop} (h : jm_rg v1 ∧ (16 < v1 → Q (some (jm_i 0)) mu) ∧ (v1 ≤ 16 → (0 ≤ (mu.1 1 8) ∧ (mu.1 1 8) < 401) ∧ ∀ x3, x3 = (mu.1 3 (mu.1 1 8)) → (¬ x3 = 257 → (300 ≤ x3 ∧ x3 ≤ 302 → (¬ v1 = 16 → jm_R l g (d + 1) iX7_skip [.ref 1] mu (jm_qv fun m4 => jm_R l g (d + 1) iX3_openLine [.ref 49, jm_i (x3 - 300)] m4 (jm_qv fun m8 => jm_R l g (d + 1) iX4_readSum [.ref 63] m8 (jm_qi fun z13 m12 => (¬ z13 = 0 → jm_R l g (d + 1) iX3_openCondition [.ref 49] m12 (jm_qv fun m16 => (0 ≤ (m16.1 1 8) ∧ (m16.1 1 8) < 401) ∧ (¬ (m16.1 3 (m16.1 1 8)) = 303 → jm_V l g (d + 2) iX4_readLines 127 [(0, .ref 63), (1, jm_i v1)] [] m16 Q) ∧ ((m16.1 3 (m16.1 1 8)) = 303 → jm_R l g (d + 1) iX4_readCondition [.ref 63, jm_i 0] m16 (jm_qi fun z22 m21 => (¬ z22 = 0 → jm_V l g (d + 2) iX4_readLines 127 [(0, .ref 63), (1, jm_i v1)] [] m21 Q) ∧ (z22 = 0 → Q (some (jm_i 0)) m21))))) ∧ (z13 = 0 → Q (some (jm_i 0)) m12))))) ∧ (v1 = 16 → (0 ≤ ((jm_wr mu 1 2 3).1 1 8) ∧ ((jm_wr mu 1 2 3).1 1 8) < 401) ∧ ∀ m26, m26 = (jm_wr (jm_wr mu 1 2 3) 1 3 ((jm_wr mu 1 2 3).1 4 ((jm_wr mu 1 2 3).1 1 8))) → Q (some (jm_i 0)) m26)) ∧ (¬ (300 ≤ x3 ∧ x3 ≤ 302) → (0 ≤ ((jm_wr mu 1 2 1).1 1 8) ∧ ((jm_wr mu 1 2 1).1 1 8) < 401) ∧ ∀ m29, m29 = (jm_wr (jm_wr mu 1 2 1) 1 3 ((jm_wr mu 1 2 1).1 4 ((jm_wr mu 1 2 1).1 1 8))) → Q (some (jm_i 0)) m29)) ∧ (x3 = 257 → Q (some (jm_i 1)) mu))) : jm_V l g (d + 2) iX4_readLines 9 [(0, .ref 63), (1, jm_i v1)] [] mu Q := by
  refine jm_mrI (fun hm0 => ?_)
  refine jm_iload_n (pc := 9) 1 dX4_readLines_9 rfl ?_
  refine jm_bipush (pc := 10) dX4_readLines_10 (by decide) ?_
  have hg1 := h.1
  have h := h.2
  refine jm_icmp_gt (pc := 12) 154 dX4_readLines_12 rfl hg1 ⟨by decide, by decide⟩ (fun q => ?_) (fun q => ?_)
  · have h := h.1 q
    refine jm_iconst (pc := 154) dX4_readLines_154 ?_
    exact jm_zret (pc := 155) dX4_readLines_155 rfl (Or.inl rfl) h
  · have h := h.2 q
    refine jm_aload_n (pc := 15) 0 dX4_readLines_15 rfl ?_
    refine jm_getr (pc := 16) 0 dX4_readLines_16 fX4_17 (cC63 hg) rfl ?_
    have hg2 := h.1
    have h := h.2
    refine jm_inlvi (pc := 19) (As := []) (st := []) iX7_kind dX4_readLines_19 mX4_28 (cC1 hg) ⟨_, rfl, rfl⟩ rfl rfl (Nat.le_of_ble_eq_true rfl) (pX7_kind hg hg2 (jm_kIi ?_))
    have h := h _ rfl
    refine jm_istore_n (pc := 22) (lv' := [(2, _), (0, _), (1, _)]) dX4_readLines_22 (by decide) rfl ?_
    refine jm_iload_n (pc := 23) 0 dX4_readLines_23 rfl ?_
    refine jm_sipush (pc := 24) dX4_readLines_24 (by decide) ?_
    refine jm_icmp_ne (pc := 27) 32 dX4_readLines_27 rfl (hm0 _ _) ⟨by decide, by decide⟩ (fun q => ?_) (fun q => ?_)
    · have h := h.1 q
      refine jm_iload_n (pc := 32) 0 dX4_readLines_32 rfl ?_
      refine jm_sipush (pc := 33) dX4_readLines_33 (by decide) ?_
      refine jm_sipush (pc := 36) dX4_readLines_36 (by decide) ?_
      refine jm_inlni (pc := 39) (As := [_, _, _]) (st := []) iX11_isWithin dX4_readLines_39 (mX4_32 hg) rfl rfl (Nat.le_of_ble_eq_true rfl) (pX11_isWithin hg (hm0 _ _) ⟨by decide, by decide⟩ ⟨by decide, by decide⟩ (fun q => jm_kIi ?_) (fun q => jm_kIi ?_))
      · have h := h.1 q
        refine jm_if_ne (pc := 42) 54 dX4_readLines_42 rfl ⟨by decide, by decide⟩ (fun q => ?_) (fun q => absurd q (by decide))
        refine jm_iload_n (pc := 54) 2 dX4_readLines_54 rfl ?_
        refine jm_bipush (pc := 55) dX4_readLines_55 (by decide) ?_
        refine jm_icmp_ne (pc := 57) 69 dX4_readLines_57 rfl hg1 ⟨by decide, by decide⟩ (fun q => ?_) (fun q => ?_)
        · have h := h.1 q
          refine jm_aload_n (pc := 69) 1 dX4_readLines_69 rfl ?_
          refine jm_getr (pc := 70) 0 dX4_readLines_70 fX4_17 (cC63 hg) rfl ?_
          refine jm_callvv (pc := 73) (As := []) (st := []) iX7_skip dX4_readLines_73 mX4_40 (cC1 hg) ⟨_, rfl, rfl⟩ rfl rfl (Nat.le_of_ble_eq_true rfl) h (fun m4 h hm7 => ?_)
          refine jm_aload_n (pc := 76) 1 dX4_readLines_76 rfl ?_
          refine jm_getr (pc := 77) 1 dX4_readLines_77 fX4_21 (cC63 hg) rfl ?_
          refine jm_iload_n (pc := 80) 0 dX4_readLines_80 rfl ?_
          refine jm_sipush (pc := 81) dX4_readLines_81 (by decide) ?_
          refine jm_isub (pc := 84) dX4_readLines_84 ?_
          refine jm_callvv (pc := 85) (As := [_]) (st := []) iX3_openLine dX4_readLines_85 mX4_43 (cC49 hg) ⟨_, rfl, rfl⟩ rfl rfl (Nat.le_of_ble_eq_true rfl) h (fun m8 h hm11 => ?_)
          refine jm_aload_n (pc := 88) 1 dX4_readLines_88 rfl ?_
          refine jm_callvi (pc := 89) (As := []) (st := []) iX4_readSum dX4_readLines_89 mX4_47 (cC63 hg) ⟨_, rfl, rfl⟩ rfl rfl (Nat.le_of_ble_eq_true rfl) h (fun z13 m12 hz14 h hm15 => ?_)
          refine jm_if_ne (pc := 92) 97 dX4_readLines_92 rfl hz14 (fun q => ?_) (fun q => ?_)
          · have h := h.1 q
            refine jm_aload_n (pc := 97) 1 dX4_readLines_97 rfl ?_
            refine jm_getr (pc := 98) 1 dX4_readLines_98 fX4_21 (cC63 hg) rfl ?_
            refine jm_callvv (pc := 101) (As := []) (st := []) iX3_openCondition dX4_readLines_101 mX4_51 (cC49 hg) ⟨_, rfl, rfl⟩ rfl rfl (Nat.le_of_ble_eq_true rfl) h (fun m16 h hm19 => ?_)
            refine jm_aload_n (pc := 104) 1 dX4_readLines_104 rfl ?_
            refine jm_getr (pc := 105) 0 dX4_readLines_105 fX4_17 (cC63 hg) rfl ?_
            have hg20 := h.1
            have h := h.2
            refine jm_inlvi (pc := 108) (As := []) (st := []) iX7_kind dX4_readLines_108 mX4_28 (cC1 hg) ⟨_, rfl, rfl⟩ rfl rfl (Nat.le_of_ble_eq_true rfl) (pX7_kind hg hg20 (jm_kIi ?_))
            refine jm_sipush (pc := 111) dX4_readLines_111 (by decide) ?_
            refine jm_icmp_ne (pc := 114) 127 dX4_readLines_114 rfl (hm19 _ _) ⟨by decide, by decide⟩ (fun q => ?_) (fun q => ?_)
            · have h := h.1 q
              exact jm_sub [1, 2] rfl h
            · have h := h.2 q
              refine jm_aload_n (pc := 117) 1 dX4_readLines_117 rfl ?_
              refine jm_iconst (pc := 118) dX4_readLines_118 ?_
              refine jm_callvi (pc := 119) (As := [_]) (st := []) iX4_readCondition dX4_readLines_119 mX4_54 (cC63 hg) ⟨_, rfl, rfl⟩ rfl rfl (Nat.le_of_ble_eq_true rfl) h (fun z22 m21 hz23 h hm24 => ?_)
              refine jm_if_ne (pc := 122) 127 dX4_readLines_122 rfl hz23 (fun q => ?_) (fun q => ?_)
              · have h := h.1 q
                exact jm_sub [1, 2] rfl h
              · have h := h.2 q
                refine jm_iconst (pc := 125) dX4_readLines_125 ?_
                exact jm_zret (pc := 126) dX4_readLines_126 rfl (Or.inl rfl) h
          · have h := h.2 q
            refine jm_iconst (pc := 95) dX4_readLines_95 ?_
            exact jm_zret (pc := 96) dX4_readLines_96 rfl (Or.inl rfl) h
        · have h := h.2 q
          refine jm_aload_n (pc := 60) 1 dX4_readLines_60 rfl ?_
          refine jm_getr (pc := 61) 0 dX4_readLines_61 fX4_17 (cC63 hg) rfl ?_
          refine jm_iconst (pc := 64) dX4_readLines_64 ?_
          have hg25 := h.1
          have h := h.2
          refine jm_inlvi (pc := 65) (As := [_]) (st := []) iX7_refuse dX4_readLines_65 mX4_36 (cC1 hg) ⟨_, rfl, rfl⟩ rfl rfl (Nat.le_of_ble_eq_true rfl) (pX7_refuse hg ⟨by decide, by decide⟩ hg25 (jm_kIi ?_))
          have h := h _ rfl
          refine jm_mrI (fun hm27 => ?_)
          exact jm_zret (pc := 68) dX4_readLines_68 rfl (Or.inl rfl) h
      · have h := h.2 q
        refine jm_if_ne (pc := 42) 54 dX4_readLines_42 rfl ⟨by decide, by decide⟩ (fun q => absurd q (by decide)) (fun q => ?_)
        refine jm_aload_n (pc := 45) 1 dX4_readLines_45 rfl ?_
        refine jm_getr (pc := 46) 0 dX4_readLines_46 fX4_17 (cC63 hg) rfl ?_
        refine jm_iconst (pc := 49) dX4_readLines_49 ?_
        have hg28 := h.1
        have h := h.2
        refine jm_inlvi (pc := 50) (As := [_]) (st := []) iX7_refuse dX4_readLines_50 mX4_36 (cC1 hg) ⟨_, rfl, rfl⟩ rfl rfl (Nat.le_of_ble_eq_true rfl) (pX7_refuse hg ⟨by decide, by decide⟩ hg28 (jm_kIi ?_))
        have h := h _ rfl
        refine jm_mrI (fun hm30 => ?_)
        exact jm_zret (pc := 53) dX4_readLines_53 rfl (Or.inl rfl) h
    · have h := h.2 q
      refine jm_iconst (pc := 30) dX4_readLines_30 ?_
      exact jm_zret (pc := 31) dX4_readLines_31 rfl (Or.inr rfl) h
theorem eX4_readLines {l : Launch} {g : jm_G} {d : Nat} (hg : jm_HC g) {mu : jm_M} {Q : Option Value → jm_M → Prop} (h : ∀ m1, m1 = (jm_wr (jm_wr mu 49 0 0) 49 1 0) → jm_V l g (d + 2) iX4_readLines 9 [(0, .ref 63), (1, jm_i 0)] [] m1 Q) : jm_R l g (d + 2) iX4_readLines [.ref 63] mu Q := by
  refine jm_enter [(0, .ref 63)] (by decide) (Nat.le_of_ble_eq_true rfl) rfl ?_
  refine jm_mrI (fun hm0 => ?_)
  refine jm_aload_n (pc := 0) 0 dX4_readLines_0 rfl ?_
  refine jm_getr (pc := 1) 1 dX4_readLines_1 fX4_21 (cC63 hg) rfl ?_
  refine jm_inlvv (pc := 4) (As := []) (st := []) iX3_clear dX4_readLines_4 mX4_25 (cC49 hg) ⟨_, rfl, rfl⟩ rfl rfl (Nat.le_of_ble_eq_true rfl) (pX3_clear hg  (jm_kVi ?_))
  have h := h _ rfl
  refine jm_mrI (fun hm2 => ?_)
  refine jm_iconst (pc := 7) dX4_readLines_7 ?_
  refine jm_istore_n (pc := 8) (lv' := [(1, _), (0, _)]) dX4_readLines_8 (by decide) rfl ?_
  exact jm_sub [1, 0] rfl h
theorem dX5_readStep_0 : decode cX5_readStep 0 = .ok (.iload_n 1, 1) := by decide +kernel
theorem dX5_readStep_1 : decode cX5_readStep 1 = .ok (.sipush 303, 3) := by decide +kernel
theorem dX5_readStep_4 : decode cX5_readStep 4 = .ok (.if_icmp .ne 5, 3) := by decide +kernel
theorem dX5_readStep_7 : decode cX5_readStep 7 = .ok (.iconst 0, 1) := by decide +kernel
theorem dX5_readStep_8 : decode cX5_readStep 8 = .ok (.ireturn, 1) := by decide +kernel
theorem dX5_readStep_9 : decode cX5_readStep 9 = .ok (.aload_n 0, 1) := by decide +kernel
theorem dX5_readStep_10 : decode cX5_readStep 10 = .ok (.invokevirtual 62, 3) := by decide +kernel
theorem dX5_readStep_13 : decode cX5_readStep 13 = .ok (.istore_n 2, 1) := by decide +kernel
theorem dX5_readStep_14 : decode cX5_readStep 14 = .ok (.aload_n 0, 1) := by decide +kernel
theorem dX5_readStep_15 : decode cX5_readStep 15 = .ok (.invokevirtual 65, 3) := by decide +kernel
theorem dX5_readStep_18 : decode cX5_readStep 18 = .ok (.iload_n 1, 1) := by decide +kernel
theorem dX5_readStep_19 : decode cX5_readStep 19 = .ok (.sipush 301, 3) := by decide +kernel
theorem dX5_readStep_22 : decode cX5_readStep 22 = .ok (.if_icmp .ne 7, 3) := by decide +kernel
theorem dX5_readStep_25 : decode cX5_readStep 25 = .ok (.iload_n 2, 1) := by decide +kernel
theorem dX5_readStep_26 : decode cX5_readStep 26 = .ok (.goto 5, 3) := by decide +kernel
theorem dX5_readStep_29 : decode cX5_readStep 29 = .ok (.iload_n 2, 1) := by decide +kernel
theorem dX5_readStep_30 : decode cX5_readStep 30 = .ok (.ineg, 1) := by decide +kernel
theorem dX5_readStep_31 : decode cX5_readStep 31 = .ok (.ireturn, 1) := by decide +kernel
theorem eX5_readStep {l : Launch} {g : jm_G} {d : Nat} {v1 : Int} (hg : jm_HC g) {mu : jm_M} {Q : Option Value → jm_M → Prop} (h : jm_rg v1 ∧ (¬ v1 = 303 → jm_R l g d iX7_number [.ref 1] mu (jm_qi fun z3 m2 => jm_R l g d iX7_skip [.ref 1] m2 (jm_qv fun m6 => (¬ v1 = 301 → Q (some (jm_i (-z3))) m6) ∧ (v1 = 301 → Q (some (jm_i z3)) m6)))) ∧ (v1 = 303 → Q (some (jm_i 0)) mu)) : jm_R l g (d + 1) iX5_readStep [.ref 1, jm_i v1] mu Q := by
  refine jm_enter [(0, .ref 1), (1, jm_i v1)] (by decide) (Nat.le_of_ble_eq_true rfl) rfl ?_
  refine jm_mrI (fun hm0 => ?_)
  refine jm_iload_n (pc := 0) 1 dX5_readStep_0 rfl ?_
  refine jm_sipush (pc := 1) dX5_readStep_1 (by decide) ?_
  have hg1 := h.1
  have h := h.2
  refine jm_icmp_ne (pc := 4) 9 dX5_readStep_4 rfl hg1 ⟨by decide, by decide⟩ (fun q => ?_) (fun q => ?_)
  · have h := h.1 q
    refine jm_aload_n (pc := 9) 0 dX5_readStep_9 rfl ?_
    refine jm_callvi (pc := 10) (As := []) (st := []) iX7_number dX5_readStep_10 mX5_62 (cC1 hg) ⟨_, rfl, rfl⟩ rfl rfl (Nat.le_of_ble_eq_true rfl) h (fun z3 m2 hz4 h hm5 => ?_)
    refine jm_istore_n (pc := 13) (lv' := [(2, _), (0, _), (1, _)]) dX5_readStep_13 (by decide) rfl ?_
    refine jm_aload_n (pc := 14) 1 dX5_readStep_14 rfl ?_
    refine jm_callvv (pc := 15) (As := []) (st := []) iX7_skip dX5_readStep_15 mX5_65 (cC1 hg) ⟨_, rfl, rfl⟩ rfl rfl (Nat.le_of_ble_eq_true rfl) h (fun m6 h hm9 => ?_)
    refine jm_iload_n (pc := 18) 2 dX5_readStep_18 rfl ?_
    refine jm_sipush (pc := 19) dX5_readStep_19 (by decide) ?_
    refine jm_icmp_ne (pc := 22) 29 dX5_readStep_22 rfl hg1 ⟨by decide, by decide⟩ (fun q => ?_) (fun q => ?_)
    · have h := h.1 q
      refine jm_iload_n (pc := 29) 0 dX5_readStep_29 rfl ?_
      refine jm_ineg (pc := 30) dX5_readStep_30 ?_
      exact jm_iret (pc := 31) dX5_readStep_31 rfl h
    · have h := h.2 q
      refine jm_iload_n (pc := 25) 0 dX5_readStep_25 rfl ?_
      refine jm_goto (pc := 26) 31 dX5_readStep_26 rfl ?_
      exact jm_iret (pc := 31) dX5_readStep_31 rfl h
  · have h := h.2 q
    refine jm_iconst (pc := 7) dX5_readStep_7 ?_
    exact jm_iret (pc := 8) dX5_readStep_8 rfl h
theorem dX5_readSteps_0 : decode cX5_readSteps 0 = .ok (.iconst 0, 1) := by decide +kernel
theorem dX5_readSteps_1 : decode cX5_readSteps 1 = .ok (.istore_n 3, 1) := by decide +kernel
theorem dX5_readSteps_2 : decode cX5_readSteps 2 = .ok (.iload_n 3, 1) := by decide +kernel
theorem dX5_readSteps_3 : decode cX5_readSteps 3 = .ok (.bipush 7, 2) := by decide +kernel
theorem dX5_readSteps_5 : decode cX5_readSteps 5 = .ok (.if_icmp .gt 109, 3) := by decide +kernel
theorem dX5_readSteps_8 : decode cX5_readSteps 8 = .ok (.aload_n 1, 1) := by decide +kernel
theorem dX5_readSteps_9 : decode cX5_readSteps 9 = .ok (.invokevirtual 43, 3) := by decide +kernel
theorem dX5_readSteps_12 : decode cX5_readSteps 12 = .ok (.istore 4, 2) := by decide +kernel
theorem dX5_readSteps_14 : decode cX5_readSteps 14 = .ok (.iload 4, 2) := by decide +kernel
theorem dX5_readSteps_16 : decode cX5_readSteps 16 = .ok (.sipush 301, 3) := by decide +kernel
theorem dX5_readSteps_19 : decode cX5_readSteps 19 = .ok (.if_icmp .eq 26, 3) := by decide +kernel
theorem dX5_readSteps_22 : decode cX5_readSteps 22 = .ok (.iload 4, 2) := by decide +kernel
theorem dX5_readSteps_24 : decode cX5_readSteps 24 = .ok (.sipush 302, 3) := by decide +kernel
theorem dX5_readSteps_27 : decode cX5_readSteps 27 = .ok (.if_icmp .eq 18, 3) := by decide +kernel
theorem dX5_readSteps_30 : decode cX5_readSteps 30 = .ok (.iload 4, 2) := by decide +kernel
theorem dX5_readSteps_32 : decode cX5_readSteps 32 = .ok (.sipush 303, 3) := by decide +kernel
theorem dX5_readSteps_35 : decode cX5_readSteps 35 = .ok (.if_icmp .eq 10, 3) := by decide +kernel
theorem dX5_readSteps_38 : decode cX5_readSteps 38 = .ok (.aload_n 1, 1) := by decide +kernel
theorem dX5_readSteps_39 : decode cX5_readSteps 39 = .ok (.bipush 59, 2) := by decide +kernel
theorem dX5_readSteps_41 : decode cX5_readSteps 41 = .ok (.invokevirtual 55, 3) := by decide +kernel
theorem dX5_readSteps_44 : decode cX5_readSteps 44 = .ok (.ireturn, 1) := by decide +kernel
theorem dX5_readSteps_45 : decode cX5_readSteps 45 = .ok (.iload_n 3, 1) := by decide +kernel
theorem dX5_readSteps_46 : decode cX5_readSteps 46 = .ok (.bipush 7, 2) := by decide +kernel
theorem dX5_readSteps_48 : decode cX5_readSteps 48 = .ok (.if_icmp .ne 9, 3) := by decide +kernel
theorem dX5_readSteps_51 : decode cX5_readSteps 51 = .ok (.aload_n 1, 1) := by decide +kernel
theorem dX5_readSteps_52 : decode cX5_readSteps 52 = .ok (.iconst 3, 1) := by decide +kernel
theorem dX5_readSteps_53 : decode cX5_readSteps 53 = .ok (.invokevirtual 51, 3) := by decide +kernel
theorem dX5_readSteps_56 : decode cX5_readSteps 56 = .ok (.ireturn, 1) := by decide +kernel
theorem dX5_readSteps_57 : decode cX5_readSteps 57 = .ok (.aload_n 1, 1) := by decide +kernel
theorem dX5_readSteps_58 : decode cX5_readSteps 58 = .ok (.invokevirtual 65, 3) := by decide +kernel
theorem dX5_readSteps_61 : decode cX5_readSteps 61 = .ok (.iload 4, 2) := by decide +kernel
theorem dX5_readSteps_63 : decode cX5_readSteps 63 = .ok (.sipush 303, 3) := by decide +kernel
theorem dX5_readSteps_66 : decode cX5_readSteps 66 = .ok (.if_icmp .eq 15, 3) := by decide +kernel
theorem dX5_readSteps_69 : decode cX5_readSteps 69 = .ok (.aload_n 1, 1) := by decide +kernel
theorem dX5_readSteps_70 : decode cX5_readSteps 70 = .ok (.iconst 1, 1) := by decide +kernel
theorem dX5_readSteps_71 : decode cX5_readSteps 71 = .ok (.bipush 24, 2) := by decide +kernel
theorem dX5_readSteps_73 : decode cX5_readSteps 73 = .ok (.invokevirtual 58, 3) := by decide +kernel
theorem dX5_readSteps_76 : decode cX5_readSteps 76 = .ok (.ifCond .ne 5, 3) := by decide +kernel
theorem dX5_readSteps_79 : decode cX5_readSteps 79 = .ok (.iconst 0, 1) := by decide +kernel
theorem dX5_readSteps_80 : decode cX5_readSteps 80 = .ok (.ireturn, 1) := by decide +kernel
theorem dX5_readSteps_81 : decode cX5_readSteps 81 = .ok (.aload_n 0, 1) := by decide +kernel
theorem dX5_readSteps_82 : decode cX5_readSteps 82 = .ok (.getfield 21, 3) := by decide +kernel
theorem dX5_readSteps_85 : decode cX5_readSteps 85 = .ok (.iload_n 2, 1) := by decide +kernel
theorem dX5_readSteps_86 : decode cX5_readSteps 86 = .ok (.bipush 7, 2) := by decide +kernel
theorem dX5_readSteps_88 : decode cX5_readSteps 88 = .ok (.imul, 1) := by decide +kernel
theorem dX5_readSteps_89 : decode cX5_readSteps 89 = .ok (.iload_n 3, 1) := by decide +kernel
theorem dX5_readSteps_90 : decode cX5_readSteps 90 = .ok (.iadd, 1) := by decide +kernel
theorem dX5_readSteps_91 : decode cX5_readSteps 91 = .ok (.aload_n 1, 1) := by decide +kernel
theorem dX5_readSteps_92 : decode cX5_readSteps 92 = .ok (.iload 4, 2) := by decide +kernel
theorem dX5_readSteps_94 : decode cX5_readSteps 94 = .ok (.invokestatic 72, 3) := by decide +kernel
theorem dX5_readSteps_97 : decode cX5_readSteps 97 = .ok (.iastore, 1) := by decide +kernel
theorem dX5_readSteps_98 : decode cX5_readSteps 98 = .ok (.aload_n 0, 1) := by decide +kernel
theorem dX5_readSteps_99 : decode cX5_readSteps 99 = .ok (.getfield 17, 3) := by decide +kernel
theorem dX5_readSteps_102 : decode cX5_readSteps 102 = .ok (.iload_n 2, 1) := by decide +kernel
theorem dX5_readSteps_103 : decode cX5_readSteps 103 = .ok (.dup2, 1) := by decide +kernel
theorem dX5_readSteps_104 : decode cX5_readSteps 104 = .ok (.iaload, 1) := by decide +kernel
theorem dX5_readSteps_105 : decode cX5_readSteps 105 = .ok (.iconst 1, 1) := by decide +kernel
theorem dX5_readSteps_106 : decode cX5_readSteps 106 = .ok (.iadd, 1) := by decide +kernel
theorem dX5_readSteps_107 : decode cX5_readSteps 107 = .ok (.iastore, 1) := by decide +kernel
theorem dX5_readSteps_108 : decode cX5_readSteps 108 = .ok (.iinc 3 1, 3) := by decide +kernel
theorem dX5_readSteps_111 : decode cX5_readSteps 111 = .ok (.goto (-109), 3) := by decide +kernel
theorem dX5_readSteps_114 : decode cX5_readSteps 114 = .ok (.iconst 0, 1) := by decide +kernel
theorem dX5_readSteps_115 : decode cX5_readSteps 115 = .ok (.ireturn, 1) := by decide +kernel
theorem bX5_readSteps_81 {l : Launch} {g : jm_G} {d : Nat} {v2 v3 v4 : Int} (hg : jm_HC g) {mu : jm_M} {Q : Option Value → jm_M → Prop} (h : jm_R l g (d + 1) iX5_readStep [.ref 1, jm_i v4] mu (jm_qi fun z2 m1 => (0 ≤ ((v2 * 7) + v3) ∧ ((v2 * 7) + v3) < 168) ∧ ∀ m6, m6 = jm_wr m1 48 ((v2 * 7) + v3) z2 → (0 ≤ v2 ∧ v2 < 24) ∧ jm_rg ((m6.1 47 v2) + 1) ∧ ∀ m10, m10 = jm_wr m6 47 v2 ((m6.1 47 v2) + 1) → jm_V l g (d + 2) iX5_readSteps 2 [(0, .ref 46), (1, .ref 1), (2, jm_i v2), (3, jm_i (v3 + 1))] [] m10 Q)) : jm_V l g (d + 2) iX5_readSteps 81 [(0, .ref 46), (1, .ref 1), (2, jm_i v2), (3, jm_i v3), (4, jm_i v4)] [] mu Q := by
  refine jm_mrI (fun hm0 => ?_)
  refine jm_aload_n (pc := 81) 0 dX5_readSteps_81 rfl ?_
  refine jm_getr (pc := 82) 2 dX5_readSteps_82 fX5_21 (cC46 hg) rfl ?_
  refine jm_iload_n (pc := 85) 2 dX5_readSteps_85 rfl ?_
  refine jm_bipush (pc := 86) dX5_readSteps_86 (by decide) ?_
  refine jm_imul (pc := 88) dX5_readSteps_88 ?_
  refine jm_iload_n (pc := 89) 3 dX5_readSteps_89 rfl ?_
  refine jm_iadd (pc := 90) dX5_readSteps_90 ?_
  refine jm_aload_n (pc := 91) 1 dX5_readSteps_91 rfl ?_
  refine jm_iload (pc := 92) 4 dX5_readSteps_92 rfl ?_
  refine jm_callsi (pc := 94) (As := [_, _]) (st := [_, _]) iX5_readStep dX5_readSteps_94 mX5_72 rfl rfl (Nat.le_of_ble_eq_true rfl) h (fun z2 m1 hz3 h hm4 => ?_)
  have hg5 := h.1
  have h := h.2
  refine jm_iast (pc := 97) dX5_readSteps_97 (cC48 hg) (by decide) hg5.1 hg5.2 hz3 ?_
  have h := h _ rfl
  refine jm_mrI (fun hm7 => ?_)
  refine jm_aload_n (pc := 98) 0 dX5_readSteps_98 rfl ?_
  refine jm_getr (pc := 99) 1 dX5_readSteps_99 fX5_17 (cC46 hg) rfl ?_
  refine jm_iload_n (pc := 102) 2 dX5_readSteps_102 rfl ?_
  refine jm_dup2 (pc := 103) _ _ dX5_readSteps_103 rfl rfl ?_
  have hg8 := h.1
  have h := h.2
  refine jm_iald (pc := 104) dX5_readSteps_104 (cC47 hg) (by decide) hg8.1 hg8.2 ?_
  refine jm_iconst (pc := 105) dX5_readSteps_105 ?_
  refine jm_iadd (pc := 106) dX5_readSteps_106 ?_
  have hg9 := h.1
  have h := h.2
  refine jm_iast (pc := 107) dX5_readSteps_107 (cC47 hg) (by decide) hg8.1 hg8.2 hg9 ?_
  have h := h _ rfl
  refine jm_mrI (fun hm11 => ?_)
  refine jm_iinc (pc := 108) (lv' := [(3, _), (0, _), (1, _), (2, _), (4, _)]) 3 dX5_readSteps_108 rfl (by decide) rfl ?_
  refine jm_goto (pc := 111) 2 dX5_readSteps_111 rfl ?_
  exact jm_sub [1, 2, 3, 0] rfl h
theorem bX5_readSteps_45 {l : Launch} {g : jm_G} {d : Nat} {v2 v3 v4 : Int} (hg : jm_HC g) {mu : jm_M} {Q : Option Value → jm_M → Prop} (h : jm_rg v3 ∧ (¬ v3 = 7 → jm_R l g (d + 1) iX7_skip [.ref 1] mu (jm_qv fun m2 => jm_rg v4 ∧ (v4 = 303 → jm_V l g (d + 2) iX5_readSteps 81 [(0, .ref 46), (1, .ref 1), (2, jm_i v2), (3, jm_i v3), (4, jm_i v4)] [] m2 Q) ∧ (¬ v4 = 303 → jm_R l g (d + 1) iX7_isNumberWithin [.ref 1, jm_i 1, jm_i 24] m2 (jm_qi fun z8 m7 => (¬ z8 = 0 → jm_V l g (d + 2) iX5_readSteps 81 [(0, .ref 46), (1, .ref 1), (2, jm_i v2), (3, jm_i v3), (4, jm_i v4)] [] m7 Q) ∧ (z8 = 0 → Q (some (jm_i 0)) m7))))) ∧ (v3 = 7 → (0 ≤ ((jm_wr mu 1 2 3).1 1 8) ∧ ((jm_wr mu 1 2 3).1 1 8) < 401) ∧ ∀ m12, m12 = (jm_wr (jm_wr mu 1 2 3) 1 3 ((jm_wr mu 1 2 3).1 4 ((jm_wr mu 1 2 3).1 1 8))) → Q (some (jm_i 0)) m12)) : jm_V l g (d + 2) iX5_readSteps 45 [(0, .ref 46), (1, .ref 1), (2, jm_i v2), (3, jm_i v3), (4, jm_i v4)] [] mu Q := by
  refine jm_mrI (fun hm0 => ?_)
  refine jm_iload_n (pc := 45) 3 dX5_readSteps_45 rfl ?_
  refine jm_bipush (pc := 46) dX5_readSteps_46 (by decide) ?_
  have hg1 := h.1
  have h := h.2
  refine jm_icmp_ne (pc := 48) 57 dX5_readSteps_48 rfl hg1 ⟨by decide, by decide⟩ (fun q => ?_) (fun q => ?_)
  · have h := h.1 q
    refine jm_aload_n (pc := 57) 1 dX5_readSteps_57 rfl ?_
    refine jm_callvv (pc := 58) (As := []) (st := []) iX7_skip dX5_readSteps_58 mX5_65 (cC1 hg) ⟨_, rfl, rfl⟩ rfl rfl (Nat.le_of_ble_eq_true rfl) h (fun m2 h hm5 => ?_)
    refine jm_iload (pc := 61) 4 dX5_readSteps_61 rfl ?_
    refine jm_sipush (pc := 63) dX5_readSteps_63 (by decide) ?_
    have hg6 := h.1
    have h := h.2
    refine jm_icmp_eq (pc := 66) 81 dX5_readSteps_66 rfl hg6 ⟨by decide, by decide⟩ (fun q => ?_) (fun q => ?_)
    · have h := h.1 q
      exact jm_sub [0, 1, 2, 3, 4] rfl h
    · have h := h.2 q
      refine jm_aload_n (pc := 69) 1 dX5_readSteps_69 rfl ?_
      refine jm_iconst (pc := 70) dX5_readSteps_70 ?_
      refine jm_bipush (pc := 71) dX5_readSteps_71 (by decide) ?_
      refine jm_callvi (pc := 73) (As := [_, _]) (st := []) iX7_isNumberWithin dX5_readSteps_73 mX5_58 (cC1 hg) ⟨_, rfl, rfl⟩ rfl rfl (Nat.le_of_ble_eq_true rfl) h (fun z8 m7 hz9 h hm10 => ?_)
      refine jm_if_ne (pc := 76) 81 dX5_readSteps_76 rfl hz9 (fun q => ?_) (fun q => ?_)
      · have h := h.1 q
        exact jm_sub [0, 1, 2, 3, 4] rfl h
      · have h := h.2 q
        refine jm_iconst (pc := 79) dX5_readSteps_79 ?_
        exact jm_zret (pc := 80) dX5_readSteps_80 rfl (Or.inl rfl) h
  · have h := h.2 q
    refine jm_aload_n (pc := 51) 1 dX5_readSteps_51 rfl ?_
    refine jm_iconst (pc := 52) dX5_readSteps_52 ?_
    have hg11 := h.1
    have h := h.2
    refine jm_inlvi (pc := 53) (As := [_]) (st := []) iX7_refuse dX5_readSteps_53 mX5_51 (cC1 hg) ⟨_, rfl, rfl⟩ rfl rfl (Nat.le_of_ble_eq_true rfl) (pX7_refuse hg ⟨by decide, by decide⟩ hg11 (jm_kIi ?_))
    have h := h _ rfl
    refine jm_mrI (fun hm13 => ?_)
    exact jm_zret (pc := 56) dX5_readSteps_56 rfl (Or.inl rfl) h
theorem bX5_readSteps_2 {l : Launch} {g : jm_G} {d : Nat} {v2 v3 : Int} (hg : jm_HC g) {mu : jm_M} {Q : Option Value → jm_M → Prop} (h : jm_rg v3 ∧ (7 < v3 → Q (some (jm_i 0)) mu) ∧ (v3 ≤ 7 → (0 ≤ (mu.1 1 8) ∧ (mu.1 1 8) < 401) ∧ ∀ x3, x3 = (mu.1 3 (mu.1 1 8)) → (x3 = 301 → jm_V l g (d + 2) iX5_readSteps 45 [(0, .ref 46), (1, .ref 1), (2, jm_i v2), (3, jm_i v3), (4, jm_i x3)] [] mu Q) ∧ (¬ x3 = 301 → (x3 = 302 → jm_V l g (d + 2) iX5_readSteps 45 [(0, .ref 46), (1, .ref 1), (2, jm_i v2), (3, jm_i v3), (4, jm_i x3)] [] mu Q) ∧ (¬ x3 = 302 → (x3 = 303 → jm_V l g (d + 2) iX5_readSteps 45 [(0, .ref 46), (1, .ref 1), (2, jm_i v2), (3, jm_i v3), (4, jm_i x3)] [] mu Q) ∧ (¬ x3 = 303 → jm_R l g (d + 1) iX7_take [.ref 1, jm_i 59] mu (jm_qi fun z5 m4 => (z5 = 0 ∨ z5 = 1) ∧ Q (some (jm_i z5)) m4)))))) : jm_V l g (d + 2) iX5_readSteps 2 [(0, .ref 46), (1, .ref 1), (2, jm_i v2), (3, jm_i v3)] [] mu Q := by
  refine jm_mrI (fun hm0 => ?_)
  refine jm_iload_n (pc := 2) 3 dX5_readSteps_2 rfl ?_
  refine jm_bipush (pc := 3) dX5_readSteps_3 (by decide) ?_
  have hg1 := h.1
  have h := h.2
  refine jm_icmp_gt (pc := 5) 114 dX5_readSteps_5 rfl hg1 ⟨by decide, by decide⟩ (fun q => ?_) (fun q => ?_)
  · have h := h.1 q
    refine jm_iconst (pc := 114) dX5_readSteps_114 ?_
    exact jm_zret (pc := 115) dX5_readSteps_115 rfl (Or.inl rfl) h
  · have h := h.2 q
    refine jm_aload_n (pc := 8) 1 dX5_readSteps_8 rfl ?_
    have hg2 := h.1
    have h := h.2
    refine jm_inlvi (pc := 9) (As := []) (st := []) iX7_kind dX5_readSteps_9 mX5_43 (cC1 hg) ⟨_, rfl, rfl⟩ rfl rfl (Nat.le_of_ble_eq_true rfl) (pX7_kind hg hg2 (jm_kIi ?_))
    have h := h _ rfl
    refine jm_istore (pc := 12) (lv' := [(4, _), (0, _), (1, _), (2, _), (3, _)]) dX5_readSteps_12 (by decide) rfl ?_
    refine jm_iload (pc := 14) 0 dX5_readSteps_14 rfl ?_
    refine jm_sipush (pc := 16) dX5_readSteps_16 (by decide) ?_
    refine jm_icmp_eq (pc := 19) 45 dX5_readSteps_19 rfl (hm0 _ _) ⟨by decide, by decide⟩ (fun q => ?_) (fun q => ?_)
    · have h := h.1 q
      exact jm_sub [1, 2, 3, 4, 0] rfl h
    · have h := h.2 q
      refine jm_iload (pc := 22) 0 dX5_readSteps_22 rfl ?_
      refine jm_sipush (pc := 24) dX5_readSteps_24 (by decide) ?_
      refine jm_icmp_eq (pc := 27) 45 dX5_readSteps_27 rfl (hm0 _ _) ⟨by decide, by decide⟩ (fun q => ?_) (fun q => ?_)
      · have h := h.1 q
        exact jm_sub [1, 2, 3, 4, 0] rfl h
      · have h := h.2 q
        refine jm_iload (pc := 30) 0 dX5_readSteps_30 rfl ?_
        refine jm_sipush (pc := 32) dX5_readSteps_32 (by decide) ?_
        refine jm_icmp_eq (pc := 35) 45 dX5_readSteps_35 rfl (hm0 _ _) ⟨by decide, by decide⟩ (fun q => ?_) (fun q => ?_)
        · have h := h.1 q
          exact jm_sub [1, 2, 3, 4, 0] rfl h
        · have h := h.2 q
          refine jm_aload_n (pc := 38) 2 dX5_readSteps_38 rfl ?_
          refine jm_bipush (pc := 39) dX5_readSteps_39 (by decide) ?_
          refine jm_callvi (pc := 41) (As := [_]) (st := []) iX7_take dX5_readSteps_41 mX5_55 (cC1 hg) ⟨_, rfl, rfl⟩ rfl rfl (Nat.le_of_ble_eq_true rfl) h (fun z5 m4 hz6 h hm7 => ?_)
          have hg8 := h.1
          have h := h.2
          exact jm_zret (pc := 44) dX5_readSteps_44 rfl hg8 h
theorem eX5_readSteps {l : Launch} {g : jm_G} {d : Nat} {v2 : Int} (hg : jm_HC g) {mu : jm_M} {Q : Option Value → jm_M → Prop} (h : jm_V l g (d + 2) iX5_readSteps 2 [(0, .ref 46), (1, .ref 1), (2, jm_i v2), (3, jm_i 0)] [] mu Q) : jm_R l g (d + 2) iX5_readSteps [.ref 46, .ref 1, jm_i v2] mu Q := by
  refine jm_enter [(0, .ref 46), (1, .ref 1), (2, jm_i v2)] (by decide) (Nat.le_of_ble_eq_true rfl) rfl ?_
  refine jm_mrI (fun hm0 => ?_)
  refine jm_iconst (pc := 0) dX5_readSteps_0 ?_
  refine jm_istore_n (pc := 1) (lv' := [(3, _), (0, _), (1, _), (2, _)]) dX5_readSteps_1 (by decide) rfl ?_
  exact jm_sub [1, 2, 3, 0] rfl h
theorem dX5_readLine_0 : decode cX5_readLine 0 = .ok (.aload_n 1, 1) := by decide +kernel
theorem dX5_readLine_1 : decode cX5_readLine 1 = .ok (.invokevirtual 43, 3) := by decide +kernel
theorem dX5_readLine_4 : decode cX5_readLine 4 = .ok (.sipush 300, 3) := by decide +kernel
theorem dX5_readLine_7 : decode cX5_readLine 7 = .ok (.if_icmp .ne 18, 3) := by decide +kernel
theorem dX5_readLine_10 : decode cX5_readLine 10 = .ok (.aload_n 0, 1) := by decide +kernel
theorem dX5_readLine_11 : decode cX5_readLine 11 = .ok (.getfield 11, 3) := by decide +kernel
theorem dX5_readLine_14 : decode cX5_readLine 14 = .ok (.bipush 16, 2) := by decide +kernel
theorem dX5_readLine_16 : decode cX5_readLine 16 = .ok (.if_icmp .ne 9, 3) := by decide +kernel
theorem dX5_readLine_19 : decode cX5_readLine 19 = .ok (.aload_n 1, 1) := by decide +kernel
theorem dX5_readLine_20 : decode cX5_readLine 20 = .ok (.iconst 3, 1) := by decide +kernel
theorem dX5_readLine_21 : decode cX5_readLine 21 = .ok (.invokevirtual 51, 3) := by decide +kernel
theorem dX5_readLine_24 : decode cX5_readLine 24 = .ok (.ireturn, 1) := by decide +kernel
theorem dX5_readLine_25 : decode cX5_readLine 25 = .ok (.aload_n 1, 1) := by decide +kernel
theorem dX5_readLine_26 : decode cX5_readLine 26 = .ok (.sipush 300, 3) := by decide +kernel
theorem dX5_readLine_29 : decode cX5_readLine 29 = .ok (.invokevirtual 55, 3) := by decide +kernel
theorem dX5_readLine_32 : decode cX5_readLine 32 = .ok (.ifCond .eq 12, 3) := by decide +kernel
theorem dX5_readLine_35 : decode cX5_readLine 35 = .ok (.aload_n 1, 1) := by decide +kernel
theorem dX5_readLine_36 : decode cX5_readLine 36 = .ok (.iconst 0, 1) := by decide +kernel
theorem dX5_readLine_37 : decode cX5_readLine 37 = .ok (.iconst 5, 1) := by decide +kernel
theorem dX5_readLine_38 : decode cX5_readLine 38 = .ok (.invokevirtual 58, 3) := by decide +kernel
theorem dX5_readLine_41 : decode cX5_readLine 41 = .ok (.ifCond .ne 5, 3) := by decide +kernel
theorem dX5_readLine_44 : decode cX5_readLine 44 = .ok (.iconst 0, 1) := by decide +kernel
theorem dX5_readLine_45 : decode cX5_readLine 45 = .ok (.ireturn, 1) := by decide +kernel
theorem dX5_readLine_46 : decode cX5_readLine 46 = .ok (.aload_n 1, 1) := by decide +kernel
theorem dX5_readLine_47 : decode cX5_readLine 47 = .ok (.invokevirtual 62, 3) := by decide +kernel
theorem dX5_readLine_50 : decode cX5_readLine 50 = .ok (.istore_n 2, 1) := by decide +kernel
theorem dX5_readLine_51 : decode cX5_readLine 51 = .ok (.aload_n 1, 1) := by decide +kernel
theorem dX5_readLine_52 : decode cX5_readLine 52 = .ok (.invokevirtual 65, 3) := by decide +kernel
theorem dX5_readLine_55 : decode cX5_readLine 55 = .ok (.aload_n 1, 1) := by decide +kernel
theorem dX5_readLine_56 : decode cX5_readLine 56 = .ok (.iconst 0, 1) := by decide +kernel
theorem dX5_readLine_57 : decode cX5_readLine 57 = .ok (.iconst 3, 1) := by decide +kernel
theorem dX5_readLine_58 : decode cX5_readLine 58 = .ok (.invokevirtual 58, 3) := by decide +kernel
theorem dX5_readLine_61 : decode cX5_readLine 61 = .ok (.ifCond .ne 5, 3) := by decide +kernel
theorem dX5_readLine_64 : decode cX5_readLine 64 = .ok (.iconst 0, 1) := by decide +kernel
theorem dX5_readLine_65 : decode cX5_readLine 65 = .ok (.ireturn, 1) := by decide +kernel
theorem dX5_readLine_66 : decode cX5_readLine 66 = .ok (.iload_n 2, 1) := by decide +kernel
theorem dX5_readLine_67 : decode cX5_readLine 67 = .ok (.iconst 4, 1) := by decide +kernel
theorem dX5_readLine_68 : decode cX5_readLine 68 = .ok (.imul, 1) := by decide +kernel
theorem dX5_readLine_69 : decode cX5_readLine 69 = .ok (.aload_n 1, 1) := by decide +kernel
theorem dX5_readLine_70 : decode cX5_readLine 70 = .ok (.invokevirtual 62, 3) := by decide +kernel
theorem dX5_readLine_73 : decode cX5_readLine 73 = .ok (.iadd, 1) := by decide +kernel
theorem dX5_readLine_74 : decode cX5_readLine 74 = .ok (.istore_n 3, 1) := by decide +kernel
theorem dX5_readLine_75 : decode cX5_readLine 75 = .ok (.aload_n 0, 1) := by decide +kernel
theorem dX5_readLine_76 : decode cX5_readLine 76 = .ok (.getfield 17, 3) := by decide +kernel
theorem dX5_readLine_79 : decode cX5_readLine 79 = .ok (.iload_n 3, 1) := by decide +kernel
theorem dX5_readLine_80 : decode cX5_readLine 80 = .ok (.iaload, 1) := by decide +kernel
theorem dX5_readLine_81 : decode cX5_readLine 81 = .ok (.ifCond .eq 9, 3) := by decide +kernel
theorem dX5_readLine_84 : decode cX5_readLine 84 = .ok (.aload_n 1, 1) := by decide +kernel
theorem dX5_readLine_85 : decode cX5_readLine 85 = .ok (.iconst 2, 1) := by decide +kernel
theorem dX5_readLine_86 : decode cX5_readLine 86 = .ok (.invokevirtual 51, 3) := by decide +kernel
theorem dX5_readLine_89 : decode cX5_readLine 89 = .ok (.ireturn, 1) := by decide +kernel
theorem dX5_readLine_90 : decode cX5_readLine 90 = .ok (.aload_n 1, 1) := by decide +kernel
theorem dX5_readLine_91 : decode cX5_readLine 91 = .ok (.invokevirtual 65, 3) := by decide +kernel
theorem dX5_readLine_94 : decode cX5_readLine 94 = .ok (.aload_n 0, 1) := by decide +kernel
theorem dX5_readLine_95 : decode cX5_readLine 95 = .ok (.getfield 17, 3) := by decide +kernel
theorem dX5_readLine_98 : decode cX5_readLine 98 = .ok (.iload_n 3, 1) := by decide +kernel
theorem dX5_readLine_99 : decode cX5_readLine 99 = .ok (.iconst 1, 1) := by decide +kernel
theorem dX5_readLine_100 : decode cX5_readLine 100 = .ok (.iastore, 1) := by decide +kernel
theorem dX5_readLine_101 : decode cX5_readLine 101 = .ok (.aload_n 0, 1) := by decide +kernel
theorem dX5_readLine_102 : decode cX5_readLine 102 = .ok (.dup, 1) := by decide +kernel
theorem dX5_readLine_103 : decode cX5_readLine 103 = .ok (.getfield 11, 3) := by decide +kernel
theorem dX5_readLine_106 : decode cX5_readLine 106 = .ok (.iconst 1, 1) := by decide +kernel
theorem dX5_readLine_107 : decode cX5_readLine 107 = .ok (.iadd, 1) := by decide +kernel
theorem dX5_readLine_108 : decode cX5_readLine 108 = .ok (.putfield 11, 3) := by decide +kernel
theorem dX5_readLine_111 : decode cX5_readLine 111 = .ok (.aload_n 0, 1) := by decide +kernel
theorem dX5_readLine_112 : decode cX5_readLine 112 = .ok (.aload_n 1, 1) := by decide +kernel
theorem dX5_readLine_113 : decode cX5_readLine 113 = .ok (.iload_n 3, 1) := by decide +kernel
theorem dX5_readLine_114 : decode cX5_readLine 114 = .ok (.invokevirtual 68, 3) := by decide +kernel
theorem dX5_readLine_117 : decode cX5_readLine 117 = .ok (.ireturn, 1) := by decide +kernel
theorem bX5_readLine_25 {l : Launch} {g : jm_G} {d : Nat} (hg : jm_HC g) {mu : jm_M} {Q : Option Value → jm_M → Prop} (h : jm_R l g (d + 1) iX7_take [.ref 1, jm_i 300] mu (jm_qi fun z2 m1 => (z2 = 0 → Q (some (jm_i 0)) m1) ∧ (¬ z2 = 0 → jm_R l g (d + 1) iX7_isNumberWithin [.ref 1, jm_i 0, jm_i 5] m1 (jm_qi fun z6 m5 => (¬ z6 = 0 → jm_R l g (d + 1) iX7_number [.ref 1] m5 (jm_qi fun z10 m9 => jm_R l g (d + 1) iX7_skip [.ref 1] m9 (jm_qv fun m13 => jm_R l g (d + 1) iX7_isNumberWithin [.ref 1, jm_i 0, jm_i 3] m13 (jm_qi fun z18 m17 => (¬ z18 = 0 → jm_R l g (d + 1) iX7_number [.ref 1] m17 (jm_qi fun z22 m21 => ∀ x25, x25 = ((z10 * 4) + z22) → (0 ≤ x25 ∧ x25 < 24) ∧ ((m21.1 47 x25) = 0 → jm_R l g (d + 1) iX7_skip [.ref 1] m21 (jm_qv fun m27 => ∀ m31, m31 = jm_wr m27 47 x25 1 → jm_rg ((m31.1 46 0) + 1) ∧ ∀ m34, m34 = jm_wr m31 46 0 ((m31.1 46 0) + 1) → jm_R l g (d + 1) iX5_readSteps [.ref 46, .ref 1, jm_i x25] m34 (jm_qi fun z37 m36 => (z37 = 0 ∨ z37 = 1) ∧ Q (some (jm_i z37)) m36))) ∧ (¬ (m21.1 47 x25) = 0 → (0 ≤ ((jm_wr m21 1 2 2).1 1 8) ∧ ((jm_wr m21 1 2 2).1 1 8) < 401) ∧ ∀ m42, m42 = (jm_wr (jm_wr m21 1 2 2) 1 3 ((jm_wr m21 1 2 2).1 4 ((jm_wr m21 1 2 2).1 1 8))) → Q (some (jm_i 0)) m42))) ∧ (z18 = 0 → Q (some (jm_i 0)) m17))))) ∧ (z6 = 0 → Q (some (jm_i 0)) m5))))) : jm_V l g (d + 2) iX5_readLine 25 [(0, .ref 46), (1, .ref 1)] [] mu Q := by
  refine jm_mrI (fun hm0 => ?_)
  refine jm_aload_n (pc := 25) 1 dX5_readLine_25 rfl ?_
  refine jm_sipush (pc := 26) dX5_readLine_26 (by decide) ?_
  refine jm_callvi (pc := 29) (As := [_]) (st := []) iX7_take dX5_readLine_29 mX5_55 (cC1 hg) ⟨_, rfl, rfl⟩ rfl rfl (Nat.le_of_ble_eq_true rfl) h (fun z2 m1 hz3 h hm4 => ?_)
  refine jm_if_eq (pc := 32) 44 dX5_readLine_32 rfl hz3 (fun q => ?_) (fun q => ?_)
  · have h := h.1 q
    refine jm_iconst (pc := 44) dX5_readLine_44 ?_
    exact jm_zret (pc := 45) dX5_readLine_45 rfl (Or.inl rfl) h
  · have h := h.2 q
    refine jm_aload_n (pc := 35) 1 dX5_readLine_35 rfl ?_
    refine jm_iconst (pc := 36) dX5_readLine_36 ?_
    refine jm_iconst (pc := 37) dX5_readLine_37 ?_
    refine jm_callvi (pc := 38) (As := [_, _]) (st := []) iX7_isNumberWithin dX5_readLine_38 mX5_58 (cC1 hg) ⟨_, rfl, rfl⟩ rfl rfl (Nat.le_of_ble_eq_true rfl) h (fun z6 m5 hz7 h hm8 => ?_)
    refine jm_if_ne (pc := 41) 46 dX5_readLine_41 rfl hz7 (fun q => ?_) (fun q => ?_)
    · have h := h.1 q
      refine jm_aload_n (pc := 46) 1 dX5_readLine_46 rfl ?_
      refine jm_callvi (pc := 47) (As := []) (st := []) iX7_number dX5_readLine_47 mX5_62 (cC1 hg) ⟨_, rfl, rfl⟩ rfl rfl (Nat.le_of_ble_eq_true rfl) h (fun z10 m9 hz11 h hm12 => ?_)
      refine jm_istore_n (pc := 50) (lv' := [(2, _), (0, _), (1, _)]) dX5_readLine_50 (by decide) rfl ?_
      refine jm_aload_n (pc := 51) 2 dX5_readLine_51 rfl ?_
      refine jm_callvv (pc := 52) (As := []) (st := []) iX7_skip dX5_readLine_52 mX5_65 (cC1 hg) ⟨_, rfl, rfl⟩ rfl rfl (Nat.le_of_ble_eq_true rfl) h (fun m13 h hm16 => ?_)
      refine jm_aload_n (pc := 55) 2 dX5_readLine_55 rfl ?_
      refine jm_iconst (pc := 56) dX5_readLine_56 ?_
      refine jm_iconst (pc := 57) dX5_readLine_57 ?_
      refine jm_callvi (pc := 58) (As := [_, _]) (st := []) iX7_isNumberWithin dX5_readLine_58 mX5_58 (cC1 hg) ⟨_, rfl, rfl⟩ rfl rfl (Nat.le_of_ble_eq_true rfl) h (fun z18 m17 hz19 h hm20 => ?_)
      refine jm_if_ne (pc := 61) 66 dX5_readLine_61 rfl hz19 (fun q => ?_) (fun q => ?_)
      · have h := h.1 q
        refine jm_iload_n (pc := 66) 0 dX5_readLine_66 rfl ?_
        refine jm_iconst (pc := 67) dX5_readLine_67 ?_
        refine jm_imul (pc := 68) dX5_readLine_68 ?_
        refine jm_aload_n (pc := 69) 2 dX5_readLine_69 rfl ?_
        refine jm_callvi (pc := 70) (As := []) (st := [_]) iX7_number dX5_readLine_70 mX5_62 (cC1 hg) ⟨_, rfl, rfl⟩ rfl rfl (Nat.le_of_ble_eq_true rfl) h (fun z22 m21 hz23 h hm24 => ?_)
        refine jm_iadd (pc := 73) dX5_readLine_73 ?_
        have h := h _ rfl
        refine jm_istore_n (pc := 74) (lv' := [(3, _), (2, _), (0, _), (1, _)]) dX5_readLine_74 (by decide) rfl ?_
        refine jm_aload_n (pc := 75) 2 dX5_readLine_75 rfl ?_
        refine jm_getr (pc := 76) 1 dX5_readLine_76 fX5_17 (cC46 hg) rfl ?_
        refine jm_iload_n (pc := 79) 0 dX5_readLine_79 rfl ?_
        have hg26 := h.1
        have h := h.2
        refine jm_iald (pc := 80) dX5_readLine_80 (cC47 hg) (by decide) hg26.1 hg26.2 ?_
        refine jm_if_eq (pc := 81) 90 dX5_readLine_81 rfl (hm24 _ _) (fun q => ?_) (fun q => ?_)
        · have h := h.1 q
          refine jm_aload_n (pc := 90) 3 dX5_readLine_90 rfl ?_
          refine jm_callvv (pc := 91) (As := []) (st := []) iX7_skip dX5_readLine_91 mX5_65 (cC1 hg) ⟨_, rfl, rfl⟩ rfl rfl (Nat.le_of_ble_eq_true rfl) h (fun m27 h hm30 => ?_)
          refine jm_aload_n (pc := 94) 2 dX5_readLine_94 rfl ?_
          refine jm_getr (pc := 95) 1 dX5_readLine_95 fX5_17 (cC46 hg) rfl ?_
          refine jm_iload_n (pc := 98) 0 dX5_readLine_98 rfl ?_
          refine jm_iconst (pc := 99) dX5_readLine_99 ?_
          refine jm_iast (pc := 100) dX5_readLine_100 (cC47 hg) (by decide) hg26.1 hg26.2 ⟨by decide, by decide⟩ ?_
          have h := h _ rfl
          refine jm_mrI (fun hm32 => ?_)
          refine jm_aload_n (pc := 101) 2 dX5_readLine_101 rfl ?_
          refine jm_dup (pc := 102) _ dX5_readLine_102 rfl ?_
          refine jm_geti (pc := 103) 0 dX5_readLine_103 fX5_11 (cC46 hg) rfl ?_
          refine jm_iconst (pc := 106) dX5_readLine_106 ?_
          refine jm_iadd (pc := 107) dX5_readLine_107 ?_
          have hg33 := h.1
          have h := h.2
          refine jm_put (pc := 108) 0 dX5_readLine_108 fX5_11 ftX5 (fun q h => by cases h; rfl) (jm_nI _) (jm_fI _) (cC46 hg) rfl hg33 ?_
          have h := h _ rfl
          refine jm_mrI (fun hm35 => ?_)
          refine jm_aload_n (pc := 111) 2 dX5_readLine_111 rfl ?_
          refine jm_aload_n (pc := 112) 3 dX5_readLine_112 rfl ?_
          refine jm_iload_n (pc := 113) 0 dX5_readLine_113 rfl ?_
          refine jm_callvi (pc := 114) (As := [_, _]) (st := []) iX5_readSteps dX5_readLine_114 mX5_68 (cC46 hg) ⟨_, rfl, rfl⟩ rfl rfl (Nat.le_of_ble_eq_true rfl) h (fun z37 m36 hz38 h hm39 => ?_)
          have hg40 := h.1
          have h := h.2
          exact jm_zret (pc := 117) dX5_readLine_117 rfl hg40 h
        · have h := h.2 q
          refine jm_aload_n (pc := 84) 3 dX5_readLine_84 rfl ?_
          refine jm_iconst (pc := 85) dX5_readLine_85 ?_
          have hg41 := h.1
          have h := h.2
          refine jm_inlvi (pc := 86) (As := [_]) (st := []) iX7_refuse dX5_readLine_86 mX5_51 (cC1 hg) ⟨_, rfl, rfl⟩ rfl rfl (Nat.le_of_ble_eq_true rfl) (pX7_refuse hg ⟨by decide, by decide⟩ hg41 (jm_kIi ?_))
          have h := h _ rfl
          refine jm_mrI (fun hm43 => ?_)
          exact jm_zret (pc := 89) dX5_readLine_89 rfl (Or.inl rfl) h
      · have h := h.2 q
        refine jm_iconst (pc := 64) dX5_readLine_64 ?_
        exact jm_zret (pc := 65) dX5_readLine_65 rfl (Or.inl rfl) h
    · have h := h.2 q
      refine jm_iconst (pc := 44) dX5_readLine_44 ?_
      exact jm_zret (pc := 45) dX5_readLine_45 rfl (Or.inl rfl) h
theorem eX5_readLine {l : Launch} {g : jm_G} {d : Nat} (hg : jm_HC g) {mu : jm_M} {Q : Option Value → jm_M → Prop} (h : (0 ≤ (mu.1 1 8) ∧ (mu.1 1 8) < 401) ∧ (¬ (mu.1 3 (mu.1 1 8)) = 300 → jm_V l g (d + 2) iX5_readLine 25 [(0, .ref 46), (1, .ref 1)] [] mu Q) ∧ ((mu.1 3 (mu.1 1 8)) = 300 → (¬ (mu.1 46 0) = 16 → jm_V l g (d + 2) iX5_readLine 25 [(0, .ref 46), (1, .ref 1)] [] mu Q) ∧ ((mu.1 46 0) = 16 → (0 ≤ ((jm_wr mu 1 2 3).1 1 8) ∧ ((jm_wr mu 1 2 3).1 1 8) < 401) ∧ ∀ m3, m3 = (jm_wr (jm_wr mu 1 2 3) 1 3 ((jm_wr mu 1 2 3).1 4 ((jm_wr mu 1 2 3).1 1 8))) → Q (some (jm_i 0)) m3))) : jm_R l g (d + 2) iX5_readLine [.ref 46, .ref 1] mu Q := by
  refine jm_enter [(0, .ref 46), (1, .ref 1)] (by decide) (Nat.le_of_ble_eq_true rfl) rfl ?_
  refine jm_mrI (fun hm0 => ?_)
  refine jm_aload_n (pc := 0) 1 dX5_readLine_0 rfl ?_
  have hg1 := h.1
  have h := h.2
  refine jm_inlvi (pc := 1) (As := []) (st := []) iX7_kind dX5_readLine_1 mX5_43 (cC1 hg) ⟨_, rfl, rfl⟩ rfl rfl (Nat.le_of_ble_eq_true rfl) (pX7_kind hg hg1 (jm_kIi ?_))
  refine jm_sipush (pc := 4) dX5_readLine_4 (by decide) ?_
  refine jm_icmp_ne (pc := 7) 25 dX5_readLine_7 rfl (hm0 _ _) ⟨by decide, by decide⟩ (fun q => ?_) (fun q => ?_)
  · have h := h.1 q
    exact jm_sub [0, 1] rfl h
  · have h := h.2 q
    refine jm_aload_n (pc := 10) 0 dX5_readLine_10 rfl ?_
    refine jm_geti (pc := 11) 0 dX5_readLine_11 fX5_11 (cC46 hg) rfl ?_
    refine jm_bipush (pc := 14) dX5_readLine_14 (by decide) ?_
    refine jm_icmp_ne (pc := 16) 25 dX5_readLine_16 rfl (hm0 _ _) ⟨by decide, by decide⟩ (fun q => ?_) (fun q => ?_)
    · have h := h.1 q
      exact jm_sub [0, 1] rfl h
    · have h := h.2 q
      refine jm_aload_n (pc := 19) 1 dX5_readLine_19 rfl ?_
      refine jm_iconst (pc := 20) dX5_readLine_20 ?_
      have hg2 := h.1
      have h := h.2
      refine jm_inlvi (pc := 21) (As := [_]) (st := []) iX7_refuse dX5_readLine_21 mX5_51 (cC1 hg) ⟨_, rfl, rfl⟩ rfl rfl (Nat.le_of_ble_eq_true rfl) (pX7_refuse hg ⟨by decide, by decide⟩ hg2 (jm_kIi ?_))
      have h := h _ rfl
      refine jm_mrI (fun hm4 => ?_)
      exact jm_zret (pc := 24) dX5_readLine_24 rfl (Or.inl rfl) h
theorem dX5_readFrom_0 : decode cX5_readFrom 0 = .ok (.aload_n 0, 1) := by decide +kernel
theorem dX5_readFrom_1 : decode cX5_readFrom 1 = .ok (.iconst 0, 1) := by decide +kernel
theorem dX5_readFrom_2 : decode cX5_readFrom 2 = .ok (.putfield 11, 3) := by decide +kernel
theorem dX5_readFrom_5 : decode cX5_readFrom 5 = .ok (.iconst 0, 1) := by decide +kernel
theorem dX5_readFrom_6 : decode cX5_readFrom 6 = .ok (.istore_n 2, 1) := by decide +kernel
theorem dX5_readFrom_7 : decode cX5_readFrom 7 = .ok (.iload_n 2, 1) := by decide +kernel
theorem dX5_readFrom_8 : decode cX5_readFrom 8 = .ok (.bipush 24, 2) := by decide +kernel
theorem dX5_readFrom_10 : decode cX5_readFrom 10 = .ok (.if_icmp .ge 16, 3) := by decide +kernel
theorem dX5_readFrom_13 : decode cX5_readFrom 13 = .ok (.aload_n 0, 1) := by decide +kernel
theorem dX5_readFrom_14 : decode cX5_readFrom 14 = .ok (.getfield 17, 3) := by decide +kernel
theorem dX5_readFrom_17 : decode cX5_readFrom 17 = .ok (.iload_n 2, 1) := by decide +kernel
theorem dX5_readFrom_18 : decode cX5_readFrom 18 = .ok (.iconst 0, 1) := by decide +kernel
theorem dX5_readFrom_19 : decode cX5_readFrom 19 = .ok (.iastore, 1) := by decide +kernel
theorem dX5_readFrom_20 : decode cX5_readFrom 20 = .ok (.iinc 2 1, 3) := by decide +kernel
theorem dX5_readFrom_23 : decode cX5_readFrom 23 = .ok (.goto (-16), 3) := by decide +kernel
theorem dX5_readFrom_26 : decode cX5_readFrom 26 = .ok (.iconst 0, 1) := by decide +kernel
theorem dX5_readFrom_27 : decode cX5_readFrom 27 = .ok (.istore_n 2, 1) := by decide +kernel
theorem dX5_readFrom_28 : decode cX5_readFrom 28 = .ok (.iload_n 2, 1) := by decide +kernel
theorem dX5_readFrom_29 : decode cX5_readFrom 29 = .ok (.bipush 16, 2) := by decide +kernel
theorem dX5_readFrom_31 : decode cX5_readFrom 31 = .ok (.if_icmp .gt 31, 3) := by decide +kernel
theorem dX5_readFrom_34 : decode cX5_readFrom 34 = .ok (.aload_n 1, 1) := by decide +kernel
theorem dX5_readFrom_35 : decode cX5_readFrom 35 = .ok (.invokevirtual 43, 3) := by decide +kernel
theorem dX5_readFrom_38 : decode cX5_readFrom 38 = .ok (.sipush 257, 3) := by decide +kernel
theorem dX5_readFrom_41 : decode cX5_readFrom 41 = .ok (.if_icmp .ne 5, 3) := by decide +kernel
theorem dX5_readFrom_44 : decode cX5_readFrom 44 = .ok (.iconst 1, 1) := by decide +kernel
theorem dX5_readFrom_45 : decode cX5_readFrom 45 = .ok (.ireturn, 1) := by decide +kernel
theorem dX5_readFrom_46 : decode cX5_readFrom 46 = .ok (.aload_n 0, 1) := by decide +kernel
theorem dX5_readFrom_47 : decode cX5_readFrom 47 = .ok (.aload_n 1, 1) := by decide +kernel
theorem dX5_readFrom_48 : decode cX5_readFrom 48 = .ok (.invokevirtual 47, 3) := by decide +kernel
theorem dX5_readFrom_51 : decode cX5_readFrom 51 = .ok (.ifCond .ne 5, 3) := by decide +kernel
theorem dX5_readFrom_54 : decode cX5_readFrom 54 = .ok (.iconst 0, 1) := by decide +kernel
theorem dX5_readFrom_55 : decode cX5_readFrom 55 = .ok (.ireturn, 1) := by decide +kernel
theorem dX5_readFrom_56 : decode cX5_readFrom 56 = .ok (.iinc 2 1, 3) := by decide +kernel
theorem dX5_readFrom_59 : decode cX5_readFrom 59 = .ok (.goto (-31), 3) := by decide +kernel
theorem dX5_readFrom_62 : decode cX5_readFrom 62 = .ok (.iconst 0, 1) := by decide +kernel
theorem dX5_readFrom_63 : decode cX5_readFrom 63 = .ok (.ireturn, 1) := by decide +kernel
theorem bX5_readFrom_28 {l : Launch} {g : jm_G} {d : Nat} {v2 : Int} (hg : jm_HC g) {mu : jm_M} {Q : Option Value → jm_M → Prop} (h : jm_rg v2 ∧ (16 < v2 → Q (some (jm_i 0)) mu) ∧ (v2 ≤ 16 → (0 ≤ (mu.1 1 8) ∧ (mu.1 1 8) < 401) ∧ (¬ (mu.1 3 (mu.1 1 8)) = 257 → jm_R l g (d + 1) iX5_readLine [.ref 46, .ref 1] mu (jm_qi fun z4 m3 => (¬ z4 = 0 → jm_V l g (d + 2) iX5_readFrom 28 [(0, .ref 46), (1, .ref 1), (2, jm_i (v2 + 1))] [] m3 Q) ∧ (z4 = 0 → Q (some (jm_i 0)) m3))) ∧ ((mu.1 3 (mu.1 1 8)) = 257 → Q (some (jm_i 1)) mu))) : jm_V l g (d + 2) iX5_readFrom 28 [(0, .ref 46), (1, .ref 1), (2, jm_i v2)] [] mu Q := by
  refine jm_mrI (fun hm0 => ?_)
  refine jm_iload_n (pc := 28) 2 dX5_readFrom_28 rfl ?_
  refine jm_bipush (pc := 29) dX5_readFrom_29 (by decide) ?_
  have hg1 := h.1
  have h := h.2
  refine jm_icmp_gt (pc := 31) 62 dX5_readFrom_31 rfl hg1 ⟨by decide, by decide⟩ (fun q => ?_) (fun q => ?_)
  · have h := h.1 q
    refine jm_iconst (pc := 62) dX5_readFrom_62 ?_
    exact jm_zret (pc := 63) dX5_readFrom_63 rfl (Or.inl rfl) h
  · have h := h.2 q
    refine jm_aload_n (pc := 34) 1 dX5_readFrom_34 rfl ?_
    have hg2 := h.1
    have h := h.2
    refine jm_inlvi (pc := 35) (As := []) (st := []) iX7_kind dX5_readFrom_35 mX5_43 (cC1 hg) ⟨_, rfl, rfl⟩ rfl rfl (Nat.le_of_ble_eq_true rfl) (pX7_kind hg hg2 (jm_kIi ?_))
    refine jm_sipush (pc := 38) dX5_readFrom_38 (by decide) ?_
    refine jm_icmp_ne (pc := 41) 46 dX5_readFrom_41 rfl (hm0 _ _) ⟨by decide, by decide⟩ (fun q => ?_) (fun q => ?_)
    · have h := h.1 q
      refine jm_aload_n (pc := 46) 0 dX5_readFrom_46 rfl ?_
      refine jm_aload_n (pc := 47) 1 dX5_readFrom_47 rfl ?_
      refine jm_callvi (pc := 48) (As := [_]) (st := []) iX5_readLine dX5_readFrom_48 mX5_47 (cC46 hg) ⟨_, rfl, rfl⟩ rfl rfl (Nat.le_of_ble_eq_true rfl) h (fun z4 m3 hz5 h hm6 => ?_)
      refine jm_if_ne (pc := 51) 56 dX5_readFrom_51 rfl hz5 (fun q => ?_) (fun q => ?_)
      · have h := h.1 q
        refine jm_iinc (pc := 56) (lv' := [(2, _), (0, _), (1, _)]) 2 dX5_readFrom_56 rfl (by decide) rfl ?_
        refine jm_goto (pc := 59) 28 dX5_readFrom_59 rfl ?_
        exact jm_sub [1, 2, 0] rfl h
      · have h := h.2 q
        refine jm_iconst (pc := 54) dX5_readFrom_54 ?_
        exact jm_zret (pc := 55) dX5_readFrom_55 rfl (Or.inl rfl) h
    · have h := h.2 q
      refine jm_iconst (pc := 44) dX5_readFrom_44 ?_
      exact jm_zret (pc := 45) dX5_readFrom_45 rfl (Or.inr rfl) h
theorem bX5_readFrom_7 {l : Launch} {g : jm_G} {d : Nat} {v2 : Int} (hg : jm_HC g) {mu : jm_M} {Q : Option Value → jm_M → Prop} (h : jm_rg v2 ∧ (24 ≤ v2 → jm_V l g (d + 2) iX5_readFrom 28 [(0, .ref 46), (1, .ref 1), (2, jm_i 0)] [] mu Q) ∧ (v2 < 24 → (0 ≤ v2 ∧ v2 < 24) ∧ ∀ m3, m3 = jm_wr mu 47 v2 0 → jm_V l g (d + 2) iX5_readFrom 7 [(0, .ref 46), (1, .ref 1), (2, jm_i (v2 + 1))] [] m3 Q)) : jm_V l g (d + 2) iX5_readFrom 7 [(0, .ref 46), (1, .ref 1), (2, jm_i v2)] [] mu Q := by
  refine jm_mrI (fun hm0 => ?_)
  refine jm_iload_n (pc := 7) 2 dX5_readFrom_7 rfl ?_
  refine jm_bipush (pc := 8) dX5_readFrom_8 (by decide) ?_
  have hg1 := h.1
  have h := h.2
  refine jm_icmp_ge (pc := 10) 26 dX5_readFrom_10 rfl hg1 ⟨by decide, by decide⟩ (fun q => ?_) (fun q => ?_)
  · have h := h.1 q
    refine jm_iconst (pc := 26) dX5_readFrom_26 ?_
    refine jm_istore_n (pc := 27) (lv' := [(2, _), (0, _), (1, _)]) dX5_readFrom_27 (by decide) rfl ?_
    exact jm_sub [1, 2, 0] rfl h
  · have h := h.2 q
    refine jm_aload_n (pc := 13) 0 dX5_readFrom_13 rfl ?_
    refine jm_getr (pc := 14) 1 dX5_readFrom_14 fX5_17 (cC46 hg) rfl ?_
    refine jm_iload_n (pc := 17) 2 dX5_readFrom_17 rfl ?_
    refine jm_iconst (pc := 18) dX5_readFrom_18 ?_
    have hg2 := h.1
    have h := h.2
    refine jm_iast (pc := 19) dX5_readFrom_19 (cC47 hg) (by decide) hg2.1 hg2.2 ⟨by decide, by decide⟩ ?_
    have h := h _ rfl
    refine jm_mrI (fun hm4 => ?_)
    refine jm_iinc (pc := 20) (lv' := [(2, _), (0, _), (1, _)]) 2 dX5_readFrom_20 rfl (by decide) rfl ?_
    refine jm_goto (pc := 23) 7 dX5_readFrom_23 rfl ?_
    exact jm_sub [1, 2, 0] rfl h
theorem eX5_readFrom {l : Launch} {g : jm_G} {d : Nat} (hg : jm_HC g) {mu : jm_M} {Q : Option Value → jm_M → Prop} (h : ∀ m1, m1 = jm_wr mu 46 0 0 → jm_V l g (d + 2) iX5_readFrom 7 [(0, .ref 46), (1, .ref 1), (2, jm_i 0)] [] m1 Q) : jm_R l g (d + 2) iX5_readFrom [.ref 46, .ref 1] mu Q := by
  refine jm_enter [(0, .ref 46), (1, .ref 1)] (by decide) (Nat.le_of_ble_eq_true rfl) rfl ?_
  refine jm_mrI (fun hm0 => ?_)
  refine jm_aload_n (pc := 0) 0 dX5_readFrom_0 rfl ?_
  refine jm_iconst (pc := 1) dX5_readFrom_1 ?_
  refine jm_put (pc := 2) 0 dX5_readFrom_2 fX5_11 ftX5 (fun q h => by cases h; rfl) (jm_nI _) (jm_fI _) (cC46 hg) rfl ⟨by decide, by decide⟩ ?_
  have h := h _ rfl
  refine jm_mrI (fun hm2 => ?_)
  refine jm_iconst (pc := 5) dX5_readFrom_5 ?_
  refine jm_istore_n (pc := 6) (lv' := [(2, _), (0, _), (1, _)]) dX5_readFrom_6 (by decide) rfl ?_
  exact jm_sub [1, 2, 0] rfl h
theorem dX6_addDeed_0 : decode cX6_addDeed 0 = .ok (.aload_n 0, 1) := by decide +kernel
theorem dX6_addDeed_1 : decode cX6_addDeed 1 = .ok (.getfield 11, 3) := by decide +kernel
theorem dX6_addDeed_4 : decode cX6_addDeed 4 = .ok (.bipush 60, 2) := by decide +kernel
theorem dX6_addDeed_6 : decode cX6_addDeed 6 = .ok (.if_icmp .ge 44, 3) := by decide +kernel
theorem dX6_addDeed_9 : decode cX6_addDeed 9 = .ok (.aload_n 0, 1) := by decide +kernel
theorem dX6_addDeed_10 : decode cX6_addDeed 10 = .ok (.getfield 17, 3) := by decide +kernel
theorem dX6_addDeed_13 : decode cX6_addDeed 13 = .ok (.aload_n 0, 1) := by decide +kernel
theorem dX6_addDeed_14 : decode cX6_addDeed 14 = .ok (.getfield 11, 3) := by decide +kernel
theorem dX6_addDeed_17 : decode cX6_addDeed 17 = .ok (.iload_n 1, 1) := by decide +kernel
theorem dX6_addDeed_18 : decode cX6_addDeed 18 = .ok (.iastore, 1) := by decide +kernel
theorem dX6_addDeed_19 : decode cX6_addDeed 19 = .ok (.aload_n 0, 1) := by decide +kernel
theorem dX6_addDeed_20 : decode cX6_addDeed 20 = .ok (.getfield 21, 3) := by decide +kernel
theorem dX6_addDeed_23 : decode cX6_addDeed 23 = .ok (.aload_n 0, 1) := by decide +kernel
theorem dX6_addDeed_24 : decode cX6_addDeed 24 = .ok (.getfield 11, 3) := by decide +kernel
theorem dX6_addDeed_27 : decode cX6_addDeed 27 = .ok (.iload_n 2, 1) := by decide +kernel
theorem dX6_addDeed_28 : decode cX6_addDeed 28 = .ok (.iastore, 1) := by decide +kernel
theorem dX6_addDeed_29 : decode cX6_addDeed 29 = .ok (.aload_n 0, 1) := by decide +kernel
theorem dX6_addDeed_30 : decode cX6_addDeed 30 = .ok (.getfield 24, 3) := by decide +kernel
theorem dX6_addDeed_33 : decode cX6_addDeed 33 = .ok (.aload_n 0, 1) := by decide +kernel
theorem dX6_addDeed_34 : decode cX6_addDeed 34 = .ok (.getfield 11, 3) := by decide +kernel
theorem dX6_addDeed_37 : decode cX6_addDeed 37 = .ok (.iload_n 3, 1) := by decide +kernel
theorem dX6_addDeed_38 : decode cX6_addDeed 38 = .ok (.iastore, 1) := by decide +kernel
theorem dX6_addDeed_39 : decode cX6_addDeed 39 = .ok (.aload_n 0, 1) := by decide +kernel
theorem dX6_addDeed_40 : decode cX6_addDeed 40 = .ok (.getfield 27, 3) := by decide +kernel
theorem dX6_addDeed_43 : decode cX6_addDeed 43 = .ok (.aload_n 0, 1) := by decide +kernel
theorem dX6_addDeed_44 : decode cX6_addDeed 44 = .ok (.getfield 11, 3) := by decide +kernel
theorem dX6_addDeed_47 : decode cX6_addDeed 47 = .ok (.iload 4, 2) := by decide +kernel
theorem dX6_addDeed_49 : decode cX6_addDeed 49 = .ok (.iastore, 1) := by decide +kernel
theorem dX6_addDeed_50 : decode cX6_addDeed 50 = .ok (.aload_n 0, 1) := by decide +kernel
theorem dX6_addDeed_51 : decode cX6_addDeed 51 = .ok (.dup, 1) := by decide +kernel
theorem dX6_addDeed_52 : decode cX6_addDeed 52 = .ok (.getfield 11, 3) := by decide +kernel
theorem dX6_addDeed_55 : decode cX6_addDeed 55 = .ok (.iconst 1, 1) := by decide +kernel
theorem dX6_addDeed_56 : decode cX6_addDeed 56 = .ok (.iadd, 1) := by decide +kernel
theorem dX6_addDeed_57 : decode cX6_addDeed 57 = .ok (.putfield 11, 3) := by decide +kernel
theorem dX6_addDeed_60 : decode cX6_addDeed 60 = .ok (.return_, 1) := by decide +kernel
theorem eX6_addDeed {l : Launch} {g : jm_G} {d : Nat} {v1 v2 v3 v4 : Int} (hg : jm_HC g) {mu : jm_M} {Q : Option Value → jm_M → Prop} (h : (60 ≤ (mu.1 56 0) → jm_rg ((mu.1 56 0) + 1) ∧ ∀ m2, m2 = jm_wr mu 56 0 ((mu.1 56 0) + 1) → Q none m2) ∧ ((mu.1 56 0) < 60 → (0 ≤ (mu.1 56 0) ∧ (mu.1 56 0) < 60) ∧ jm_rg v1 ∧ ∀ m6, m6 = jm_wr mu 57 (mu.1 56 0) v1 → (0 ≤ (m6.1 56 0) ∧ (m6.1 56 0) < 60) ∧ jm_rg v2 ∧ ∀ m10, m10 = jm_wr m6 58 (m6.1 56 0) v2 → (0 ≤ (m10.1 56 0) ∧ (m10.1 56 0) < 60) ∧ jm_rg v3 ∧ ∀ m14, m14 = jm_wr m10 59 (m10.1 56 0) v3 → (0 ≤ (m14.1 56 0) ∧ (m14.1 56 0) < 60) ∧ jm_rg v4 ∧ ∀ m18, m18 = jm_wr m14 60 (m14.1 56 0) v4 → jm_rg ((m18.1 56 0) + 1) ∧ ∀ m21, m21 = jm_wr m18 56 0 ((m18.1 56 0) + 1) → Q none m21)) : jm_R l g (d + 1) iX6_addDeed [.ref 56, jm_i v1, jm_i v2, jm_i v3, jm_i v4] mu Q := by
  refine jm_enter [(0, .ref 56), (1, jm_i v1), (2, jm_i v2), (3, jm_i v3), (4, jm_i v4)] (by decide) (Nat.le_of_ble_eq_true rfl) rfl ?_
  refine jm_mrI (fun hm0 => ?_)
  refine jm_aload_n (pc := 0) 0 dX6_addDeed_0 rfl ?_
  refine jm_geti (pc := 1) 0 dX6_addDeed_1 fX6_11 (cC56 hg) rfl ?_
  refine jm_bipush (pc := 4) dX6_addDeed_4 (by decide) ?_
  refine jm_icmp_ge (pc := 6) 50 dX6_addDeed_6 rfl (hm0 _ _) ⟨by decide, by decide⟩ (fun q => ?_) (fun q => ?_)
  · have h := h.1 q
    refine jm_aload_n (pc := 50) 0 dX6_addDeed_50 rfl ?_
    refine jm_dup (pc := 51) _ dX6_addDeed_51 rfl ?_
    refine jm_geti (pc := 52) 0 dX6_addDeed_52 fX6_11 (cC56 hg) rfl ?_
    refine jm_iconst (pc := 55) dX6_addDeed_55 ?_
    refine jm_iadd (pc := 56) dX6_addDeed_56 ?_
    have hg1 := h.1
    have h := h.2
    refine jm_put (pc := 57) 0 dX6_addDeed_57 fX6_11 ftX6 (fun q h => by cases h; rfl) (jm_nI _) (jm_fI _) (cC56 hg) rfl hg1 ?_
    have h := h _ rfl
    refine jm_mrI (fun hm3 => ?_)
    exact jm_vret (pc := 60) dX6_addDeed_60 rfl h
  · have h := h.2 q
    refine jm_aload_n (pc := 9) 0 dX6_addDeed_9 rfl ?_
    refine jm_getr (pc := 10) 1 dX6_addDeed_10 fX6_17 (cC56 hg) rfl ?_
    refine jm_aload_n (pc := 13) 0 dX6_addDeed_13 rfl ?_
    refine jm_geti (pc := 14) 0 dX6_addDeed_14 fX6_11 (cC56 hg) rfl ?_
    refine jm_iload_n (pc := 17) 1 dX6_addDeed_17 rfl ?_
    have hg4 := h.1
    have h := h.2
    have hg5 := h.1
    have h := h.2
    refine jm_iast (pc := 18) dX6_addDeed_18 (cC57 hg) (by decide) hg4.1 hg4.2 hg5 ?_
    have h := h _ rfl
    refine jm_mrI (fun hm7 => ?_)
    refine jm_aload_n (pc := 19) 0 dX6_addDeed_19 rfl ?_
    refine jm_getr (pc := 20) 2 dX6_addDeed_20 fX6_21 (cC56 hg) rfl ?_
    refine jm_aload_n (pc := 23) 0 dX6_addDeed_23 rfl ?_
    refine jm_geti (pc := 24) 0 dX6_addDeed_24 fX6_11 (cC56 hg) rfl ?_
    refine jm_iload_n (pc := 27) 2 dX6_addDeed_27 rfl ?_
    have hg8 := h.1
    have h := h.2
    have hg9 := h.1
    have h := h.2
    refine jm_iast (pc := 28) dX6_addDeed_28 (cC58 hg) (by decide) hg8.1 hg8.2 hg9 ?_
    have h := h _ rfl
    refine jm_mrI (fun hm11 => ?_)
    refine jm_aload_n (pc := 29) 0 dX6_addDeed_29 rfl ?_
    refine jm_getr (pc := 30) 3 dX6_addDeed_30 fX6_24 (cC56 hg) rfl ?_
    refine jm_aload_n (pc := 33) 0 dX6_addDeed_33 rfl ?_
    refine jm_geti (pc := 34) 0 dX6_addDeed_34 fX6_11 (cC56 hg) rfl ?_
    refine jm_iload_n (pc := 37) 3 dX6_addDeed_37 rfl ?_
    have hg12 := h.1
    have h := h.2
    have hg13 := h.1
    have h := h.2
    refine jm_iast (pc := 38) dX6_addDeed_38 (cC59 hg) (by decide) hg12.1 hg12.2 hg13 ?_
    have h := h _ rfl
    refine jm_mrI (fun hm15 => ?_)
    refine jm_aload_n (pc := 39) 0 dX6_addDeed_39 rfl ?_
    refine jm_getr (pc := 40) 4 dX6_addDeed_40 fX6_27 (cC56 hg) rfl ?_
    refine jm_aload_n (pc := 43) 0 dX6_addDeed_43 rfl ?_
    refine jm_geti (pc := 44) 0 dX6_addDeed_44 fX6_11 (cC56 hg) rfl ?_
    refine jm_iload (pc := 47) 4 dX6_addDeed_47 rfl ?_
    have hg16 := h.1
    have h := h.2
    have hg17 := h.1
    have h := h.2
    refine jm_iast (pc := 49) dX6_addDeed_49 (cC60 hg) (by decide) hg16.1 hg16.2 hg17 ?_
    have h := h _ rfl
    refine jm_mrI (fun hm19 => ?_)
    refine jm_aload_n (pc := 50) 0 dX6_addDeed_50 rfl ?_
    refine jm_dup (pc := 51) _ dX6_addDeed_51 rfl ?_
    refine jm_geti (pc := 52) 0 dX6_addDeed_52 fX6_11 (cC56 hg) rfl ?_
    refine jm_iconst (pc := 55) dX6_addDeed_55 ?_
    refine jm_iadd (pc := 56) dX6_addDeed_56 ?_
    have hg20 := h.1
    have h := h.2
    refine jm_put (pc := 57) 0 dX6_addDeed_57 fX6_11 ftX6 (fun q h => by cases h; rfl) (jm_nI _) (jm_fI _) (cC56 hg) rfl hg20 ?_
    have h := h _ rfl
    refine jm_mrI (fun hm22 => ?_)
    exact jm_vret (pc := 60) dX6_addDeed_60 rfl h
theorem dX6_copyDeed_0 : decode cX6_copyDeed 0 = .ok (.iload_n 1, 1) := by decide +kernel
theorem dX6_copyDeed_1 : decode cX6_copyDeed 1 = .ok (.iconst 0, 1) := by decide +kernel
theorem dX6_copyDeed_2 : decode cX6_copyDeed 2 = .ok (.bipush 59, 2) := by decide +kernel
theorem dX6_copyDeed_4 : decode cX6_copyDeed 4 = .ok (.invokestatic 94, 3) := by decide +kernel
theorem dX6_copyDeed_7 : decode cX6_copyDeed 7 = .ok (.ifCond .eq 51, 3) := by decide +kernel
theorem dX6_copyDeed_10 : decode cX6_copyDeed 10 = .ok (.aload_n 0, 1) := by decide +kernel
theorem dX6_copyDeed_11 : decode cX6_copyDeed 11 = .ok (.getfield 17, 3) := by decide +kernel
theorem dX6_copyDeed_14 : decode cX6_copyDeed 14 = .ok (.iload_n 2, 1) := by decide +kernel
theorem dX6_copyDeed_15 : decode cX6_copyDeed 15 = .ok (.aload_n 0, 1) := by decide +kernel
theorem dX6_copyDeed_16 : decode cX6_copyDeed 16 = .ok (.getfield 17, 3) := by decide +kernel
theorem dX6_copyDeed_19 : decode cX6_copyDeed 19 = .ok (.iload_n 1, 1) := by decide +kernel
theorem dX6_copyDeed_20 : decode cX6_copyDeed 20 = .ok (.iaload, 1) := by decide +kernel
theorem dX6_copyDeed_21 : decode cX6_copyDeed 21 = .ok (.iastore, 1) := by decide +kernel
theorem dX6_copyDeed_22 : decode cX6_copyDeed 22 = .ok (.aload_n 0, 1) := by decide +kernel
theorem dX6_copyDeed_23 : decode cX6_copyDeed 23 = .ok (.getfield 21, 3) := by decide +kernel
theorem dX6_copyDeed_26 : decode cX6_copyDeed 26 = .ok (.iload_n 2, 1) := by decide +kernel
theorem dX6_copyDeed_27 : decode cX6_copyDeed 27 = .ok (.aload_n 0, 1) := by decide +kernel
theorem dX6_copyDeed_28 : decode cX6_copyDeed 28 = .ok (.getfield 21, 3) := by decide +kernel
theorem dX6_copyDeed_31 : decode cX6_copyDeed 31 = .ok (.iload_n 1, 1) := by decide +kernel
theorem dX6_copyDeed_32 : decode cX6_copyDeed 32 = .ok (.iaload, 1) := by decide +kernel
theorem dX6_copyDeed_33 : decode cX6_copyDeed 33 = .ok (.iastore, 1) := by decide +kernel
theorem dX6_copyDeed_34 : decode cX6_copyDeed 34 = .ok (.aload_n 0, 1) := by decide +kernel
theorem dX6_copyDeed_35 : decode cX6_copyDeed 35 = .ok (.getfield 24, 3) := by decide +kernel
theorem dX6_copyDeed_38 : decode cX6_copyDeed 38 = .ok (.iload_n 2, 1) := by decide +kernel
theorem dX6_copyDeed_39 : decode cX6_copyDeed 39 = .ok (.aload_n 0, 1) := by decide +kernel
theorem dX6_copyDeed_40 : decode cX6_copyDeed 40 = .ok (.getfield 24, 3) := by decide +kernel
theorem dX6_copyDeed_43 : decode cX6_copyDeed 43 = .ok (.iload_n 1, 1) := by decide +kernel
theorem dX6_copyDeed_44 : decode cX6_copyDeed 44 = .ok (.iaload, 1) := by decide +kernel
theorem dX6_copyDeed_45 : decode cX6_copyDeed 45 = .ok (.iastore, 1) := by decide +kernel
theorem dX6_copyDeed_46 : decode cX6_copyDeed 46 = .ok (.aload_n 0, 1) := by decide +kernel
theorem dX6_copyDeed_47 : decode cX6_copyDeed 47 = .ok (.getfield 27, 3) := by decide +kernel
theorem dX6_copyDeed_50 : decode cX6_copyDeed 50 = .ok (.iload_n 2, 1) := by decide +kernel
theorem dX6_copyDeed_51 : decode cX6_copyDeed 51 = .ok (.aload_n 0, 1) := by decide +kernel
theorem dX6_copyDeed_52 : decode cX6_copyDeed 52 = .ok (.getfield 27, 3) := by decide +kernel
theorem dX6_copyDeed_55 : decode cX6_copyDeed 55 = .ok (.iload_n 1, 1) := by decide +kernel
theorem dX6_copyDeed_56 : decode cX6_copyDeed 56 = .ok (.iaload, 1) := by decide +kernel
theorem dX6_copyDeed_57 : decode cX6_copyDeed 57 = .ok (.iastore, 1) := by decide +kernel
theorem dX6_copyDeed_58 : decode cX6_copyDeed 58 = .ok (.return_, 1) := by decide +kernel
theorem eX6_copyDeed {l : Launch} {g : jm_G} {d : Nat} {v1 v2 : Int} (hg : jm_HC g) {mu : jm_M} {Q : Option Value → jm_M → Prop} (h : jm_rg v1 ∧ (0 ≤ v1 ∧ v1 ≤ 59 → (0 ≤ v1 ∧ v1 < 60) ∧ (0 ≤ v2 ∧ v2 < 60) ∧ ∀ m4, m4 = jm_wr mu 57 v2 (mu.1 57 v1) → ∀ m6, m6 = jm_wr m4 58 v2 (m4.1 58 v1) → ∀ m8, m8 = jm_wr m6 59 v2 (m6.1 59 v1) → ∀ m10, m10 = jm_wr m8 60 v2 (m8.1 60 v1) → Q none m10) ∧ (¬ (0 ≤ v1 ∧ v1 ≤ 59) → Q none mu)) : jm_R l g (d + 2) iX6_copyDeed [.ref 56, jm_i v1, jm_i v2] mu Q := by
  refine jm_enter [(0, .ref 56), (1, jm_i v1), (2, jm_i v2)] (by decide) (Nat.le_of_ble_eq_true rfl) rfl ?_
  refine jm_mrI (fun hm0 => ?_)
  refine jm_iload_n (pc := 0) 1 dX6_copyDeed_0 rfl ?_
  refine jm_iconst (pc := 1) dX6_copyDeed_1 ?_
  refine jm_bipush (pc := 2) dX6_copyDeed_2 (by decide) ?_
  have hg1 := h.1
  have h := h.2
  refine jm_inlni (pc := 4) (As := [_, _, _]) (st := []) iX11_isWithin dX6_copyDeed_4 (mX6_94 hg) rfl rfl (Nat.le_of_ble_eq_true rfl) (pX11_isWithin hg hg1 ⟨by decide, by decide⟩ ⟨by decide, by decide⟩ (fun q => jm_kIi ?_) (fun q => jm_kIi ?_))
  · have h := h.1 q
    refine jm_if_eq (pc := 7) 58 dX6_copyDeed_7 rfl ⟨by decide, by decide⟩ (fun q => absurd q (by decide)) (fun q => ?_)
    refine jm_aload_n (pc := 10) 0 dX6_copyDeed_10 rfl ?_
    refine jm_getr (pc := 11) 1 dX6_copyDeed_11 fX6_17 (cC56 hg) rfl ?_
    refine jm_iload_n (pc := 14) 2 dX6_copyDeed_14 rfl ?_
    refine jm_aload_n (pc := 15) 0 dX6_copyDeed_15 rfl ?_
    refine jm_getr (pc := 16) 1 dX6_copyDeed_16 fX6_17 (cC56 hg) rfl ?_
    refine jm_iload_n (pc := 19) 1 dX6_copyDeed_19 rfl ?_
    have hg2 := h.1
    have h := h.2
    refine jm_iald (pc := 20) dX6_copyDeed_20 (cC57 hg) (by decide) hg2.1 hg2.2 ?_
    have hg3 := h.1
    have h := h.2
    refine jm_iast (pc := 21) dX6_copyDeed_21 (cC57 hg) (by decide) hg3.1 hg3.2 (hm0 _ _) ?_
    have h := h _ rfl
    refine jm_mrI (fun hm5 => ?_)
    refine jm_aload_n (pc := 22) 0 dX6_copyDeed_22 rfl ?_
    refine jm_getr (pc := 23) 2 dX6_copyDeed_23 fX6_21 (cC56 hg) rfl ?_
    refine jm_iload_n (pc := 26) 2 dX6_copyDeed_26 rfl ?_
    refine jm_aload_n (pc := 27) 0 dX6_copyDeed_27 rfl ?_
    refine jm_getr (pc := 28) 2 dX6_copyDeed_28 fX6_21 (cC56 hg) rfl ?_
    refine jm_iload_n (pc := 31) 1 dX6_copyDeed_31 rfl ?_
    refine jm_iald (pc := 32) dX6_copyDeed_32 (cC58 hg) (by decide) hg2.1 hg2.2 ?_
    refine jm_iast (pc := 33) dX6_copyDeed_33 (cC58 hg) (by decide) hg3.1 hg3.2 (hm5 _ _) ?_
    have h := h _ rfl
    refine jm_mrI (fun hm7 => ?_)
    refine jm_aload_n (pc := 34) 0 dX6_copyDeed_34 rfl ?_
    refine jm_getr (pc := 35) 3 dX6_copyDeed_35 fX6_24 (cC56 hg) rfl ?_
    refine jm_iload_n (pc := 38) 2 dX6_copyDeed_38 rfl ?_
    refine jm_aload_n (pc := 39) 0 dX6_copyDeed_39 rfl ?_
    refine jm_getr (pc := 40) 3 dX6_copyDeed_40 fX6_24 (cC56 hg) rfl ?_
    refine jm_iload_n (pc := 43) 1 dX6_copyDeed_43 rfl ?_
    refine jm_iald (pc := 44) dX6_copyDeed_44 (cC59 hg) (by decide) hg2.1 hg2.2 ?_
    refine jm_iast (pc := 45) dX6_copyDeed_45 (cC59 hg) (by decide) hg3.1 hg3.2 (hm7 _ _) ?_
    have h := h _ rfl
    refine jm_mrI (fun hm9 => ?_)
    refine jm_aload_n (pc := 46) 0 dX6_copyDeed_46 rfl ?_
    refine jm_getr (pc := 47) 4 dX6_copyDeed_47 fX6_27 (cC56 hg) rfl ?_
    refine jm_iload_n (pc := 50) 2 dX6_copyDeed_50 rfl ?_
    refine jm_aload_n (pc := 51) 0 dX6_copyDeed_51 rfl ?_
    refine jm_getr (pc := 52) 4 dX6_copyDeed_52 fX6_27 (cC56 hg) rfl ?_
    refine jm_iload_n (pc := 55) 1 dX6_copyDeed_55 rfl ?_
    refine jm_iald (pc := 56) dX6_copyDeed_56 (cC60 hg) (by decide) hg2.1 hg2.2 ?_
    refine jm_iast (pc := 57) dX6_copyDeed_57 (cC60 hg) (by decide) hg3.1 hg3.2 (hm9 _ _) ?_
    have h := h _ rfl
    refine jm_mrI (fun hm11 => ?_)
    exact jm_vret (pc := 58) dX6_copyDeed_58 rfl h
  · have h := h.2 q
    refine jm_if_eq (pc := 7) 58 dX6_copyDeed_7 rfl ⟨by decide, by decide⟩ (fun q => ?_) (fun q => absurd q (by decide))
    exact jm_vret (pc := 58) dX6_copyDeed_58 rfl h
theorem dX6_closeAgain_0 : decode cX6_closeAgain 0 = .ok (.aload_n 0, 1) := by decide +kernel
theorem dX6_closeAgain_1 : decode cX6_closeAgain 1 = .ok (.getfield 36, 3) := by decide +kernel
theorem dX6_closeAgain_4 : decode cX6_closeAgain 4 = .ok (.ifCond .ne 9, 3) := by decide +kernel
theorem dX6_closeAgain_7 : decode cX6_closeAgain 7 = .ok (.aload_n 1, 1) := by decide +kernel
theorem dX6_closeAgain_8 : decode cX6_closeAgain 8 = .ok (.iconst 1, 1) := by decide +kernel
theorem dX6_closeAgain_9 : decode cX6_closeAgain 9 = .ok (.invokevirtual 57, 3) := by decide +kernel
theorem dX6_closeAgain_12 : decode cX6_closeAgain 12 = .ok (.ireturn, 1) := by decide +kernel
theorem dX6_closeAgain_13 : decode cX6_closeAgain 13 = .ok (.aload_n 1, 1) := by decide +kernel
theorem dX6_closeAgain_14 : decode cX6_closeAgain 14 = .ok (.invokevirtual 67, 3) := by decide +kernel
theorem dX6_closeAgain_17 : decode cX6_closeAgain 17 = .ok (.aload_n 0, 1) := by decide +kernel
theorem dX6_closeAgain_18 : decode cX6_closeAgain 18 = .ok (.dup, 1) := by decide +kernel
theorem dX6_closeAgain_19 : decode cX6_closeAgain 19 = .ok (.getfield 36, 3) := by decide +kernel
theorem dX6_closeAgain_22 : decode cX6_closeAgain 22 = .ok (.iconst 1, 1) := by decide +kernel
theorem dX6_closeAgain_23 : decode cX6_closeAgain 23 = .ok (.isub, 1) := by decide +kernel
theorem dX6_closeAgain_24 : decode cX6_closeAgain 24 = .ok (.putfield 36, 3) := by decide +kernel
theorem dX6_closeAgain_27 : decode cX6_closeAgain 27 = .ok (.aload_n 0, 1) := by decide +kernel
theorem dX6_closeAgain_28 : decode cX6_closeAgain 28 = .ok (.getfield 30, 3) := by decide +kernel
theorem dX6_closeAgain_31 : decode cX6_closeAgain 31 = .ok (.aload_n 0, 1) := by decide +kernel
theorem dX6_closeAgain_32 : decode cX6_closeAgain 32 = .ok (.getfield 36, 3) := by decide +kernel
theorem dX6_closeAgain_35 : decode cX6_closeAgain 35 = .ok (.iaload, 1) := by decide +kernel
theorem dX6_closeAgain_36 : decode cX6_closeAgain 36 = .ok (.istore_n 2, 1) := by decide +kernel
theorem dX6_closeAgain_37 : decode cX6_closeAgain 37 = .ok (.aload_n 0, 1) := by decide +kernel
theorem dX6_closeAgain_38 : decode cX6_closeAgain 38 = .ok (.getfield 11, 3) := by decide +kernel
theorem dX6_closeAgain_41 : decode cX6_closeAgain 41 = .ok (.iload_n 2, 1) := by decide +kernel
theorem dX6_closeAgain_42 : decode cX6_closeAgain 42 = .ok (.isub, 1) := by decide +kernel
theorem dX6_closeAgain_43 : decode cX6_closeAgain 43 = .ok (.istore_n 3, 1) := by decide +kernel
theorem dX6_closeAgain_44 : decode cX6_closeAgain 44 = .ok (.iload_n 2, 1) := by decide +kernel
theorem dX6_closeAgain_45 : decode cX6_closeAgain 45 = .ok (.iload_n 3, 1) := by decide +kernel
theorem dX6_closeAgain_46 : decode cX6_closeAgain 46 = .ok (.aload_n 0, 1) := by decide +kernel
theorem dX6_closeAgain_47 : decode cX6_closeAgain 47 = .ok (.getfield 33, 3) := by decide +kernel
theorem dX6_closeAgain_50 : decode cX6_closeAgain 50 = .ok (.aload_n 0, 1) := by decide +kernel
theorem dX6_closeAgain_51 : decode cX6_closeAgain 51 = .ok (.getfield 36, 3) := by decide +kernel
theorem dX6_closeAgain_54 : decode cX6_closeAgain 54 = .ok (.iaload, 1) := by decide +kernel
theorem dX6_closeAgain_55 : decode cX6_closeAgain 55 = .ok (.imul, 1) := by decide +kernel
theorem dX6_closeAgain_56 : decode cX6_closeAgain 56 = .ok (.iadd, 1) := by decide +kernel
theorem dX6_closeAgain_57 : decode cX6_closeAgain 57 = .ok (.istore 4, 2) := by decide +kernel
theorem dX6_closeAgain_59 : decode cX6_closeAgain 59 = .ok (.aload_n 0, 1) := by decide +kernel
theorem dX6_closeAgain_60 : decode cX6_closeAgain 60 = .ok (.getfield 11, 3) := by decide +kernel
theorem dX6_closeAgain_63 : decode cX6_closeAgain 63 = .ok (.istore 5, 2) := by decide +kernel
theorem dX6_closeAgain_65 : decode cX6_closeAgain 65 = .ok (.iload 5, 2) := by decide +kernel
theorem dX6_closeAgain_67 : decode cX6_closeAgain 67 = .ok (.iload 4, 2) := by decide +kernel
theorem dX6_closeAgain_69 : decode cX6_closeAgain 69 = .ok (.if_icmp .ge 26, 3) := by decide +kernel
theorem dX6_closeAgain_72 : decode cX6_closeAgain 72 = .ok (.iload 5, 2) := by decide +kernel
theorem dX6_closeAgain_74 : decode cX6_closeAgain 74 = .ok (.bipush 60, 2) := by decide +kernel
theorem dX6_closeAgain_76 : decode cX6_closeAgain 76 = .ok (.if_icmp .ge 19, 3) := by decide +kernel
theorem dX6_closeAgain_79 : decode cX6_closeAgain 79 = .ok (.aload_n 0, 1) := by decide +kernel
theorem dX6_closeAgain_80 : decode cX6_closeAgain 80 = .ok (.iload 5, 2) := by decide +kernel
theorem dX6_closeAgain_82 : decode cX6_closeAgain 82 = .ok (.iload_n 3, 1) := by decide +kernel
theorem dX6_closeAgain_83 : decode cX6_closeAgain 83 = .ok (.isub, 1) := by decide +kernel
theorem dX6_closeAgain_84 : decode cX6_closeAgain 84 = .ok (.iload 5, 2) := by decide +kernel
theorem dX6_closeAgain_86 : decode cX6_closeAgain 86 = .ok (.invokevirtual 90, 3) := by decide +kernel
theorem dX6_closeAgain_89 : decode cX6_closeAgain 89 = .ok (.iinc 5 1, 3) := by decide +kernel
theorem dX6_closeAgain_92 : decode cX6_closeAgain 92 = .ok (.goto (-27), 3) := by decide +kernel
theorem dX6_closeAgain_95 : decode cX6_closeAgain 95 = .ok (.aload_n 0, 1) := by decide +kernel
theorem dX6_closeAgain_96 : decode cX6_closeAgain 96 = .ok (.iload 4, 2) := by decide +kernel
theorem dX6_closeAgain_98 : decode cX6_closeAgain 98 = .ok (.putfield 11, 3) := by decide +kernel
theorem dX6_closeAgain_101 : decode cX6_closeAgain 101 = .ok (.iconst 1, 1) := by decide +kernel
theorem dX6_closeAgain_102 : decode cX6_closeAgain 102 = .ok (.ireturn, 1) := by decide +kernel
theorem bX6_closeAgain_65 {l : Launch} {g : jm_G} {d : Nat} {v3 v4 v5 : Int} (hg : jm_HC g) {mu : jm_M} {Q : Option Value → jm_M → Prop} (h : jm_rg v5 ∧ jm_rg v4 ∧ (v4 ≤ v5 → ∀ m3, m3 = jm_wr mu 56 0 v4 → Q (some (jm_i 1)) m3) ∧ (v5 < v4 → (60 ≤ v5 → ∀ m5, m5 = jm_wr mu 56 0 v4 → Q (some (jm_i 1)) m5) ∧ (v5 < 60 → jm_R l g (d + 1) iX6_copyDeed [.ref 56, jm_i (v5 - v3), jm_i v5] mu (jm_qv fun m7 => jm_V l g (d + 2) iX6_closeAgain 65 [(0, .ref 56), (3, jm_i v3), (4, jm_i v4), (5, jm_i (v5 + 1))] [] m7 Q)))) : jm_V l g (d + 2) iX6_closeAgain 65 [(0, .ref 56), (3, jm_i v3), (4, jm_i v4), (5, jm_i v5)] [] mu Q := by
  refine jm_mrI (fun hm0 => ?_)
  refine jm_iload (pc := 65) 3 dX6_closeAgain_65 rfl ?_
  refine jm_iload (pc := 67) 2 dX6_closeAgain_67 rfl ?_
  have hg1 := h.1
  have h := h.2
  have hg2 := h.1
  have h := h.2
  refine jm_icmp_ge (pc := 69) 95 dX6_closeAgain_69 rfl hg1 hg2 (fun q => ?_) (fun q => ?_)
  · have h := h.1 q
    refine jm_aload_n (pc := 95) 0 dX6_closeAgain_95 rfl ?_
    refine jm_iload (pc := 96) 2 dX6_closeAgain_96 rfl ?_
    refine jm_put (pc := 98) 0 dX6_closeAgain_98 fX6_11 ftX6 (fun q h => by cases h; rfl) (jm_nI _) (jm_fI _) (cC56 hg) rfl hg2 ?_
    have h := h _ rfl
    refine jm_mrI (fun hm4 => ?_)
    refine jm_iconst (pc := 101) dX6_closeAgain_101 ?_
    exact jm_zret (pc := 102) dX6_closeAgain_102 rfl (Or.inr rfl) h
  · have h := h.2 q
    refine jm_iload (pc := 72) 3 dX6_closeAgain_72 rfl ?_
    refine jm_bipush (pc := 74) dX6_closeAgain_74 (by decide) ?_
    refine jm_icmp_ge (pc := 76) 95 dX6_closeAgain_76 rfl hg1 ⟨by decide, by decide⟩ (fun q => ?_) (fun q => ?_)
    · have h := h.1 q
      refine jm_aload_n (pc := 95) 0 dX6_closeAgain_95 rfl ?_
      refine jm_iload (pc := 96) 2 dX6_closeAgain_96 rfl ?_
      refine jm_put (pc := 98) 0 dX6_closeAgain_98 fX6_11 ftX6 (fun q h => by cases h; rfl) (jm_nI _) (jm_fI _) (cC56 hg) rfl hg2 ?_
      have h := h _ rfl
      refine jm_mrI (fun hm6 => ?_)
      refine jm_iconst (pc := 101) dX6_closeAgain_101 ?_
      exact jm_zret (pc := 102) dX6_closeAgain_102 rfl (Or.inr rfl) h
    · have h := h.2 q
      refine jm_aload_n (pc := 79) 0 dX6_closeAgain_79 rfl ?_
      refine jm_iload (pc := 80) 3 dX6_closeAgain_80 rfl ?_
      refine jm_iload_n (pc := 82) 1 dX6_closeAgain_82 rfl ?_
      refine jm_isub (pc := 83) dX6_closeAgain_83 ?_
      refine jm_iload (pc := 84) 3 dX6_closeAgain_84 rfl ?_
      refine jm_callvv (pc := 86) (As := [_, _]) (st := []) iX6_copyDeed dX6_closeAgain_86 mX6_90 (cC56 hg) ⟨_, rfl, rfl⟩ rfl rfl (Nat.le_of_ble_eq_true rfl) h (fun m7 h hm10 => ?_)
      refine jm_iinc (pc := 89) (lv' := [(5, _), (0, _), (3, _), (4, _)]) 3 dX6_closeAgain_89 rfl (by decide) rfl ?_
      refine jm_goto (pc := 92) 65 dX6_closeAgain_92 rfl ?_
      exact jm_sub [1, 2, 3, 0] rfl h
theorem eX6_closeAgain {l : Launch} {g : jm_G} {d : Nat} (hg : jm_HC g) {mu : jm_M} {Q : Option Value → jm_M → Prop} (h : (¬ (mu.1 56 7) = 0 → jm_R l g (d + 1) iX7_skip [.ref 1] mu (jm_qv fun m1 => jm_rg ((m1.1 56 7) - 1) ∧ ∀ m6, m6 = jm_wr m1 56 7 ((m1.1 56 7) - 1) → (0 ≤ (m6.1 56 7) ∧ (m6.1 56 7) < 4) ∧ ∀ x9, x9 = (m6.1 61 (m6.1 56 7)) → ∀ x10, x10 = ((m6.1 56 0) - x9) → ∀ x11, x11 = (x9 + (x10 * (m6.1 62 (m6.1 56 7)))) → ∀ x12, x12 = (m6.1 56 0) → jm_V l g (d + 2) iX6_closeAgain 65 [(0, .ref 56), (3, jm_i x10), (4, jm_i x11), (5, jm_i x12)] [] m6 Q)) ∧ ((mu.1 56 7) = 0 → (0 ≤ ((jm_wr mu 1 2 1).1 1 8) ∧ ((jm_wr mu 1 2 1).1 1 8) < 401) ∧ ∀ m14, m14 = (jm_wr (jm_wr mu 1 2 1) 1 3 ((jm_wr mu 1 2 1).1 4 ((jm_wr mu 1 2 1).1 1 8))) → Q (some (jm_i 0)) m14)) : jm_R l g (d + 2) iX6_closeAgain [.ref 56, .ref 1] mu Q := by
  refine jm_enter [(0, .ref 56), (1, .ref 1)] (by decide) (Nat.le_of_ble_eq_true rfl) rfl ?_
  refine jm_mrI (fun hm0 => ?_)
  refine jm_aload_n (pc := 0) 0 dX6_closeAgain_0 rfl ?_
  refine jm_geti (pc := 1) 7 dX6_closeAgain_1 fX6_36 (cC56 hg) rfl ?_
  refine jm_if_ne (pc := 4) 13 dX6_closeAgain_4 rfl (hm0 _ _) (fun q => ?_) (fun q => ?_)
  · have h := h.1 q
    refine jm_aload_n (pc := 13) 1 dX6_closeAgain_13 rfl ?_
    refine jm_callvv (pc := 14) (As := []) (st := []) iX7_skip dX6_closeAgain_14 mX6_67 (cC1 hg) ⟨_, rfl, rfl⟩ rfl rfl (Nat.le_of_ble_eq_true rfl) h (fun m1 h hm4 => ?_)
    refine jm_aload_n (pc := 17) 0 dX6_closeAgain_17 rfl ?_
    refine jm_dup (pc := 18) _ dX6_closeAgain_18 rfl ?_
    refine jm_geti (pc := 19) 7 dX6_closeAgain_19 fX6_36 (cC56 hg) rfl ?_
    refine jm_iconst (pc := 22) dX6_closeAgain_22 ?_
    refine jm_isub (pc := 23) dX6_closeAgain_23 ?_
    have hg5 := h.1
    have h := h.2
    refine jm_put (pc := 24) 7 dX6_closeAgain_24 fX6_36 ftX6 (fun q h => by cases h; rfl) (jm_nI _) (jm_fI _) (cC56 hg) rfl hg5 ?_
    have h := h _ rfl
    refine jm_mrI (fun hm7 => ?_)
    refine jm_aload_n (pc := 27) 0 dX6_closeAgain_27 rfl ?_
    refine jm_getr (pc := 28) 5 dX6_closeAgain_28 fX6_30 (cC56 hg) rfl ?_
    refine jm_aload_n (pc := 31) 0 dX6_closeAgain_31 rfl ?_
    refine jm_geti (pc := 32) 7 dX6_closeAgain_32 fX6_36 (cC56 hg) rfl ?_
    have hg8 := h.1
    have h := h.2
    refine jm_iald (pc := 35) dX6_closeAgain_35 (cC61 hg) (by decide) hg8.1 hg8.2 ?_
    have h := h _ rfl
    refine jm_istore_n (pc := 36) (lv' := [(2, _), (0, _), (1, _)]) dX6_closeAgain_36 (by decide) rfl ?_
    refine jm_aload_n (pc := 37) 1 dX6_closeAgain_37 rfl ?_
    refine jm_geti (pc := 38) 0 dX6_closeAgain_38 fX6_11 (cC56 hg) rfl ?_
    refine jm_iload_n (pc := 41) 0 dX6_closeAgain_41 rfl ?_
    refine jm_isub (pc := 42) dX6_closeAgain_42 ?_
    have h := h _ rfl
    refine jm_istore_n (pc := 43) (lv' := [(3, _), (2, _), (0, _), (1, _)]) dX6_closeAgain_43 (by decide) rfl ?_
    refine jm_iload_n (pc := 44) 1 dX6_closeAgain_44 rfl ?_
    refine jm_iload_n (pc := 45) 0 dX6_closeAgain_45 rfl ?_
    refine jm_aload_n (pc := 46) 2 dX6_closeAgain_46 rfl ?_
    refine jm_getr (pc := 47) 6 dX6_closeAgain_47 fX6_33 (cC56 hg) rfl ?_
    refine jm_aload_n (pc := 50) 2 dX6_closeAgain_50 rfl ?_
    refine jm_geti (pc := 51) 7 dX6_closeAgain_51 fX6_36 (cC56 hg) rfl ?_
    refine jm_iald (pc := 54) dX6_closeAgain_54 (cC62 hg) (by decide) hg8.1 hg8.2 ?_
    refine jm_imul (pc := 55) dX6_closeAgain_55 ?_
    refine jm_iadd (pc := 56) dX6_closeAgain_56 ?_
    have h := h _ rfl
    refine jm_istore (pc := 57) (lv' := [(4, _), (3, _), (2, _), (0, _), (1, _)]) dX6_closeAgain_57 (by decide) rfl ?_
    refine jm_aload_n (pc := 59) 3 dX6_closeAgain_59 rfl ?_
    refine jm_geti (pc := 60) 0 dX6_closeAgain_60 fX6_11 (cC56 hg) rfl ?_
    have h := h _ rfl
    refine jm_istore (pc := 63) (lv' := [(5, _), (4, _), (3, _), (2, _), (0, _), (1, _)]) dX6_closeAgain_63 (by decide) rfl ?_
    exact jm_sub [4, 2, 1, 0] rfl h
  · have h := h.2 q
    refine jm_aload_n (pc := 7) 1 dX6_closeAgain_7 rfl ?_
    refine jm_iconst (pc := 8) dX6_closeAgain_8 ?_
    have hg13 := h.1
    have h := h.2
    refine jm_inlvi (pc := 9) (As := [_]) (st := []) iX7_refuse dX6_closeAgain_9 mX6_57 (cC1 hg) ⟨_, rfl, rfl⟩ rfl rfl (Nat.le_of_ble_eq_true rfl) (pX7_refuse hg ⟨by decide, by decide⟩ hg13 (jm_kIi ?_))
    have h := h _ rfl
    refine jm_mrI (fun hm15 => ?_)
    exact jm_zret (pc := 12) dX6_closeAgain_12 rfl (Or.inl rfl) h
theorem dX6_readAgain_0 : decode cX6_readAgain 0 = .ok (.aload_n 0, 1) := by decide +kernel
theorem dX6_readAgain_1 : decode cX6_readAgain 1 = .ok (.getfield 36, 3) := by decide +kernel
theorem dX6_readAgain_4 : decode cX6_readAgain 4 = .ok (.iconst 4, 1) := by decide +kernel
theorem dX6_readAgain_5 : decode cX6_readAgain 5 = .ok (.if_icmp .lt 9, 3) := by decide +kernel
theorem dX6_readAgain_8 : decode cX6_readAgain 8 = .ok (.aload_n 1, 1) := by decide +kernel
theorem dX6_readAgain_9 : decode cX6_readAgain 9 = .ok (.iconst 3, 1) := by decide +kernel
theorem dX6_readAgain_10 : decode cX6_readAgain 10 = .ok (.invokevirtual 57, 3) := by decide +kernel
theorem dX6_readAgain_13 : decode cX6_readAgain 13 = .ok (.ireturn, 1) := by decide +kernel
theorem dX6_readAgain_14 : decode cX6_readAgain 14 = .ok (.aload_n 1, 1) := by decide +kernel
theorem dX6_readAgain_15 : decode cX6_readAgain 15 = .ok (.invokevirtual 67, 3) := by decide +kernel
theorem dX6_readAgain_18 : decode cX6_readAgain 18 = .ok (.aload_n 1, 1) := by decide +kernel
theorem dX6_readAgain_19 : decode cX6_readAgain 19 = .ok (.iconst 1, 1) := by decide +kernel
theorem dX6_readAgain_20 : decode cX6_readAgain 20 = .ok (.bipush 9, 2) := by decide +kernel
theorem dX6_readAgain_22 : decode cX6_readAgain 22 = .ok (.invokevirtual 80, 3) := by decide +kernel
theorem dX6_readAgain_25 : decode cX6_readAgain 25 = .ok (.ifCond .ne 5, 3) := by decide +kernel
theorem dX6_readAgain_28 : decode cX6_readAgain 28 = .ok (.iconst 0, 1) := by decide +kernel
theorem dX6_readAgain_29 : decode cX6_readAgain 29 = .ok (.ireturn, 1) := by decide +kernel
theorem dX6_readAgain_30 : decode cX6_readAgain 30 = .ok (.aload_n 0, 1) := by decide +kernel
theorem dX6_readAgain_31 : decode cX6_readAgain 31 = .ok (.getfield 33, 3) := by decide +kernel
theorem dX6_readAgain_34 : decode cX6_readAgain 34 = .ok (.aload_n 0, 1) := by decide +kernel
theorem dX6_readAgain_35 : decode cX6_readAgain 35 = .ok (.getfield 36, 3) := by decide +kernel
theorem dX6_readAgain_38 : decode cX6_readAgain 38 = .ok (.aload_n 1, 1) := by decide +kernel
theorem dX6_readAgain_39 : decode cX6_readAgain 39 = .ok (.invokevirtual 84, 3) := by decide +kernel
theorem dX6_readAgain_42 : decode cX6_readAgain 42 = .ok (.iastore, 1) := by decide +kernel
theorem dX6_readAgain_43 : decode cX6_readAgain 43 = .ok (.aload_n 0, 1) := by decide +kernel
theorem dX6_readAgain_44 : decode cX6_readAgain 44 = .ok (.getfield 30, 3) := by decide +kernel
theorem dX6_readAgain_47 : decode cX6_readAgain 47 = .ok (.aload_n 0, 1) := by decide +kernel
theorem dX6_readAgain_48 : decode cX6_readAgain 48 = .ok (.getfield 36, 3) := by decide +kernel
theorem dX6_readAgain_51 : decode cX6_readAgain 51 = .ok (.aload_n 0, 1) := by decide +kernel
theorem dX6_readAgain_52 : decode cX6_readAgain 52 = .ok (.getfield 11, 3) := by decide +kernel
theorem dX6_readAgain_55 : decode cX6_readAgain 55 = .ok (.iastore, 1) := by decide +kernel
theorem dX6_readAgain_56 : decode cX6_readAgain 56 = .ok (.aload_n 0, 1) := by decide +kernel
theorem dX6_readAgain_57 : decode cX6_readAgain 57 = .ok (.dup, 1) := by decide +kernel
theorem dX6_readAgain_58 : decode cX6_readAgain 58 = .ok (.getfield 36, 3) := by decide +kernel
theorem dX6_readAgain_61 : decode cX6_readAgain 61 = .ok (.iconst 1, 1) := by decide +kernel
theorem dX6_readAgain_62 : decode cX6_readAgain 62 = .ok (.iadd, 1) := by decide +kernel
theorem dX6_readAgain_63 : decode cX6_readAgain 63 = .ok (.putfield 36, 3) := by decide +kernel
theorem dX6_readAgain_66 : decode cX6_readAgain 66 = .ok (.aload_n 1, 1) := by decide +kernel
theorem dX6_readAgain_67 : decode cX6_readAgain 67 = .ok (.invokevirtual 67, 3) := by decide +kernel
theorem dX6_readAgain_70 : decode cX6_readAgain 70 = .ok (.aload_n 1, 1) := by decide +kernel
theorem dX6_readAgain_71 : decode cX6_readAgain 71 = .ok (.bipush 40, 2) := by decide +kernel
theorem dX6_readAgain_73 : decode cX6_readAgain 73 = .ok (.invokevirtual 87, 3) := by decide +kernel
theorem dX6_readAgain_76 : decode cX6_readAgain 76 = .ok (.ireturn, 1) := by decide +kernel
theorem eX6_readAgain {l : Launch} {g : jm_G} {d : Nat} (hg : jm_HC g) {mu : jm_M} {Q : Option Value → jm_M → Prop} (h : ((mu.1 56 7) < 4 → jm_R l g (d + 1) iX7_skip [.ref 1] mu (jm_qv fun m1 => jm_R l g (d + 1) iX7_isNumberWithin [.ref 1, jm_i 1, jm_i 9] m1 (jm_qi fun z6 m5 => (¬ z6 = 0 → jm_R l g (d + 1) iX7_number [.ref 1] m5 (jm_qi fun z10 m9 => (0 ≤ (m5.1 56 7) ∧ (m5.1 56 7) < 4) ∧ ∀ m14, m14 = jm_wr m9 62 (m5.1 56 7) z10 → (0 ≤ (m14.1 56 7) ∧ (m14.1 56 7) < 4) ∧ ∀ m17, m17 = jm_wr m14 61 (m14.1 56 7) (m14.1 56 0) → jm_rg ((m17.1 56 7) + 1) ∧ ∀ m20, m20 = jm_wr m17 56 7 ((m17.1 56 7) + 1) → jm_R l g (d + 1) iX7_skip [.ref 1] m20 (jm_qv fun m22 => jm_R l g (d + 1) iX7_take [.ref 1, jm_i 40] m22 (jm_qi fun z27 m26 => (z27 = 0 ∨ z27 = 1) ∧ Q (some (jm_i z27)) m26)))) ∧ (z6 = 0 → Q (some (jm_i 0)) m5)))) ∧ (4 ≤ (mu.1 56 7) → (0 ≤ ((jm_wr mu 1 2 3).1 1 8) ∧ ((jm_wr mu 1 2 3).1 1 8) < 401) ∧ ∀ m32, m32 = (jm_wr (jm_wr mu 1 2 3) 1 3 ((jm_wr mu 1 2 3).1 4 ((jm_wr mu 1 2 3).1 1 8))) → Q (some (jm_i 0)) m32)) : jm_R l g (d + 2) iX6_readAgain [.ref 56, .ref 1] mu Q := by
  refine jm_enter [(0, .ref 56), (1, .ref 1)] (by decide) (Nat.le_of_ble_eq_true rfl) rfl ?_
  refine jm_mrI (fun hm0 => ?_)
  refine jm_aload_n (pc := 0) 0 dX6_readAgain_0 rfl ?_
  refine jm_geti (pc := 1) 7 dX6_readAgain_1 fX6_36 (cC56 hg) rfl ?_
  refine jm_iconst (pc := 4) dX6_readAgain_4 ?_
  refine jm_icmp_lt (pc := 5) 14 dX6_readAgain_5 rfl (hm0 _ _) ⟨by decide, by decide⟩ (fun q => ?_) (fun q => ?_)
  · have h := h.1 q
    refine jm_aload_n (pc := 14) 1 dX6_readAgain_14 rfl ?_
    refine jm_callvv (pc := 15) (As := []) (st := []) iX7_skip dX6_readAgain_15 mX6_67 (cC1 hg) ⟨_, rfl, rfl⟩ rfl rfl (Nat.le_of_ble_eq_true rfl) h (fun m1 h hm4 => ?_)
    refine jm_aload_n (pc := 18) 1 dX6_readAgain_18 rfl ?_
    refine jm_iconst (pc := 19) dX6_readAgain_19 ?_
    refine jm_bipush (pc := 20) dX6_readAgain_20 (by decide) ?_
    refine jm_callvi (pc := 22) (As := [_, _]) (st := []) iX7_isNumberWithin dX6_readAgain_22 mX6_80 (cC1 hg) ⟨_, rfl, rfl⟩ rfl rfl (Nat.le_of_ble_eq_true rfl) h (fun z6 m5 hz7 h hm8 => ?_)
    refine jm_if_ne (pc := 25) 30 dX6_readAgain_25 rfl hz7 (fun q => ?_) (fun q => ?_)
    · have h := h.1 q
      refine jm_aload_n (pc := 30) 0 dX6_readAgain_30 rfl ?_
      refine jm_getr (pc := 31) 6 dX6_readAgain_31 fX6_33 (cC56 hg) rfl ?_
      refine jm_aload_n (pc := 34) 0 dX6_readAgain_34 rfl ?_
      refine jm_geti (pc := 35) 7 dX6_readAgain_35 fX6_36 (cC56 hg) rfl ?_
      refine jm_aload_n (pc := 38) 1 dX6_readAgain_38 rfl ?_
      refine jm_callvi (pc := 39) (As := []) (st := [_, _]) iX7_number dX6_readAgain_39 mX6_84 (cC1 hg) ⟨_, rfl, rfl⟩ rfl rfl (Nat.le_of_ble_eq_true rfl) h (fun z10 m9 hz11 h hm12 => ?_)
      have hg13 := h.1
      have h := h.2
      refine jm_iast (pc := 42) dX6_readAgain_42 (cC62 hg) (by decide) hg13.1 hg13.2 hz11 ?_
      have h := h _ rfl
      refine jm_mrI (fun hm15 => ?_)
      refine jm_aload_n (pc := 43) 0 dX6_readAgain_43 rfl ?_
      refine jm_getr (pc := 44) 5 dX6_readAgain_44 fX6_30 (cC56 hg) rfl ?_
      refine jm_aload_n (pc := 47) 0 dX6_readAgain_47 rfl ?_
      refine jm_geti (pc := 48) 7 dX6_readAgain_48 fX6_36 (cC56 hg) rfl ?_
      refine jm_aload_n (pc := 51) 0 dX6_readAgain_51 rfl ?_
      refine jm_geti (pc := 52) 0 dX6_readAgain_52 fX6_11 (cC56 hg) rfl ?_
      have hg16 := h.1
      have h := h.2
      refine jm_iast (pc := 55) dX6_readAgain_55 (cC61 hg) (by decide) hg16.1 hg16.2 (hm15 _ _) ?_
      have h := h _ rfl
      refine jm_mrI (fun hm18 => ?_)
      refine jm_aload_n (pc := 56) 0 dX6_readAgain_56 rfl ?_
      refine jm_dup (pc := 57) _ dX6_readAgain_57 rfl ?_
      refine jm_geti (pc := 58) 7 dX6_readAgain_58 fX6_36 (cC56 hg) rfl ?_
      refine jm_iconst (pc := 61) dX6_readAgain_61 ?_
      refine jm_iadd (pc := 62) dX6_readAgain_62 ?_
      have hg19 := h.1
      have h := h.2
      refine jm_put (pc := 63) 7 dX6_readAgain_63 fX6_36 ftX6 (fun q h => by cases h; rfl) (jm_nI _) (jm_fI _) (cC56 hg) rfl hg19 ?_
      have h := h _ rfl
      refine jm_mrI (fun hm21 => ?_)
      refine jm_aload_n (pc := 66) 1 dX6_readAgain_66 rfl ?_
      refine jm_callvv (pc := 67) (As := []) (st := []) iX7_skip dX6_readAgain_67 mX6_67 (cC1 hg) ⟨_, rfl, rfl⟩ rfl rfl (Nat.le_of_ble_eq_true rfl) h (fun m22 h hm25 => ?_)
      refine jm_aload_n (pc := 70) 1 dX6_readAgain_70 rfl ?_
      refine jm_bipush (pc := 71) dX6_readAgain_71 (by decide) ?_
      refine jm_callvi (pc := 73) (As := [_]) (st := []) iX7_take dX6_readAgain_73 mX6_87 (cC1 hg) ⟨_, rfl, rfl⟩ rfl rfl (Nat.le_of_ble_eq_true rfl) h (fun z27 m26 hz28 h hm29 => ?_)
      have hg30 := h.1
      have h := h.2
      exact jm_zret (pc := 76) dX6_readAgain_76 rfl hg30 h
    · have h := h.2 q
      refine jm_iconst (pc := 28) dX6_readAgain_28 ?_
      exact jm_zret (pc := 29) dX6_readAgain_29 rfl (Or.inl rfl) h
  · have h := h.2 q
    refine jm_aload_n (pc := 8) 1 dX6_readAgain_8 rfl ?_
    refine jm_iconst (pc := 9) dX6_readAgain_9 ?_
    have hg31 := h.1
    have h := h.2
    refine jm_inlvi (pc := 10) (As := [_]) (st := []) iX7_refuse dX6_readAgain_10 mX6_57 (cC1 hg) ⟨_, rfl, rfl⟩ rfl rfl (Nat.le_of_ble_eq_true rfl) (pX7_refuse hg ⟨by decide, by decide⟩ hg31 (jm_kIi ?_))
    have h := h _ rfl
    refine jm_mrI (fun hm33 => ?_)
    exact jm_zret (pc := 13) dX6_readAgain_13 rfl (Or.inl rfl) h
theorem dX6_readCall_0 : decode cX6_readCall 0 = .ok (.aload_n 1, 1) := by decide +kernel
theorem dX6_readCall_1 : decode cX6_readCall 1 = .ok (.invokevirtual 67, 3) := by decide +kernel
theorem dX6_readCall_4 : decode cX6_readCall 4 = .ok (.aload_n 1, 1) := by decide +kernel
theorem dX6_readCall_5 : decode cX6_readCall 5 = .ok (.iconst 0, 1) := by decide +kernel
theorem dX6_readCall_6 : decode cX6_readCall 6 = .ok (.iload_n 2, 1) := by decide +kernel
theorem dX6_readCall_7 : decode cX6_readCall 7 = .ok (.iconst 1, 1) := by decide +kernel
theorem dX6_readCall_8 : decode cX6_readCall 8 = .ok (.isub, 1) := by decide +kernel
theorem dX6_readCall_9 : decode cX6_readCall 9 = .ok (.invokevirtual 80, 3) := by decide +kernel
theorem dX6_readCall_12 : decode cX6_readCall 12 = .ok (.ifCond .ne 5, 3) := by decide +kernel
theorem dX6_readCall_15 : decode cX6_readCall 15 = .ok (.iconst 0, 1) := by decide +kernel
theorem dX6_readCall_16 : decode cX6_readCall 16 = .ok (.ireturn, 1) := by decide +kernel
theorem dX6_readCall_17 : decode cX6_readCall 17 = .ok (.aload_n 1, 1) := by decide +kernel
theorem dX6_readCall_18 : decode cX6_readCall 18 = .ok (.invokevirtual 84, 3) := by decide +kernel
theorem dX6_readCall_21 : decode cX6_readCall 21 = .ok (.istore_n 3, 1) := by decide +kernel
theorem dX6_readCall_22 : decode cX6_readCall 22 = .ok (.aload_n 1, 1) := by decide +kernel
theorem dX6_readCall_23 : decode cX6_readCall 23 = .ok (.invokevirtual 67, 3) := by decide +kernel
theorem dX6_readCall_26 : decode cX6_readCall 26 = .ok (.aload_n 1, 1) := by decide +kernel
theorem dX6_readCall_27 : decode cX6_readCall 27 = .ok (.sipush 301, 3) := by decide +kernel
theorem dX6_readCall_30 : decode cX6_readCall 30 = .ok (.invokevirtual 87, 3) := by decide +kernel
theorem dX6_readCall_33 : decode cX6_readCall 33 = .ok (.ifCond .eq 12, 3) := by decide +kernel
theorem dX6_readCall_36 : decode cX6_readCall 36 = .ok (.aload_n 1, 1) := by decide +kernel
theorem dX6_readCall_37 : decode cX6_readCall 37 = .ok (.iconst 0, 1) := by decide +kernel
theorem dX6_readCall_38 : decode cX6_readCall 38 = .ok (.iconst 5, 1) := by decide +kernel
theorem dX6_readCall_39 : decode cX6_readCall 39 = .ok (.invokevirtual 80, 3) := by decide +kernel
theorem dX6_readCall_42 : decode cX6_readCall 42 = .ok (.ifCond .ne 5, 3) := by decide +kernel
theorem dX6_readCall_45 : decode cX6_readCall 45 = .ok (.iconst 0, 1) := by decide +kernel
theorem dX6_readCall_46 : decode cX6_readCall 46 = .ok (.ireturn, 1) := by decide +kernel
theorem dX6_readCall_47 : decode cX6_readCall 47 = .ok (.aload_n 1, 1) := by decide +kernel
theorem dX6_readCall_48 : decode cX6_readCall 48 = .ok (.invokevirtual 84, 3) := by decide +kernel
theorem dX6_readCall_51 : decode cX6_readCall 51 = .ok (.istore 4, 2) := by decide +kernel
theorem dX6_readCall_53 : decode cX6_readCall 53 = .ok (.aload_n 1, 1) := by decide +kernel
theorem dX6_readCall_54 : decode cX6_readCall 54 = .ok (.invokevirtual 67, 3) := by decide +kernel
theorem dX6_readCall_57 : decode cX6_readCall 57 = .ok (.aload_n 1, 1) := by decide +kernel
theorem dX6_readCall_58 : decode cX6_readCall 58 = .ok (.sipush 302, 3) := by decide +kernel
theorem dX6_readCall_61 : decode cX6_readCall 61 = .ok (.invokevirtual 87, 3) := by decide +kernel
theorem dX6_readCall_64 : decode cX6_readCall 64 = .ok (.ifCond .eq 13, 3) := by decide +kernel
theorem dX6_readCall_67 : decode cX6_readCall 67 = .ok (.aload_n 1, 1) := by decide +kernel
theorem dX6_readCall_68 : decode cX6_readCall 68 = .ok (.iconst 0, 1) := by decide +kernel
theorem dX6_readCall_69 : decode cX6_readCall 69 = .ok (.bipush 59, 2) := by decide +kernel
theorem dX6_readCall_71 : decode cX6_readCall 71 = .ok (.invokevirtual 80, 3) := by decide +kernel
theorem dX6_readCall_74 : decode cX6_readCall 74 = .ok (.ifCond .ne 5, 3) := by decide +kernel
theorem dX6_readCall_77 : decode cX6_readCall 77 = .ok (.iconst 0, 1) := by decide +kernel
theorem dX6_readCall_78 : decode cX6_readCall 78 = .ok (.ireturn, 1) := by decide +kernel
theorem dX6_readCall_79 : decode cX6_readCall 79 = .ok (.aload_n 0, 1) := by decide +kernel
theorem dX6_readCall_80 : decode cX6_readCall 80 = .ok (.iconst 0, 1) := by decide +kernel
theorem dX6_readCall_81 : decode cX6_readCall 81 = .ok (.iload_n 3, 1) := by decide +kernel
theorem dX6_readCall_82 : decode cX6_readCall 82 = .ok (.iload 4, 2) := by decide +kernel
theorem dX6_readCall_84 : decode cX6_readCall 84 = .ok (.aload_n 1, 1) := by decide +kernel
theorem dX6_readCall_85 : decode cX6_readCall 85 = .ok (.invokevirtual 84, 3) := by decide +kernel
theorem dX6_readCall_88 : decode cX6_readCall 88 = .ok (.invokevirtual 70, 3) := by decide +kernel
theorem dX6_readCall_91 : decode cX6_readCall 91 = .ok (.aload_n 1, 1) := by decide +kernel
theorem dX6_readCall_92 : decode cX6_readCall 92 = .ok (.invokevirtual 67, 3) := by decide +kernel
theorem dX6_readCall_95 : decode cX6_readCall 95 = .ok (.iconst 1, 1) := by decide +kernel
theorem dX6_readCall_96 : decode cX6_readCall 96 = .ok (.ireturn, 1) := by decide +kernel
theorem eX6_readCall {l : Launch} {g : jm_G} {d : Nat} {v2 : Int} (hg : jm_HC g) {mu : jm_M} {Q : Option Value → jm_M → Prop} (h : jm_R l g d iX7_skip [.ref 1] mu (jm_qv fun m1 => jm_R l g d iX7_isNumberWithin [.ref 1, jm_i 0, jm_i (v2 - 1)] m1 (jm_qi fun z6 m5 => (¬ z6 = 0 → jm_R l g d iX7_number [.ref 1] m5 (jm_qi fun z10 m9 => jm_R l g d iX7_skip [.ref 1] m9 (jm_qv fun m13 => jm_R l g d iX7_take [.ref 1, jm_i 301] m13 (jm_qi fun z18 m17 => (z18 = 0 → Q (some (jm_i 0)) m17) ∧ (¬ z18 = 0 → jm_R l g d iX7_isNumberWithin [.ref 1, jm_i 0, jm_i 5] m17 (jm_qi fun z22 m21 => (¬ z22 = 0 → jm_R l g d iX7_number [.ref 1] m21 (jm_qi fun z26 m25 => jm_R l g d iX7_skip [.ref 1] m25 (jm_qv fun m29 => jm_R l g d iX7_take [.ref 1, jm_i 302] m29 (jm_qi fun z34 m33 => (z34 = 0 → Q (some (jm_i 0)) m33) ∧ (¬ z34 = 0 → jm_R l g d iX7_isNumberWithin [.ref 1, jm_i 0, jm_i 59] m33 (jm_qi fun z38 m37 => (¬ z38 = 0 → jm_R l g d iX7_number [.ref 1] m37 (jm_qi fun z42 m41 => jm_R l g d iX6_addDeed [.ref 56, jm_i 0, jm_i z10, jm_i z26, jm_i z42] m41 (jm_qv fun m45 => jm_R l g d iX7_skip [.ref 1] m45 (jm_qv fun m49 => Q (some (jm_i 1)) m49)))) ∧ (z38 = 0 → Q (some (jm_i 0)) m37))))))) ∧ (z22 = 0 → Q (some (jm_i 0)) m21))))))) ∧ (z6 = 0 → Q (some (jm_i 0)) m5)))) : jm_R l g (d + 1) iX6_readCall [.ref 56, .ref 1, jm_i v2] mu Q := by
  refine jm_enter [(0, .ref 56), (1, .ref 1), (2, jm_i v2)] (by decide) (Nat.le_of_ble_eq_true rfl) rfl ?_
  refine jm_mrI (fun hm0 => ?_)
  refine jm_aload_n (pc := 0) 1 dX6_readCall_0 rfl ?_
  refine jm_callvv (pc := 1) (As := []) (st := []) iX7_skip dX6_readCall_1 mX6_67 (cC1 hg) ⟨_, rfl, rfl⟩ rfl rfl (Nat.le_of_ble_eq_true rfl) h (fun m1 h hm4 => ?_)
  refine jm_aload_n (pc := 4) 1 dX6_readCall_4 rfl ?_
  refine jm_iconst (pc := 5) dX6_readCall_5 ?_
  refine jm_iload_n (pc := 6) 2 dX6_readCall_6 rfl ?_
  refine jm_iconst (pc := 7) dX6_readCall_7 ?_
  refine jm_isub (pc := 8) dX6_readCall_8 ?_
  refine jm_callvi (pc := 9) (As := [_, _]) (st := []) iX7_isNumberWithin dX6_readCall_9 mX6_80 (cC1 hg) ⟨_, rfl, rfl⟩ rfl rfl (Nat.le_of_ble_eq_true rfl) h (fun z6 m5 hz7 h hm8 => ?_)
  refine jm_if_ne (pc := 12) 17 dX6_readCall_12 rfl hz7 (fun q => ?_) (fun q => ?_)
  · have h := h.1 q
    refine jm_aload_n (pc := 17) 1 dX6_readCall_17 rfl ?_
    refine jm_callvi (pc := 18) (As := []) (st := []) iX7_number dX6_readCall_18 mX6_84 (cC1 hg) ⟨_, rfl, rfl⟩ rfl rfl (Nat.le_of_ble_eq_true rfl) h (fun z10 m9 hz11 h hm12 => ?_)
    refine jm_istore_n (pc := 21) (lv' := [(3, _), (0, _), (1, _), (2, _)]) dX6_readCall_21 (by decide) rfl ?_
    refine jm_aload_n (pc := 22) 2 dX6_readCall_22 rfl ?_
    refine jm_callvv (pc := 23) (As := []) (st := []) iX7_skip dX6_readCall_23 mX6_67 (cC1 hg) ⟨_, rfl, rfl⟩ rfl rfl (Nat.le_of_ble_eq_true rfl) h (fun m13 h hm16 => ?_)
    refine jm_aload_n (pc := 26) 2 dX6_readCall_26 rfl ?_
    refine jm_sipush (pc := 27) dX6_readCall_27 (by decide) ?_
    refine jm_callvi (pc := 30) (As := [_]) (st := []) iX7_take dX6_readCall_30 mX6_87 (cC1 hg) ⟨_, rfl, rfl⟩ rfl rfl (Nat.le_of_ble_eq_true rfl) h (fun z18 m17 hz19 h hm20 => ?_)
    refine jm_if_eq (pc := 33) 45 dX6_readCall_33 rfl hz19 (fun q => ?_) (fun q => ?_)
    · have h := h.1 q
      refine jm_iconst (pc := 45) dX6_readCall_45 ?_
      exact jm_zret (pc := 46) dX6_readCall_46 rfl (Or.inl rfl) h
    · have h := h.2 q
      refine jm_aload_n (pc := 36) 2 dX6_readCall_36 rfl ?_
      refine jm_iconst (pc := 37) dX6_readCall_37 ?_
      refine jm_iconst (pc := 38) dX6_readCall_38 ?_
      refine jm_callvi (pc := 39) (As := [_, _]) (st := []) iX7_isNumberWithin dX6_readCall_39 mX6_80 (cC1 hg) ⟨_, rfl, rfl⟩ rfl rfl (Nat.le_of_ble_eq_true rfl) h (fun z22 m21 hz23 h hm24 => ?_)
      refine jm_if_ne (pc := 42) 47 dX6_readCall_42 rfl hz23 (fun q => ?_) (fun q => ?_)
      · have h := h.1 q
        refine jm_aload_n (pc := 47) 2 dX6_readCall_47 rfl ?_
        refine jm_callvi (pc := 48) (As := []) (st := []) iX7_number dX6_readCall_48 mX6_84 (cC1 hg) ⟨_, rfl, rfl⟩ rfl rfl (Nat.le_of_ble_eq_true rfl) h (fun z26 m25 hz27 h hm28 => ?_)
        refine jm_istore (pc := 51) (lv' := [(4, _), (3, _), (0, _), (1, _), (2, _)]) dX6_readCall_51 (by decide) rfl ?_
        refine jm_aload_n (pc := 53) 3 dX6_readCall_53 rfl ?_
        refine jm_callvv (pc := 54) (As := []) (st := []) iX7_skip dX6_readCall_54 mX6_67 (cC1 hg) ⟨_, rfl, rfl⟩ rfl rfl (Nat.le_of_ble_eq_true rfl) h (fun m29 h hm32 => ?_)
        refine jm_aload_n (pc := 57) 3 dX6_readCall_57 rfl ?_
        refine jm_sipush (pc := 58) dX6_readCall_58 (by decide) ?_
        refine jm_callvi (pc := 61) (As := [_]) (st := []) iX7_take dX6_readCall_61 mX6_87 (cC1 hg) ⟨_, rfl, rfl⟩ rfl rfl (Nat.le_of_ble_eq_true rfl) h (fun z34 m33 hz35 h hm36 => ?_)
        refine jm_if_eq (pc := 64) 77 dX6_readCall_64 rfl hz35 (fun q => ?_) (fun q => ?_)
        · have h := h.1 q
          refine jm_iconst (pc := 77) dX6_readCall_77 ?_
          exact jm_zret (pc := 78) dX6_readCall_78 rfl (Or.inl rfl) h
        · have h := h.2 q
          refine jm_aload_n (pc := 67) 3 dX6_readCall_67 rfl ?_
          refine jm_iconst (pc := 68) dX6_readCall_68 ?_
          refine jm_bipush (pc := 69) dX6_readCall_69 (by decide) ?_
          refine jm_callvi (pc := 71) (As := [_, _]) (st := []) iX7_isNumberWithin dX6_readCall_71 mX6_80 (cC1 hg) ⟨_, rfl, rfl⟩ rfl rfl (Nat.le_of_ble_eq_true rfl) h (fun z38 m37 hz39 h hm40 => ?_)
          refine jm_if_ne (pc := 74) 79 dX6_readCall_74 rfl hz39 (fun q => ?_) (fun q => ?_)
          · have h := h.1 q
            refine jm_aload_n (pc := 79) 2 dX6_readCall_79 rfl ?_
            refine jm_iconst (pc := 80) dX6_readCall_80 ?_
            refine jm_iload_n (pc := 81) 1 dX6_readCall_81 rfl ?_
            refine jm_iload (pc := 82) 0 dX6_readCall_82 rfl ?_
            refine jm_aload_n (pc := 84) 3 dX6_readCall_84 rfl ?_
            refine jm_callvi (pc := 85) (As := []) (st := [_, _, _, _]) iX7_number dX6_readCall_85 mX6_84 (cC1 hg) ⟨_, rfl, rfl⟩ rfl rfl (Nat.le_of_ble_eq_true rfl) h (fun z42 m41 hz43 h hm44 => ?_)
            refine jm_callvv (pc := 88) (As := [_, _, _, _]) (st := []) iX6_addDeed dX6_readCall_88 mX6_70 (cC56 hg) ⟨_, rfl, rfl⟩ rfl rfl (Nat.le_of_ble_eq_true rfl) h (fun m45 h hm48 => ?_)
            refine jm_aload_n (pc := 91) 3 dX6_readCall_91 rfl ?_
            refine jm_callvv (pc := 92) (As := []) (st := []) iX7_skip dX6_readCall_92 mX6_67 (cC1 hg) ⟨_, rfl, rfl⟩ rfl rfl (Nat.le_of_ble_eq_true rfl) h (fun m49 h hm52 => ?_)
            refine jm_iconst (pc := 95) dX6_readCall_95 ?_
            exact jm_zret (pc := 96) dX6_readCall_96 rfl (Or.inr rfl) h
          · have h := h.2 q
            refine jm_iconst (pc := 77) dX6_readCall_77 ?_
            exact jm_zret (pc := 78) dX6_readCall_78 rfl (Or.inl rfl) h
      · have h := h.2 q
        refine jm_iconst (pc := 45) dX6_readCall_45 ?_
        exact jm_zret (pc := 46) dX6_readCall_46 rfl (Or.inl rfl) h
  · have h := h.2 q
    refine jm_iconst (pc := 15) dX6_readCall_15 ?_
    exact jm_zret (pc := 16) dX6_readCall_16 rfl (Or.inl rfl) h
theorem dX6_readCross_0 : decode cX6_readCross 0 = .ok (.aload_n 1, 1) := by decide +kernel
theorem dX6_readCross_1 : decode cX6_readCross 1 = .ok (.invokevirtual 67, 3) := by decide +kernel
theorem dX6_readCross_4 : decode cX6_readCross 4 = .ok (.aload_n 1, 1) := by decide +kernel
theorem dX6_readCross_5 : decode cX6_readCross 5 = .ok (.iconst 0, 1) := by decide +kernel
theorem dX6_readCross_6 : decode cX6_readCross 6 = .ok (.iload_n 2, 1) := by decide +kernel
theorem dX6_readCross_7 : decode cX6_readCross 7 = .ok (.iconst 1, 1) := by decide +kernel
theorem dX6_readCross_8 : decode cX6_readCross 8 = .ok (.isub, 1) := by decide +kernel
theorem dX6_readCross_9 : decode cX6_readCross 9 = .ok (.invokevirtual 80, 3) := by decide +kernel
theorem dX6_readCross_12 : decode cX6_readCross 12 = .ok (.ifCond .ne 5, 3) := by decide +kernel
theorem dX6_readCross_15 : decode cX6_readCross 15 = .ok (.iconst 0, 1) := by decide +kernel
theorem dX6_readCross_16 : decode cX6_readCross 16 = .ok (.ireturn, 1) := by decide +kernel
theorem dX6_readCross_17 : decode cX6_readCross 17 = .ok (.aload_n 0, 1) := by decide +kernel
theorem dX6_readCross_18 : decode cX6_readCross 18 = .ok (.iconst 1, 1) := by decide +kernel
theorem dX6_readCross_19 : decode cX6_readCross 19 = .ok (.aload_n 1, 1) := by decide +kernel
theorem dX6_readCross_20 : decode cX6_readCross 20 = .ok (.invokevirtual 84, 3) := by decide +kernel
theorem dX6_readCross_23 : decode cX6_readCross 23 = .ok (.iconst 0, 1) := by decide +kernel
theorem dX6_readCross_24 : decode cX6_readCross 24 = .ok (.iconst 0, 1) := by decide +kernel
theorem dX6_readCross_25 : decode cX6_readCross 25 = .ok (.invokevirtual 70, 3) := by decide +kernel
theorem dX6_readCross_28 : decode cX6_readCross 28 = .ok (.aload_n 1, 1) := by decide +kernel
theorem dX6_readCross_29 : decode cX6_readCross 29 = .ok (.invokevirtual 67, 3) := by decide +kernel
theorem dX6_readCross_32 : decode cX6_readCross 32 = .ok (.iconst 1, 1) := by decide +kernel
theorem dX6_readCross_33 : decode cX6_readCross 33 = .ok (.ireturn, 1) := by decide +kernel
theorem eX6_readCross {l : Launch} {g : jm_G} {d : Nat} {v2 : Int} (hg : jm_HC g) {mu : jm_M} {Q : Option Value → jm_M → Prop} (h : jm_R l g d iX7_skip [.ref 1] mu (jm_qv fun m1 => jm_R l g d iX7_isNumberWithin [.ref 1, jm_i 0, jm_i (v2 - 1)] m1 (jm_qi fun z6 m5 => (¬ z6 = 0 → jm_R l g d iX7_number [.ref 1] m5 (jm_qi fun z10 m9 => jm_R l g d iX6_addDeed [.ref 56, jm_i 1, jm_i z10, jm_i 0, jm_i 0] m9 (jm_qv fun m13 => jm_R l g d iX7_skip [.ref 1] m13 (jm_qv fun m17 => Q (some (jm_i 1)) m17)))) ∧ (z6 = 0 → Q (some (jm_i 0)) m5)))) : jm_R l g (d + 1) iX6_readCross [.ref 56, .ref 1, jm_i v2] mu Q := by
  refine jm_enter [(0, .ref 56), (1, .ref 1), (2, jm_i v2)] (by decide) (Nat.le_of_ble_eq_true rfl) rfl ?_
  refine jm_mrI (fun hm0 => ?_)
  refine jm_aload_n (pc := 0) 1 dX6_readCross_0 rfl ?_
  refine jm_callvv (pc := 1) (As := []) (st := []) iX7_skip dX6_readCross_1 mX6_67 (cC1 hg) ⟨_, rfl, rfl⟩ rfl rfl (Nat.le_of_ble_eq_true rfl) h (fun m1 h hm4 => ?_)
  refine jm_aload_n (pc := 4) 1 dX6_readCross_4 rfl ?_
  refine jm_iconst (pc := 5) dX6_readCross_5 ?_
  refine jm_iload_n (pc := 6) 2 dX6_readCross_6 rfl ?_
  refine jm_iconst (pc := 7) dX6_readCross_7 ?_
  refine jm_isub (pc := 8) dX6_readCross_8 ?_
  refine jm_callvi (pc := 9) (As := [_, _]) (st := []) iX7_isNumberWithin dX6_readCross_9 mX6_80 (cC1 hg) ⟨_, rfl, rfl⟩ rfl rfl (Nat.le_of_ble_eq_true rfl) h (fun z6 m5 hz7 h hm8 => ?_)
  refine jm_if_ne (pc := 12) 17 dX6_readCross_12 rfl hz7 (fun q => ?_) (fun q => ?_)
  · have h := h.1 q
    refine jm_aload_n (pc := 17) 0 dX6_readCross_17 rfl ?_
    refine jm_iconst (pc := 18) dX6_readCross_18 ?_
    refine jm_aload_n (pc := 19) 1 dX6_readCross_19 rfl ?_
    refine jm_callvi (pc := 20) (As := []) (st := [_, _]) iX7_number dX6_readCross_20 mX6_84 (cC1 hg) ⟨_, rfl, rfl⟩ rfl rfl (Nat.le_of_ble_eq_true rfl) h (fun z10 m9 hz11 h hm12 => ?_)
    refine jm_iconst (pc := 23) dX6_readCross_23 ?_
    refine jm_iconst (pc := 24) dX6_readCross_24 ?_
    refine jm_callvv (pc := 25) (As := [_, _, _, _]) (st := []) iX6_addDeed dX6_readCross_25 mX6_70 (cC56 hg) ⟨_, rfl, rfl⟩ rfl rfl (Nat.le_of_ble_eq_true rfl) h (fun m13 h hm16 => ?_)
    refine jm_aload_n (pc := 28) 1 dX6_readCross_28 rfl ?_
    refine jm_callvv (pc := 29) (As := []) (st := []) iX7_skip dX6_readCross_29 mX6_67 (cC1 hg) ⟨_, rfl, rfl⟩ rfl rfl (Nat.le_of_ble_eq_true rfl) h (fun m17 h hm20 => ?_)
    refine jm_iconst (pc := 32) dX6_readCross_32 ?_
    exact jm_zret (pc := 33) dX6_readCross_33 rfl (Or.inr rfl) h
  · have h := h.2 q
    refine jm_iconst (pc := 15) dX6_readCross_15 ?_
    exact jm_zret (pc := 16) dX6_readCross_16 rfl (Or.inl rfl) h
theorem dX6_readDeed_0 : decode cX6_readDeed 0 = .ok (.aload_n 1, 1) := by decide +kernel
theorem dX6_readDeed_1 : decode cX6_readDeed 1 = .ok (.invokevirtual 45, 3) := by decide +kernel
theorem dX6_readDeed_4 : decode cX6_readDeed 4 = .ok (.lookupswitch 92 #[(41, 86), (300, 52), (303, 59), (304, 66), (305, 80)], 52) := by decide +kernel
theorem dX6_readDeed_56 : decode cX6_readDeed 56 = .ok (.aload_n 0, 1) := by decide +kernel
theorem dX6_readDeed_57 : decode cX6_readDeed 57 = .ok (.aload_n 1, 1) := by decide +kernel
theorem dX6_readDeed_58 : decode cX6_readDeed 58 = .ok (.iload_n 2, 1) := by decide +kernel
theorem dX6_readDeed_59 : decode cX6_readDeed 59 = .ok (.invokevirtual 61, 3) := by decide +kernel
theorem dX6_readDeed_62 : decode cX6_readDeed 62 = .ok (.ireturn, 1) := by decide +kernel
theorem dX6_readDeed_63 : decode cX6_readDeed 63 = .ok (.aload_n 0, 1) := by decide +kernel
theorem dX6_readDeed_64 : decode cX6_readDeed 64 = .ok (.aload_n 1, 1) := by decide +kernel
theorem dX6_readDeed_65 : decode cX6_readDeed 65 = .ok (.iload_n 2, 1) := by decide +kernel
theorem dX6_readDeed_66 : decode cX6_readDeed 66 = .ok (.invokevirtual 64, 3) := by decide +kernel
theorem dX6_readDeed_69 : decode cX6_readDeed 69 = .ok (.ireturn, 1) := by decide +kernel
theorem dX6_readDeed_70 : decode cX6_readDeed 70 = .ok (.aload_n 1, 1) := by decide +kernel
theorem dX6_readDeed_71 : decode cX6_readDeed 71 = .ok (.invokevirtual 67, 3) := by decide +kernel
theorem dX6_readDeed_74 : decode cX6_readDeed 74 = .ok (.aload_n 0, 1) := by decide +kernel
theorem dX6_readDeed_75 : decode cX6_readDeed 75 = .ok (.iconst 3, 1) := by decide +kernel
theorem dX6_readDeed_76 : decode cX6_readDeed 76 = .ok (.iconst 0, 1) := by decide +kernel
theorem dX6_readDeed_77 : decode cX6_readDeed 77 = .ok (.iconst 0, 1) := by decide +kernel
theorem dX6_readDeed_78 : decode cX6_readDeed 78 = .ok (.iconst 0, 1) := by decide +kernel
theorem dX6_readDeed_79 : decode cX6_readDeed 79 = .ok (.invokevirtual 70, 3) := by decide +kernel
theorem dX6_readDeed_82 : decode cX6_readDeed 82 = .ok (.iconst 1, 1) := by decide +kernel
theorem dX6_readDeed_83 : decode cX6_readDeed 83 = .ok (.ireturn, 1) := by decide +kernel
theorem dX6_readDeed_84 : decode cX6_readDeed 84 = .ok (.aload_n 0, 1) := by decide +kernel
theorem dX6_readDeed_85 : decode cX6_readDeed 85 = .ok (.aload_n 1, 1) := by decide +kernel
theorem dX6_readDeed_86 : decode cX6_readDeed 86 = .ok (.invokevirtual 74, 3) := by decide +kernel
theorem dX6_readDeed_89 : decode cX6_readDeed 89 = .ok (.ireturn, 1) := by decide +kernel
theorem dX6_readDeed_90 : decode cX6_readDeed 90 = .ok (.aload_n 0, 1) := by decide +kernel
theorem dX6_readDeed_91 : decode cX6_readDeed 91 = .ok (.aload_n 1, 1) := by decide +kernel
theorem dX6_readDeed_92 : decode cX6_readDeed 92 = .ok (.invokevirtual 77, 3) := by decide +kernel
theorem dX6_readDeed_95 : decode cX6_readDeed 95 = .ok (.ireturn, 1) := by decide +kernel
theorem dX6_readDeed_96 : decode cX6_readDeed 96 = .ok (.aload_n 1, 1) := by decide +kernel
theorem dX6_readDeed_97 : decode cX6_readDeed 97 = .ok (.iconst 1, 1) := by decide +kernel
theorem dX6_readDeed_98 : decode cX6_readDeed 98 = .ok (.invokevirtual 57, 3) := by decide +kernel
theorem dX6_readDeed_101 : decode cX6_readDeed 101 = .ok (.ireturn, 1) := by decide +kernel
theorem eX6_readDeed {l : Launch} {g : jm_G} {d : Nat} {v2 : Int} (hg : jm_HC g) {mu : jm_M} {Q : Option Value → jm_M → Prop} (h : (0 ≤ (mu.1 1 8) ∧ (mu.1 1 8) < 401) ∧ ((mu.1 3 (mu.1 1 8)) = 41 → jm_R l g (d + 1) iX6_closeAgain [.ref 56, .ref 1] mu (jm_qi fun z3 m2 => (z3 = 0 ∨ z3 = 1) ∧ Q (some (jm_i z3)) m2)) ∧ ((mu.1 3 (mu.1 1 8)) = 300 → jm_R l g (d + 1) iX6_readCall [.ref 56, .ref 1, jm_i v2] mu (jm_qi fun z8 m7 => (z8 = 0 ∨ z8 = 1) ∧ Q (some (jm_i z8)) m7)) ∧ ((mu.1 3 (mu.1 1 8)) = 303 → jm_R l g (d + 1) iX6_readCross [.ref 56, .ref 1, jm_i v2] mu (jm_qi fun z13 m12 => (z13 = 0 ∨ z13 = 1) ∧ Q (some (jm_i z13)) m12)) ∧ ((mu.1 3 (mu.1 1 8)) = 304 → jm_R l g (d + 1) iX7_skip [.ref 1] mu (jm_qv fun m17 => jm_R l g (d + 1) iX6_addDeed [.ref 56, jm_i 3, jm_i 0, jm_i 0, jm_i 0] m17 (jm_qv fun m21 => Q (some (jm_i 1)) m21))) ∧ ((mu.1 3 (mu.1 1 8)) = 305 → jm_R l g (d + 1) iX6_readAgain [.ref 56, .ref 1] mu (jm_qi fun z26 m25 => (z26 = 0 ∨ z26 = 1) ∧ Q (some (jm_i z26)) m25)) ∧ (¬ (mu.1 3 (mu.1 1 8)) = 41 ∧ ¬ (mu.1 3 (mu.1 1 8)) = 300 ∧ ¬ (mu.1 3 (mu.1 1 8)) = 303 ∧ ¬ (mu.1 3 (mu.1 1 8)) = 304 ∧ ¬ (mu.1 3 (mu.1 1 8)) = 305 → (0 ≤ ((jm_wr mu 1 2 1).1 1 8) ∧ ((jm_wr mu 1 2 1).1 1 8) < 401) ∧ ∀ m31, m31 = (jm_wr (jm_wr mu 1 2 1) 1 3 ((jm_wr mu 1 2 1).1 4 ((jm_wr mu 1 2 1).1 1 8))) → Q (some (jm_i 0)) m31)) : jm_R l g (d + 2) iX6_readDeed [.ref 56, .ref 1, jm_i v2] mu Q := by
  refine jm_enter [(0, .ref 56), (1, .ref 1), (2, jm_i v2)] (by decide) (Nat.le_of_ble_eq_true rfl) rfl ?_
  refine jm_mrI (fun hm0 => ?_)
  refine jm_aload_n (pc := 0) 1 dX6_readDeed_0 rfl ?_
  have hg1 := h.1
  have h := h.2
  refine jm_inlvi (pc := 1) (As := []) (st := []) iX7_kind dX6_readDeed_1 mX6_45 (cC1 hg) ⟨_, rfl, rfl⟩ rfl rfl (Nat.le_of_ble_eq_true rfl) (pX7_kind hg hg1 (jm_kIi ?_))
  by_cases q0 : (mu.1 3 (mu.1 1 8)) = 41
  · have h := h.1 q0
    refine jm_lsw (pc := 4) 90 dX6_readDeed_4 (hm0 _ _) (by decide) (by rw [q0] <;> rfl) rfl ?_
    refine jm_aload_n (pc := 90) 0 dX6_readDeed_90 rfl ?_
    refine jm_aload_n (pc := 91) 1 dX6_readDeed_91 rfl ?_
    refine jm_callvi (pc := 92) (As := [_]) (st := []) iX6_closeAgain dX6_readDeed_92 mX6_77 (cC56 hg) ⟨_, rfl, rfl⟩ rfl rfl (Nat.le_of_ble_eq_true rfl) h (fun z3 m2 hz4 h hm5 => ?_)
    have hg6 := h.1
    have h := h.2
    exact jm_zret (pc := 95) dX6_readDeed_95 rfl hg6 h
  · by_cases q1 : (mu.1 3 (mu.1 1 8)) = 300
    · have h := h.2.1 q1
      refine jm_lsw (pc := 4) 56 dX6_readDeed_4 (hm0 _ _) (by decide) (by rw [q1] <;> rfl) rfl ?_
      refine jm_aload_n (pc := 56) 0 dX6_readDeed_56 rfl ?_
      refine jm_aload_n (pc := 57) 1 dX6_readDeed_57 rfl ?_
      refine jm_iload_n (pc := 58) 2 dX6_readDeed_58 rfl ?_
      refine jm_callvi (pc := 59) (As := [_, _]) (st := []) iX6_readCall dX6_readDeed_59 mX6_61 (cC56 hg) ⟨_, rfl, rfl⟩ rfl rfl (Nat.le_of_ble_eq_true rfl) h (fun z8 m7 hz9 h hm10 => ?_)
      have hg11 := h.1
      have h := h.2
      exact jm_zret (pc := 62) dX6_readDeed_62 rfl hg11 h
    · by_cases q2 : (mu.1 3 (mu.1 1 8)) = 303
      · have h := h.2.2.1 q2
        refine jm_lsw (pc := 4) 63 dX6_readDeed_4 (hm0 _ _) (by decide) (by rw [q2] <;> rfl) rfl ?_
        refine jm_aload_n (pc := 63) 0 dX6_readDeed_63 rfl ?_
        refine jm_aload_n (pc := 64) 1 dX6_readDeed_64 rfl ?_
        refine jm_iload_n (pc := 65) 2 dX6_readDeed_65 rfl ?_
        refine jm_callvi (pc := 66) (As := [_, _]) (st := []) iX6_readCross dX6_readDeed_66 mX6_64 (cC56 hg) ⟨_, rfl, rfl⟩ rfl rfl (Nat.le_of_ble_eq_true rfl) h (fun z13 m12 hz14 h hm15 => ?_)
        have hg16 := h.1
        have h := h.2
        exact jm_zret (pc := 69) dX6_readDeed_69 rfl hg16 h
      · by_cases q3 : (mu.1 3 (mu.1 1 8)) = 304
        · have h := h.2.2.2.1 q3
          refine jm_lsw (pc := 4) 70 dX6_readDeed_4 (hm0 _ _) (by decide) (by rw [q3] <;> rfl) rfl ?_
          refine jm_aload_n (pc := 70) 1 dX6_readDeed_70 rfl ?_
          refine jm_callvv (pc := 71) (As := []) (st := []) iX7_skip dX6_readDeed_71 mX6_67 (cC1 hg) ⟨_, rfl, rfl⟩ rfl rfl (Nat.le_of_ble_eq_true rfl) h (fun m17 h hm20 => ?_)
          refine jm_aload_n (pc := 74) 0 dX6_readDeed_74 rfl ?_
          refine jm_iconst (pc := 75) dX6_readDeed_75 ?_
          refine jm_iconst (pc := 76) dX6_readDeed_76 ?_
          refine jm_iconst (pc := 77) dX6_readDeed_77 ?_
          refine jm_iconst (pc := 78) dX6_readDeed_78 ?_
          refine jm_callvv (pc := 79) (As := [_, _, _, _]) (st := []) iX6_addDeed dX6_readDeed_79 mX6_70 (cC56 hg) ⟨_, rfl, rfl⟩ rfl rfl (Nat.le_of_ble_eq_true rfl) h (fun m21 h hm24 => ?_)
          refine jm_iconst (pc := 82) dX6_readDeed_82 ?_
          exact jm_zret (pc := 83) dX6_readDeed_83 rfl (Or.inr rfl) h
        · by_cases q4 : (mu.1 3 (mu.1 1 8)) = 305
          · have h := h.2.2.2.2.1 q4
            refine jm_lsw (pc := 4) 84 dX6_readDeed_4 (hm0 _ _) (by decide) (by rw [q4] <;> rfl) rfl ?_
            refine jm_aload_n (pc := 84) 0 dX6_readDeed_84 rfl ?_
            refine jm_aload_n (pc := 85) 1 dX6_readDeed_85 rfl ?_
            refine jm_callvi (pc := 86) (As := [_]) (st := []) iX6_readAgain dX6_readDeed_86 mX6_74 (cC56 hg) ⟨_, rfl, rfl⟩ rfl rfl (Nat.le_of_ble_eq_true rfl) h (fun z26 m25 hz27 h hm28 => ?_)
            have hg29 := h.1
            have h := h.2
            exact jm_zret (pc := 89) dX6_readDeed_89 rfl hg29 h
          · have h := h.2.2.2.2.2 ⟨q0, q1, q2, q3, q4⟩
            refine jm_lsw (pc := 4) 96 dX6_readDeed_4 (off := 92) (hm0 _ _) (by decide) (by rw [Op.lookupswitch.offset_cons, if_neg (fun r => q0 r.symm)]; rw [Op.lookupswitch.offset_cons, if_neg (fun r => q1 r.symm)]; rw [Op.lookupswitch.offset_cons, if_neg (fun r => q2 r.symm)]; rw [Op.lookupswitch.offset_cons, if_neg (fun r => q3 r.symm)]; rw [Op.lookupswitch.offset_cons, if_neg (fun r => q4 r.symm)]; rfl) rfl ?_
            refine jm_aload_n (pc := 96) 1 dX6_readDeed_96 rfl ?_
            refine jm_iconst (pc := 97) dX6_readDeed_97 ?_
            have hg30 := h.1
            have h := h.2
            refine jm_inlvi (pc := 98) (As := [_]) (st := []) iX7_refuse dX6_readDeed_98 mX6_57 (cC1 hg) ⟨_, rfl, rfl⟩ rfl rfl (Nat.le_of_ble_eq_true rfl) (pX7_refuse hg ⟨by decide, by decide⟩ hg30 (jm_kIi ?_))
            have h := h _ rfl
            refine jm_mrI (fun hm32 => ?_)
            exact jm_zret (pc := 101) dX6_readDeed_101 rfl (Or.inl rfl) h
theorem dX6_readEnd_0 : decode cX6_readEnd 0 = .ok (.aload_n 0, 1) := by decide +kernel
theorem dX6_readEnd_1 : decode cX6_readEnd 1 = .ok (.getfield 36, 3) := by decide +kernel
theorem dX6_readEnd_4 : decode cX6_readEnd 4 = .ok (.ifCond .le 9, 3) := by decide +kernel
theorem dX6_readEnd_7 : decode cX6_readEnd 7 = .ok (.aload_n 1, 1) := by decide +kernel
theorem dX6_readEnd_8 : decode cX6_readEnd 8 = .ok (.iconst 1, 1) := by decide +kernel
theorem dX6_readEnd_9 : decode cX6_readEnd 9 = .ok (.invokevirtual 57, 3) := by decide +kernel
theorem dX6_readEnd_12 : decode cX6_readEnd 12 = .ok (.ireturn, 1) := by decide +kernel
theorem dX6_readEnd_13 : decode cX6_readEnd 13 = .ok (.aload_n 0, 1) := by decide +kernel
theorem dX6_readEnd_14 : decode cX6_readEnd 14 = .ok (.getfield 11, 3) := by decide +kernel
theorem dX6_readEnd_17 : decode cX6_readEnd 17 = .ok (.bipush 60, 2) := by decide +kernel
theorem dX6_readEnd_19 : decode cX6_readEnd 19 = .ok (.if_icmp .le 11, 3) := by decide +kernel
theorem dX6_readEnd_22 : decode cX6_readEnd 22 = .ok (.aload_n 1, 1) := by decide +kernel
theorem dX6_readEnd_23 : decode cX6_readEnd 23 = .ok (.iconst 4, 1) := by decide +kernel
theorem dX6_readEnd_24 : decode cX6_readEnd 24 = .ok (.invokevirtual 57, 3) := by decide +kernel
theorem dX6_readEnd_27 : decode cX6_readEnd 27 = .ok (.ifCond .eq 7, 3) := by decide +kernel
theorem dX6_readEnd_30 : decode cX6_readEnd 30 = .ok (.iconst 1, 1) := by decide +kernel
theorem dX6_readEnd_31 : decode cX6_readEnd 31 = .ok (.goto 4, 3) := by decide +kernel
theorem dX6_readEnd_34 : decode cX6_readEnd 34 = .ok (.iconst 0, 1) := by decide +kernel
theorem dX6_readEnd_35 : decode cX6_readEnd 35 = .ok (.ireturn, 1) := by decide +kernel
theorem eX6_readEnd {l : Launch} {g : jm_G} {d : Nat} (hg : jm_HC g) {mu : jm_M} {Q : Option Value → jm_M → Prop} (h : ((mu.1 56 7) ≤ 0 → ((mu.1 56 0) ≤ 60 → Q (some (jm_i 1)) mu) ∧ (60 < (mu.1 56 0) → (0 ≤ ((jm_wr mu 1 2 4).1 1 8) ∧ ((jm_wr mu 1 2 4).1 1 8) < 401) ∧ ∀ m2, m2 = (jm_wr (jm_wr mu 1 2 4) 1 3 ((jm_wr mu 1 2 4).1 4 ((jm_wr mu 1 2 4).1 1 8))) → Q (some (jm_i 0)) m2)) ∧ (0 < (mu.1 56 7) → (0 ≤ ((jm_wr mu 1 2 1).1 1 8) ∧ ((jm_wr mu 1 2 1).1 1 8) < 401) ∧ ∀ m5, m5 = (jm_wr (jm_wr mu 1 2 1) 1 3 ((jm_wr mu 1 2 1).1 4 ((jm_wr mu 1 2 1).1 1 8))) → Q (some (jm_i 0)) m5)) : jm_R l g (d + 2) iX6_readEnd [.ref 56, .ref 1] mu Q := by
  refine jm_enter [(0, .ref 56), (1, .ref 1)] (by decide) (Nat.le_of_ble_eq_true rfl) rfl ?_
  refine jm_mrI (fun hm0 => ?_)
  refine jm_aload_n (pc := 0) 0 dX6_readEnd_0 rfl ?_
  refine jm_geti (pc := 1) 7 dX6_readEnd_1 fX6_36 (cC56 hg) rfl ?_
  refine jm_if_le (pc := 4) 13 dX6_readEnd_4 rfl (hm0 _ _) (fun q => ?_) (fun q => ?_)
  · have h := h.1 q
    refine jm_aload_n (pc := 13) 0 dX6_readEnd_13 rfl ?_
    refine jm_geti (pc := 14) 0 dX6_readEnd_14 fX6_11 (cC56 hg) rfl ?_
    refine jm_bipush (pc := 17) dX6_readEnd_17 (by decide) ?_
    refine jm_icmp_le (pc := 19) 30 dX6_readEnd_19 rfl (hm0 _ _) ⟨by decide, by decide⟩ (fun q => ?_) (fun q => ?_)
    · have h := h.1 q
      refine jm_iconst (pc := 30) dX6_readEnd_30 ?_
      refine jm_goto (pc := 31) 35 dX6_readEnd_31 rfl ?_
      exact jm_zret (pc := 35) dX6_readEnd_35 rfl (Or.inr rfl) h
    · have h := h.2 q
      refine jm_aload_n (pc := 22) 1 dX6_readEnd_22 rfl ?_
      refine jm_iconst (pc := 23) dX6_readEnd_23 ?_
      have hg1 := h.1
      have h := h.2
      refine jm_inlvi (pc := 24) (As := [_]) (st := []) iX7_refuse dX6_readEnd_24 mX6_57 (cC1 hg) ⟨_, rfl, rfl⟩ rfl rfl (Nat.le_of_ble_eq_true rfl) (pX7_refuse hg ⟨by decide, by decide⟩ hg1 (jm_kIi ?_))
      have h := h _ rfl
      refine jm_mrI (fun hm3 => ?_)
      refine jm_if_eq (pc := 27) 34 dX6_readEnd_27 rfl ⟨by decide, by decide⟩ (fun q => ?_) (fun q => absurd q (by decide))
      refine jm_iconst (pc := 34) dX6_readEnd_34 ?_
      exact jm_zret (pc := 35) dX6_readEnd_35 rfl (Or.inl rfl) h
  · have h := h.2 q
    refine jm_aload_n (pc := 7) 1 dX6_readEnd_7 rfl ?_
    refine jm_iconst (pc := 8) dX6_readEnd_8 ?_
    have hg4 := h.1
    have h := h.2
    refine jm_inlvi (pc := 9) (As := [_]) (st := []) iX7_refuse dX6_readEnd_9 mX6_57 (cC1 hg) ⟨_, rfl, rfl⟩ rfl rfl (Nat.le_of_ble_eq_true rfl) (pX7_refuse hg ⟨by decide, by decide⟩ hg4 (jm_kIi ?_))
    have h := h _ rfl
    refine jm_mrI (fun hm6 => ?_)
    exact jm_zret (pc := 12) dX6_readEnd_12 rfl (Or.inl rfl) h
theorem dX6_readFrom_0 : decode cX6_readFrom 0 = .ok (.aload_n 0, 1) := by decide +kernel
theorem dX6_readFrom_1 : decode cX6_readFrom 1 = .ok (.iconst 0, 1) := by decide +kernel
theorem dX6_readFrom_2 : decode cX6_readFrom 2 = .ok (.putfield 11, 3) := by decide +kernel
theorem dX6_readFrom_5 : decode cX6_readFrom 5 = .ok (.aload_n 0, 1) := by decide +kernel
theorem dX6_readFrom_6 : decode cX6_readFrom 6 = .ok (.iconst 0, 1) := by decide +kernel
theorem dX6_readFrom_7 : decode cX6_readFrom 7 = .ok (.putfield 36, 3) := by decide +kernel
theorem dX6_readFrom_10 : decode cX6_readFrom 10 = .ok (.iconst 0, 1) := by decide +kernel
theorem dX6_readFrom_11 : decode cX6_readFrom 11 = .ok (.istore_n 3, 1) := by decide +kernel
theorem dX6_readFrom_12 : decode cX6_readFrom 12 = .ok (.iload_n 3, 1) := by decide +kernel
theorem dX6_readFrom_13 : decode cX6_readFrom 13 = .ok (.sipush 400, 3) := by decide +kernel
theorem dX6_readFrom_16 : decode cX6_readFrom 16 = .ok (.if_icmp .gt 36, 3) := by decide +kernel
theorem dX6_readFrom_19 : decode cX6_readFrom 19 = .ok (.aload_n 1, 1) := by decide +kernel
theorem dX6_readFrom_20 : decode cX6_readFrom 20 = .ok (.invokevirtual 45, 3) := by decide +kernel
theorem dX6_readFrom_23 : decode cX6_readFrom 23 = .ok (.sipush 257, 3) := by decide +kernel
theorem dX6_readFrom_26 : decode cX6_readFrom 26 = .ok (.if_icmp .ne 9, 3) := by decide +kernel
theorem dX6_readFrom_29 : decode cX6_readFrom 29 = .ok (.aload_n 0, 1) := by decide +kernel
theorem dX6_readFrom_30 : decode cX6_readFrom 30 = .ok (.aload_n 1, 1) := by decide +kernel
theorem dX6_readFrom_31 : decode cX6_readFrom 31 = .ok (.invokevirtual 49, 3) := by decide +kernel
theorem dX6_readFrom_34 : decode cX6_readFrom 34 = .ok (.ireturn, 1) := by decide +kernel
theorem dX6_readFrom_35 : decode cX6_readFrom 35 = .ok (.aload_n 0, 1) := by decide +kernel
theorem dX6_readFrom_36 : decode cX6_readFrom 36 = .ok (.aload_n 1, 1) := by decide +kernel
theorem dX6_readFrom_37 : decode cX6_readFrom 37 = .ok (.iload_n 2, 1) := by decide +kernel
theorem dX6_readFrom_38 : decode cX6_readFrom 38 = .ok (.invokevirtual 53, 3) := by decide +kernel
theorem dX6_readFrom_41 : decode cX6_readFrom 41 = .ok (.ifCond .ne 5, 3) := by decide +kernel
theorem dX6_readFrom_44 : decode cX6_readFrom 44 = .ok (.iconst 0, 1) := by decide +kernel
theorem dX6_readFrom_45 : decode cX6_readFrom 45 = .ok (.ireturn, 1) := by decide +kernel
theorem dX6_readFrom_46 : decode cX6_readFrom 46 = .ok (.iinc 3 1, 3) := by decide +kernel
theorem dX6_readFrom_49 : decode cX6_readFrom 49 = .ok (.goto (-37), 3) := by decide +kernel
theorem dX6_readFrom_52 : decode cX6_readFrom 52 = .ok (.iconst 0, 1) := by decide +kernel
theorem dX6_readFrom_53 : decode cX6_readFrom 53 = .ok (.ireturn, 1) := by decide +kernel
theorem bX6_readFrom_12 {l : Launch} {g : jm_G} {d : Nat} {v2 v3 : Int} (hg : jm_HC g) {mu : jm_M} {Q : Option Value → jm_M → Prop} (h : jm_rg v3 ∧ (400 < v3 → Q (some (jm_i 0)) mu) ∧ (v3 ≤ 400 → (0 ≤ (mu.1 1 8) ∧ (mu.1 1 8) < 401) ∧ (¬ (mu.1 3 (mu.1 1 8)) = 257 → jm_R l g (d + 1) iX6_readDeed [.ref 56, .ref 1, jm_i v2] mu (jm_qi fun z4 m3 => (¬ z4 = 0 → jm_V l g (d + 2) iX6_readFrom 12 [(0, .ref 56), (1, .ref 1), (2, jm_i v2), (3, jm_i (v3 + 1))] [] m3 Q) ∧ (z4 = 0 → Q (some (jm_i 0)) m3))) ∧ ((mu.1 3 (mu.1 1 8)) = 257 → jm_R l g (d + 1) iX6_readEnd [.ref 56, .ref 1] mu (jm_qi fun z8 m7 => (z8 = 0 ∨ z8 = 1) ∧ Q (some (jm_i z8)) m7)))) : jm_V l g (d + 2) iX6_readFrom 12 [(0, .ref 56), (1, .ref 1), (2, jm_i v2), (3, jm_i v3)] [] mu Q := by
  refine jm_mrI (fun hm0 => ?_)
  refine jm_iload_n (pc := 12) 3 dX6_readFrom_12 rfl ?_
  refine jm_sipush (pc := 13) dX6_readFrom_13 (by decide) ?_
  have hg1 := h.1
  have h := h.2
  refine jm_icmp_gt (pc := 16) 52 dX6_readFrom_16 rfl hg1 ⟨by decide, by decide⟩ (fun q => ?_) (fun q => ?_)
  · have h := h.1 q
    refine jm_iconst (pc := 52) dX6_readFrom_52 ?_
    exact jm_zret (pc := 53) dX6_readFrom_53 rfl (Or.inl rfl) h
  · have h := h.2 q
    refine jm_aload_n (pc := 19) 1 dX6_readFrom_19 rfl ?_
    have hg2 := h.1
    have h := h.2
    refine jm_inlvi (pc := 20) (As := []) (st := []) iX7_kind dX6_readFrom_20 mX6_45 (cC1 hg) ⟨_, rfl, rfl⟩ rfl rfl (Nat.le_of_ble_eq_true rfl) (pX7_kind hg hg2 (jm_kIi ?_))
    refine jm_sipush (pc := 23) dX6_readFrom_23 (by decide) ?_
    refine jm_icmp_ne (pc := 26) 35 dX6_readFrom_26 rfl (hm0 _ _) ⟨by decide, by decide⟩ (fun q => ?_) (fun q => ?_)
    · have h := h.1 q
      refine jm_aload_n (pc := 35) 0 dX6_readFrom_35 rfl ?_
      refine jm_aload_n (pc := 36) 1 dX6_readFrom_36 rfl ?_
      refine jm_iload_n (pc := 37) 2 dX6_readFrom_37 rfl ?_
      refine jm_callvi (pc := 38) (As := [_, _]) (st := []) iX6_readDeed dX6_readFrom_38 mX6_53 (cC56 hg) ⟨_, rfl, rfl⟩ rfl rfl (Nat.le_of_ble_eq_true rfl) h (fun z4 m3 hz5 h hm6 => ?_)
      refine jm_if_ne (pc := 41) 46 dX6_readFrom_41 rfl hz5 (fun q => ?_) (fun q => ?_)
      · have h := h.1 q
        refine jm_iinc (pc := 46) (lv' := [(3, _), (0, _), (1, _), (2, _)]) 3 dX6_readFrom_46 rfl (by decide) rfl ?_
        refine jm_goto (pc := 49) 12 dX6_readFrom_49 rfl ?_
        exact jm_sub [1, 2, 3, 0] rfl h
      · have h := h.2 q
        refine jm_iconst (pc := 44) dX6_readFrom_44 ?_
        exact jm_zret (pc := 45) dX6_readFrom_45 rfl (Or.inl rfl) h
    · have h := h.2 q
      refine jm_aload_n (pc := 29) 0 dX6_readFrom_29 rfl ?_
      refine jm_aload_n (pc := 30) 1 dX6_readFrom_30 rfl ?_
      refine jm_callvi (pc := 31) (As := [_]) (st := []) iX6_readEnd dX6_readFrom_31 mX6_49 (cC56 hg) ⟨_, rfl, rfl⟩ rfl rfl (Nat.le_of_ble_eq_true rfl) h (fun z8 m7 hz9 h hm10 => ?_)
      have hg11 := h.1
      have h := h.2
      exact jm_zret (pc := 34) dX6_readFrom_34 rfl hg11 h
theorem eX6_readFrom {l : Launch} {g : jm_G} {d : Nat} {v2 : Int} (hg : jm_HC g) {mu : jm_M} {Q : Option Value → jm_M → Prop} (h : ∀ m1, m1 = jm_wr mu 56 0 0 → ∀ m3, m3 = jm_wr m1 56 7 0 → jm_V l g (d + 2) iX6_readFrom 12 [(0, .ref 56), (1, .ref 1), (2, jm_i v2), (3, jm_i 0)] [] m3 Q) : jm_R l g (d + 2) iX6_readFrom [.ref 56, .ref 1, jm_i v2] mu Q := by
  refine jm_enter [(0, .ref 56), (1, .ref 1), (2, jm_i v2)] (by decide) (Nat.le_of_ble_eq_true rfl) rfl ?_
  refine jm_mrI (fun hm0 => ?_)
  refine jm_aload_n (pc := 0) 0 dX6_readFrom_0 rfl ?_
  refine jm_iconst (pc := 1) dX6_readFrom_1 ?_
  refine jm_put (pc := 2) 0 dX6_readFrom_2 fX6_11 ftX6 (fun q h => by cases h; rfl) (jm_nI _) (jm_fI _) (cC56 hg) rfl ⟨by decide, by decide⟩ ?_
  have h := h _ rfl
  refine jm_mrI (fun hm2 => ?_)
  refine jm_aload_n (pc := 5) 0 dX6_readFrom_5 rfl ?_
  refine jm_iconst (pc := 6) dX6_readFrom_6 ?_
  refine jm_put (pc := 7) 7 dX6_readFrom_7 fX6_36 ftX6 (fun q h => by cases h; rfl) (jm_nI _) (jm_fI _) (cC56 hg) rfl ⟨by decide, by decide⟩ ?_
  have h := h _ rfl
  refine jm_mrI (fun hm4 => ?_)
  refine jm_iconst (pc := 10) dX6_readFrom_10 ?_
  refine jm_istore_n (pc := 11) (lv' := [(3, _), (0, _), (1, _), (2, _)]) dX6_readFrom_11 (by decide) rfl ?_
  exact jm_sub [1, 2, 3, 0] rfl h
theorem dX7_clearFault_0 : decode cX7_clearFault 0 = .ok (.aload_n 0, 1) := by decide +kernel
theorem dX7_clearFault_1 : decode cX7_clearFault 1 = .ok (.iconst 0, 1) := by decide +kernel
theorem dX7_clearFault_2 : decode cX7_clearFault 2 = .ok (.putfield 19, 3) := by decide +kernel
theorem dX7_clearFault_5 : decode cX7_clearFault 5 = .ok (.aload_n 0, 1) := by decide +kernel
theorem dX7_clearFault_6 : decode cX7_clearFault 6 = .ok (.iconst (-1), 1) := by decide +kernel
theorem dX7_clearFault_7 : decode cX7_clearFault 7 = .ok (.putfield 22, 3) := by decide +kernel
theorem dX7_clearFault_10 : decode cX7_clearFault 10 = .ok (.return_, 1) := by decide +kernel
theorem eX7_clearFault {l : Launch} {g : jm_G} {d : Nat} (hg : jm_HC g) {mu : jm_M} {Q : Option Value → jm_M → Prop} (h : ∀ m1, m1 = jm_wr mu 1 2 0 → ∀ m3, m3 = jm_wr m1 1 3 (-1) → Q none m3) : jm_R l g (d + 1) iX7_clearFault [.ref 1] mu Q := by
  refine jm_enter [(0, .ref 1)] (by decide) (Nat.le_of_ble_eq_true rfl) rfl ?_
  refine jm_mrI (fun hm0 => ?_)
  refine jm_aload_n (pc := 0) 0 dX7_clearFault_0 rfl ?_
  refine jm_iconst (pc := 1) dX7_clearFault_1 ?_
  refine jm_put (pc := 2) 2 dX7_clearFault_2 fX7_19 ftX7 (fun q h => by cases h; rfl) (jm_nI _) (jm_fI _) (cC1 hg) rfl ⟨by decide, by decide⟩ ?_
  have h := h _ rfl
  refine jm_mrI (fun hm2 => ?_)
  refine jm_aload_n (pc := 5) 0 dX7_clearFault_5 rfl ?_
  refine jm_iconst (pc := 6) dX7_clearFault_6 ?_
  refine jm_put (pc := 7) 3 dX7_clearFault_7 fX7_22 ftX7 (fun q h => by cases h; rfl) (jm_nI _) (jm_fI _) (cC1 hg) rfl ⟨by decide, by decide⟩ ?_
  have h := h _ rfl
  refine jm_mrI (fun hm4 => ?_)
  exact jm_vret (pc := 10) dX7_clearFault_10 rfl h
theorem pX7_clearFault {l : Launch} {g : jm_G} {d : Nat} (hg : jm_HC g) {mu : jm_M} {Q : Option Value → jm_M → Prop} (h : Q none (jm_wr (jm_wr mu 1 2 0) 1 3 (-1))) : jm_R l g (d + 1) iX7_clearFault [.ref 1] mu Q := by
  refine eX7_clearFault hg ?_
  intro x hx
  subst hx
  intro x hx
  subst hx
  exact h
