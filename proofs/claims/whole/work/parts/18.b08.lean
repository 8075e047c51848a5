theorem dX12_readProduct_0 : decode cX12_readProduct 0 = .ok (.aload_n 0, 1) := by decide +kernel
theorem dX12_readProduct_1 : decode cX12_readProduct 1 = .ok (.invokevirtual 203, 3) := by decide +kernel
theorem dX12_readProduct_4 : decode cX12_readProduct 4 = .ok (.iconst (-1), 1) := by decide +kernel
theorem dX12_readProduct_5 : decode cX12_readProduct 5 = .ok (.if_icmp .ne 5, 3) := by decide +kernel
theorem dX12_readProduct_8 : decode cX12_readProduct 8 = .ok (.iconst (-1), 1) := by decide +kernel
theorem dX12_readProduct_9 : decode cX12_readProduct 9 = .ok (.ireturn, 1) := by decide +kernel
theorem dX12_readProduct_10 : decode cX12_readProduct 10 = .ok (.aload_n 0, 1) := by decide +kernel
theorem dX12_readProduct_11 : decode cX12_readProduct 11 = .ok (.bipush 42, 2) := by decide +kernel
theorem dX12_readProduct_13 : decode cX12_readProduct 13 = .ok (.invokevirtual 207, 3) := by decide +kernel
theorem dX12_readProduct_16 : decode cX12_readProduct 16 = .ok (.ifCond .ne 12, 3) := by decide +kernel
theorem dX12_readProduct_19 : decode cX12_readProduct 19 = .ok (.aload_n 0, 1) := by decide +kernel
theorem dX12_readProduct_20 : decode cX12_readProduct 20 = .ok (.bipush 47, 2) := by decide +kernel
theorem dX12_readProduct_22 : decode cX12_readProduct 22 = .ok (.invokevirtual 207, 3) := by decide +kernel
theorem dX12_readProduct_25 : decode cX12_readProduct 25 = .ok (.ifCond .eq 76, 3) := by decide +kernel
theorem dX12_readProduct_28 : decode cX12_readProduct 28 = .ok (.aload_n 0, 1) := by decide +kernel
theorem dX12_readProduct_29 : decode cX12_readProduct 29 = .ok (.bipush 42, 2) := by decide +kernel
theorem dX12_readProduct_31 : decode cX12_readProduct 31 = .ok (.invokevirtual 207, 3) := by decide +kernel
theorem dX12_readProduct_34 : decode cX12_readProduct 34 = .ok (.istore_n 1, 1) := by decide +kernel
theorem dX12_readProduct_35 : decode cX12_readProduct 35 = .ok (.aload_n 0, 1) := by decide +kernel
theorem dX12_readProduct_36 : decode cX12_readProduct 36 = .ok (.invokevirtual 200, 3) := by decide +kernel
theorem dX12_readProduct_39 : decode cX12_readProduct 39 = .ok (.iload_n 1, 1) := by decide +kernel
theorem dX12_readProduct_40 : decode cX12_readProduct 40 = .ok (.ifCond .ne 17, 3) := by decide +kernel
theorem dX12_readProduct_43 : decode cX12_readProduct 43 = .ok (.aload_n 0, 1) := by decide +kernel
theorem dX12_readProduct_44 : decode cX12_readProduct 44 = .ok (.getfield 163, 3) := by decide +kernel
theorem dX12_readProduct_47 : decode cX12_readProduct 47 = .ok (.iconst 3, 1) := by decide +kernel
theorem dX12_readProduct_48 : decode cX12_readProduct 48 = .ok (.if_icmp .eq 9, 3) := by decide +kernel
theorem dX12_readProduct_51 : decode cX12_readProduct 51 = .ok (.aload_n 0, 1) := by decide +kernel
theorem dX12_readProduct_52 : decode cX12_readProduct 52 = .ok (.iconst 1, 1) := by decide +kernel
theorem dX12_readProduct_53 : decode cX12_readProduct 53 = .ok (.invokevirtual 194, 3) := by decide +kernel
theorem dX12_readProduct_56 : decode cX12_readProduct 56 = .ok (.ireturn, 1) := by decide +kernel
theorem dX12_readProduct_57 : decode cX12_readProduct 57 = .ok (.iload_n 1, 1) := by decide +kernel
theorem dX12_readProduct_58 : decode cX12_readProduct 58 = .ok (.ifCond .ne 16, 3) := by decide +kernel
theorem dX12_readProduct_61 : decode cX12_readProduct 61 = .ok (.aload_n 0, 1) := by decide +kernel
theorem dX12_readProduct_62 : decode cX12_readProduct 62 = .ok (.getfield 166, 3) := by decide +kernel
theorem dX12_readProduct_65 : decode cX12_readProduct 65 = .ok (.ifCond .ne 9, 3) := by decide +kernel
theorem dX12_readProduct_68 : decode cX12_readProduct 68 = .ok (.aload_n 0, 1) := by decide +kernel
theorem dX12_readProduct_69 : decode cX12_readProduct 69 = .ok (.iconst 2, 1) := by decide +kernel
theorem dX12_readProduct_70 : decode cX12_readProduct 70 = .ok (.invokevirtual 194, 3) := by decide +kernel
theorem dX12_readProduct_73 : decode cX12_readProduct 73 = .ok (.ireturn, 1) := by decide +kernel
theorem dX12_readProduct_74 : decode cX12_readProduct 74 = .ok (.aload_n 0, 1) := by decide +kernel
theorem dX12_readProduct_75 : decode cX12_readProduct 75 = .ok (.invokevirtual 203, 3) := by decide +kernel
theorem dX12_readProduct_78 : decode cX12_readProduct 78 = .ok (.iconst (-1), 1) := by decide +kernel
theorem dX12_readProduct_79 : decode cX12_readProduct 79 = .ok (.if_icmp .ne 5, 3) := by decide +kernel
theorem dX12_readProduct_82 : decode cX12_readProduct 82 = .ok (.iconst (-1), 1) := by decide +kernel
theorem dX12_readProduct_83 : decode cX12_readProduct 83 = .ok (.ireturn, 1) := by decide +kernel
theorem dX12_readProduct_84 : decode cX12_readProduct 84 = .ok (.aload_n 0, 1) := by decide +kernel
theorem dX12_readProduct_85 : decode cX12_readProduct 85 = .ok (.iload_n 1, 1) := by decide +kernel
theorem dX12_readProduct_86 : decode cX12_readProduct 86 = .ok (.ifCond .eq 7, 3) := by decide +kernel
theorem dX12_readProduct_89 : decode cX12_readProduct 89 = .ok (.iconst 4, 1) := by decide +kernel
theorem dX12_readProduct_90 : decode cX12_readProduct 90 = .ok (.goto 4, 3) := by decide +kernel
theorem dX12_readProduct_93 : decode cX12_readProduct 93 = .ok (.iconst 5, 1) := by decide +kernel
theorem dX12_readProduct_94 : decode cX12_readProduct 94 = .ok (.iconst 0, 1) := by decide +kernel
theorem dX12_readProduct_95 : decode cX12_readProduct 95 = .ok (.invokevirtual 197, 3) := by decide +kernel
theorem dX12_readProduct_98 : decode cX12_readProduct 98 = .ok (.goto (-88), 3) := by decide +kernel
theorem dX12_readProduct_101 : decode cX12_readProduct 101 = .ok (.iconst 0, 1) := by decide +kernel
theorem dX12_readProduct_102 : decode cX12_readProduct 102 = .ok (.ireturn, 1) := by decide +kernel
theorem bX12_readProduct_74 {l : Launch} {g : jm_G} {d : Nat} {v1 : Int} (hg : jm_HR g) {mu : jm_M} {Q : Option Value → jm_M → Prop} (h : jm_R l g (d + 1) iX12_readUnit [.ref 0] mu (jm_qi fun z2 m1 => (¬ z2 = (-1) → jm_rg v1 ∧ (v1 = 0 → (0 ≤ (800 + (m1.1 0 27)) ∧ (800 + (m1.1 0 27)) < 1200) ∧ (0 ≤ (800 + ((jm_wr m1 14 (800 + (m1.1 0 27)) 5).1 0 27)) ∧ (800 + ((jm_wr m1 14 (800 + (m1.1 0 27)) 5).1 0 27)) < 1200) ∧ (jm_rg (((jm_wr (jm_wr m1 14 (800 + (m1.1 0 27)) 5) 15 (800 + ((jm_wr m1 14 (800 + (m1.1 0 27)) 5).1 0 27)) 0).1 0 27) + 1)) ∧ ∀ m9, m9 = (jm_wr (jm_wr (jm_wr m1 14 (800 + (m1.1 0 27)) 5) 15 (800 + ((jm_wr m1 14 (800 + (m1.1 0 27)) 5).1 0 27)) 0) 0 27 (((jm_wr (jm_wr m1 14 (800 + (m1.1 0 27)) 5) 15 (800 + ((jm_wr m1 14 (800 + (m1.1 0 27)) 5).1 0 27)) 0).1 0 27) + 1)) → jm_V l g (d + 2) iX12_readProduct 10 [(0, .ref 0)] [] m9 Q) ∧ (¬ v1 = 0 → (0 ≤ (800 + (m1.1 0 27)) ∧ (800 + (m1.1 0 27)) < 1200) ∧ (0 ≤ (800 + ((jm_wr m1 14 (800 + (m1.1 0 27)) 4).1 0 27)) ∧ (800 + ((jm_wr m1 14 (800 + (m1.1 0 27)) 4).1 0 27)) < 1200) ∧ (jm_rg (((jm_wr (jm_wr m1 14 (800 + (m1.1 0 27)) 4) 15 (800 + ((jm_wr m1 14 (800 + (m1.1 0 27)) 4).1 0 27)) 0).1 0 27) + 1)) ∧ ∀ m14, m14 = (jm_wr (jm_wr (jm_wr m1 14 (800 + (m1.1 0 27)) 4) 15 (800 + ((jm_wr m1 14 (800 + (m1.1 0 27)) 4).1 0 27)) 0) 0 27 (((jm_wr (jm_wr m1 14 (800 + (m1.1 0 27)) 4) 15 (800 + ((jm_wr m1 14 (800 + (m1.1 0 27)) 4).1 0 27)) 0).1 0 27) + 1)) → jm_V l g (d + 2) iX12_readProduct 10 [(0, .ref 0)] [] m14 Q)) ∧ (z2 = (-1) → Q (some (jm_i (-1))) m1))) : jm_V l g (d + 2) iX12_readProduct 74 [(0, .ref 0), (1, jm_i v1)] [] mu Q := by
  refine jm_mrI (fun hm0 => ?_)
  refine jm_aload_n (pc := 74) 0 dX12_readProduct_74 rfl ?_
  refine jm_callvi (pc := 75) (As := []) (st := []) iX12_readUnit dX12_readProduct_75 mX12_203 (cR0 hg) ⟨_, rfl, rfl⟩ rfl rfl (Nat.le_of_ble_eq_true rfl) h (fun z2 m1 hz3 h hm4 => ?_)
  refine jm_iconst (pc := 78) dX12_readProduct_78 ?_
  refine jm_icmp_ne (pc := 79) 84 dX12_readProduct_79 rfl hz3 ⟨by decide, by decide⟩ (fun q => ?_) (fun q => ?_)
  · have h := h.1 q
    refine jm_aload_n (pc := 84) 0 dX12_readProduct_84 rfl ?_
    refine jm_iload_n (pc := 85) 1 dX12_readProduct_85 rfl ?_
    have hg5 := h.1
    have h := h.2
    refine jm_if_eq (pc := 86) 93 dX12_readProduct_86 rfl hg5 (fun q => ?_) (fun q => ?_)
    · have h := h.1 q
      refine jm_iconst (pc := 93) dX12_readProduct_93 ?_
      refine jm_iconst (pc := 94) dX12_readProduct_94 ?_
      have hg6 := h.1
      have h := h.2
      have hg7 := h.1
      have h := h.2
      have hg8 := h.1
      have h := h.2
      refine jm_inlvv (pc := 95) (As := [_, _]) (st := []) iX12_emits dX12_readProduct_95 mX12_197 (cR0 hg) ⟨_, rfl, rfl⟩ rfl rfl (Nat.le_of_ble_eq_true rfl) (pX12_emits hg hg6 ⟨by decide, by decide⟩ hg7 ⟨by decide, by decide⟩ hg8 (jm_kVi ?_))
      have h := h _ rfl
      refine jm_mrI (fun hm10 => ?_)
      refine jm_goto (pc := 98) 10 dX12_readProduct_98 rfl ?_
      exact jm_sub [0] rfl h
    · have h := h.2 q
      refine jm_iconst (pc := 89) dX12_readProduct_89 ?_
      refine jm_goto (pc := 90) 94 dX12_readProduct_90 rfl ?_
      refine jm_iconst (pc := 94) dX12_readProduct_94 ?_
      have hg11 := h.1
      have h := h.2
      have hg12 := h.1
      have h := h.2
      have hg13 := h.1
      have h := h.2
      refine jm_inlvv (pc := 95) (As := [_, _]) (st := []) iX12_emits dX12_readProduct_95 mX12_197 (cR0 hg) ⟨_, rfl, rfl⟩ rfl rfl (Nat.le_of_ble_eq_true rfl) (pX12_emits hg hg11 ⟨by decide, by decide⟩ hg12 ⟨by decide, by decide⟩ hg13 (jm_kVi ?_))
      have h := h _ rfl
      refine jm_mrI (fun hm15 => ?_)
      refine jm_goto (pc := 98) 10 dX12_readProduct_98 rfl ?_
      exact jm_sub [0] rfl h
  · have h := h.2 q
    refine jm_iconst (pc := 82) dX12_readProduct_82 ?_
    exact jm_iret (pc := 83) dX12_readProduct_83 rfl h
theorem bX12_readProduct_57 {l : Launch} {g : jm_G} {d : Nat} {v1 : Int} (hg : jm_HR g) {mu : jm_M} {Q : Option Value → jm_M → Prop} (h : jm_rg v1 ∧ (¬ v1 = 0 → jm_V l g (d + 2) iX12_readProduct 74 [(0, .ref 0), (1, jm_i v1)] [] mu Q) ∧ (v1 = 0 → (¬ (mu.1 0 17) = 0 → jm_V l g (d + 2) iX12_readProduct 74 [(0, .ref 0), (1, jm_i v1)] [] mu Q) ∧ ((mu.1 0 17) = 0 → ∀ m2, m2 = (jm_wr (jm_wr mu 0 31 2) 0 32 ((jm_wr mu 0 31 2).1 0 15)) → Q (some (jm_i (-1))) m2))) : jm_V l g (d + 2) iX12_readProduct 57 [(0, .ref 0), (1, jm_i v1)] [] mu Q := by
  refine jm_mrI (fun hm0 => ?_)
  refine jm_iload_n (pc := 57) 1 dX12_readProduct_57 rfl ?_
  have hg1 := h.1
  have h := h.2
  refine jm_if_ne (pc := 58) 74 dX12_readProduct_58 rfl hg1 (fun q => ?_) (fun q => ?_)
  · have h := h.1 q
    exact jm_sub [0, 1] rfl h
  · have h := h.2 q
    refine jm_aload_n (pc := 61) 0 dX12_readProduct_61 rfl ?_
    refine jm_geti (pc := 62) 17 dX12_readProduct_62 fX12_166 (cR0 hg) rfl ?_
    refine jm_if_ne (pc := 65) 74 dX12_readProduct_65 rfl (hm0 _ _) (fun q => ?_) (fun q => ?_)
    · have h := h.1 q
      exact jm_sub [0, 1] rfl h
    · have h := h.2 q
      refine jm_aload_n (pc := 68) 0 dX12_readProduct_68 rfl ?_
      refine jm_iconst (pc := 69) dX12_readProduct_69 ?_
      refine jm_inlvi (pc := 70) (As := [_]) (st := []) iX12_errs dX12_readProduct_70 mX12_194 (cR0 hg) ⟨_, rfl, rfl⟩ rfl rfl (Nat.le_of_ble_eq_true rfl) (pX12_errs hg ⟨by decide, by decide⟩ (jm_kIi ?_))
      have h := h _ rfl
      refine jm_mrI (fun hm3 => ?_)
      exact jm_iret (pc := 73) dX12_readProduct_73 rfl h
theorem bX12_readProduct_28 {l : Launch} {g : jm_G} {d : Nat} (hg : jm_HR g) {mu : jm_M} {Q : Option Value → jm_M → Prop} (h : ((mu.1 0 16) = 4 ∧ (mu.1 0 17) = 42 → jm_R l g (d + 1) iX12_reads [.ref 0] mu (jm_qv fun m1 => jm_V l g (d + 2) iX12_readProduct 57 [(0, .ref 0), (1, jm_i 1)] [] m1 Q)) ∧ (¬ ((mu.1 0 16) = 4 ∧ (mu.1 0 17) = 42) → jm_R l g (d + 1) iX12_reads [.ref 0] mu (jm_qv fun m5 => ((m5.1 0 16) = 3 → jm_V l g (d + 2) iX12_readProduct 57 [(0, .ref 0), (1, jm_i 0)] [] m5 Q) ∧ (¬ (m5.1 0 16) = 3 → ∀ m9, m9 = (jm_wr (jm_wr m5 0 31 1) 0 32 ((jm_wr m5 0 31 1).1 0 15)) → Q (some (jm_i (-1))) m9)))) : jm_V l g (d + 2) iX12_readProduct 28 [(0, .ref 0)] [] mu Q := by
  refine jm_mrI (fun hm0 => ?_)
  refine jm_aload_n (pc := 28) 0 dX12_readProduct_28 rfl ?_
  refine jm_bipush (pc := 29) dX12_readProduct_29 (by decide) ?_
  refine jm_inlvi (pc := 31) (As := [_]) (st := []) iX12_isSign dX12_readProduct_31 mX12_207 (cR0 hg) ⟨_, rfl, rfl⟩ rfl rfl (Nat.le_of_ble_eq_true rfl) (pX12_isSign hg ⟨by decide, by decide⟩ (fun q => jm_kIi ?_) (fun q => jm_kIi ?_))
  · have h := h.1 q
    refine jm_istore_n (pc := 34) (lv' := [(1, _), (0, _)]) dX12_readProduct_34 (by decide) rfl ?_
    refine jm_aload_n (pc := 35) 1 dX12_readProduct_35 rfl ?_
    refine jm_callvv (pc := 36) (As := []) (st := []) iX12_reads dX12_readProduct_36 mX12_200 (cR0 hg) ⟨_, rfl, rfl⟩ rfl rfl (Nat.le_of_ble_eq_true rfl) h (fun m1 h hm4 => ?_)
    refine jm_iload_n (pc := 39) 0 dX12_readProduct_39 rfl ?_
    refine jm_if_ne (pc := 40) 57 dX12_readProduct_40 rfl ⟨by decide, by decide⟩ (fun q => ?_) (fun q => absurd q (by decide))
    exact jm_sub [1, 0] rfl h
  · have h := h.2 q
    refine jm_istore_n (pc := 34) (lv' := [(1, _), (0, _)]) dX12_readProduct_34 (by decide) rfl ?_
    refine jm_aload_n (pc := 35) 1 dX12_readProduct_35 rfl ?_
    refine jm_callvv (pc := 36) (As := []) (st := []) iX12_reads dX12_readProduct_36 mX12_200 (cR0 hg) ⟨_, rfl, rfl⟩ rfl rfl (Nat.le_of_ble_eq_true rfl) h (fun m5 h hm8 => ?_)
    refine jm_iload_n (pc := 39) 0 dX12_readProduct_39 rfl ?_
    refine jm_if_ne (pc := 40) 57 dX12_readProduct_40 rfl ⟨by decide, by decide⟩ (fun q => absurd q (by decide)) (fun q => ?_)
    refine jm_aload_n (pc := 43) 1 dX12_readProduct_43 rfl ?_
    refine jm_geti (pc := 44) 16 dX12_readProduct_44 fX12_163 (cR0 hg) rfl ?_
    refine jm_iconst (pc := 47) dX12_readProduct_47 ?_
    refine jm_icmp_eq (pc := 48) 57 dX12_readProduct_48 rfl (hm8 _ _) ⟨by decide, by decide⟩ (fun q => ?_) (fun q => ?_)
    · have h := h.1 q
      exact jm_sub [1, 0] rfl h
    · have h := h.2 q
      refine jm_aload_n (pc := 51) 1 dX12_readProduct_51 rfl ?_
      refine jm_iconst (pc := 52) dX12_readProduct_52 ?_
      refine jm_inlvi (pc := 53) (As := [_]) (st := []) iX12_errs dX12_readProduct_53 mX12_194 (cR0 hg) ⟨_, rfl, rfl⟩ rfl rfl (Nat.le_of_ble_eq_true rfl) (pX12_errs hg ⟨by decide, by decide⟩ (jm_kIi ?_))
      have h := h _ rfl
      refine jm_mrI (fun hm10 => ?_)
      exact jm_iret (pc := 56) dX12_readProduct_56 rfl h
theorem bX12_readProduct_10 {l : Launch} {g : jm_G} {d : Nat} (hg : jm_HR g) {mu : jm_M} {Q : Option Value → jm_M → Prop} (h : ((mu.1 0 16) = 4 ∧ (mu.1 0 17) = 42 → jm_V l g (d + 2) iX12_readProduct 28 [(0, .ref 0)] [] mu Q) ∧ (¬ ((mu.1 0 16) = 4 ∧ (mu.1 0 17) = 42) → ((mu.1 0 16) = 4 ∧ (mu.1 0 17) = 47 → jm_V l g (d + 2) iX12_readProduct 28 [(0, .ref 0)] [] mu Q) ∧ (¬ ((mu.1 0 16) = 4 ∧ (mu.1 0 17) = 47) → Q (some (jm_i 0)) mu))) : jm_V l g (d + 2) iX12_readProduct 10 [(0, .ref 0)] [] mu Q := by
  refine jm_mrI (fun hm0 => ?_)
  refine jm_aload_n (pc := 10) 0 dX12_readProduct_10 rfl ?_
  refine jm_bipush (pc := 11) dX12_readProduct_11 (by decide) ?_
  refine jm_inlvi (pc := 13) (As := [_]) (st := []) iX12_isSign dX12_readProduct_13 mX12_207 (cR0 hg) ⟨_, rfl, rfl⟩ rfl rfl (Nat.le_of_ble_eq_true rfl) (pX12_isSign hg ⟨by decide, by decide⟩ (fun q => jm_kIi ?_) (fun q => jm_kIi ?_))
  · have h := h.1 q
    refine jm_if_ne (pc := 16) 28 dX12_readProduct_16 rfl ⟨by decide, by decide⟩ (fun q => ?_) (fun q => absurd q (by decide))
    exact jm_sub [0] rfl h
  · have h := h.2 q
    refine jm_if_ne (pc := 16) 28 dX12_readProduct_16 rfl ⟨by decide, by decide⟩ (fun q => absurd q (by decide)) (fun q => ?_)
    refine jm_aload_n (pc := 19) 0 dX12_readProduct_19 rfl ?_
    refine jm_bipush (pc := 20) dX12_readProduct_20 (by decide) ?_
    refine jm_inlvi (pc := 22) (As := [_]) (st := []) iX12_isSign dX12_readProduct_22 mX12_207 (cR0 hg) ⟨_, rfl, rfl⟩ rfl rfl (Nat.le_of_ble_eq_true rfl) (pX12_isSign hg ⟨by decide, by decide⟩ (fun q => jm_kIi ?_) (fun q => jm_kIi ?_))
    · have h := h.1 q
      refine jm_if_eq (pc := 25) 101 dX12_readProduct_25 rfl ⟨by decide, by decide⟩ (fun q => absurd q (by decide)) (fun q => ?_)
      exact jm_sub [0] rfl h
    · have h := h.2 q
      refine jm_if_eq (pc := 25) 101 dX12_readProduct_25 rfl ⟨by decide, by decide⟩ (fun q => ?_) (fun q => absurd q (by decide))
      refine jm_iconst (pc := 101) dX12_readProduct_101 ?_
      exact jm_iret (pc := 102) dX12_readProduct_102 rfl h
theorem eX12_readProduct {l : Launch} {g : jm_G} {d : Nat} (hg : jm_HR g) {mu : jm_M} {Q : Option Value → jm_M → Prop} (h : jm_R l g (d + 1) iX12_readUnit [.ref 0] mu (jm_qi fun z2 m1 => (¬ z2 = (-1) → jm_V l g (d + 2) iX12_readProduct 10 [(0, .ref 0)] [] m1 Q) ∧ (z2 = (-1) → Q (some (jm_i (-1))) m1))) : jm_R l g (d + 2) iX12_readProduct [.ref 0] mu Q := by
  refine jm_enter [(0, .ref 0)] (by decide) (Nat.le_of_ble_eq_true rfl) rfl ?_
  refine jm_mrI (fun hm0 => ?_)
  refine jm_aload_n (pc := 0) 0 dX12_readProduct_0 rfl ?_
  refine jm_callvi (pc := 1) (As := []) (st := []) iX12_readUnit dX12_readProduct_1 mX12_203 (cR0 hg) ⟨_, rfl, rfl⟩ rfl rfl (Nat.le_of_ble_eq_true rfl) h (fun z2 m1 hz3 h hm4 => ?_)
  refine jm_iconst (pc := 4) dX12_readProduct_4 ?_
  refine jm_icmp_ne (pc := 5) 10 dX12_readProduct_5 rfl hz3 ⟨by decide, by decide⟩ (fun q => ?_) (fun q => ?_)
  · have h := h.1 q
    exact jm_sub [0] rfl h
  · have h := h.2 q
    refine jm_iconst (pc := 8) dX12_readProduct_8 ?_
    exact jm_iret (pc := 9) dX12_readProduct_9 rfl h
theorem dX12_readSum_0 : decode cX12_readSum 0 = .ok (.aload_n 0, 1) := by decide +kernel
theorem dX12_readSum_1 : decode cX12_readSum 1 = .ok (.invokevirtual 210, 3) := by decide +kernel
theorem dX12_readSum_4 : decode cX12_readSum 4 = .ok (.iconst (-1), 1) := by decide +kernel
theorem dX12_readSum_5 : decode cX12_readSum 5 = .ok (.if_icmp .ne 5, 3) := by decide +kernel
theorem dX12_readSum_8 : decode cX12_readSum 8 = .ok (.iconst (-1), 1) := by decide +kernel
theorem dX12_readSum_9 : decode cX12_readSum 9 = .ok (.ireturn, 1) := by decide +kernel
theorem dX12_readSum_10 : decode cX12_readSum 10 = .ok (.aload_n 0, 1) := by decide +kernel
theorem dX12_readSum_11 : decode cX12_readSum 11 = .ok (.bipush 43, 2) := by decide +kernel
theorem dX12_readSum_13 : decode cX12_readSum 13 = .ok (.invokevirtual 207, 3) := by decide +kernel
theorem dX12_readSum_16 : decode cX12_readSum 16 = .ok (.ifCond .ne 12, 3) := by decide +kernel
theorem dX12_readSum_19 : decode cX12_readSum 19 = .ok (.aload_n 0, 1) := by decide +kernel
theorem dX12_readSum_20 : decode cX12_readSum 20 = .ok (.bipush 45, 2) := by decide +kernel
theorem dX12_readSum_22 : decode cX12_readSum 22 = .ok (.invokevirtual 207, 3) := by decide +kernel
theorem dX12_readSum_25 : decode cX12_readSum 25 = .ok (.ifCond .eq 41, 3) := by decide +kernel
theorem dX12_readSum_28 : decode cX12_readSum 28 = .ok (.aload_n 0, 1) := by decide +kernel
theorem dX12_readSum_29 : decode cX12_readSum 29 = .ok (.getfield 166, 3) := by decide +kernel
theorem dX12_readSum_32 : decode cX12_readSum 32 = .ok (.bipush 43, 2) := by decide +kernel
theorem dX12_readSum_34 : decode cX12_readSum 34 = .ok (.if_icmp .ne 7, 3) := by decide +kernel
theorem dX12_readSum_37 : decode cX12_readSum 37 = .ok (.iconst 2, 1) := by decide +kernel
theorem dX12_readSum_38 : decode cX12_readSum 38 = .ok (.goto 4, 3) := by decide +kernel
theorem dX12_readSum_41 : decode cX12_readSum 41 = .ok (.iconst 3, 1) := by decide +kernel
theorem dX12_readSum_42 : decode cX12_readSum 42 = .ok (.istore_n 1, 1) := by decide +kernel
theorem dX12_readSum_43 : decode cX12_readSum 43 = .ok (.aload_n 0, 1) := by decide +kernel
theorem dX12_readSum_44 : decode cX12_readSum 44 = .ok (.invokevirtual 200, 3) := by decide +kernel
theorem dX12_readSum_47 : decode cX12_readSum 47 = .ok (.aload_n 0, 1) := by decide +kernel
theorem dX12_readSum_48 : decode cX12_readSum 48 = .ok (.invokevirtual 210, 3) := by decide +kernel
theorem dX12_readSum_51 : decode cX12_readSum 51 = .ok (.iconst (-1), 1) := by decide +kernel
theorem dX12_readSum_52 : decode cX12_readSum 52 = .ok (.if_icmp .ne 5, 3) := by decide +kernel
theorem dX12_readSum_55 : decode cX12_readSum 55 = .ok (.iconst (-1), 1) := by decide +kernel
theorem dX12_readSum_56 : decode cX12_readSum 56 = .ok (.ireturn, 1) := by decide +kernel
theorem dX12_readSum_57 : decode cX12_readSum 57 = .ok (.aload_n 0, 1) := by decide +kernel
theorem dX12_readSum_58 : decode cX12_readSum 58 = .ok (.iload_n 1, 1) := by decide +kernel
theorem dX12_readSum_59 : decode cX12_readSum 59 = .ok (.iconst 0, 1) := by decide +kernel
theorem dX12_readSum_60 : decode cX12_readSum 60 = .ok (.invokevirtual 197, 3) := by decide +kernel
theorem dX12_readSum_63 : decode cX12_readSum 63 = .ok (.goto (-53), 3) := by decide +kernel
theorem dX12_readSum_66 : decode cX12_readSum 66 = .ok (.iconst 0, 1) := by decide +kernel
theorem dX12_readSum_67 : decode cX12_readSum 67 = .ok (.ireturn, 1) := by decide +kernel
theorem bX12_readSum_42 {l : Launch} {g : jm_G} {d : Nat} {s0 : Int} (hg : jm_HR g) {mu : jm_M} {Q : Option Value → jm_M → Prop} (h : jm_R l g (d + 1) iX12_reads [.ref 0] mu (jm_qv fun m1 => jm_R l g (d + 1) iX12_readProduct [.ref 0] m1 (jm_qi fun z6 m5 => (¬ z6 = (-1) → (0 ≤ (800 + (m5.1 0 27)) ∧ (800 + (m5.1 0 27)) < 1200) ∧ jm_rg s0 ∧ (0 ≤ (800 + ((jm_wr m5 14 (800 + (m5.1 0 27)) s0).1 0 27)) ∧ (800 + ((jm_wr m5 14 (800 + (m5.1 0 27)) s0).1 0 27)) < 1200) ∧ (jm_rg (((jm_wr (jm_wr m5 14 (800 + (m5.1 0 27)) s0) 15 (800 + ((jm_wr m5 14 (800 + (m5.1 0 27)) s0).1 0 27)) 0).1 0 27) + 1)) ∧ ∀ m13, m13 = (jm_wr (jm_wr (jm_wr m5 14 (800 + (m5.1 0 27)) s0) 15 (800 + ((jm_wr m5 14 (800 + (m5.1 0 27)) s0).1 0 27)) 0) 0 27 (((jm_wr (jm_wr m5 14 (800 + (m5.1 0 27)) s0) 15 (800 + ((jm_wr m5 14 (800 + (m5.1 0 27)) s0).1 0 27)) 0).1 0 27) + 1)) → jm_V l g (d + 2) iX12_readSum 10 [(0, .ref 0)] [] m13 Q) ∧ (z6 = (-1) → Q (some (jm_i (-1))) m5)))) : jm_V l g (d + 2) iX12_readSum 42 [(0, .ref 0)] [jm_i s0] mu Q := by
  refine jm_mrI (fun hm0 => ?_)
  refine jm_istore_n (pc := 42) (lv' := [(1, _), (0, _)]) dX12_readSum_42 (by decide) rfl ?_
  refine jm_aload_n (pc := 43) 1 dX12_readSum_43 rfl ?_
  refine jm_callvv (pc := 44) (As := []) (st := []) iX12_reads dX12_readSum_44 mX12_200 (cR0 hg) ⟨_, rfl, rfl⟩ rfl rfl (Nat.le_of_ble_eq_true rfl) h (fun m1 h hm4 => ?_)
  refine jm_aload_n (pc := 47) 1 dX12_readSum_47 rfl ?_
  refine jm_callvi (pc := 48) (As := []) (st := []) iX12_readProduct dX12_readSum_48 mX12_210 (cR0 hg) ⟨_, rfl, rfl⟩ rfl rfl (Nat.le_of_ble_eq_true rfl) h (fun z6 m5 hz7 h hm8 => ?_)
  refine jm_iconst (pc := 51) dX12_readSum_51 ?_
  refine jm_icmp_ne (pc := 52) 57 dX12_readSum_52 rfl hz7 ⟨by decide, by decide⟩ (fun q => ?_) (fun q => ?_)
  · have h := h.1 q
    refine jm_aload_n (pc := 57) 1 dX12_readSum_57 rfl ?_
    refine jm_iload_n (pc := 58) 0 dX12_readSum_58 rfl ?_
    refine jm_iconst (pc := 59) dX12_readSum_59 ?_
    have hg9 := h.1
    have h := h.2
    have hg10 := h.1
    have h := h.2
    have hg11 := h.1
    have h := h.2
    have hg12 := h.1
    have h := h.2
    refine jm_inlvv (pc := 60) (As := [_, _]) (st := []) iX12_emits dX12_readSum_60 mX12_197 (cR0 hg) ⟨_, rfl, rfl⟩ rfl rfl (Nat.le_of_ble_eq_true rfl) (pX12_emits hg hg9 hg10 hg11 ⟨by decide, by decide⟩ hg12 (jm_kVi ?_))
    have h := h _ rfl
    refine jm_mrI (fun hm14 => ?_)
    refine jm_goto (pc := 63) 10 dX12_readSum_63 rfl ?_
    exact jm_sub [1] rfl h
  · have h := h.2 q
    refine jm_iconst (pc := 55) dX12_readSum_55 ?_
    exact jm_iret (pc := 56) dX12_readSum_56 rfl h
theorem bX12_readSum_10 {l : Launch} {g : jm_G} {d : Nat} (hg : jm_HR g) {mu : jm_M} {Q : Option Value → jm_M → Prop} (h : ((mu.1 0 16) = 4 ∧ (mu.1 0 17) = 43 → (¬ (mu.1 0 17) = 43 → jm_V l g (d + 2) iX12_readSum 42 [(0, .ref 0)] [jm_i 3] mu Q) ∧ ((mu.1 0 17) = 43 → jm_V l g (d + 2) iX12_readSum 42 [(0, .ref 0)] [jm_i 2] mu Q)) ∧ (¬ ((mu.1 0 16) = 4 ∧ (mu.1 0 17) = 43) → ((mu.1 0 16) = 4 ∧ (mu.1 0 17) = 45 → (¬ (mu.1 0 17) = 43 → jm_V l g (d + 2) iX12_readSum 42 [(0, .ref 0)] [jm_i 3] mu Q) ∧ ((mu.1 0 17) = 43 → jm_V l g (d + 2) iX12_readSum 42 [(0, .ref 0)] [jm_i 2] mu Q)) ∧ (¬ ((mu.1 0 16) = 4 ∧ (mu.1 0 17) = 45) → Q (some (jm_i 0)) mu))) : jm_V l g (d + 2) iX12_readSum 10 [(0, .ref 0)] [] mu Q := by
  refine jm_mrI (fun hm0 => ?_)
  refine jm_aload_n (pc := 10) 0 dX12_readSum_10 rfl ?_
  refine jm_bipush (pc := 11) dX12_readSum_11 (by decide) ?_
  refine jm_inlvi (pc := 13) (As := [_]) (st := []) iX12_isSign dX12_readSum_13 mX12_207 (cR0 hg) ⟨_, rfl, rfl⟩ rfl rfl (Nat.le_of_ble_eq_true rfl) (pX12_isSign hg ⟨by decide, by decide⟩ (fun q => jm_kIi ?_) (fun q => jm_kIi ?_))
  · have h := h.1 q
    refine jm_if_ne (pc := 16) 28 dX12_readSum_16 rfl ⟨by decide, by decide⟩ (fun q => ?_) (fun q => absurd q (by decide))
    refine jm_aload_n (pc := 28) 0 dX12_readSum_28 rfl ?_
    refine jm_geti (pc := 29) 17 dX12_readSum_29 fX12_166 (cR0 hg) rfl ?_
    refine jm_bipush (pc := 32) dX12_readSum_32 (by decide) ?_
    refine jm_icmp_ne (pc := 34) 41 dX12_readSum_34 rfl (hm0 _ _) ⟨by decide, by decide⟩ (fun q => ?_) (fun q => ?_)
    · have h := h.1 q
      refine jm_iconst (pc := 41) dX12_readSum_41 ?_
      exact jm_sub [0] rfl h
    · have h := h.2 q
      refine jm_iconst (pc := 37) dX12_readSum_37 ?_
      refine jm_goto (pc := 38) 42 dX12_readSum_38 rfl ?_
      exact jm_sub [0] rfl h
  · have h := h.2 q
    refine jm_if_ne (pc := 16) 28 dX12_readSum_16 rfl ⟨by decide, by decide⟩ (fun q => absurd q (by decide)) (fun q => ?_)
    refine jm_aload_n (pc := 19) 0 dX12_readSum_19 rfl ?_
    refine jm_bipush (pc := 20) dX12_readSum_20 (by decide) ?_
    refine jm_inlvi (pc := 22) (As := [_]) (st := []) iX12_isSign dX12_readSum_22 mX12_207 (cR0 hg) ⟨_, rfl, rfl⟩ rfl rfl (Nat.le_of_ble_eq_true rfl) (pX12_isSign hg ⟨by decide, by decide⟩ (fun q => jm_kIi ?_) (fun q => jm_kIi ?_))
    · have h := h.1 q
      refine jm_if_eq (pc := 25) 66 dX12_readSum_25 rfl ⟨by decide, by decide⟩ (fun q => absurd q (by decide)) (fun q => ?_)
      refine jm_aload_n (pc := 28) 0 dX12_readSum_28 rfl ?_
      refine jm_geti (pc := 29) 17 dX12_readSum_29 fX12_166 (cR0 hg) rfl ?_
      refine jm_bipush (pc := 32) dX12_readSum_32 (by decide) ?_
      refine jm_icmp_ne (pc := 34) 41 dX12_readSum_34 rfl (hm0 _ _) ⟨by decide, by decide⟩ (fun q => ?_) (fun q => ?_)
      · have h := h.1 q
        refine jm_iconst (pc := 41) dX12_readSum_41 ?_
        exact jm_sub [0] rfl h
      · have h := h.2 q
        refine jm_iconst (pc := 37) dX12_readSum_37 ?_
        refine jm_goto (pc := 38) 42 dX12_readSum_38 rfl ?_
        exact jm_sub [0] rfl h
    · have h := h.2 q
      refine jm_if_eq (pc := 25) 66 dX12_readSum_25 rfl ⟨by decide, by decide⟩ (fun q => ?_) (fun q => absurd q (by decide))
      refine jm_iconst (pc := 66) dX12_readSum_66 ?_
      exact jm_iret (pc := 67) dX12_readSum_67 rfl h
theorem eX12_readSum {l : Launch} {g : jm_G} {d : Nat} (hg : jm_HR g) {mu : jm_M} {Q : Option Value → jm_M → Prop} (h : jm_R l g (d + 1) iX12_readProduct [.ref 0] mu (jm_qi fun z2 m1 => (¬ z2 = (-1) → jm_V l g (d + 2) iX12_readSum 10 [(0, .ref 0)] [] m1 Q) ∧ (z2 = (-1) → Q (some (jm_i (-1))) m1))) : jm_R l g (d + 2) iX12_readSum [.ref 0] mu Q := by
  refine jm_enter [(0, .ref 0)] (by decide) (Nat.le_of_ble_eq_true rfl) rfl ?_
  refine jm_mrI (fun hm0 => ?_)
  refine jm_aload_n (pc := 0) 0 dX12_readSum_0 rfl ?_
  refine jm_callvi (pc := 1) (As := []) (st := []) iX12_readProduct dX12_readSum_1 mX12_210 (cR0 hg) ⟨_, rfl, rfl⟩ rfl rfl (Nat.le_of_ble_eq_true rfl) h (fun z2 m1 hz3 h hm4 => ?_)
  refine jm_iconst (pc := 4) dX12_readSum_4 ?_
  refine jm_icmp_ne (pc := 5) 10 dX12_readSum_5 rfl hz3 ⟨by decide, by decide⟩ (fun q => ?_) (fun q => ?_)
  · have h := h.1 q
    exact jm_sub [0] rfl h
  · have h := h.2 q
    refine jm_iconst (pc := 8) dX12_readSum_8 ?_
    exact jm_iret (pc := 9) dX12_readSum_9 rfl h
theorem dX12_readCompared_0 : decode cX12_readCompared 0 = .ok (.aload_n 0, 1) := by decide +kernel
theorem dX12_readCompared_1 : decode cX12_readCompared 1 = .ok (.invokevirtual 213, 3) := by decide +kernel
theorem dX12_readCompared_4 : decode cX12_readCompared 4 = .ok (.iconst (-1), 1) := by decide +kernel
theorem dX12_readCompared_5 : decode cX12_readCompared 5 = .ok (.if_icmp .ne 5, 3) := by decide +kernel
theorem dX12_readCompared_8 : decode cX12_readCompared 8 = .ok (.iconst (-1), 1) := by decide +kernel
theorem dX12_readCompared_9 : decode cX12_readCompared 9 = .ok (.ireturn, 1) := by decide +kernel
theorem dX12_readCompared_10 : decode cX12_readCompared 10 = .ok (.aload_n 0, 1) := by decide +kernel
theorem dX12_readCompared_11 : decode cX12_readCompared 11 = .ok (.bipush 60, 2) := by decide +kernel
theorem dX12_readCompared_13 : decode cX12_readCompared 13 = .ok (.invokevirtual 207, 3) := by decide +kernel
theorem dX12_readCompared_16 : decode cX12_readCompared 16 = .ok (.ifCond .ne 27, 3) := by decide +kernel
theorem dX12_readCompared_19 : decode cX12_readCompared 19 = .ok (.aload_n 0, 1) := by decide +kernel
theorem dX12_readCompared_20 : decode cX12_readCompared 20 = .ok (.bipush 61, 2) := by decide +kernel
theorem dX12_readCompared_22 : decode cX12_readCompared 22 = .ok (.invokevirtual 207, 3) := by decide +kernel
theorem dX12_readCompared_25 : decode cX12_readCompared 25 = .ok (.ifCond .ne 18, 3) := by decide +kernel
theorem dX12_readCompared_28 : decode cX12_readCompared 28 = .ok (.aload_n 0, 1) := by decide +kernel
theorem dX12_readCompared_29 : decode cX12_readCompared 29 = .ok (.bipush 62, 2) := by decide +kernel
theorem dX12_readCompared_31 : decode cX12_readCompared 31 = .ok (.invokevirtual 207, 3) := by decide +kernel
theorem dX12_readCompared_34 : decode cX12_readCompared 34 = .ok (.ifCond .ne 9, 3) := by decide +kernel
theorem dX12_readCompared_37 : decode cX12_readCompared 37 = .ok (.aload_n 0, 1) := by decide +kernel
theorem dX12_readCompared_38 : decode cX12_readCompared 38 = .ok (.iconst 1, 1) := by decide +kernel
theorem dX12_readCompared_39 : decode cX12_readCompared 39 = .ok (.invokevirtual 194, 3) := by decide +kernel
theorem dX12_readCompared_42 : decode cX12_readCompared 42 = .ok (.ireturn, 1) := by decide +kernel
theorem dX12_readCompared_43 : decode cX12_readCompared 43 = .ok (.aload_n 0, 1) := by decide +kernel
theorem dX12_readCompared_44 : decode cX12_readCompared 44 = .ok (.getfield 166, 3) := by decide +kernel
theorem dX12_readCompared_47 : decode cX12_readCompared 47 = .ok (.bipush 60, 2) := by decide +kernel
theorem dX12_readCompared_49 : decode cX12_readCompared 49 = .ok (.if_icmp .ne 8, 3) := by decide +kernel
theorem dX12_readCompared_52 : decode cX12_readCompared 52 = .ok (.bipush 6, 2) := by decide +kernel
theorem dX12_readCompared_54 : decode cX12_readCompared 54 = .ok (.goto 19, 3) := by decide +kernel
theorem dX12_readCompared_57 : decode cX12_readCompared 57 = .ok (.aload_n 0, 1) := by decide +kernel
theorem dX12_readCompared_58 : decode cX12_readCompared 58 = .ok (.getfield 166, 3) := by decide +kernel
theorem dX12_readCompared_61 : decode cX12_readCompared 61 = .ok (.bipush 61, 2) := by decide +kernel
theorem dX12_readCompared_63 : decode cX12_readCompared 63 = .ok (.if_icmp .ne 8, 3) := by decide +kernel
theorem dX12_readCompared_66 : decode cX12_readCompared 66 = .ok (.bipush 7, 2) := by decide +kernel
theorem dX12_readCompared_68 : decode cX12_readCompared 68 = .ok (.goto 5, 3) := by decide +kernel
theorem dX12_readCompared_71 : decode cX12_readCompared 71 = .ok (.bipush 8, 2) := by decide +kernel
theorem dX12_readCompared_73 : decode cX12_readCompared 73 = .ok (.istore_n 1, 1) := by decide +kernel
theorem dX12_readCompared_74 : decode cX12_readCompared 74 = .ok (.aload_n 0, 1) := by decide +kernel
theorem dX12_readCompared_75 : decode cX12_readCompared 75 = .ok (.invokevirtual 200, 3) := by decide +kernel
theorem dX12_readCompared_78 : decode cX12_readCompared 78 = .ok (.aload_n 0, 1) := by decide +kernel
theorem dX12_readCompared_79 : decode cX12_readCompared 79 = .ok (.invokevirtual 213, 3) := by decide +kernel
theorem dX12_readCompared_82 : decode cX12_readCompared 82 = .ok (.iconst (-1), 1) := by decide +kernel
theorem dX12_readCompared_83 : decode cX12_readCompared 83 = .ok (.if_icmp .ne 5, 3) := by decide +kernel
theorem dX12_readCompared_86 : decode cX12_readCompared 86 = .ok (.iconst (-1), 1) := by decide +kernel
theorem dX12_readCompared_87 : decode cX12_readCompared 87 = .ok (.ireturn, 1) := by decide +kernel
theorem dX12_readCompared_88 : decode cX12_readCompared 88 = .ok (.aload_n 0, 1) := by decide +kernel
theorem dX12_readCompared_89 : decode cX12_readCompared 89 = .ok (.iload_n 1, 1) := by decide +kernel
theorem dX12_readCompared_90 : decode cX12_readCompared 90 = .ok (.iconst 0, 1) := by decide +kernel
theorem dX12_readCompared_91 : decode cX12_readCompared 91 = .ok (.invokevirtual 197, 3) := by decide +kernel
theorem dX12_readCompared_94 : decode cX12_readCompared 94 = .ok (.iconst 0, 1) := by decide +kernel
theorem dX12_readCompared_95 : decode cX12_readCompared 95 = .ok (.ireturn, 1) := by decide +kernel
theorem bX12_readCompared_73 {l : Launch} {g : jm_G} {d : Nat} {s0 : Int} (hg : jm_HR g) {mu : jm_M} {Q : Option Value → jm_M → Prop} (h : jm_R l g (d + 1) iX12_reads [.ref 0] mu (jm_qv fun m1 => jm_R l g (d + 1) iX12_readSum [.ref 0] m1 (jm_qi fun z6 m5 => (¬ z6 = (-1) → (0 ≤ (800 + (m5.1 0 27)) ∧ (800 + (m5.1 0 27)) < 1200) ∧ jm_rg s0 ∧ (0 ≤ (800 + ((jm_wr m5 14 (800 + (m5.1 0 27)) s0).1 0 27)) ∧ (800 + ((jm_wr m5 14 (800 + (m5.1 0 27)) s0).1 0 27)) < 1200) ∧ (jm_rg (((jm_wr (jm_wr m5 14 (800 + (m5.1 0 27)) s0) 15 (800 + ((jm_wr m5 14 (800 + (m5.1 0 27)) s0).1 0 27)) 0).1 0 27) + 1)) ∧ ∀ m13, m13 = (jm_wr (jm_wr (jm_wr m5 14 (800 + (m5.1 0 27)) s0) 15 (800 + ((jm_wr m5 14 (800 + (m5.1 0 27)) s0).1 0 27)) 0) 0 27 (((jm_wr (jm_wr m5 14 (800 + (m5.1 0 27)) s0) 15 (800 + ((jm_wr m5 14 (800 + (m5.1 0 27)) s0).1 0 27)) 0).1 0 27) + 1)) → Q (some (jm_i 0)) m13) ∧ (z6 = (-1) → Q (some (jm_i (-1))) m5)))) : jm_V l g (d + 2) iX12_readCompared 73 [(0, .ref 0)] [jm_i s0] mu Q := by
  refine jm_mrI (fun hm0 => ?_)
  refine jm_istore_n (pc := 73) (lv' := [(1, _), (0, _)]) dX12_readCompared_73 (by decide) rfl ?_
  refine jm_aload_n (pc := 74) 1 dX12_readCompared_74 rfl ?_
  refine jm_callvv (pc := 75) (As := []) (st := []) iX12_reads dX12_readCompared_75 mX12_200 (cR0 hg) ⟨_, rfl, rfl⟩ rfl rfl (Nat.le_of_ble_eq_true rfl) h (fun m1 h hm4 => ?_)
  refine jm_aload_n (pc := 78) 1 dX12_readCompared_78 rfl ?_
  refine jm_callvi (pc := 79) (As := []) (st := []) iX12_readSum dX12_readCompared_79 mX12_213 (cR0 hg) ⟨_, rfl, rfl⟩ rfl rfl (Nat.le_of_ble_eq_true rfl) h (fun z6 m5 hz7 h hm8 => ?_)
  refine jm_iconst (pc := 82) dX12_readCompared_82 ?_
  refine jm_icmp_ne (pc := 83) 88 dX12_readCompared_83 rfl hz7 ⟨by decide, by decide⟩ (fun q => ?_) (fun q => ?_)
  · have h := h.1 q
    refine jm_aload_n (pc := 88) 1 dX12_readCompared_88 rfl ?_
    refine jm_iload_n (pc := 89) 0 dX12_readCompared_89 rfl ?_
    refine jm_iconst (pc := 90) dX12_readCompared_90 ?_
    have hg9 := h.1
    have h := h.2
    have hg10 := h.1
    have h := h.2
    have hg11 := h.1
    have h := h.2
    have hg12 := h.1
    have h := h.2
    refine jm_inlvv (pc := 91) (As := [_, _]) (st := []) iX12_emits dX12_readCompared_91 mX12_197 (cR0 hg) ⟨_, rfl, rfl⟩ rfl rfl (Nat.le_of_ble_eq_true rfl) (pX12_emits hg hg9 hg10 hg11 ⟨by decide, by decide⟩ hg12 (jm_kVi ?_))
    have h := h _ rfl
    refine jm_mrI (fun hm14 => ?_)
    refine jm_iconst (pc := 94) dX12_readCompared_94 ?_
    exact jm_iret (pc := 95) dX12_readCompared_95 rfl h
  · have h := h.2 q
    refine jm_iconst (pc := 86) dX12_readCompared_86 ?_
    exact jm_iret (pc := 87) dX12_readCompared_87 rfl h
theorem bX12_readCompared_43 {l : Launch} {g : jm_G} {d : Nat} (hg : jm_HR g) {mu : jm_M} {Q : Option Value → jm_M → Prop} (h : (¬ (mu.1 0 17) = 60 → (¬ (mu.1 0 17) = 61 → jm_V l g (d + 2) iX12_readCompared 73 [(0, .ref 0)] [jm_i 8] mu Q) ∧ ((mu.1 0 17) = 61 → jm_V l g (d + 2) iX12_readCompared 73 [(0, .ref 0)] [jm_i 7] mu Q)) ∧ ((mu.1 0 17) = 60 → jm_V l g (d + 2) iX12_readCompared 73 [(0, .ref 0)] [jm_i 6] mu Q)) : jm_V l g (d + 2) iX12_readCompared 43 [(0, .ref 0)] [] mu Q := by
  refine jm_mrI (fun hm0 => ?_)
  refine jm_aload_n (pc := 43) 0 dX12_readCompared_43 rfl ?_
  refine jm_geti (pc := 44) 17 dX12_readCompared_44 fX12_166 (cR0 hg) rfl ?_
  refine jm_bipush (pc := 47) dX12_readCompared_47 (by decide) ?_
  refine jm_icmp_ne (pc := 49) 57 dX12_readCompared_49 rfl (hm0 _ _) ⟨by decide, by decide⟩ (fun q => ?_) (fun q => ?_)
  · have h := h.1 q
    refine jm_aload_n (pc := 57) 0 dX12_readCompared_57 rfl ?_
    refine jm_geti (pc := 58) 17 dX12_readCompared_58 fX12_166 (cR0 hg) rfl ?_
    refine jm_bipush (pc := 61) dX12_readCompared_61 (by decide) ?_
    refine jm_icmp_ne (pc := 63) 71 dX12_readCompared_63 rfl (hm0 _ _) ⟨by decide, by decide⟩ (fun q => ?_) (fun q => ?_)
    · have h := h.1 q
      refine jm_bipush (pc := 71) dX12_readCompared_71 (by decide) ?_
      exact jm_sub [0] rfl h
    · have h := h.2 q
      refine jm_bipush (pc := 66) dX12_readCompared_66 (by decide) ?_
      refine jm_goto (pc := 68) 73 dX12_readCompared_68 rfl ?_
      exact jm_sub [0] rfl h
  · have h := h.2 q
    refine jm_bipush (pc := 52) dX12_readCompared_52 (by decide) ?_
    refine jm_goto (pc := 54) 73 dX12_readCompared_54 rfl ?_
    exact jm_sub [0] rfl h
theorem eX12_readCompared {l : Launch} {g : jm_G} {d : Nat} (hg : jm_HR g) {mu : jm_M} {Q : Option Value → jm_M → Prop} (h : jm_R l g (d + 1) iX12_readSum [.ref 0] mu (jm_qi fun z2 m1 => (¬ z2 = (-1) → ((m1.1 0 16) = 4 ∧ (m1.1 0 17) = 60 → jm_V l g (d + 2) iX12_readCompared 43 [(0, .ref 0)] [] m1 Q) ∧ (¬ ((m1.1 0 16) = 4 ∧ (m1.1 0 17) = 60) → ((m1.1 0 16) = 4 ∧ (m1.1 0 17) = 61 → jm_V l g (d + 2) iX12_readCompared 43 [(0, .ref 0)] [] m1 Q) ∧ (¬ ((m1.1 0 16) = 4 ∧ (m1.1 0 17) = 61) → ((m1.1 0 16) = 4 ∧ (m1.1 0 17) = 62 → jm_V l g (d + 2) iX12_readCompared 43 [(0, .ref 0)] [] m1 Q) ∧ (¬ ((m1.1 0 16) = 4 ∧ (m1.1 0 17) = 62) → ∀ m5, m5 = (jm_wr (jm_wr m1 0 31 1) 0 32 ((jm_wr m1 0 31 1).1 0 15)) → Q (some (jm_i (-1))) m5)))) ∧ (z2 = (-1) → Q (some (jm_i (-1))) m1))) : jm_R l g (d + 2) iX12_readCompared [.ref 0] mu Q := by
  refine jm_enter [(0, .ref 0)] (by decide) (Nat.le_of_ble_eq_true rfl) rfl ?_
  refine jm_mrI (fun hm0 => ?_)
  refine jm_aload_n (pc := 0) 0 dX12_readCompared_0 rfl ?_
  refine jm_callvi (pc := 1) (As := []) (st := []) iX12_readSum dX12_readCompared_1 mX12_213 (cR0 hg) ⟨_, rfl, rfl⟩ rfl rfl (Nat.le_of_ble_eq_true rfl) h (fun z2 m1 hz3 h hm4 => ?_)
  refine jm_iconst (pc := 4) dX12_readCompared_4 ?_
  refine jm_icmp_ne (pc := 5) 10 dX12_readCompared_5 rfl hz3 ⟨by decide, by decide⟩ (fun q => ?_) (fun q => ?_)
  · have h := h.1 q
    refine jm_aload_n (pc := 10) 0 dX12_readCompared_10 rfl ?_
    refine jm_bipush (pc := 11) dX12_readCompared_11 (by decide) ?_
    refine jm_inlvi (pc := 13) (As := [_]) (st := []) iX12_isSign dX12_readCompared_13 mX12_207 (cR0 hg) ⟨_, rfl, rfl⟩ rfl rfl (Nat.le_of_ble_eq_true rfl) (pX12_isSign hg ⟨by decide, by decide⟩ (fun q => jm_kIi ?_) (fun q => jm_kIi ?_))
    · have h := h.1 q
      refine jm_if_ne (pc := 16) 43 dX12_readCompared_16 rfl ⟨by decide, by decide⟩ (fun q => ?_) (fun q => absurd q (by decide))
      exact jm_sub [0] rfl h
    · have h := h.2 q
      refine jm_if_ne (pc := 16) 43 dX12_readCompared_16 rfl ⟨by decide, by decide⟩ (fun q => absurd q (by decide)) (fun q => ?_)
      refine jm_aload_n (pc := 19) 0 dX12_readCompared_19 rfl ?_
      refine jm_bipush (pc := 20) dX12_readCompared_20 (by decide) ?_
      refine jm_inlvi (pc := 22) (As := [_]) (st := []) iX12_isSign dX12_readCompared_22 mX12_207 (cR0 hg) ⟨_, rfl, rfl⟩ rfl rfl (Nat.le_of_ble_eq_true rfl) (pX12_isSign hg ⟨by decide, by decide⟩ (fun q => jm_kIi ?_) (fun q => jm_kIi ?_))
      · have h := h.1 q
        refine jm_if_ne (pc := 25) 43 dX12_readCompared_25 rfl ⟨by decide, by decide⟩ (fun q => ?_) (fun q => absurd q (by decide))
        exact jm_sub [0] rfl h
      · have h := h.2 q
        refine jm_if_ne (pc := 25) 43 dX12_readCompared_25 rfl ⟨by decide, by decide⟩ (fun q => absurd q (by decide)) (fun q => ?_)
        refine jm_aload_n (pc := 28) 0 dX12_readCompared_28 rfl ?_
        refine jm_bipush (pc := 29) dX12_readCompared_29 (by decide) ?_
        refine jm_inlvi (pc := 31) (As := [_]) (st := []) iX12_isSign dX12_readCompared_31 mX12_207 (cR0 hg) ⟨_, rfl, rfl⟩ rfl rfl (Nat.le_of_ble_eq_true rfl) (pX12_isSign hg ⟨by decide, by decide⟩ (fun q => jm_kIi ?_) (fun q => jm_kIi ?_))
        · have h := h.1 q
          refine jm_if_ne (pc := 34) 43 dX12_readCompared_34 rfl ⟨by decide, by decide⟩ (fun q => ?_) (fun q => absurd q (by decide))
          exact jm_sub [0] rfl h
        · have h := h.2 q
          refine jm_if_ne (pc := 34) 43 dX12_readCompared_34 rfl ⟨by decide, by decide⟩ (fun q => absurd q (by decide)) (fun q => ?_)
          refine jm_aload_n (pc := 37) 0 dX12_readCompared_37 rfl ?_
          refine jm_iconst (pc := 38) dX12_readCompared_38 ?_
          refine jm_inlvi (pc := 39) (As := [_]) (st := []) iX12_errs dX12_readCompared_39 mX12_194 (cR0 hg) ⟨_, rfl, rfl⟩ rfl rfl (Nat.le_of_ble_eq_true rfl) (pX12_errs hg ⟨by decide, by decide⟩ (jm_kIi ?_))
          have h := h _ rfl
          refine jm_mrI (fun hm6 => ?_)
          exact jm_iret (pc := 42) dX12_readCompared_42 rfl h
  · have h := h.2 q
    refine jm_iconst (pc := 8) dX12_readCompared_8 ?_
    exact jm_iret (pc := 9) dX12_readCompared_9 rfl h
theorem dX12_waits_0 : decode cX12_waits 0 = .ok (.aload_n 0, 1) := by decide +kernel
theorem dX12_waits_1 : decode cX12_waits 1 = .ok (.getfield 55, 3) := by decide +kernel
theorem dX12_waits_4 : decode cX12_waits 4 = .ok (.aload_n 0, 1) := by decide +kernel
theorem dX12_waits_5 : decode cX12_waits 5 = .ok (.getfield 216, 3) := by decide +kernel
theorem dX12_waits_8 : decode cX12_waits 8 = .ok (.iload_n 1, 1) := by decide +kernel
theorem dX12_waits_9 : decode cX12_waits 9 = .ok (.iastore, 1) := by decide +kernel
theorem dX12_waits_10 : decode cX12_waits 10 = .ok (.aload_n 0, 1) := by decide +kernel
theorem dX12_waits_11 : decode cX12_waits 11 = .ok (.aload_n 0, 1) := by decide +kernel
theorem dX12_waits_12 : decode cX12_waits 12 = .ok (.getfield 216, 3) := by decide +kernel
theorem dX12_waits_15 : decode cX12_waits 15 = .ok (.iconst 1, 1) := by decide +kernel
theorem dX12_waits_16 : decode cX12_waits 16 = .ok (.iadd, 1) := by decide +kernel
theorem dX12_waits_17 : decode cX12_waits 17 = .ok (.putfield 216, 3) := by decide +kernel
theorem dX12_waits_20 : decode cX12_waits 20 = .ok (.return_, 1) := by decide +kernel
theorem eX12_waits {l : Launch} {g : jm_G} {d : Nat} {v1 : Int} (hg : jm_HR g) {mu : jm_M} {Q : Option Value → jm_M → Prop} (h : (0 ≤ (mu.1 0 30) ∧ (mu.1 0 30) < 40) ∧ jm_rg v1 ∧ ∀ m3, m3 = jm_wr mu 16 (mu.1 0 30) v1 → jm_rg ((m3.1 0 30) + 1) ∧ ∀ m6, m6 = jm_wr m3 0 30 ((m3.1 0 30) + 1) → Q none m6) : jm_R l g (d + 1) iX12_waits [.ref 0, jm_i v1] mu Q := by
  refine jm_enter [(0, .ref 0), (1, jm_i v1)] (by decide) (Nat.le_of_ble_eq_true rfl) rfl ?_
  refine jm_mrI (fun hm0 => ?_)
  refine jm_aload_n (pc := 0) 0 dX12_waits_0 rfl ?_
  refine jm_getr (pc := 1) 29 dX12_waits_1 fX12_55 (cR0 hg) rfl ?_
  refine jm_aload_n (pc := 4) 0 dX12_waits_4 rfl ?_
  refine jm_geti (pc := 5) 30 dX12_waits_5 fX12_216 (cR0 hg) rfl ?_
  refine jm_iload_n (pc := 8) 1 dX12_waits_8 rfl ?_
  have hg1 := h.1
  have h := h.2
  have hg2 := h.1
  have h := h.2
  refine jm_iast (pc := 9) dX12_waits_9 (cR16 hg) (by decide) hg1.1 hg1.2 hg2 ?_
  have h := h _ rfl
  refine jm_mrI (fun hm4 => ?_)
  refine jm_aload_n (pc := 10) 0 dX12_waits_10 rfl ?_
  refine jm_aload_n (pc := 11) 0 dX12_waits_11 rfl ?_
  refine jm_geti (pc := 12) 30 dX12_waits_12 fX12_216 (cR0 hg) rfl ?_
  refine jm_iconst (pc := 15) dX12_waits_15 ?_
  refine jm_iadd (pc := 16) dX12_waits_16 ?_
  have hg5 := h.1
  have h := h.2
  refine jm_put (pc := 17) 30 dX12_waits_17 fX12_216 ftX12 (fun q h => by cases h; rfl) (jm_nI _) (jm_fI _) (cR0 hg) rfl hg5 ?_
  have h := h _ rfl
  refine jm_mrI (fun hm7 => ?_)
  exact jm_vret (pc := 20) dX12_waits_20 rfl h
theorem pX12_waits {l : Launch} {g : jm_G} {d : Nat} {v1 : Int} (hg : jm_HR g) {mu : jm_M} {Q : Option Value → jm_M → Prop} (o0 : 0 ≤ (mu.1 0 30) ∧ (mu.1 0 30) < 40) (o1 : jm_rg v1) (o2 : jm_rg (((jm_wr mu 16 (mu.1 0 30) v1).1 0 30) + 1)) (h : Q none (jm_wr (jm_wr mu 16 (mu.1 0 30) v1) 0 30 (((jm_wr mu 16 (mu.1 0 30) v1).1 0 30) + 1))) : jm_R l g (d + 1) iX12_waits [.ref 0, jm_i v1] mu Q := by
  refine eX12_waits hg ?_
  refine ⟨o0, ?_⟩
  refine ⟨o1, ?_⟩
  intro x hx
  subst hx
  refine ⟨o2, ?_⟩
  intro x hx
  subst hx
  exact h
theorem dX12_settles_0 : decode cX12_settles 0 = .ok (.aload_n 0, 1) := by decide +kernel
theorem dX12_settles_1 : decode cX12_settles 1 = .ok (.getfield 216, 3) := by decide +kernel
theorem dX12_settles_4 : decode cX12_settles 4 = .ok (.ifCond .le 53, 3) := by decide +kernel
theorem dX12_settles_7 : decode cX12_settles 7 = .ok (.aload_n 0, 1) := by decide +kernel
theorem dX12_settles_8 : decode cX12_settles 8 = .ok (.getfield 55, 3) := by decide +kernel
theorem dX12_settles_11 : decode cX12_settles 11 = .ok (.aload_n 0, 1) := by decide +kernel
theorem dX12_settles_12 : decode cX12_settles 12 = .ok (.getfield 216, 3) := by decide +kernel
theorem dX12_settles_15 : decode cX12_settles 15 = .ok (.iconst 1, 1) := by decide +kernel
theorem dX12_settles_16 : decode cX12_settles 16 = .ok (.isub, 1) := by decide +kernel
theorem dX12_settles_17 : decode cX12_settles 17 = .ok (.iaload, 1) := by decide +kernel
theorem dX12_settles_18 : decode cX12_settles 18 = .ok (.iload_n 1, 1) := by decide +kernel
theorem dX12_settles_19 : decode cX12_settles 19 = .ok (.if_icmp .ne 38, 3) := by decide +kernel
theorem dX12_settles_22 : decode cX12_settles 22 = .ok (.aload_n 0, 1) := by decide +kernel
theorem dX12_settles_23 : decode cX12_settles 23 = .ok (.aload_n 0, 1) := by decide +kernel
theorem dX12_settles_24 : decode cX12_settles 24 = .ok (.getfield 216, 3) := by decide +kernel
theorem dX12_settles_27 : decode cX12_settles 27 = .ok (.iconst 1, 1) := by decide +kernel
theorem dX12_settles_28 : decode cX12_settles 28 = .ok (.isub, 1) := by decide +kernel
theorem dX12_settles_29 : decode cX12_settles 29 = .ok (.putfield 216, 3) := by decide +kernel
theorem dX12_settles_32 : decode cX12_settles 32 = .ok (.aload_n 0, 1) := by decide +kernel
theorem dX12_settles_33 : decode cX12_settles 33 = .ok (.iload_n 1, 1) := by decide +kernel
theorem dX12_settles_34 : decode cX12_settles 34 = .ok (.iconst 0, 1) := by decide +kernel
theorem dX12_settles_35 : decode cX12_settles 35 = .ok (.invokevirtual 197, 3) := by decide +kernel
theorem dX12_settles_38 : decode cX12_settles 38 = .ok (.iload_n 1, 1) := by decide +kernel
theorem dX12_settles_39 : decode cX12_settles 39 = .ok (.bipush 9, 2) := by decide +kernel
theorem dX12_settles_41 : decode cX12_settles 41 = .ok (.if_icmp .ne (-41), 3) := by decide +kernel
theorem dX12_settles_44 : decode cX12_settles 44 = .ok (.aload_n 0, 1) := by decide +kernel
theorem dX12_settles_45 : decode cX12_settles 45 = .ok (.aload_n 0, 1) := by decide +kernel
theorem dX12_settles_46 : decode cX12_settles 46 = .ok (.getfield 219, 3) := by decide +kernel
theorem dX12_settles_49 : decode cX12_settles 49 = .ok (.iconst 1, 1) := by decide +kernel
theorem dX12_settles_50 : decode cX12_settles 50 = .ok (.isub, 1) := by decide +kernel
theorem dX12_settles_51 : decode cX12_settles 51 = .ok (.putfield 219, 3) := by decide +kernel
theorem dX12_settles_54 : decode cX12_settles 54 = .ok (.goto (-54), 3) := by decide +kernel
theorem dX12_settles_57 : decode cX12_settles 57 = .ok (.return_, 1) := by decide +kernel
theorem bX12_settles_0 {l : Launch} {g : jm_G} {d : Nat} {v1 : Int} (hg : jm_HR g) {mu : jm_M} {Q : Option Value → jm_M → Prop} (h : ((mu.1 0 30) ≤ 0 → Q none mu) ∧ (0 < (mu.1 0 30) → (0 ≤ ((mu.1 0 30) - 1) ∧ ((mu.1 0 30) - 1) < 40) ∧ jm_rg v1 ∧ (¬ (mu.1 16 ((mu.1 0 30) - 1)) = v1 → Q none mu) ∧ ((mu.1 16 ((mu.1 0 30) - 1)) = v1 → jm_rg ((mu.1 0 30) - 1) ∧ ∀ m4, m4 = jm_wr mu 0 30 ((mu.1 0 30) - 1) → (0 ≤ (800 + (m4.1 0 27)) ∧ (800 + (m4.1 0 27)) < 1200) ∧ (0 ≤ (800 + ((jm_wr m4 14 (800 + (m4.1 0 27)) v1).1 0 27)) ∧ (800 + ((jm_wr m4 14 (800 + (m4.1 0 27)) v1).1 0 27)) < 1200) ∧ (jm_rg (((jm_wr (jm_wr m4 14 (800 + (m4.1 0 27)) v1) 15 (800 + ((jm_wr m4 14 (800 + (m4.1 0 27)) v1).1 0 27)) 0).1 0 27) + 1)) ∧ ∀ m9, m9 = (jm_wr (jm_wr (jm_wr m4 14 (800 + (m4.1 0 27)) v1) 15 (800 + ((jm_wr m4 14 (800 + (m4.1 0 27)) v1).1 0 27)) 0) 0 27 (((jm_wr (jm_wr m4 14 (800 + (m4.1 0 27)) v1) 15 (800 + ((jm_wr m4 14 (800 + (m4.1 0 27)) v1).1 0 27)) 0).1 0 27) + 1)) → (¬ v1 = 9 → jm_V l g (d + 2) iX12_settles 0 [(0, .ref 0), (1, jm_i v1)] [] m9 Q) ∧ (v1 = 9 → jm_rg ((m9.1 0 28) - 1) ∧ ∀ m12, m12 = jm_wr m9 0 28 ((m9.1 0 28) - 1) → jm_V l g (d + 2) iX12_settles 0 [(0, .ref 0), (1, jm_i v1)] [] m12 Q)))) : jm_V l g (d + 2) iX12_settles 0 [(0, .ref 0), (1, jm_i v1)] [] mu Q := by
  refine jm_mrI (fun hm0 => ?_)
  refine jm_aload_n (pc := 0) 0 dX12_settles_0 rfl ?_
  refine jm_geti (pc := 1) 30 dX12_settles_1 fX12_216 (cR0 hg) rfl ?_
  refine jm_if_le (pc := 4) 57 dX12_settles_4 rfl (hm0 _ _) (fun q => ?_) (fun q => ?_)
  · have h := h.1 q
    exact jm_vret (pc := 57) dX12_settles_57 rfl h
  · have h := h.2 q
    refine jm_aload_n (pc := 7) 0 dX12_settles_7 rfl ?_
    refine jm_getr (pc := 8) 29 dX12_settles_8 fX12_55 (cR0 hg) rfl ?_
    refine jm_aload_n (pc := 11) 0 dX12_settles_11 rfl ?_
    refine jm_geti (pc := 12) 30 dX12_settles_12 fX12_216 (cR0 hg) rfl ?_
    refine jm_iconst (pc := 15) dX12_settles_15 ?_
    refine jm_isub (pc := 16) dX12_settles_16 ?_
    have hg1 := h.1
    have h := h.2
    refine jm_iald (pc := 17) dX12_settles_17 (cR16 hg) (by decide) hg1.1 hg1.2 ?_
    refine jm_iload_n (pc := 18) 1 dX12_settles_18 rfl ?_
    have hg2 := h.1
    have h := h.2
    refine jm_icmp_ne (pc := 19) 57 dX12_settles_19 rfl (hm0 _ _) hg2 (fun q => ?_) (fun q => ?_)
    · have h := h.1 q
      exact jm_vret (pc := 57) dX12_settles_57 rfl h
    · have h := h.2 q
      refine jm_aload_n (pc := 22) 0 dX12_settles_22 rfl ?_
      refine jm_aload_n (pc := 23) 0 dX12_settles_23 rfl ?_
      refine jm_geti (pc := 24) 30 dX12_settles_24 fX12_216 (cR0 hg) rfl ?_
      refine jm_iconst (pc := 27) dX12_settles_27 ?_
      refine jm_isub (pc := 28) dX12_settles_28 ?_
      have hg3 := h.1
      have h := h.2
      refine jm_put (pc := 29) 30 dX12_settles_29 fX12_216 ftX12 (fun q h => by cases h; rfl) (jm_nI _) (jm_fI _) (cR0 hg) rfl hg3 ?_
      have h := h _ rfl
      refine jm_mrI (fun hm5 => ?_)
      refine jm_aload_n (pc := 32) 0 dX12_settles_32 rfl ?_
      refine jm_iload_n (pc := 33) 1 dX12_settles_33 rfl ?_
      refine jm_iconst (pc := 34) dX12_settles_34 ?_
      have hg6 := h.1
      have h := h.2
      have hg7 := h.1
      have h := h.2
      have hg8 := h.1
      have h := h.2
      refine jm_inlvv (pc := 35) (As := [_, _]) (st := []) iX12_emits dX12_settles_35 mX12_197 (cR0 hg) ⟨_, rfl, rfl⟩ rfl rfl (Nat.le_of_ble_eq_true rfl) (pX12_emits hg hg6 hg2 hg7 ⟨by decide, by decide⟩ hg8 (jm_kVi ?_))
      have h := h _ rfl
      refine jm_mrI (fun hm10 => ?_)
      refine jm_iload_n (pc := 38) 1 dX12_settles_38 rfl ?_
      refine jm_bipush (pc := 39) dX12_settles_39 (by decide) ?_
      refine jm_icmp_ne (pc := 41) 0 dX12_settles_41 rfl hg2 ⟨by decide, by decide⟩ (fun q => ?_) (fun q => ?_)
      · have h := h.1 q
        exact jm_sub [0, 1] rfl h
      · have h := h.2 q
        refine jm_aload_n (pc := 44) 0 dX12_settles_44 rfl ?_
        refine jm_aload_n (pc := 45) 0 dX12_settles_45 rfl ?_
        refine jm_geti (pc := 46) 28 dX12_settles_46 fX12_219 (cR0 hg) rfl ?_
        refine jm_iconst (pc := 49) dX12_settles_49 ?_
        refine jm_isub (pc := 50) dX12_settles_50 ?_
        have hg11 := h.1
        have h := h.2
        refine jm_put (pc := 51) 28 dX12_settles_51 fX12_219 ftX12 (fun q h => by cases h; rfl) (jm_nI _) (jm_fI _) (cR0 hg) rfl hg11 ?_
        have h := h _ rfl
        refine jm_mrI (fun hm13 => ?_)
        refine jm_goto (pc := 54) 0 dX12_settles_54 rfl ?_
        exact jm_sub [0, 1] rfl h
theorem eX12_settles {l : Launch} {g : jm_G} {d : Nat} {v1 : Int} (hg : jm_HR g) {mu : jm_M} {Q : Option Value → jm_M → Prop} (h : jm_V l g (d + 2) iX12_settles 0 [(0, .ref 0), (1, jm_i v1)] [] mu Q) : jm_R l g (d + 2) iX12_settles [.ref 0, jm_i v1] mu Q := by
  refine jm_enter [(0, .ref 0), (1, jm_i v1)] (by decide) (Nat.le_of_ble_eq_true rfl) rfl ?_
  exact jm_sub [0, 1] rfl h
theorem dX12_readAny_0 : decode cX12_readAny 0 = .ok (.iconst 0, 1) := by decide +kernel
theorem dX12_readAny_1 : decode cX12_readAny 1 = .ok (.istore_n 1, 1) := by decide +kernel
theorem dX12_readAny_2 : decode cX12_readAny 2 = .ok (.aload_n 0, 1) := by decide +kernel
theorem dX12_readAny_3 : decode cX12_readAny 3 = .ok (.iconst 0, 1) := by decide +kernel
theorem dX12_readAny_4 : decode cX12_readAny 4 = .ok (.putfield 216, 3) := by decide +kernel
theorem dX12_readAny_7 : decode cX12_readAny 7 = .ok (.iconst 1, 1) := by decide +kernel
theorem dX12_readAny_8 : decode cX12_readAny 8 = .ok (.istore_n 2, 1) := by decide +kernel
theorem dX12_readAny_9 : decode cX12_readAny 9 = .ok (.iload_n 2, 1) := by decide +kernel
theorem dX12_readAny_10 : decode cX12_readAny 10 = .ok (.ifCond .eq 99, 3) := by decide +kernel
theorem dX12_readAny_13 : decode cX12_readAny 13 = .ok (.aload_n 0, 1) := by decide +kernel
theorem dX12_readAny_14 : decode cX12_readAny 14 = .ok (.bipush 6, 2) := by decide +kernel
theorem dX12_readAny_16 : decode cX12_readAny 16 = .ok (.invokevirtual 222, 3) := by decide +kernel
theorem dX12_readAny_19 : decode cX12_readAny 19 = .ok (.istore_n 3, 1) := by decide +kernel
theorem dX12_readAny_20 : decode cX12_readAny 20 = .ok (.iload_n 3, 1) := by decide +kernel
theorem dX12_readAny_21 : decode cX12_readAny 21 = .ok (.ifCond .ne 12, 3) := by decide +kernel
theorem dX12_readAny_24 : decode cX12_readAny 24 = .ok (.aload_n 0, 1) := by decide +kernel
theorem dX12_readAny_25 : decode cX12_readAny 25 = .ok (.bipush 40, 2) := by decide +kernel
theorem dX12_readAny_27 : decode cX12_readAny 27 = .ok (.invokevirtual 207, 3) := by decide +kernel
theorem dX12_readAny_30 : decode cX12_readAny 30 = .ok (.ifCond .eq 58, 3) := by decide +kernel
theorem dX12_readAny_33 : decode cX12_readAny 33 = .ok (.aload_n 0, 1) := by decide +kernel
theorem dX12_readAny_34 : decode cX12_readAny 34 = .ok (.getfield 219, 3) := by decide +kernel
theorem dX12_readAny_37 : decode cX12_readAny 37 = .ok (.bipush 8, 2) := by decide +kernel
theorem dX12_readAny_39 : decode cX12_readAny 39 = .ok (.if_icmp .ne 9, 3) := by decide +kernel
theorem dX12_readAny_42 : decode cX12_readAny 42 = .ok (.aload_n 0, 1) := by decide +kernel
theorem dX12_readAny_43 : decode cX12_readAny 43 = .ok (.iconst 3, 1) := by decide +kernel
theorem dX12_readAny_44 : decode cX12_readAny 44 = .ok (.invokevirtual 194, 3) := by decide +kernel
theorem dX12_readAny_47 : decode cX12_readAny 47 = .ok (.ireturn, 1) := by decide +kernel
theorem dX12_readAny_48 : decode cX12_readAny 48 = .ok (.aload_n 0, 1) := by decide +kernel
theorem dX12_readAny_49 : decode cX12_readAny 49 = .ok (.aload_n 0, 1) := by decide +kernel
theorem dX12_readAny_50 : decode cX12_readAny 50 = .ok (.getfield 219, 3) := by decide +kernel
theorem dX12_readAny_53 : decode cX12_readAny 53 = .ok (.iconst 1, 1) := by decide +kernel
theorem dX12_readAny_54 : decode cX12_readAny 54 = .ok (.iadd, 1) := by decide +kernel
theorem dX12_readAny_55 : decode cX12_readAny 55 = .ok (.putfield 219, 3) := by decide +kernel
theorem dX12_readAny_58 : decode cX12_readAny 58 = .ok (.iload_n 3, 1) := by decide +kernel
theorem dX12_readAny_59 : decode cX12_readAny 59 = .ok (.ifCond .ne 7, 3) := by decide +kernel
theorem dX12_readAny_62 : decode cX12_readAny 62 = .ok (.iload_n 1, 1) := by decide +kernel
theorem dX12_readAny_63 : decode cX12_readAny 63 = .ok (.iconst 1, 1) := by decide +kernel
theorem dX12_readAny_64 : decode cX12_readAny 64 = .ok (.iadd, 1) := by decide +kernel
theorem dX12_readAny_65 : decode cX12_readAny 65 = .ok (.istore_n 1, 1) := by decide +kernel
theorem dX12_readAny_66 : decode cX12_readAny 66 = .ok (.aload_n 0, 1) := by decide +kernel
theorem dX12_readAny_67 : decode cX12_readAny 67 = .ok (.iload_n 3, 1) := by decide +kernel
theorem dX12_readAny_68 : decode cX12_readAny 68 = .ok (.ifCond .eq 8, 3) := by decide +kernel
theorem dX12_readAny_71 : decode cX12_readAny 71 = .ok (.bipush 9, 2) := by decide +kernel
theorem dX12_readAny_73 : decode cX12_readAny 73 = .ok (.goto 5, 3) := by decide +kernel
theorem dX12_readAny_76 : decode cX12_readAny 76 = .ok (.bipush 12, 2) := by decide +kernel
theorem dX12_readAny_78 : decode cX12_readAny 78 = .ok (.invokevirtual 225, 3) := by decide +kernel
theorem dX12_readAny_81 : decode cX12_readAny 81 = .ok (.aload_n 0, 1) := by decide +kernel
theorem dX12_readAny_82 : decode cX12_readAny 82 = .ok (.invokevirtual 200, 3) := by decide +kernel
theorem dX12_readAny_85 : decode cX12_readAny 85 = .ok (.goto (-76), 3) := by decide +kernel
theorem dX12_readAny_88 : decode cX12_readAny 88 = .ok (.aload_n 0, 1) := by decide +kernel
theorem dX12_readAny_89 : decode cX12_readAny 89 = .ok (.invokevirtual 228, 3) := by decide +kernel
theorem dX12_readAny_92 : decode cX12_readAny 92 = .ok (.iconst (-1), 1) := by decide +kernel
theorem dX12_readAny_93 : decode cX12_readAny 93 = .ok (.if_icmp .ne 5, 3) := by decide +kernel
theorem dX12_readAny_96 : decode cX12_readAny 96 = .ok (.iconst (-1), 1) := by decide +kernel
theorem dX12_readAny_97 : decode cX12_readAny 97 = .ok (.ireturn, 1) := by decide +kernel
theorem dX12_readAny_98 : decode cX12_readAny 98 = .ok (.aload_n 0, 1) := by decide +kernel
theorem dX12_readAny_99 : decode cX12_readAny 99 = .ok (.bipush 9, 2) := by decide +kernel
theorem dX12_readAny_101 : decode cX12_readAny 101 = .ok (.invokevirtual 231, 3) := by decide +kernel
theorem dX12_readAny_104 : decode cX12_readAny 104 = .ok (.iconst 0, 1) := by decide +kernel
theorem dX12_readAny_105 : decode cX12_readAny 105 = .ok (.istore_n 2, 1) := by decide +kernel
theorem dX12_readAny_106 : decode cX12_readAny 106 = .ok (.goto (-97), 3) := by decide +kernel
theorem dX12_readAny_109 : decode cX12_readAny 109 = .ok (.aload_n 0, 1) := by decide +kernel
theorem dX12_readAny_110 : decode cX12_readAny 110 = .ok (.iconst 5, 1) := by decide +kernel
theorem dX12_readAny_111 : decode cX12_readAny 111 = .ok (.invokevirtual 222, 3) := by decide +kernel
theorem dX12_readAny_114 : decode cX12_readAny 114 = .ok (.ifCond .eq 24, 3) := by decide +kernel
theorem dX12_readAny_117 : decode cX12_readAny 117 = .ok (.aload_n 0, 1) := by decide +kernel
theorem dX12_readAny_118 : decode cX12_readAny 118 = .ok (.bipush 10, 2) := by decide +kernel
theorem dX12_readAny_120 : decode cX12_readAny 120 = .ok (.invokevirtual 231, 3) := by decide +kernel
theorem dX12_readAny_123 : decode cX12_readAny 123 = .ok (.aload_n 0, 1) := by decide +kernel
theorem dX12_readAny_124 : decode cX12_readAny 124 = .ok (.bipush 10, 2) := by decide +kernel
theorem dX12_readAny_126 : decode cX12_readAny 126 = .ok (.invokevirtual 225, 3) := by decide +kernel
theorem dX12_readAny_129 : decode cX12_readAny 129 = .ok (.aload_n 0, 1) := by decide +kernel
theorem dX12_readAny_130 : decode cX12_readAny 130 = .ok (.invokevirtual 200, 3) := by decide +kernel
theorem dX12_readAny_133 : decode cX12_readAny 133 = .ok (.iconst 1, 1) := by decide +kernel
theorem dX12_readAny_134 : decode cX12_readAny 134 = .ok (.istore_n 2, 1) := by decide +kernel
theorem dX12_readAny_135 : decode cX12_readAny 135 = .ok (.goto (-126), 3) := by decide +kernel
theorem dX12_readAny_138 : decode cX12_readAny 138 = .ok (.aload_n 0, 1) := by decide +kernel
theorem dX12_readAny_139 : decode cX12_readAny 139 = .ok (.iconst 4, 1) := by decide +kernel
theorem dX12_readAny_140 : decode cX12_readAny 140 = .ok (.invokevirtual 222, 3) := by decide +kernel
theorem dX12_readAny_143 : decode cX12_readAny 143 = .ok (.ifCond .eq 30, 3) := by decide +kernel
theorem dX12_readAny_146 : decode cX12_readAny 146 = .ok (.aload_n 0, 1) := by decide +kernel
theorem dX12_readAny_147 : decode cX12_readAny 147 = .ok (.bipush 10, 2) := by decide +kernel
theorem dX12_readAny_149 : decode cX12_readAny 149 = .ok (.invokevirtual 231, 3) := by decide +kernel
theorem dX12_readAny_152 : decode cX12_readAny 152 = .ok (.aload_n 0, 1) := by decide +kernel
theorem dX12_readAny_153 : decode cX12_readAny 153 = .ok (.bipush 11, 2) := by decide +kernel
theorem dX12_readAny_155 : decode cX12_readAny 155 = .ok (.invokevirtual 231, 3) := by decide +kernel
theorem dX12_readAny_158 : decode cX12_readAny 158 = .ok (.aload_n 0, 1) := by decide +kernel
theorem dX12_readAny_159 : decode cX12_readAny 159 = .ok (.bipush 11, 2) := by decide +kernel
theorem dX12_readAny_161 : decode cX12_readAny 161 = .ok (.invokevirtual 225, 3) := by decide +kernel
theorem dX12_readAny_164 : decode cX12_readAny 164 = .ok (.aload_n 0, 1) := by decide +kernel
theorem dX12_readAny_165 : decode cX12_readAny 165 = .ok (.invokevirtual 200, 3) := by decide +kernel
theorem dX12_readAny_168 : decode cX12_readAny 168 = .ok (.iconst 1, 1) := by decide +kernel
theorem dX12_readAny_169 : decode cX12_readAny 169 = .ok (.istore_n 2, 1) := by decide +kernel
theorem dX12_readAny_170 : decode cX12_readAny 170 = .ok (.goto (-161), 3) := by decide +kernel
theorem dX12_readAny_173 : decode cX12_readAny 173 = .ok (.aload_n 0, 1) := by decide +kernel
theorem dX12_readAny_174 : decode cX12_readAny 174 = .ok (.bipush 10, 2) := by decide +kernel
theorem dX12_readAny_176 : decode cX12_readAny 176 = .ok (.invokevirtual 231, 3) := by decide +kernel
theorem dX12_readAny_179 : decode cX12_readAny 179 = .ok (.aload_n 0, 1) := by decide +kernel
theorem dX12_readAny_180 : decode cX12_readAny 180 = .ok (.bipush 11, 2) := by decide +kernel
theorem dX12_readAny_182 : decode cX12_readAny 182 = .ok (.invokevirtual 231, 3) := by decide +kernel
theorem dX12_readAny_185 : decode cX12_readAny 185 = .ok (.iload_n 1, 1) := by decide +kernel
theorem dX12_readAny_186 : decode cX12_readAny 186 = .ok (.ifCond .ne 5, 3) := by decide +kernel
theorem dX12_readAny_189 : decode cX12_readAny 189 = .ok (.iconst 0, 1) := by decide +kernel
theorem dX12_readAny_190 : decode cX12_readAny 190 = .ok (.ireturn, 1) := by decide +kernel
theorem dX12_readAny_191 : decode cX12_readAny 191 = .ok (.aload_n 0, 1) := by decide +kernel
theorem dX12_readAny_192 : decode cX12_readAny 192 = .ok (.bipush 41, 2) := by decide +kernel
theorem dX12_readAny_194 : decode cX12_readAny 194 = .ok (.invokevirtual 207, 3) := by decide +kernel
theorem dX12_readAny_197 : decode cX12_readAny 197 = .ok (.ifCond .ne 9, 3) := by decide +kernel
theorem dX12_readAny_200 : decode cX12_readAny 200 = .ok (.aload_n 0, 1) := by decide +kernel
theorem dX12_readAny_201 : decode cX12_readAny 201 = .ok (.iconst 1, 1) := by decide +kernel
theorem dX12_readAny_202 : decode cX12_readAny 202 = .ok (.invokevirtual 194, 3) := by decide +kernel
theorem dX12_readAny_205 : decode cX12_readAny 205 = .ok (.ireturn, 1) := by decide +kernel
theorem dX12_readAny_206 : decode cX12_readAny 206 = .ok (.aload_n 0, 1) := by decide +kernel
theorem dX12_readAny_207 : decode cX12_readAny 207 = .ok (.aload_n 0, 1) := by decide +kernel
theorem dX12_readAny_208 : decode cX12_readAny 208 = .ok (.getfield 216, 3) := by decide +kernel
theorem dX12_readAny_211 : decode cX12_readAny 211 = .ok (.iconst 1, 1) := by decide +kernel
theorem dX12_readAny_212 : decode cX12_readAny 212 = .ok (.isub, 1) := by decide +kernel
theorem dX12_readAny_213 : decode cX12_readAny 213 = .ok (.putfield 216, 3) := by decide +kernel
theorem dX12_readAny_216 : decode cX12_readAny 216 = .ok (.iload_n 1, 1) := by decide +kernel
theorem dX12_readAny_217 : decode cX12_readAny 217 = .ok (.iconst 1, 1) := by decide +kernel
theorem dX12_readAny_218 : decode cX12_readAny 218 = .ok (.isub, 1) := by decide +kernel
theorem dX12_readAny_219 : decode cX12_readAny 219 = .ok (.istore_n 1, 1) := by decide +kernel
theorem dX12_readAny_220 : decode cX12_readAny 220 = .ok (.aload_n 0, 1) := by decide +kernel
theorem dX12_readAny_221 : decode cX12_readAny 221 = .ok (.aload_n 0, 1) := by decide +kernel
theorem dX12_readAny_222 : decode cX12_readAny 222 = .ok (.getfield 219, 3) := by decide +kernel
theorem dX12_readAny_225 : decode cX12_readAny 225 = .ok (.iconst 1, 1) := by decide +kernel
theorem dX12_readAny_226 : decode cX12_readAny 226 = .ok (.isub, 1) := by decide +kernel
theorem dX12_readAny_227 : decode cX12_readAny 227 = .ok (.putfield 219, 3) := by decide +kernel
theorem dX12_readAny_230 : decode cX12_readAny 230 = .ok (.aload_n 0, 1) := by decide +kernel
theorem dX12_readAny_231 : decode cX12_readAny 231 = .ok (.bipush 9, 2) := by decide +kernel
theorem dX12_readAny_233 : decode cX12_readAny 233 = .ok (.invokevirtual 231, 3) := by decide +kernel
theorem dX12_readAny_236 : decode cX12_readAny 236 = .ok (.aload_n 0, 1) := by decide +kernel
theorem dX12_readAny_237 : decode cX12_readAny 237 = .ok (.invokevirtual 200, 3) := by decide +kernel
theorem dX12_readAny_240 : decode cX12_readAny 240 = .ok (.goto (-231), 3) := by decide +kernel
theorem bX12_readAny_78 {l : Launch} {g : jm_G} {d : Nat} {v1 v2 s0 : Int} (hg : jm_HR g) {mu : jm_M} {Q : Option Value → jm_M → Prop} (h : (0 ≤ (mu.1 0 30) ∧ (mu.1 0 30) < 40) ∧ jm_rg s0 ∧ (jm_rg (((jm_wr mu 16 (mu.1 0 30) s0).1 0 30) + 1)) ∧ ∀ m4, m4 = (jm_wr (jm_wr mu 16 (mu.1 0 30) s0) 0 30 (((jm_wr mu 16 (mu.1 0 30) s0).1 0 30) + 1)) → jm_R l g (d + 1) iX12_reads [.ref 0] m4 (jm_qv fun m6 => jm_V l g (d + 2) iX12_readAny 9 [(0, .ref 0), (1, jm_i v1), (2, jm_i v2)] [] m6 Q)) : jm_V l g (d + 2) iX12_readAny 78 [(0, .ref 0), (1, jm_i v1), (2, jm_i v2)] [jm_i s0, .ref 0] mu Q := by
  refine jm_mrI (fun hm0 => ?_)
  have hg1 := h.1
  have h := h.2
  have hg2 := h.1
  have h := h.2
  have hg3 := h.1
  have h := h.2
  refine jm_inlvv (pc := 78) (As := [_]) (st := []) iX12_waits dX12_readAny_78 mX12_225 (cR0 hg) ⟨_, rfl, rfl⟩ rfl rfl (Nat.le_of_ble_eq_true rfl) (pX12_waits hg hg1 hg2 hg3 (jm_kVi ?_))
  have h := h _ rfl
  refine jm_mrI (fun hm5 => ?_)
  refine jm_aload_n (pc := 81) 0 dX12_readAny_81 rfl ?_
  refine jm_callvv (pc := 82) (As := []) (st := []) iX12_reads dX12_readAny_82 mX12_200 (cR0 hg) ⟨_, rfl, rfl⟩ rfl rfl (Nat.le_of_ble_eq_true rfl) h (fun m6 h hm9 => ?_)
  refine jm_goto (pc := 85) 9 dX12_readAny_85 rfl ?_
  exact jm_sub [0, 1, 2] rfl h
theorem bX12_readAny_33 {l : Launch} {g : jm_G} {d : Nat} {v1 v2 v3 : Int} (hg : jm_HR g) {mu : jm_M} {Q : Option Value → jm_M → Prop} (h : (¬ (mu.1 0 28) = 8 → jm_rg ((mu.1 0 28) + 1) ∧ ∀ m2, m2 = jm_wr mu 0 28 ((mu.1 0 28) + 1) → jm_rg v3 ∧ (¬ v3 = 0 → (v3 = 0 → jm_V l g (d + 2) iX12_readAny 78 [(0, .ref 0), (1, jm_i v1), (2, jm_i v2)] [jm_i 12, .ref 0] m2 Q) ∧ (¬ v3 = 0 → jm_V l g (d + 2) iX12_readAny 78 [(0, .ref 0), (1, jm_i v1), (2, jm_i v2)] [jm_i 9, .ref 0] m2 Q)) ∧ (v3 = 0 → ∀ x5, x5 = (v1 + 1) → (v3 = 0 → jm_V l g (d + 2) iX12_readAny 78 [(0, .ref 0), (1, jm_i x5), (2, jm_i v2)] [jm_i 12, .ref 0] m2 Q) ∧ (¬ v3 = 0 → jm_V l g (d + 2) iX12_readAny 78 [(0, .ref 0), (1, jm_i x5), (2, jm_i v2)] [jm_i 9, .ref 0] m2 Q))) ∧ ((mu.1 0 28) = 8 → ∀ m6, m6 = (jm_wr (jm_wr mu 0 31 3) 0 32 ((jm_wr mu 0 31 3).1 0 15)) → Q (some (jm_i (-1))) m6)) : jm_V l g (d + 2) iX12_readAny 33 [(0, .ref 0), (1, jm_i v1), (2, jm_i v2), (3, jm_i v3)] [] mu Q := by
  refine jm_mrI (fun hm0 => ?_)
  refine jm_aload_n (pc := 33) 0 dX12_readAny_33 rfl ?_
  refine jm_geti (pc := 34) 28 dX12_readAny_34 fX12_219 (cR0 hg) rfl ?_
  refine jm_bipush (pc := 37) dX12_readAny_37 (by decide) ?_
  refine jm_icmp_ne (pc := 39) 48 dX12_readAny_39 rfl (hm0 _ _) ⟨by decide, by decide⟩ (fun q => ?_) (fun q => ?_)
  · have h := h.1 q
    refine jm_aload_n (pc := 48) 0 dX12_readAny_48 rfl ?_
    refine jm_aload_n (pc := 49) 0 dX12_readAny_49 rfl ?_
    refine jm_geti (pc := 50) 28 dX12_readAny_50 fX12_219 (cR0 hg) rfl ?_
    refine jm_iconst (pc := 53) dX12_readAny_53 ?_
    refine jm_iadd (pc := 54) dX12_readAny_54 ?_
    have hg1 := h.1
    have h := h.2
    refine jm_put (pc := 55) 28 dX12_readAny_55 fX12_219 ftX12 (fun q h => by cases h; rfl) (jm_nI _) (jm_fI _) (cR0 hg) rfl hg1 ?_
    have h := h _ rfl
    refine jm_mrI (fun hm3 => ?_)
    refine jm_iload_n (pc := 58) 3 dX12_readAny_58 rfl ?_
    have hg4 := h.1
    have h := h.2
    refine jm_if_ne (pc := 59) 66 dX12_readAny_59 rfl hg4 (fun q => ?_) (fun q => ?_)
    · have h := h.1 q
      refine jm_aload_n (pc := 66) 0 dX12_readAny_66 rfl ?_
      refine jm_iload_n (pc := 67) 3 dX12_readAny_67 rfl ?_
      refine jm_if_eq (pc := 68) 76 dX12_readAny_68 rfl hg4 (fun q => ?_) (fun q => ?_)
      · have h := h.1 q
        refine jm_bipush (pc := 76) dX12_readAny_76 (by decide) ?_
        exact jm_sub [0, 1, 2] rfl h
      · have h := h.2 q
        refine jm_bipush (pc := 71) dX12_readAny_71 (by decide) ?_
        refine jm_goto (pc := 73) 78 dX12_readAny_73 rfl ?_
        exact jm_sub [0, 1, 2] rfl h
    · have h := h.2 q
      refine jm_iload_n (pc := 62) 1 dX12_readAny_62 rfl ?_
      refine jm_iconst (pc := 63) dX12_readAny_63 ?_
      refine jm_iadd (pc := 64) dX12_readAny_64 ?_
      have h := h _ rfl
      refine jm_istore_n (pc := 65) (lv' := [(1, _), (0, _), (2, _), (3, _)]) dX12_readAny_65 (by decide) rfl ?_
      refine jm_aload_n (pc := 66) 1 dX12_readAny_66 rfl ?_
      refine jm_iload_n (pc := 67) 3 dX12_readAny_67 rfl ?_
      refine jm_if_eq (pc := 68) 76 dX12_readAny_68 rfl hg4 (fun q => ?_) (fun q => ?_)
      · have h := h.1 q
        refine jm_bipush (pc := 76) dX12_readAny_76 (by decide) ?_
        exact jm_sub [1, 0, 2] rfl h
      · have h := h.2 q
        refine jm_bipush (pc := 71) dX12_readAny_71 (by decide) ?_
        refine jm_goto (pc := 73) 78 dX12_readAny_73 rfl ?_
        exact jm_sub [1, 0, 2] rfl h
  · have h := h.2 q
    refine jm_aload_n (pc := 42) 0 dX12_readAny_42 rfl ?_
    refine jm_iconst (pc := 43) dX12_readAny_43 ?_
    refine jm_inlvi (pc := 44) (As := [_]) (st := []) iX12_errs dX12_readAny_44 mX12_194 (cR0 hg) ⟨_, rfl, rfl⟩ rfl rfl (Nat.le_of_ble_eq_true rfl) (pX12_errs hg ⟨by decide, by decide⟩ (jm_kIi ?_))
    have h := h _ rfl
    refine jm_mrI (fun hm7 => ?_)
    exact jm_iret (pc := 47) dX12_readAny_47 rfl h
theorem bX12_readAny_9 {l : Launch} {g : jm_G} {d : Nat} {v1 v2 : Int} (hg : jm_HR g) {mu : jm_M} {Q : Option Value → jm_M → Prop} (h : jm_rg v2 ∧ (v2 = 0 → ((mu.1 0 16) = 2 ∧ (mu.1 0 17) = 5 → jm_R l g (d + 1) iX12_settles [.ref 0, jm_i 10] mu (jm_qv fun m2 => (0 ≤ (m2.1 0 30) ∧ (m2.1 0 30) < 40) ∧ (jm_rg (((jm_wr m2 16 (m2.1 0 30) 10).1 0 30) + 1)) ∧ ∀ m8, m8 = (jm_wr (jm_wr m2 16 (m2.1 0 30) 10) 0 30 (((jm_wr m2 16 (m2.1 0 30) 10).1 0 30) + 1)) → jm_R l g (d + 1) iX12_reads [.ref 0] m8 (jm_qv fun m10 => jm_V l g (d + 2) iX12_readAny 9 [(0, .ref 0), (1, jm_i v1), (2, jm_i 1)] [] m10 Q))) ∧ (¬ ((mu.1 0 16) = 2 ∧ (mu.1 0 17) = 5) → ((mu.1 0 16) = 2 ∧ (mu.1 0 17) = 4 → jm_R l g (d + 1) iX12_settles [.ref 0, jm_i 10] mu (jm_qv fun m14 => jm_R l g (d + 1) iX12_settles [.ref 0, jm_i 11] m14 (jm_qv fun m18 => (0 ≤ (m18.1 0 30) ∧ (m18.1 0 30) < 40) ∧ (jm_rg (((jm_wr m18 16 (m18.1 0 30) 11).1 0 30) + 1)) ∧ ∀ m24, m24 = (jm_wr (jm_wr m18 16 (m18.1 0 30) 11) 0 30 (((jm_wr m18 16 (m18.1 0 30) 11).1 0 30) + 1)) → jm_R l g (d + 1) iX12_reads [.ref 0] m24 (jm_qv fun m26 => jm_V l g (d + 2) iX12_readAny 9 [(0, .ref 0), (1, jm_i v1), (2, jm_i 1)] [] m26 Q)))) ∧ (¬ ((mu.1 0 16) = 2 ∧ (mu.1 0 17) = 4) → jm_R l g (d + 1) iX12_settles [.ref 0, jm_i 10] mu (jm_qv fun m30 => jm_R l g (d + 1) iX12_settles [.ref 0, jm_i 11] m30 (jm_qv fun m34 => jm_rg v1 ∧ (¬ v1 = 0 → ((m34.1 0 16) = 4 ∧ (m34.1 0 17) = 41 → jm_rg ((m34.1 0 30) - 1) ∧ ∀ m40, m40 = jm_wr m34 0 30 ((m34.1 0 30) - 1) → ∀ x42, x42 = (v1 - 1) → jm_rg ((m40.1 0 28) - 1) ∧ ∀ m44, m44 = jm_wr m40 0 28 ((m40.1 0 28) - 1) → jm_R l g (d + 1) iX12_settles [.ref 0, jm_i 9] m44 (jm_qv fun m46 => jm_R l g (d + 1) iX12_reads [.ref 0] m46 (jm_qv fun m50 => jm_V l g (d + 2) iX12_readAny 9 [(0, .ref 0), (1, jm_i x42), (2, jm_i v2)] [] m50 Q))) ∧ (¬ ((m34.1 0 16) = 4 ∧ (m34.1 0 17) = 41) → ∀ m54, m54 = (jm_wr (jm_wr m34 0 31 1) 0 32 ((jm_wr m34 0 31 1).1 0 15)) → Q (some (jm_i (-1))) m54)) ∧ (v1 = 0 → Q (some (jm_i 0)) m34)))))) ∧ (¬ v2 = 0 → ((mu.1 0 16) = 2 ∧ (mu.1 0 17) = 6 → jm_V l g (d + 2) iX12_readAny 33 [(0, .ref 0), (1, jm_i v1), (2, jm_i v2), (3, jm_i 1)] [] mu Q) ∧ (¬ ((mu.1 0 16) = 2 ∧ (mu.1 0 17) = 6) → ((mu.1 0 16) = 4 ∧ (mu.1 0 17) = 40 → jm_V l g (d + 2) iX12_readAny 33 [(0, .ref 0), (1, jm_i v1), (2, jm_i v2), (3, jm_i 0)] [] mu Q) ∧ (¬ ((mu.1 0 16) = 4 ∧ (mu.1 0 17) = 40) → jm_R l g (d + 1) iX12_readCompared [.ref 0] mu (jm_qi fun z57 m56 => (¬ z57 = (-1) → jm_R l g (d + 1) iX12_settles [.ref 0, jm_i 9] m56 (jm_qv fun m60 => jm_V l g (d + 2) iX12_readAny 9 [(0, .ref 0), (1, jm_i v1), (2, jm_i 0)] [] m60 Q)) ∧ (z57 = (-1) → Q (some (jm_i (-1))) m56)))))) : jm_V l g (d + 2) iX12_readAny 9 [(0, .ref 0), (1, jm_i v1), (2, jm_i v2)] [] mu Q := by
  refine jm_mrI (fun hm0 => ?_)
  refine jm_iload_n (pc := 9) 2 dX12_readAny_9 rfl ?_
  have hg1 := h.1
  have h := h.2
  refine jm_if_eq (pc := 10) 109 dX12_readAny_10 rfl hg1 (fun q => ?_) (fun q => ?_)
  · have h := h.1 q
    refine jm_aload_n (pc := 109) 0 dX12_readAny_109 rfl ?_
    refine jm_iconst (pc := 110) dX12_readAny_110 ?_
    refine jm_inlvi (pc := 111) (As := [_]) (st := []) iX12_isWord dX12_readAny_111 mX12_222 (cR0 hg) ⟨_, rfl, rfl⟩ rfl rfl (Nat.le_of_ble_eq_true rfl) (pX12_isWord hg ⟨by decide, by decide⟩ (fun q => jm_kIi ?_) (fun q => jm_kIi ?_))
    · have h := h.1 q
      refine jm_if_eq (pc := 114) 138 dX12_readAny_114 rfl ⟨by decide, by decide⟩ (fun q => absurd q (by decide)) (fun q => ?_)
      refine jm_aload_n (pc := 117) 0 dX12_readAny_117 rfl ?_
      refine jm_bipush (pc := 118) dX12_readAny_118 (by decide) ?_
      refine jm_callvv (pc := 120) (As := [_]) (st := []) iX12_settles dX12_readAny_120 mX12_231 (cR0 hg) ⟨_, rfl, rfl⟩ rfl rfl (Nat.le_of_ble_eq_true rfl) h (fun m2 h hm5 => ?_)
      refine jm_aload_n (pc := 123) 0 dX12_readAny_123 rfl ?_
      refine jm_bipush (pc := 124) dX12_readAny_124 (by decide) ?_
      have hg6 := h.1
      have h := h.2
      have hg7 := h.1
      have h := h.2
      refine jm_inlvv (pc := 126) (As := [_]) (st := []) iX12_waits dX12_readAny_126 mX12_225 (cR0 hg) ⟨_, rfl, rfl⟩ rfl rfl (Nat.le_of_ble_eq_true rfl) (pX12_waits hg hg6 ⟨by decide, by decide⟩ hg7 (jm_kVi ?_))
      have h := h _ rfl
      refine jm_mrI (fun hm9 => ?_)
      refine jm_aload_n (pc := 129) 0 dX12_readAny_129 rfl ?_
      refine jm_callvv (pc := 130) (As := []) (st := []) iX12_reads dX12_readAny_130 mX12_200 (cR0 hg) ⟨_, rfl, rfl⟩ rfl rfl (Nat.le_of_ble_eq_true rfl) h (fun m10 h hm13 => ?_)
      refine jm_iconst (pc := 133) dX12_readAny_133 ?_
      refine jm_istore_n (pc := 134) (lv' := [(2, _), (0, _), (1, _)]) dX12_readAny_134 (by decide) rfl ?_
      refine jm_goto (pc := 135) 9 dX12_readAny_135 rfl ?_
      exact jm_sub [1, 2, 0] rfl h
    · have h := h.2 q
      refine jm_if_eq (pc := 114) 138 dX12_readAny_114 rfl ⟨by decide, by decide⟩ (fun q => ?_) (fun q => absurd q (by decide))
      refine jm_aload_n (pc := 138) 0 dX12_readAny_138 rfl ?_
      refine jm_iconst (pc := 139) dX12_readAny_139 ?_
      refine jm_inlvi (pc := 140) (As := [_]) (st := []) iX12_isWord dX12_readAny_140 mX12_222 (cR0 hg) ⟨_, rfl, rfl⟩ rfl rfl (Nat.le_of_ble_eq_true rfl) (pX12_isWord hg ⟨by decide, by decide⟩ (fun q => jm_kIi ?_) (fun q => jm_kIi ?_))
      · have h := h.1 q
        refine jm_if_eq (pc := 143) 173 dX12_readAny_143 rfl ⟨by decide, by decide⟩ (fun q => absurd q (by decide)) (fun q => ?_)
        refine jm_aload_n (pc := 146) 0 dX12_readAny_146 rfl ?_
        refine jm_bipush (pc := 147) dX12_readAny_147 (by decide) ?_
        refine jm_callvv (pc := 149) (As := [_]) (st := []) iX12_settles dX12_readAny_149 mX12_231 (cR0 hg) ⟨_, rfl, rfl⟩ rfl rfl (Nat.le_of_ble_eq_true rfl) h (fun m14 h hm17 => ?_)
        refine jm_aload_n (pc := 152) 0 dX12_readAny_152 rfl ?_
        refine jm_bipush (pc := 153) dX12_readAny_153 (by decide) ?_
        refine jm_callvv (pc := 155) (As := [_]) (st := []) iX12_settles dX12_readAny_155 mX12_231 (cR0 hg) ⟨_, rfl, rfl⟩ rfl rfl (Nat.le_of_ble_eq_true rfl) h (fun m18 h hm21 => ?_)
        refine jm_aload_n (pc := 158) 0 dX12_readAny_158 rfl ?_
        refine jm_bipush (pc := 159) dX12_readAny_159 (by decide) ?_
        have hg22 := h.1
        have h := h.2
        have hg23 := h.1
        have h := h.2
        refine jm_inlvv (pc := 161) (As := [_]) (st := []) iX12_waits dX12_readAny_161 mX12_225 (cR0 hg) ⟨_, rfl, rfl⟩ rfl rfl (Nat.le_of_ble_eq_true rfl) (pX12_waits hg hg22 ⟨by decide, by decide⟩ hg23 (jm_kVi ?_))
        have h := h _ rfl
        refine jm_mrI (fun hm25 => ?_)
        refine jm_aload_n (pc := 164) 0 dX12_readAny_164 rfl ?_
        refine jm_callvv (pc := 165) (As := []) (st := []) iX12_reads dX12_readAny_165 mX12_200 (cR0 hg) ⟨_, rfl, rfl⟩ rfl rfl (Nat.le_of_ble_eq_true rfl) h (fun m26 h hm29 => ?_)
        refine jm_iconst (pc := 168) dX12_readAny_168 ?_
        refine jm_istore_n (pc := 169) (lv' := [(2, _), (0, _), (1, _)]) dX12_readAny_169 (by decide) rfl ?_
        refine jm_goto (pc := 170) 9 dX12_readAny_170 rfl ?_
        exact jm_sub [1, 2, 0] rfl h
      · have h := h.2 q
        refine jm_if_eq (pc := 143) 173 dX12_readAny_143 rfl ⟨by decide, by decide⟩ (fun q => ?_) (fun q => absurd q (by decide))
        refine jm_aload_n (pc := 173) 0 dX12_readAny_173 rfl ?_
        refine jm_bipush (pc := 174) dX12_readAny_174 (by decide) ?_
        refine jm_callvv (pc := 176) (As := [_]) (st := []) iX12_settles dX12_readAny_176 mX12_231 (cR0 hg) ⟨_, rfl, rfl⟩ rfl rfl (Nat.le_of_ble_eq_true rfl) h (fun m30 h hm33 => ?_)
        refine jm_aload_n (pc := 179) 0 dX12_readAny_179 rfl ?_
        refine jm_bipush (pc := 180) dX12_readAny_180 (by decide) ?_
        refine jm_callvv (pc := 182) (As := [_]) (st := []) iX12_settles dX12_readAny_182 mX12_231 (cR0 hg) ⟨_, rfl, rfl⟩ rfl rfl (Nat.le_of_ble_eq_true rfl) h (fun m34 h hm37 => ?_)
        refine jm_iload_n (pc := 185) 1 dX12_readAny_185 rfl ?_
        have hg38 := h.1
        have h := h.2
        refine jm_if_ne (pc := 186) 191 dX12_readAny_186 rfl hg38 (fun q => ?_) (fun q => ?_)
        · have h := h.1 q
          refine jm_aload_n (pc := 191) 0 dX12_readAny_191 rfl ?_
          refine jm_bipush (pc := 192) dX12_readAny_192 (by decide) ?_
          refine jm_inlvi (pc := 194) (As := [_]) (st := []) iX12_isSign dX12_readAny_194 mX12_207 (cR0 hg) ⟨_, rfl, rfl⟩ rfl rfl (Nat.le_of_ble_eq_true rfl) (pX12_isSign hg ⟨by decide, by decide⟩ (fun q => jm_kIi ?_) (fun q => jm_kIi ?_))
          · have h := h.1 q
            refine jm_if_ne (pc := 197) 206 dX12_readAny_197 rfl ⟨by decide, by decide⟩ (fun q => ?_) (fun q => absurd q (by decide))
            refine jm_aload_n (pc := 206) 0 dX12_readAny_206 rfl ?_
            refine jm_aload_n (pc := 207) 0 dX12_readAny_207 rfl ?_
            refine jm_geti (pc := 208) 30 dX12_readAny_208 fX12_216 (cR0 hg) rfl ?_
            refine jm_iconst (pc := 211) dX12_readAny_211 ?_
            refine jm_isub (pc := 212) dX12_readAny_212 ?_
            have hg39 := h.1
            have h := h.2
            refine jm_put (pc := 213) 30 dX12_readAny_213 fX12_216 ftX12 (fun q h => by cases h; rfl) (jm_nI _) (jm_fI _) (cR0 hg) rfl hg39 ?_
            have h := h _ rfl
            refine jm_mrI (fun hm41 => ?_)
            refine jm_iload_n (pc := 216) 1 dX12_readAny_216 rfl ?_
            refine jm_iconst (pc := 217) dX12_readAny_217 ?_
            refine jm_isub (pc := 218) dX12_readAny_218 ?_
            have h := h _ rfl
            refine jm_istore_n (pc := 219) (lv' := [(1, _), (0, _), (2, _)]) dX12_readAny_219 (by decide) rfl ?_
            refine jm_aload_n (pc := 220) 1 dX12_readAny_220 rfl ?_
            refine jm_aload_n (pc := 221) 1 dX12_readAny_221 rfl ?_
            refine jm_geti (pc := 222) 28 dX12_readAny_222 fX12_219 (cR0 hg) rfl ?_
            refine jm_iconst (pc := 225) dX12_readAny_225 ?_
            refine jm_isub (pc := 226) dX12_readAny_226 ?_
            have hg43 := h.1
            have h := h.2
            refine jm_put (pc := 227) 28 dX12_readAny_227 fX12_219 ftX12 (fun q h => by cases h; rfl) (jm_nI _) (jm_fI _) (cR0 hg) rfl hg43 ?_
            have h := h _ rfl
            refine jm_mrI (fun hm45 => ?_)
            refine jm_aload_n (pc := 230) 1 dX12_readAny_230 rfl ?_
            refine jm_bipush (pc := 231) dX12_readAny_231 (by decide) ?_
            refine jm_callvv (pc := 233) (As := [_]) (st := []) iX12_settles dX12_readAny_233 mX12_231 (cR0 hg) ⟨_, rfl, rfl⟩ rfl rfl (Nat.le_of_ble_eq_true rfl) h (fun m46 h hm49 => ?_)
            refine jm_aload_n (pc := 236) 1 dX12_readAny_236 rfl ?_
            refine jm_callvv (pc := 237) (As := []) (st := []) iX12_reads dX12_readAny_237 mX12_200 (cR0 hg) ⟨_, rfl, rfl⟩ rfl rfl (Nat.le_of_ble_eq_true rfl) h (fun m50 h hm53 => ?_)
            refine jm_goto (pc := 240) 9 dX12_readAny_240 rfl ?_
            exact jm_sub [1, 0, 2] rfl h
          · have h := h.2 q
            refine jm_if_ne (pc := 197) 206 dX12_readAny_197 rfl ⟨by decide, by decide⟩ (fun q => absurd q (by decide)) (fun q => ?_)
            refine jm_aload_n (pc := 200) 0 dX12_readAny_200 rfl ?_
            refine jm_iconst (pc := 201) dX12_readAny_201 ?_
            refine jm_inlvi (pc := 202) (As := [_]) (st := []) iX12_errs dX12_readAny_202 mX12_194 (cR0 hg) ⟨_, rfl, rfl⟩ rfl rfl (Nat.le_of_ble_eq_true rfl) (pX12_errs hg ⟨by decide, by decide⟩ (jm_kIi ?_))
            have h := h _ rfl
            refine jm_mrI (fun hm55 => ?_)
            exact jm_iret (pc := 205) dX12_readAny_205 rfl h
        · have h := h.2 q
          refine jm_iconst (pc := 189) dX12_readAny_189 ?_
          exact jm_iret (pc := 190) dX12_readAny_190 rfl h
  · have h := h.2 q
    refine jm_aload_n (pc := 13) 0 dX12_readAny_13 rfl ?_
    refine jm_bipush (pc := 14) dX12_readAny_14 (by decide) ?_
    refine jm_inlvi (pc := 16) (As := [_]) (st := []) iX12_isWord dX12_readAny_16 mX12_222 (cR0 hg) ⟨_, rfl, rfl⟩ rfl rfl (Nat.le_of_ble_eq_true rfl) (pX12_isWord hg ⟨by decide, by decide⟩ (fun q => jm_kIi ?_) (fun q => jm_kIi ?_))
    · have h := h.1 q
      refine jm_istore_n (pc := 19) (lv' := [(3, _), (0, _), (1, _), (2, _)]) dX12_readAny_19 (by decide) rfl ?_
      refine jm_iload_n (pc := 20) 0 dX12_readAny_20 rfl ?_
      refine jm_if_ne (pc := 21) 33 dX12_readAny_21 rfl ⟨by decide, by decide⟩ (fun q => ?_) (fun q => absurd q (by decide))
      exact jm_sub [1, 2, 3, 0] rfl h
    · have h := h.2 q
      refine jm_istore_n (pc := 19) (lv' := [(3, _), (0, _), (1, _), (2, _)]) dX12_readAny_19 (by decide) rfl ?_
      refine jm_iload_n (pc := 20) 0 dX12_readAny_20 rfl ?_
      refine jm_if_ne (pc := 21) 33 dX12_readAny_21 rfl ⟨by decide, by decide⟩ (fun q => absurd q (by decide)) (fun q => ?_)
      refine jm_aload_n (pc := 24) 1 dX12_readAny_24 rfl ?_
      refine jm_bipush (pc := 25) dX12_readAny_25 (by decide) ?_
      refine jm_inlvi (pc := 27) (As := [_]) (st := []) iX12_isSign dX12_readAny_27 mX12_207 (cR0 hg) ⟨_, rfl, rfl⟩ rfl rfl (Nat.le_of_ble_eq_true rfl) (pX12_isSign hg ⟨by decide, by decide⟩ (fun q => jm_kIi ?_) (fun q => jm_kIi ?_))
      · have h := h.1 q
        refine jm_if_eq (pc := 30) 88 dX12_readAny_30 rfl ⟨by decide, by decide⟩ (fun q => absurd q (by decide)) (fun q => ?_)
        exact jm_sub [1, 2, 3, 0] rfl h
      · have h := h.2 q
        refine jm_if_eq (pc := 30) 88 dX12_readAny_30 rfl ⟨by decide, by decide⟩ (fun q => ?_) (fun q => absurd q (by decide))
        refine jm_aload_n (pc := 88) 1 dX12_readAny_88 rfl ?_
        refine jm_callvi (pc := 89) (As := []) (st := []) iX12_readCompared dX12_readAny_89 mX12_228 (cR0 hg) ⟨_, rfl, rfl⟩ rfl rfl (Nat.le_of_ble_eq_true rfl) h (fun z57 m56 hz58 h hm59 => ?_)
        refine jm_iconst (pc := 92) dX12_readAny_92 ?_
        refine jm_icmp_ne (pc := 93) 98 dX12_readAny_93 rfl hz58 ⟨by decide, by decide⟩ (fun q => ?_) (fun q => ?_)
        · have h := h.1 q
          refine jm_aload_n (pc := 98) 1 dX12_readAny_98 rfl ?_
          refine jm_bipush (pc := 99) dX12_readAny_99 (by decide) ?_
          refine jm_callvv (pc := 101) (As := [_]) (st := []) iX12_settles dX12_readAny_101 mX12_231 (cR0 hg) ⟨_, rfl, rfl⟩ rfl rfl (Nat.le_of_ble_eq_true rfl) h (fun m60 h hm63 => ?_)
          refine jm_iconst (pc := 104) dX12_readAny_104 ?_
          refine jm_istore_n (pc := 105) (lv' := [(2, _), (3, _), (0, _), (1, _)]) dX12_readAny_105 (by decide) rfl ?_
          refine jm_goto (pc := 106) 9 dX12_readAny_106 rfl ?_
          exact jm_sub [2, 3, 0] rfl h
        · have h := h.2 q
          refine jm_iconst (pc := 96) dX12_readAny_96 ?_
          exact jm_iret (pc := 97) dX12_readAny_97 rfl h
theorem eX12_readAny {l : Launch} {g : jm_G} {d : Nat} (hg : jm_HR g) {mu : jm_M} {Q : Option Value → jm_M → Prop} (h : ∀ m1, m1 = jm_wr mu 0 30 0 → jm_V l g (d + 2) iX12_readAny 9 [(0, .ref 0), (1, jm_i 0), (2, jm_i 1)] [] m1 Q) : jm_R l g (d + 2) iX12_readAny [.ref 0] mu Q := by
  refine jm_enter [(0, .ref 0)] (by decide) (Nat.le_of_ble_eq_true rfl) rfl ?_
  refine jm_mrI (fun hm0 => ?_)
  refine jm_iconst (pc := 0) dX12_readAny_0 ?_
  refine jm_istore_n (pc := 1) (lv' := [(1, _), (0, _)]) dX12_readAny_1 (by decide) rfl ?_
  refine jm_aload_n (pc := 2) 1 dX12_readAny_2 rfl ?_
  refine jm_iconst (pc := 3) dX12_readAny_3 ?_
  refine jm_put (pc := 4) 30 dX12_readAny_4 fX12_216 ftX12 (fun q h => by cases h; rfl) (jm_nI _) (jm_fI _) (cR0 hg) rfl ⟨by decide, by decide⟩ ?_
  have h := h _ rfl
  refine jm_mrI (fun hm2 => ?_)
  refine jm_iconst (pc := 7) dX12_readAny_7 ?_
  refine jm_istore_n (pc := 8) (lv' := [(2, _), (1, _), (0, _)]) dX12_readAny_8 (by decide) rfl ?_
  exact jm_sub [2, 1, 0] rfl h
theorem dX12_isLineWord_0 : decode cX12_isLineWord 0 = .ok (.aload_n 0, 1) := by decide +kernel
theorem dX12_isLineWord_1 : decode cX12_isLineWord 1 = .ok (.iconst 0, 1) := by decide +kernel
theorem dX12_isLineWord_2 : decode cX12_isLineWord 2 = .ok (.invokevirtual 222, 3) := by decide +kernel
theorem dX12_isLineWord_5 : decode cX12_isLineWord 5 = .ok (.ifCond .ne 19, 3) := by decide +kernel
theorem dX12_isLineWord_8 : decode cX12_isLineWord 8 = .ok (.aload_n 0, 1) := by decide +kernel
theorem dX12_isLineWord_9 : decode cX12_isLineWord 9 = .ok (.iconst 1, 1) := by decide +kernel
theorem dX12_isLineWord_10 : decode cX12_isLineWord 10 = .ok (.invokevirtual 222, 3) := by decide +kernel
theorem dX12_isLineWord_13 : decode cX12_isLineWord 13 = .ok (.ifCond .ne 11, 3) := by decide +kernel
theorem dX12_isLineWord_16 : decode cX12_isLineWord 16 = .ok (.aload_n 0, 1) := by decide +kernel
theorem dX12_isLineWord_17 : decode cX12_isLineWord 17 = .ok (.iconst 2, 1) := by decide +kernel
theorem dX12_isLineWord_18 : decode cX12_isLineWord 18 = .ok (.invokevirtual 222, 3) := by decide +kernel
theorem dX12_isLineWord_21 : decode cX12_isLineWord 21 = .ok (.ifCond .eq 7, 3) := by decide +kernel
theorem dX12_isLineWord_24 : decode cX12_isLineWord 24 = .ok (.iconst 1, 1) := by decide +kernel
theorem dX12_isLineWord_25 : decode cX12_isLineWord 25 = .ok (.goto 4, 3) := by decide +kernel
theorem dX12_isLineWord_28 : decode cX12_isLineWord 28 = .ok (.iconst 0, 1) := by decide +kernel
theorem dX12_isLineWord_29 : decode cX12_isLineWord 29 = .ok (.ireturn, 1) := by decide +kernel
theorem eX12_isLineWord {l : Launch} {g : jm_G} {d : Nat} (hg : jm_HR g) {mu : jm_M} {Q : Option Value → jm_M → Prop} (h : ((mu.1 0 16) = 2 ∧ (mu.1 0 17) = 0 → Q (some (jm_i 1)) mu) ∧ (¬ ((mu.1 0 16) = 2 ∧ (mu.1 0 17) = 0) → ((mu.1 0 16) = 2 ∧ (mu.1 0 17) = 1 → Q (some (jm_i 1)) mu) ∧ (¬ ((mu.1 0 16) = 2 ∧ (mu.1 0 17) = 1) → ((mu.1 0 16) = 2 ∧ (mu.1 0 17) = 2 → Q (some (jm_i 1)) mu) ∧ (¬ ((mu.1 0 16) = 2 ∧ (mu.1 0 17) = 2) → Q (some (jm_i 0)) mu)))) : jm_R l g (d + 2) iX12_isLineWord [.ref 0] mu Q := by
  refine jm_enter [(0, .ref 0)] (by decide) (Nat.le_of_ble_eq_true rfl) rfl ?_
  refine jm_mrI (fun hm0 => ?_)
  refine jm_aload_n (pc := 0) 0 dX12_isLineWord_0 rfl ?_
  refine jm_iconst (pc := 1) dX12_isLineWord_1 ?_
  refine jm_inlvi (pc := 2) (As := [_]) (st := []) iX12_isWord dX12_isLineWord_2 mX12_222 (cR0 hg) ⟨_, rfl, rfl⟩ rfl rfl (Nat.le_of_ble_eq_true rfl) (pX12_isWord hg ⟨by decide, by decide⟩ (fun q => jm_kIi ?_) (fun q => jm_kIi ?_))
  · have h := h.1 q
    refine jm_if_ne (pc := 5) 24 dX12_isLineWord_5 rfl ⟨by decide, by decide⟩ (fun q => ?_) (fun q => absurd q (by decide))
    refine jm_iconst (pc := 24) dX12_isLineWord_24 ?_
    refine jm_goto (pc := 25) 29 dX12_isLineWord_25 rfl ?_
    exact jm_zret (pc := 29) dX12_isLineWord_29 rfl (Or.inr rfl) h
  · have h := h.2 q
    refine jm_if_ne (pc := 5) 24 dX12_isLineWord_5 rfl ⟨by decide, by decide⟩ (fun q => absurd q (by decide)) (fun q => ?_)
    refine jm_aload_n (pc := 8) 0 dX12_isLineWord_8 rfl ?_
    refine jm_iconst (pc := 9) dX12_isLineWord_9 ?_
    refine jm_inlvi (pc := 10) (As := [_]) (st := []) iX12_isWord dX12_isLineWord_10 mX12_222 (cR0 hg) ⟨_, rfl, rfl⟩ rfl rfl (Nat.le_of_ble_eq_true rfl) (pX12_isWord hg ⟨by decide, by decide⟩ (fun q => jm_kIi ?_) (fun q => jm_kIi ?_))
    · have h := h.1 q
      refine jm_if_ne (pc := 13) 24 dX12_isLineWord_13 rfl ⟨by decide, by decide⟩ (fun q => ?_) (fun q => absurd q (by decide))
      refine jm_iconst (pc := 24) dX12_isLineWord_24 ?_
      refine jm_goto (pc := 25) 29 dX12_isLineWord_25 rfl ?_
      exact jm_zret (pc := 29) dX12_isLineWord_29 rfl (Or.inr rfl) h
    · have h := h.2 q
      refine jm_if_ne (pc := 13) 24 dX12_isLineWord_13 rfl ⟨by decide, by decide⟩ (fun q => absurd q (by decide)) (fun q => ?_)
      refine jm_aload_n (pc := 16) 0 dX12_isLineWord_16 rfl ?_
      refine jm_iconst (pc := 17) dX12_isLineWord_17 ?_
      refine jm_inlvi (pc := 18) (As := [_]) (st := []) iX12_isWord dX12_isLineWord_18 mX12_222 (cR0 hg) ⟨_, rfl, rfl⟩ rfl rfl (Nat.le_of_ble_eq_true rfl) (pX12_isWord hg ⟨by decide, by decide⟩ (fun q => jm_kIi ?_) (fun q => jm_kIi ?_))
      · have h := h.1 q
        refine jm_if_eq (pc := 21) 28 dX12_isLineWord_21 rfl ⟨by decide, by decide⟩ (fun q => absurd q (by decide)) (fun q => ?_)
        refine jm_iconst (pc := 24) dX12_isLineWord_24 ?_
        refine jm_goto (pc := 25) 29 dX12_isLineWord_25 rfl ?_
        exact jm_zret (pc := 29) dX12_isLineWord_29 rfl (Or.inr rfl) h
      · have h := h.2 q
        refine jm_if_eq (pc := 21) 28 dX12_isLineWord_21 rfl ⟨by decide, by decide⟩ (fun q => ?_) (fun q => absurd q (by decide))
        refine jm_iconst (pc := 28) dX12_isLineWord_28 ?_
        exact jm_zret (pc := 29) dX12_isLineWord_29 rfl (Or.inl rfl) h
theorem pX12_isLineWord {l : Launch} {g : jm_G} {d : Nat} (hg : jm_HR g) {mu : jm_M} {Q : Option Value → jm_M → Prop} (h1 : ((((mu.1 0 16) = 2 ∧ (mu.1 0 17) = 0)) ∨ ((¬ ((mu.1 0 16) = 2 ∧ (mu.1 0 17) = 0)) ∧ ((mu.1 0 16) = 2 ∧ (mu.1 0 17) = 1)) ∨ ((¬ ((mu.1 0 16) = 2 ∧ (mu.1 0 17) = 0)) ∧ (¬ ((mu.1 0 16) = 2 ∧ (mu.1 0 17) = 1)) ∧ ((mu.1 0 16) = 2 ∧ (mu.1 0 17) = 2))) → Q (some (jm_i 1)) mu) (h0 : ¬ ((((mu.1 0 16) = 2 ∧ (mu.1 0 17) = 0)) ∨ ((¬ ((mu.1 0 16) = 2 ∧ (mu.1 0 17) = 0)) ∧ ((mu.1 0 16) = 2 ∧ (mu.1 0 17) = 1)) ∨ ((¬ ((mu.1 0 16) = 2 ∧ (mu.1 0 17) = 0)) ∧ (¬ ((mu.1 0 16) = 2 ∧ (mu.1 0 17) = 1)) ∧ ((mu.1 0 16) = 2 ∧ (mu.1 0 17) = 2))) → Q (some (jm_i 0)) mu) : jm_R l g (d + 2) iX12_isLineWord [.ref 0] mu Q := by
  refine eX12_isLineWord hg ?_
  refine ⟨fun q0 => ?_, fun q0 => ?_⟩
  · exact h1 (Or.inl (q0))
  · refine ⟨fun q1 => ?_, fun q1 => ?_⟩
    · exact h1 (Or.inr (Or.inl (⟨q0, q1⟩)))
    · refine ⟨fun q2 => ?_, fun q2 => ?_⟩
      · exact h1 (Or.inr (Or.inr (⟨q0, q1, q2⟩)))
      · exact h0 (by omega)
theorem dX12_readLaw_0 : decode cX12_readLaw 0 = .ok (.iconst 0, 1) := by decide +kernel
theorem dX12_readLaw_1 : decode cX12_readLaw 1 = .ok (.istore_n 1, 1) := by decide +kernel
theorem dX12_readLaw_2 : decode cX12_readLaw 2 = .ok (.aload_n 0, 1) := by decide +kernel
theorem dX12_readLaw_3 : decode cX12_readLaw 3 = .ok (.invokevirtual 234, 3) := by decide +kernel
theorem dX12_readLaw_6 : decode cX12_readLaw 6 = .ok (.ifCond .eq 122, 3) := by decide +kernel
theorem dX12_readLaw_9 : decode cX12_readLaw 9 = .ok (.iload_n 1, 1) := by decide +kernel
theorem dX12_readLaw_10 : decode cX12_readLaw 10 = .ok (.bipush 16, 2) := by decide +kernel
theorem dX12_readLaw_12 : decode cX12_readLaw 12 = .ok (.if_icmp .ne 9, 3) := by decide +kernel
theorem dX12_readLaw_15 : decode cX12_readLaw 15 = .ok (.aload_n 0, 1) := by decide +kernel
theorem dX12_readLaw_16 : decode cX12_readLaw 16 = .ok (.iconst 3, 1) := by decide +kernel
theorem dX12_readLaw_17 : decode cX12_readLaw 17 = .ok (.invokevirtual 194, 3) := by decide +kernel
theorem dX12_readLaw_20 : decode cX12_readLaw 20 = .ok (.ireturn, 1) := by decide +kernel
theorem dX12_readLaw_21 : decode cX12_readLaw 21 = .ok (.bipush 32, 2) := by decide +kernel
theorem dX12_readLaw_23 : decode cX12_readLaw 23 = .ok (.iload_n 1, 1) := by decide +kernel
theorem dX12_readLaw_24 : decode cX12_readLaw 24 = .ok (.iadd, 1) := by decide +kernel
theorem dX12_readLaw_25 : decode cX12_readLaw 25 = .ok (.istore_n 2, 1) := by decide +kernel
theorem dX12_readLaw_26 : decode cX12_readLaw 26 = .ok (.aload_n 0, 1) := by decide +kernel
theorem dX12_readLaw_27 : decode cX12_readLaw 27 = .ok (.getfield 37, 3) := by decide +kernel
theorem dX12_readLaw_30 : decode cX12_readLaw 30 = .ok (.iload_n 2, 1) := by decide +kernel
theorem dX12_readLaw_31 : decode cX12_readLaw 31 = .ok (.aload_n 0, 1) := by decide +kernel
theorem dX12_readLaw_32 : decode cX12_readLaw 32 = .ok (.getfield 166, 3) := by decide +kernel
theorem dX12_readLaw_35 : decode cX12_readLaw 35 = .ok (.iastore, 1) := by decide +kernel
theorem dX12_readLaw_36 : decode cX12_readLaw 36 = .ok (.aload_n 0, 1) := by decide +kernel
theorem dX12_readLaw_37 : decode cX12_readLaw 37 = .ok (.invokevirtual 200, 3) := by decide +kernel
theorem dX12_readLaw_40 : decode cX12_readLaw 40 = .ok (.aload_n 0, 1) := by decide +kernel
theorem dX12_readLaw_41 : decode cX12_readLaw 41 = .ok (.getfield 40, 3) := by decide +kernel
theorem dX12_readLaw_44 : decode cX12_readLaw 44 = .ok (.iload_n 2, 1) := by decide +kernel
theorem dX12_readLaw_45 : decode cX12_readLaw 45 = .ok (.aload_n 0, 1) := by decide +kernel
theorem dX12_readLaw_46 : decode cX12_readLaw 46 = .ok (.getfield 188, 3) := by decide +kernel
theorem dX12_readLaw_49 : decode cX12_readLaw 49 = .ok (.iastore, 1) := by decide +kernel
theorem dX12_readLaw_50 : decode cX12_readLaw 50 = .ok (.aload_n 0, 1) := by decide +kernel
theorem dX12_readLaw_51 : decode cX12_readLaw 51 = .ok (.invokevirtual 213, 3) := by decide +kernel
theorem dX12_readLaw_54 : decode cX12_readLaw 54 = .ok (.iconst (-1), 1) := by decide +kernel
theorem dX12_readLaw_55 : decode cX12_readLaw 55 = .ok (.if_icmp .ne 5, 3) := by decide +kernel
theorem dX12_readLaw_58 : decode cX12_readLaw 58 = .ok (.iconst (-1), 1) := by decide +kernel
theorem dX12_readLaw_59 : decode cX12_readLaw 59 = .ok (.ireturn, 1) := by decide +kernel
theorem dX12_readLaw_60 : decode cX12_readLaw 60 = .ok (.aload_n 0, 1) := by decide +kernel
theorem dX12_readLaw_61 : decode cX12_readLaw 61 = .ok (.getfield 43, 3) := by decide +kernel
theorem dX12_readLaw_64 : decode cX12_readLaw 64 = .ok (.iload_n 2, 1) := by decide +kernel
theorem dX12_readLaw_65 : decode cX12_readLaw 65 = .ok (.aload_n 0, 1) := by decide +kernel
theorem dX12_readLaw_66 : decode cX12_readLaw 66 = .ok (.getfield 188, 3) := by decide +kernel
theorem dX12_readLaw_69 : decode cX12_readLaw 69 = .ok (.iastore, 1) := by decide +kernel
theorem dX12_readLaw_70 : decode cX12_readLaw 70 = .ok (.aload_n 0, 1) := by decide +kernel
theorem dX12_readLaw_71 : decode cX12_readLaw 71 = .ok (.iconst 3, 1) := by decide +kernel
theorem dX12_readLaw_72 : decode cX12_readLaw 72 = .ok (.invokevirtual 222, 3) := by decide +kernel
theorem dX12_readLaw_75 : decode cX12_readLaw 75 = .ok (.ifCond .eq 17, 3) := by decide +kernel
theorem dX12_readLaw_78 : decode cX12_readLaw 78 = .ok (.aload_n 0, 1) := by decide +kernel
theorem dX12_readLaw_79 : decode cX12_readLaw 79 = .ok (.invokevirtual 200, 3) := by decide +kernel
theorem dX12_readLaw_82 : decode cX12_readLaw 82 = .ok (.aload_n 0, 1) := by decide +kernel
theorem dX12_readLaw_83 : decode cX12_readLaw 83 = .ok (.invokevirtual 238, 3) := by decide +kernel
theorem dX12_readLaw_86 : decode cX12_readLaw 86 = .ok (.iconst (-1), 1) := by decide +kernel
theorem dX12_readLaw_87 : decode cX12_readLaw 87 = .ok (.if_icmp .ne 5, 3) := by decide +kernel
theorem dX12_readLaw_90 : decode cX12_readLaw 90 = .ok (.iconst (-1), 1) := by decide +kernel
theorem dX12_readLaw_91 : decode cX12_readLaw 91 = .ok (.ireturn, 1) := by decide +kernel
theorem dX12_readLaw_92 : decode cX12_readLaw 92 = .ok (.aload_n 0, 1) := by decide +kernel
theorem dX12_readLaw_93 : decode cX12_readLaw 93 = .ok (.getfield 46, 3) := by decide +kernel
theorem dX12_readLaw_96 : decode cX12_readLaw 96 = .ok (.iload_n 2, 1) := by decide +kernel
theorem dX12_readLaw_97 : decode cX12_readLaw 97 = .ok (.aload_n 0, 1) := by decide +kernel
theorem dX12_readLaw_98 : decode cX12_readLaw 98 = .ok (.getfield 188, 3) := by decide +kernel
theorem dX12_readLaw_101 : decode cX12_readLaw 101 = .ok (.iastore, 1) := by decide +kernel
theorem dX12_readLaw_102 : decode cX12_readLaw 102 = .ok (.aload_n 0, 1) := by decide +kernel
theorem dX12_readLaw_103 : decode cX12_readLaw 103 = .ok (.bipush 59, 2) := by decide +kernel
theorem dX12_readLaw_105 : decode cX12_readLaw 105 = .ok (.invokevirtual 207, 3) := by decide +kernel
theorem dX12_readLaw_108 : decode cX12_readLaw 108 = .ok (.ifCond .ne 9, 3) := by decide +kernel
theorem dX12_readLaw_111 : decode cX12_readLaw 111 = .ok (.aload_n 0, 1) := by decide +kernel
theorem dX12_readLaw_112 : decode cX12_readLaw 112 = .ok (.iconst 1, 1) := by decide +kernel
theorem dX12_readLaw_113 : decode cX12_readLaw 113 = .ok (.invokevirtual 194, 3) := by decide +kernel
theorem dX12_readLaw_116 : decode cX12_readLaw 116 = .ok (.ireturn, 1) := by decide +kernel
theorem dX12_readLaw_117 : decode cX12_readLaw 117 = .ok (.aload_n 0, 1) := by decide +kernel
theorem dX12_readLaw_118 : decode cX12_readLaw 118 = .ok (.invokevirtual 200, 3) := by decide +kernel
theorem dX12_readLaw_121 : decode cX12_readLaw 121 = .ok (.iload_n 1, 1) := by decide +kernel
theorem dX12_readLaw_122 : decode cX12_readLaw 122 = .ok (.iconst 1, 1) := by decide +kernel
theorem dX12_readLaw_123 : decode cX12_readLaw 123 = .ok (.iadd, 1) := by decide +kernel
theorem dX12_readLaw_124 : decode cX12_readLaw 124 = .ok (.istore_n 1, 1) := by decide +kernel
theorem dX12_readLaw_125 : decode cX12_readLaw 125 = .ok (.goto (-123), 3) := by decide +kernel
theorem dX12_readLaw_128 : decode cX12_readLaw 128 = .ok (.aload_n 0, 1) := by decide +kernel
theorem dX12_readLaw_129 : decode cX12_readLaw 129 = .ok (.getfield 163, 3) := by decide +kernel
theorem dX12_readLaw_132 : decode cX12_readLaw 132 = .ok (.ifCond .ne 7, 3) := by decide +kernel
theorem dX12_readLaw_135 : decode cX12_readLaw 135 = .ok (.iload_n 1, 1) := by decide +kernel
theorem dX12_readLaw_136 : decode cX12_readLaw 136 = .ok (.goto 8, 3) := by decide +kernel
theorem dX12_readLaw_139 : decode cX12_readLaw 139 = .ok (.aload_n 0, 1) := by decide +kernel
theorem dX12_readLaw_140 : decode cX12_readLaw 140 = .ok (.iconst 1, 1) := by decide +kernel
theorem dX12_readLaw_141 : decode cX12_readLaw 141 = .ok (.invokevirtual 194, 3) := by decide +kernel
theorem dX12_readLaw_144 : decode cX12_readLaw 144 = .ok (.ireturn, 1) := by decide +kernel
theorem bX12_readLaw_92 {l : Launch} {g : jm_G} {d : Nat} {v1 v2 : Int} (hg : jm_HR g) {mu : jm_M} {Q : Option Value → jm_M → Prop} (h : (0 ≤ v2 ∧ v2 < 48) ∧ ∀ m2, m2 = jm_wr mu 13 v2 (mu.1 0 27) → ((m2.1 0 16) = 4 ∧ (m2.1 0 17) = 59 → jm_R l g (d + 2) iX12_reads [.ref 0] m2 (jm_qv fun m4 => ∀ x8, x8 = (v1 + 1) → jm_V l g (d + 3) iX12_readLaw 2 [(0, .ref 0), (1, jm_i x8)] [] m4 Q)) ∧ (¬ ((m2.1 0 16) = 4 ∧ (m2.1 0 17) = 59) → ∀ m9, m9 = (jm_wr (jm_wr m2 0 31 1) 0 32 ((jm_wr m2 0 31 1).1 0 15)) → Q (some (jm_i (-1))) m9)) : jm_V l g (d + 3) iX12_readLaw 92 [(0, .ref 0), (1, jm_i v1), (2, jm_i v2)] [] mu Q := by
  refine jm_mrI (fun hm0 => ?_)
  refine jm_aload_n (pc := 92) 0 dX12_readLaw_92 rfl ?_
  refine jm_getr (pc := 93) 23 dX12_readLaw_93 fX12_46 (cR0 hg) rfl ?_
  refine jm_iload_n (pc := 96) 2 dX12_readLaw_96 rfl ?_
  refine jm_aload_n (pc := 97) 0 dX12_readLaw_97 rfl ?_
  refine jm_geti (pc := 98) 27 dX12_readLaw_98 fX12_188 (cR0 hg) rfl ?_
  have hg1 := h.1
  have h := h.2
  refine jm_iast (pc := 101) dX12_readLaw_101 (cR13 hg) (by decide) hg1.1 hg1.2 (hm0 _ _) ?_
  have h := h _ rfl
  refine jm_mrI (fun hm3 => ?_)
  refine jm_aload_n (pc := 102) 0 dX12_readLaw_102 rfl ?_
  refine jm_bipush (pc := 103) dX12_readLaw_103 (by decide) ?_
  refine jm_inlvi (pc := 105) (As := [_]) (st := []) iX12_isSign dX12_readLaw_105 mX12_207 (cR0 hg) ⟨_, rfl, rfl⟩ rfl rfl (Nat.le_of_ble_eq_true rfl) (pX12_isSign hg ⟨by decide, by decide⟩ (fun q => jm_kIi ?_) (fun q => jm_kIi ?_))
  · have h := h.1 q
    refine jm_if_ne (pc := 108) 117 dX12_readLaw_108 rfl ⟨by decide, by decide⟩ (fun q => ?_) (fun q => absurd q (by decide))
    refine jm_aload_n (pc := 117) 0 dX12_readLaw_117 rfl ?_
    refine jm_callvv (pc := 118) (As := []) (st := []) iX12_reads dX12_readLaw_118 mX12_200 (cR0 hg) ⟨_, rfl, rfl⟩ rfl rfl (Nat.le_of_ble_eq_true rfl) h (fun m4 h hm7 => ?_)
    refine jm_iload_n (pc := 121) 1 dX12_readLaw_121 rfl ?_
    refine jm_iconst (pc := 122) dX12_readLaw_122 ?_
    refine jm_iadd (pc := 123) dX12_readLaw_123 ?_
    have h := h _ rfl
    refine jm_istore_n (pc := 124) (lv' := [(1, _), (0, _), (2, _)]) dX12_readLaw_124 (by decide) rfl ?_
    refine jm_goto (pc := 125) 2 dX12_readLaw_125 rfl ?_
    exact jm_sub [1, 0] rfl h
  · have h := h.2 q
    refine jm_if_ne (pc := 108) 117 dX12_readLaw_108 rfl ⟨by decide, by decide⟩ (fun q => absurd q (by decide)) (fun q => ?_)
    refine jm_aload_n (pc := 111) 0 dX12_readLaw_111 rfl ?_
    refine jm_iconst (pc := 112) dX12_readLaw_112 ?_
    refine jm_inlvi (pc := 113) (As := [_]) (st := []) iX12_errs dX12_readLaw_113 mX12_194 (cR0 hg) ⟨_, rfl, rfl⟩ rfl rfl (Nat.le_of_ble_eq_true rfl) (pX12_errs hg ⟨by decide, by decide⟩ (jm_kIi ?_))
    have h := h _ rfl
    refine jm_mrI (fun hm10 => ?_)
    exact jm_iret (pc := 116) dX12_readLaw_116 rfl h
theorem bX12_readLaw_2 {l : Launch} {g : jm_G} {d : Nat} {v1 : Int} (hg : jm_HR g) {mu : jm_M} {Q : Option Value → jm_M → Prop} (h : ((((mu.1 0 16) = 2 ∧ (mu.1 0 17) = 0)) ∨ ((¬ ((mu.1 0 16) = 2 ∧ (mu.1 0 17) = 0)) ∧ ((mu.1 0 16) = 2 ∧ (mu.1 0 17) = 1)) ∨ ((¬ ((mu.1 0 16) = 2 ∧ (mu.1 0 17) = 0)) ∧ (¬ ((mu.1 0 16) = 2 ∧ (mu.1 0 17) = 1)) ∧ ((mu.1 0 16) = 2 ∧ (mu.1 0 17) = 2)) → jm_rg v1 ∧ (¬ v1 = 16 → ∀ x2, x2 = (32 + v1) → (0 ≤ x2 ∧ x2 < 48) ∧ ∀ m4, m4 = jm_wr mu 10 x2 (mu.1 0 17) → jm_R l g (d + 2) iX12_reads [.ref 0] m4 (jm_qv fun m6 => ∀ m10, m10 = jm_wr m6 11 x2 (m6.1 0 27) → jm_R l g (d + 2) iX12_readSum [.ref 0] m10 (jm_qi fun z13 m12 => (¬ z13 = (-1) → ∀ m16, m16 = jm_wr m12 12 x2 (m12.1 0 27) → ((m16.1 0 16) = 2 ∧ (m16.1 0 17) = 3 → jm_R l g (d + 2) iX12_reads [.ref 0] m16 (jm_qv fun m18 => jm_R l g (d + 2) iX12_readAny [.ref 0] m18 (jm_qi fun z23 m22 => (¬ z23 = (-1) → jm_V l g (d + 3) iX12_readLaw 92 [(0, .ref 0), (1, jm_i v1), (2, jm_i x2)] [] m22 Q) ∧ (z23 = (-1) → Q (some (jm_i (-1))) m22)))) ∧ (¬ ((m16.1 0 16) = 2 ∧ (m16.1 0 17) = 3) → jm_V l g (d + 3) iX12_readLaw 92 [(0, .ref 0), (1, jm_i v1), (2, jm_i x2)] [] m16 Q)) ∧ (z13 = (-1) → Q (some (jm_i (-1))) m12)))) ∧ (v1 = 16 → ∀ m26, m26 = (jm_wr (jm_wr mu 0 31 3) 0 32 ((jm_wr mu 0 31 3).1 0 15)) → Q (some (jm_i (-1))) m26)) ∧ (¬ ((((mu.1 0 16) = 2 ∧ (mu.1 0 17) = 0)) ∨ ((¬ ((mu.1 0 16) = 2 ∧ (mu.1 0 17) = 0)) ∧ ((mu.1 0 16) = 2 ∧ (mu.1 0 17) = 1)) ∨ ((¬ ((mu.1 0 16) = 2 ∧ (mu.1 0 17) = 0)) ∧ (¬ ((mu.1 0 16) = 2 ∧ (mu.1 0 17) = 1)) ∧ ((mu.1 0 16) = 2 ∧ (mu.1 0 17) = 2))) → (¬ (mu.1 0 16) = 0 → ∀ m28, m28 = (jm_wr (jm_wr mu 0 31 1) 0 32 ((jm_wr mu 0 31 1).1 0 15)) → Q (some (jm_i (-1))) m28) ∧ ((mu.1 0 16) = 0 → Q (some (jm_i v1)) mu))) : jm_V l g (d + 3) iX12_readLaw 2 [(0, .ref 0), (1, jm_i v1)] [] mu Q := by
  refine jm_mrI (fun hm0 => ?_)
  refine jm_aload_n (pc := 2) 0 dX12_readLaw_2 rfl ?_
  refine jm_inlvi (pc := 3) (As := []) (st := []) iX12_isLineWord dX12_readLaw_3 mX12_234 (cR0 hg) ⟨_, rfl, rfl⟩ rfl rfl (Nat.le_of_ble_eq_true rfl) (pX12_isLineWord hg  (fun q => jm_kIi ?_) (fun q => jm_kIi ?_))
  · have h := h.1 q
    refine jm_if_eq (pc := 6) 128 dX12_readLaw_6 rfl ⟨by decide, by decide⟩ (fun q => absurd q (by decide)) (fun q => ?_)
    refine jm_iload_n (pc := 9) 1 dX12_readLaw_9 rfl ?_
    refine jm_bipush (pc := 10) dX12_readLaw_10 (by decide) ?_
    have hg1 := h.1
    have h := h.2
    refine jm_icmp_ne (pc := 12) 21 dX12_readLaw_12 rfl hg1 ⟨by decide, by decide⟩ (fun q => ?_) (fun q => ?_)
    · have h := h.1 q
      refine jm_bipush (pc := 21) dX12_readLaw_21 (by decide) ?_
      refine jm_iload_n (pc := 23) 1 dX12_readLaw_23 rfl ?_
      refine jm_iadd (pc := 24) dX12_readLaw_24 ?_
      have h := h _ rfl
      refine jm_istore_n (pc := 25) (lv' := [(2, _), (0, _), (1, _)]) dX12_readLaw_25 (by decide) rfl ?_
      refine jm_aload_n (pc := 26) 1 dX12_readLaw_26 rfl ?_
      refine jm_getr (pc := 27) 20 dX12_readLaw_27 fX12_37 (cR0 hg) rfl ?_
      refine jm_iload_n (pc := 30) 0 dX12_readLaw_30 rfl ?_
      refine jm_aload_n (pc := 31) 1 dX12_readLaw_31 rfl ?_
      refine jm_geti (pc := 32) 17 dX12_readLaw_32 fX12_166 (cR0 hg) rfl ?_
      have hg3 := h.1
      have h := h.2
      refine jm_iast (pc := 35) dX12_readLaw_35 (cR10 hg) (by decide) hg3.1 hg3.2 (hm0 _ _) ?_
      have h := h _ rfl
      refine jm_mrI (fun hm5 => ?_)
      refine jm_aload_n (pc := 36) 1 dX12_readLaw_36 rfl ?_
      refine jm_callvv (pc := 37) (As := []) (st := []) iX12_reads dX12_readLaw_37 mX12_200 (cR0 hg) ⟨_, rfl, rfl⟩ rfl rfl (Nat.le_of_ble_eq_true rfl) h (fun m6 h hm9 => ?_)
      refine jm_aload_n (pc := 40) 1 dX12_readLaw_40 rfl ?_
      refine jm_getr (pc := 41) 21 dX12_readLaw_41 fX12_40 (cR0 hg) rfl ?_
      refine jm_iload_n (pc := 44) 0 dX12_readLaw_44 rfl ?_
      refine jm_aload_n (pc := 45) 1 dX12_readLaw_45 rfl ?_
      refine jm_geti (pc := 46) 27 dX12_readLaw_46 fX12_188 (cR0 hg) rfl ?_
      refine jm_iast (pc := 49) dX12_readLaw_49 (cR11 hg) (by decide) hg3.1 hg3.2 (hm9 _ _) ?_
      have h := h _ rfl
      refine jm_mrI (fun hm11 => ?_)
      refine jm_aload_n (pc := 50) 1 dX12_readLaw_50 rfl ?_
      refine jm_callvi (pc := 51) (As := []) (st := []) iX12_readSum dX12_readLaw_51 mX12_213 (cR0 hg) ⟨_, rfl, rfl⟩ rfl rfl (Nat.le_of_ble_eq_true rfl) h (fun z13 m12 hz14 h hm15 => ?_)
      refine jm_iconst (pc := 54) dX12_readLaw_54 ?_
      refine jm_icmp_ne (pc := 55) 60 dX12_readLaw_55 rfl hz14 ⟨by decide, by decide⟩ (fun q => ?_) (fun q => ?_)
      · have h := h.1 q
        refine jm_aload_n (pc := 60) 1 dX12_readLaw_60 rfl ?_
        refine jm_getr (pc := 61) 22 dX12_readLaw_61 fX12_43 (cR0 hg) rfl ?_
        refine jm_iload_n (pc := 64) 0 dX12_readLaw_64 rfl ?_
        refine jm_aload_n (pc := 65) 1 dX12_readLaw_65 rfl ?_
        refine jm_geti (pc := 66) 27 dX12_readLaw_66 fX12_188 (cR0 hg) rfl ?_
        refine jm_iast (pc := 69) dX12_readLaw_69 (cR12 hg) (by decide) hg3.1 hg3.2 (hm15 _ _) ?_
        have h := h _ rfl
        refine jm_mrI (fun hm17 => ?_)
        refine jm_aload_n (pc := 70) 1 dX12_readLaw_70 rfl ?_
        refine jm_iconst (pc := 71) dX12_readLaw_71 ?_
        refine jm_inlvi (pc := 72) (As := [_]) (st := []) iX12_isWord dX12_readLaw_72 mX12_222 (cR0 hg) ⟨_, rfl, rfl⟩ rfl rfl (Nat.le_of_ble_eq_true rfl) (pX12_isWord hg ⟨by decide, by decide⟩ (fun q => jm_kIi ?_) (fun q => jm_kIi ?_))
        · have h := h.1 q
          refine jm_if_eq (pc := 75) 92 dX12_readLaw_75 rfl ⟨by decide, by decide⟩ (fun q => absurd q (by decide)) (fun q => ?_)
          refine jm_aload_n (pc := 78) 1 dX12_readLaw_78 rfl ?_
          refine jm_callvv (pc := 79) (As := []) (st := []) iX12_reads dX12_readLaw_79 mX12_200 (cR0 hg) ⟨_, rfl, rfl⟩ rfl rfl (Nat.le_of_ble_eq_true rfl) h (fun m18 h hm21 => ?_)
          refine jm_aload_n (pc := 82) 1 dX12_readLaw_82 rfl ?_
          refine jm_callvi (pc := 83) (As := []) (st := []) iX12_readAny dX12_readLaw_83 mX12_238 (cR0 hg) ⟨_, rfl, rfl⟩ rfl rfl (Nat.le_of_ble_eq_true rfl) h (fun z23 m22 hz24 h hm25 => ?_)
          refine jm_iconst (pc := 86) dX12_readLaw_86 ?_
          refine jm_icmp_ne (pc := 87) 92 dX12_readLaw_87 rfl hz24 ⟨by decide, by decide⟩ (fun q => ?_) (fun q => ?_)
          · have h := h.1 q
            exact jm_sub [1, 2, 0] rfl h
          · have h := h.2 q
            refine jm_iconst (pc := 90) dX12_readLaw_90 ?_
            exact jm_iret (pc := 91) dX12_readLaw_91 rfl h
        · have h := h.2 q
          refine jm_if_eq (pc := 75) 92 dX12_readLaw_75 rfl ⟨by decide, by decide⟩ (fun q => ?_) (fun q => absurd q (by decide))
          exact jm_sub [1, 2, 0] rfl h
      · have h := h.2 q
        refine jm_iconst (pc := 58) dX12_readLaw_58 ?_
        exact jm_iret (pc := 59) dX12_readLaw_59 rfl h
    · have h := h.2 q
      refine jm_aload_n (pc := 15) 0 dX12_readLaw_15 rfl ?_
      refine jm_iconst (pc := 16) dX12_readLaw_16 ?_
      refine jm_inlvi (pc := 17) (As := [_]) (st := []) iX12_errs dX12_readLaw_17 mX12_194 (cR0 hg) ⟨_, rfl, rfl⟩ rfl rfl (Nat.le_of_ble_eq_true rfl) (pX12_errs hg ⟨by decide, by decide⟩ (jm_kIi ?_))
      have h := h _ rfl
      refine jm_mrI (fun hm27 => ?_)
      exact jm_iret (pc := 20) dX12_readLaw_20 rfl h
  · have h := h.2 q
    refine jm_if_eq (pc := 6) 128 dX12_readLaw_6 rfl ⟨by decide, by decide⟩ (fun q => ?_) (fun q => absurd q (by decide))
    refine jm_aload_n (pc := 128) 0 dX12_readLaw_128 rfl ?_
    refine jm_geti (pc := 129) 16 dX12_readLaw_129 fX12_163 (cR0 hg) rfl ?_
    refine jm_if_ne (pc := 132) 139 dX12_readLaw_132 rfl (hm0 _ _) (fun q => ?_) (fun q => ?_)
    · have h := h.1 q
      refine jm_aload_n (pc := 139) 0 dX12_readLaw_139 rfl ?_
      refine jm_iconst (pc := 140) dX12_readLaw_140 ?_
      refine jm_inlvi (pc := 141) (As := [_]) (st := []) iX12_errs dX12_readLaw_141 mX12_194 (cR0 hg) ⟨_, rfl, rfl⟩ rfl rfl (Nat.le_of_ble_eq_true rfl) (pX12_errs hg ⟨by decide, by decide⟩ (jm_kIi ?_))
      have h := h _ rfl
      refine jm_mrI (fun hm29 => ?_)
      exact jm_iret (pc := 144) dX12_readLaw_144 rfl h
    · have h := h.2 q
      refine jm_iload_n (pc := 135) 1 dX12_readLaw_135 rfl ?_
      refine jm_goto (pc := 136) 144 dX12_readLaw_136 rfl ?_
      exact jm_iret (pc := 144) dX12_readLaw_144 rfl h
theorem eX12_readLaw {l : Launch} {g : jm_G} {d : Nat} (hg : jm_HR g) {mu : jm_M} {Q : Option Value → jm_M → Prop} (h : jm_V l g (d + 3) iX12_readLaw 2 [(0, .ref 0), (1, jm_i 0)] [] mu Q) : jm_R l g (d + 3) iX12_readLaw [.ref 0] mu Q := by
  refine jm_enter [(0, .ref 0)] (by decide) (Nat.le_of_ble_eq_true rfl) rfl ?_
  refine jm_mrI (fun hm0 => ?_)
  refine jm_iconst (pc := 0) dX12_readLaw_0 ?_
  refine jm_istore_n (pc := 1) (lv' := [(1, _), (0, _)]) dX12_readLaw_1 (by decide) rfl ?_
  exact jm_sub [1, 0] rfl h
theorem dX12_takesLaw_0 : decode cX12_takesLaw 0 = .ok (.iconst 0, 1) := by decide +kernel
theorem dX12_takesLaw_1 : decode cX12_takesLaw 1 = .ok (.istore_n 2, 1) := by decide +kernel
theorem dX12_takesLaw_2 : decode cX12_takesLaw 2 = .ok (.iload_n 2, 1) := by decide +kernel
theorem dX12_takesLaw_3 : decode cX12_takesLaw 3 = .ok (.iload_n 1, 1) := by decide +kernel
theorem dX12_takesLaw_4 : decode cX12_takesLaw 4 = .ok (.if_icmp .ge 101, 3) := by decide +kernel
theorem dX12_takesLaw_7 : decode cX12_takesLaw 7 = .ok (.aload_n 0, 1) := by decide +kernel
theorem dX12_takesLaw_8 : decode cX12_takesLaw 8 = .ok (.getfield 37, 3) := by decide +kernel
theorem dX12_takesLaw_11 : decode cX12_takesLaw 11 = .ok (.bipush 16, 2) := by decide +kernel
theorem dX12_takesLaw_13 : decode cX12_takesLaw 13 = .ok (.aload_n 0, 1) := by decide +kernel
theorem dX12_takesLaw_14 : decode cX12_takesLaw 14 = .ok (.getfield 241, 3) := by decide +kernel
theorem dX12_takesLaw_17 : decode cX12_takesLaw 17 = .ok (.imul, 1) := by decide +kernel
theorem dX12_takesLaw_18 : decode cX12_takesLaw 18 = .ok (.iload_n 2, 1) := by decide +kernel
theorem dX12_takesLaw_19 : decode cX12_takesLaw 19 = .ok (.iadd, 1) := by decide +kernel
theorem dX12_takesLaw_20 : decode cX12_takesLaw 20 = .ok (.aload_n 0, 1) := by decide +kernel
theorem dX12_takesLaw_21 : decode cX12_takesLaw 21 = .ok (.getfield 37, 3) := by decide +kernel
theorem dX12_takesLaw_24 : decode cX12_takesLaw 24 = .ok (.bipush 32, 2) := by decide +kernel
theorem dX12_takesLaw_26 : decode cX12_takesLaw 26 = .ok (.iload_n 2, 1) := by decide +kernel
theorem dX12_takesLaw_27 : decode cX12_takesLaw 27 = .ok (.iadd, 1) := by decide +kernel
theorem dX12_takesLaw_28 : decode cX12_takesLaw 28 = .ok (.iaload, 1) := by decide +kernel
theorem dX12_takesLaw_29 : decode cX12_takesLaw 29 = .ok (.iastore, 1) := by decide +kernel
theorem dX12_takesLaw_30 : decode cX12_takesLaw 30 = .ok (.aload_n 0, 1) := by decide +kernel
theorem dX12_takesLaw_31 : decode cX12_takesLaw 31 = .ok (.getfield 40, 3) := by decide +kernel
theorem dX12_takesLaw_34 : decode cX12_takesLaw 34 = .ok (.bipush 16, 2) := by decide +kernel
theorem dX12_takesLaw_36 : decode cX12_takesLaw 36 = .ok (.aload_n 0, 1) := by decide +kernel
theorem dX12_takesLaw_37 : decode cX12_takesLaw 37 = .ok (.getfield 241, 3) := by decide +kernel
theorem dX12_takesLaw_40 : decode cX12_takesLaw 40 = .ok (.imul, 1) := by decide +kernel
theorem dX12_takesLaw_41 : decode cX12_takesLaw 41 = .ok (.iload_n 2, 1) := by decide +kernel
theorem dX12_takesLaw_42 : decode cX12_takesLaw 42 = .ok (.iadd, 1) := by decide +kernel
theorem dX12_takesLaw_43 : decode cX12_takesLaw 43 = .ok (.aload_n 0, 1) := by decide +kernel
theorem dX12_takesLaw_44 : decode cX12_takesLaw 44 = .ok (.getfield 40, 3) := by decide +kernel
theorem dX12_takesLaw_47 : decode cX12_takesLaw 47 = .ok (.bipush 32, 2) := by decide +kernel
theorem dX12_takesLaw_49 : decode cX12_takesLaw 49 = .ok (.iload_n 2, 1) := by decide +kernel
theorem dX12_takesLaw_50 : decode cX12_takesLaw 50 = .ok (.iadd, 1) := by decide +kernel
theorem dX12_takesLaw_51 : decode cX12_takesLaw 51 = .ok (.iaload, 1) := by decide +kernel
theorem dX12_takesLaw_52 : decode cX12_takesLaw 52 = .ok (.iastore, 1) := by decide +kernel
theorem dX12_takesLaw_53 : decode cX12_takesLaw 53 = .ok (.aload_n 0, 1) := by decide +kernel
theorem dX12_takesLaw_54 : decode cX12_takesLaw 54 = .ok (.getfield 43, 3) := by decide +kernel
theorem dX12_takesLaw_57 : decode cX12_takesLaw 57 = .ok (.bipush 16, 2) := by decide +kernel
theorem dX12_takesLaw_59 : decode cX12_takesLaw 59 = .ok (.aload_n 0, 1) := by decide +kernel
theorem dX12_takesLaw_60 : decode cX12_takesLaw 60 = .ok (.getfield 241, 3) := by decide +kernel
theorem dX12_takesLaw_63 : decode cX12_takesLaw 63 = .ok (.imul, 1) := by decide +kernel
theorem dX12_takesLaw_64 : decode cX12_takesLaw 64 = .ok (.iload_n 2, 1) := by decide +kernel
theorem dX12_takesLaw_65 : decode cX12_takesLaw 65 = .ok (.iadd, 1) := by decide +kernel
theorem dX12_takesLaw_66 : decode cX12_takesLaw 66 = .ok (.aload_n 0, 1) := by decide +kernel
theorem dX12_takesLaw_67 : decode cX12_takesLaw 67 = .ok (.getfield 43, 3) := by decide +kernel
theorem dX12_takesLaw_70 : decode cX12_takesLaw 70 = .ok (.bipush 32, 2) := by decide +kernel
theorem dX12_takesLaw_72 : decode cX12_takesLaw 72 = .ok (.iload_n 2, 1) := by decide +kernel
theorem dX12_takesLaw_73 : decode cX12_takesLaw 73 = .ok (.iadd, 1) := by decide +kernel
theorem dX12_takesLaw_74 : decode cX12_takesLaw 74 = .ok (.iaload, 1) := by decide +kernel
theorem dX12_takesLaw_75 : decode cX12_takesLaw 75 = .ok (.iastore, 1) := by decide +kernel
theorem dX12_takesLaw_76 : decode cX12_takesLaw 76 = .ok (.aload_n 0, 1) := by decide +kernel
theorem dX12_takesLaw_77 : decode cX12_takesLaw 77 = .ok (.getfield 46, 3) := by decide +kernel
theorem dX12_takesLaw_80 : decode cX12_takesLaw 80 = .ok (.bipush 16, 2) := by decide +kernel
theorem dX12_takesLaw_82 : decode cX12_takesLaw 82 = .ok (.aload_n 0, 1) := by decide +kernel
theorem dX12_takesLaw_83 : decode cX12_takesLaw 83 = .ok (.getfield 241, 3) := by decide +kernel
theorem dX12_takesLaw_86 : decode cX12_takesLaw 86 = .ok (.imul, 1) := by decide +kernel
theorem dX12_takesLaw_87 : decode cX12_takesLaw 87 = .ok (.iload_n 2, 1) := by decide +kernel
theorem dX12_takesLaw_88 : decode cX12_takesLaw 88 = .ok (.iadd, 1) := by decide +kernel
theorem dX12_takesLaw_89 : decode cX12_takesLaw 89 = .ok (.aload_n 0, 1) := by decide +kernel
theorem dX12_takesLaw_90 : decode cX12_takesLaw 90 = .ok (.getfield 46, 3) := by decide +kernel
theorem dX12_takesLaw_93 : decode cX12_takesLaw 93 = .ok (.bipush 32, 2) := by decide +kernel
theorem dX12_takesLaw_95 : decode cX12_takesLaw 95 = .ok (.iload_n 2, 1) := by decide +kernel
theorem dX12_takesLaw_96 : decode cX12_takesLaw 96 = .ok (.iadd, 1) := by decide +kernel
theorem dX12_takesLaw_97 : decode cX12_takesLaw 97 = .ok (.iaload, 1) := by decide +kernel
theorem dX12_takesLaw_98 : decode cX12_takesLaw 98 = .ok (.iastore, 1) := by decide +kernel
theorem dX12_takesLaw_99 : decode cX12_takesLaw 99 = .ok (.iinc 2 1, 3) := by decide +kernel
theorem dX12_takesLaw_102 : decode cX12_takesLaw 102 = .ok (.goto (-100), 3) := by decide +kernel
theorem dX12_takesLaw_105 : decode cX12_takesLaw 105 = .ok (.iconst 0, 1) := by decide +kernel
theorem dX12_takesLaw_106 : decode cX12_takesLaw 106 = .ok (.istore_n 2, 1) := by decide +kernel
theorem dX12_takesLaw_107 : decode cX12_takesLaw 107 = .ok (.iload_n 2, 1) := by decide +kernel
theorem dX12_takesLaw_108 : decode cX12_takesLaw 108 = .ok (.aload_n 0, 1) := by decide +kernel
theorem dX12_takesLaw_109 : decode cX12_takesLaw 109 = .ok (.getfield 188, 3) := by decide +kernel
theorem dX12_takesLaw_112 : decode cX12_takesLaw 112 = .ok (.if_icmp .ge 59, 3) := by decide +kernel
theorem dX12_takesLaw_115 : decode cX12_takesLaw 115 = .ok (.aload_n 0, 1) := by decide +kernel
theorem dX12_takesLaw_116 : decode cX12_takesLaw 116 = .ok (.getfield 49, 3) := by decide +kernel
theorem dX12_takesLaw_119 : decode cX12_takesLaw 119 = .ok (.sipush 400, 3) := by decide +kernel
theorem dX12_takesLaw_122 : decode cX12_takesLaw 122 = .ok (.aload_n 0, 1) := by decide +kernel
theorem dX12_takesLaw_123 : decode cX12_takesLaw 123 = .ok (.getfield 241, 3) := by decide +kernel
theorem dX12_takesLaw_126 : decode cX12_takesLaw 126 = .ok (.imul, 1) := by decide +kernel
theorem dX12_takesLaw_127 : decode cX12_takesLaw 127 = .ok (.iload_n 2, 1) := by decide +kernel
theorem dX12_takesLaw_128 : decode cX12_takesLaw 128 = .ok (.iadd, 1) := by decide +kernel
theorem dX12_takesLaw_129 : decode cX12_takesLaw 129 = .ok (.aload_n 0, 1) := by decide +kernel
theorem dX12_takesLaw_130 : decode cX12_takesLaw 130 = .ok (.getfield 49, 3) := by decide +kernel
theorem dX12_takesLaw_133 : decode cX12_takesLaw 133 = .ok (.sipush 800, 3) := by decide +kernel
theorem dX12_takesLaw_136 : decode cX12_takesLaw 136 = .ok (.iload_n 2, 1) := by decide +kernel
theorem dX12_takesLaw_137 : decode cX12_takesLaw 137 = .ok (.iadd, 1) := by decide +kernel
theorem dX12_takesLaw_138 : decode cX12_takesLaw 138 = .ok (.iaload, 1) := by decide +kernel
theorem dX12_takesLaw_139 : decode cX12_takesLaw 139 = .ok (.iastore, 1) := by decide +kernel
theorem dX12_takesLaw_140 : decode cX12_takesLaw 140 = .ok (.aload_n 0, 1) := by decide +kernel
theorem dX12_takesLaw_141 : decode cX12_takesLaw 141 = .ok (.getfield 52, 3) := by decide +kernel
theorem dX12_takesLaw_144 : decode cX12_takesLaw 144 = .ok (.sipush 400, 3) := by decide +kernel
theorem dX12_takesLaw_147 : decode cX12_takesLaw 147 = .ok (.aload_n 0, 1) := by decide +kernel
theorem dX12_takesLaw_148 : decode cX12_takesLaw 148 = .ok (.getfield 241, 3) := by decide +kernel
theorem dX12_takesLaw_151 : decode cX12_takesLaw 151 = .ok (.imul, 1) := by decide +kernel
theorem dX12_takesLaw_152 : decode cX12_takesLaw 152 = .ok (.iload_n 2, 1) := by decide +kernel
theorem dX12_takesLaw_153 : decode cX12_takesLaw 153 = .ok (.iadd, 1) := by decide +kernel
theorem dX12_takesLaw_154 : decode cX12_takesLaw 154 = .ok (.aload_n 0, 1) := by decide +kernel
theorem dX12_takesLaw_155 : decode cX12_takesLaw 155 = .ok (.getfield 52, 3) := by decide +kernel
theorem dX12_takesLaw_158 : decode cX12_takesLaw 158 = .ok (.sipush 800, 3) := by decide +kernel
theorem dX12_takesLaw_161 : decode cX12_takesLaw 161 = .ok (.iload_n 2, 1) := by decide +kernel
theorem dX12_takesLaw_162 : decode cX12_takesLaw 162 = .ok (.iadd, 1) := by decide +kernel
theorem dX12_takesLaw_163 : decode cX12_takesLaw 163 = .ok (.iaload, 1) := by decide +kernel
theorem dX12_takesLaw_164 : decode cX12_takesLaw 164 = .ok (.iastore, 1) := by decide +kernel
theorem dX12_takesLaw_165 : decode cX12_takesLaw 165 = .ok (.iinc 2 1, 3) := by decide +kernel
theorem dX12_takesLaw_168 : decode cX12_takesLaw 168 = .ok (.goto (-61), 3) := by decide +kernel
theorem dX12_takesLaw_171 : decode cX12_takesLaw 171 = .ok (.aload_n 0, 1) := by decide +kernel
theorem dX12_takesLaw_172 : decode cX12_takesLaw 172 = .ok (.getfield 34, 3) := by decide +kernel
theorem dX12_takesLaw_175 : decode cX12_takesLaw 175 = .ok (.aload_n 0, 1) := by decide +kernel
theorem dX12_takesLaw_176 : decode cX12_takesLaw 176 = .ok (.getfield 241, 3) := by decide +kernel
theorem dX12_takesLaw_179 : decode cX12_takesLaw 179 = .ok (.iload_n 1, 1) := by decide +kernel
theorem dX12_takesLaw_180 : decode cX12_takesLaw 180 = .ok (.iastore, 1) := by decide +kernel
theorem dX12_takesLaw_181 : decode cX12_takesLaw 181 = .ok (.return_, 1) := by decide +kernel
theorem bX12_takesLaw_107 {l : Launch} {g : jm_G} {d : Nat} {v1 v2 : Int} (hg : jm_HR g) {mu : jm_M} {Q : Option Value → jm_M → Prop} (h : jm_rg v2 ∧ ((mu.1 0 27) ≤ v2 → (0 ≤ (mu.1 0 26) ∧ (mu.1 0 26) < 2) ∧ jm_rg v1 ∧ ∀ m4, m4 = jm_wr mu 9 (mu.1 0 26) v1 → Q none m4) ∧ (v2 < (mu.1 0 27) → (0 ≤ (800 + v2) ∧ (800 + v2) < 1200) ∧ (0 ≤ ((400 * (mu.1 0 26)) + v2) ∧ ((400 * (mu.1 0 26)) + v2) < 1200) ∧ ∀ m8, m8 = jm_wr mu 14 ((400 * (mu.1 0 26)) + v2) (mu.1 14 (800 + v2)) → (0 ≤ ((400 * (m8.1 0 26)) + v2) ∧ ((400 * (m8.1 0 26)) + v2) < 1200) ∧ ∀ m11, m11 = jm_wr m8 15 ((400 * (m8.1 0 26)) + v2) (m8.1 15 (800 + v2)) → jm_V l g (d + 1) iX12_takesLaw 107 [(0, .ref 0), (1, jm_i v1), (2, jm_i (v2 + 1))] [] m11 Q)) : jm_V l g (d + 1) iX12_takesLaw 107 [(0, .ref 0), (1, jm_i v1), (2, jm_i v2)] [] mu Q := by
  refine jm_mrI (fun hm0 => ?_)
  refine jm_iload_n (pc := 107) 2 dX12_takesLaw_107 rfl ?_
  refine jm_aload_n (pc := 108) 0 dX12_takesLaw_108 rfl ?_
  refine jm_geti (pc := 109) 27 dX12_takesLaw_109 fX12_188 (cR0 hg) rfl ?_
  have hg1 := h.1
  have h := h.2
  refine jm_icmp_ge (pc := 112) 171 dX12_takesLaw_112 rfl hg1 (hm0 _ _) (fun q => ?_) (fun q => ?_)
  · have h := h.1 q
    refine jm_aload_n (pc := 171) 0 dX12_takesLaw_171 rfl ?_
    refine jm_getr (pc := 172) 19 dX12_takesLaw_172 fX12_34 (cR0 hg) rfl ?_
    refine jm_aload_n (pc := 175) 0 dX12_takesLaw_175 rfl ?_
    refine jm_geti (pc := 176) 26 dX12_takesLaw_176 fX12_241 (cR0 hg) rfl ?_
    refine jm_iload_n (pc := 179) 1 dX12_takesLaw_179 rfl ?_
    have hg2 := h.1
    have h := h.2
    have hg3 := h.1
    have h := h.2
    refine jm_iast (pc := 180) dX12_takesLaw_180 (cR9 hg) (by decide) hg2.1 hg2.2 hg3 ?_
    have h := h _ rfl
    refine jm_mrI (fun hm5 => ?_)
    exact jm_vret (pc := 181) dX12_takesLaw_181 rfl h
  · have h := h.2 q
    refine jm_aload_n (pc := 115) 0 dX12_takesLaw_115 rfl ?_
    refine jm_getr (pc := 116) 24 dX12_takesLaw_116 fX12_49 (cR0 hg) rfl ?_
    refine jm_sipush (pc := 119) dX12_takesLaw_119 (by decide) ?_
    refine jm_aload_n (pc := 122) 0 dX12_takesLaw_122 rfl ?_
    refine jm_geti (pc := 123) 26 dX12_takesLaw_123 fX12_241 (cR0 hg) rfl ?_
    refine jm_imul (pc := 126) dX12_takesLaw_126 ?_
    refine jm_iload_n (pc := 127) 2 dX12_takesLaw_127 rfl ?_
    refine jm_iadd (pc := 128) dX12_takesLaw_128 ?_
    refine jm_aload_n (pc := 129) 0 dX12_takesLaw_129 rfl ?_
    refine jm_getr (pc := 130) 24 dX12_takesLaw_130 fX12_49 (cR0 hg) rfl ?_
    refine jm_sipush (pc := 133) dX12_takesLaw_133 (by decide) ?_
    refine jm_iload_n (pc := 136) 2 dX12_takesLaw_136 rfl ?_
    refine jm_iadd (pc := 137) dX12_takesLaw_137 ?_
    have hg6 := h.1
    have h := h.2
    refine jm_iald (pc := 138) dX12_takesLaw_138 (cR14 hg) (by decide) hg6.1 hg6.2 ?_
    have hg7 := h.1
    have h := h.2
    refine jm_iast (pc := 139) dX12_takesLaw_139 (cR14 hg) (by decide) hg7.1 hg7.2 (hm0 _ _) ?_
    have h := h _ rfl
    refine jm_mrI (fun hm9 => ?_)
    refine jm_aload_n (pc := 140) 0 dX12_takesLaw_140 rfl ?_
    refine jm_getr (pc := 141) 25 dX12_takesLaw_141 fX12_52 (cR0 hg) rfl ?_
    refine jm_sipush (pc := 144) dX12_takesLaw_144 (by decide) ?_
    refine jm_aload_n (pc := 147) 0 dX12_takesLaw_147 rfl ?_
    refine jm_geti (pc := 148) 26 dX12_takesLaw_148 fX12_241 (cR0 hg) rfl ?_
    refine jm_imul (pc := 151) dX12_takesLaw_151 ?_
    refine jm_iload_n (pc := 152) 2 dX12_takesLaw_152 rfl ?_
    refine jm_iadd (pc := 153) dX12_takesLaw_153 ?_
    refine jm_aload_n (pc := 154) 0 dX12_takesLaw_154 rfl ?_
    refine jm_getr (pc := 155) 25 dX12_takesLaw_155 fX12_52 (cR0 hg) rfl ?_
    refine jm_sipush (pc := 158) dX12_takesLaw_158 (by decide) ?_
    refine jm_iload_n (pc := 161) 2 dX12_takesLaw_161 rfl ?_
    refine jm_iadd (pc := 162) dX12_takesLaw_162 ?_
    refine jm_iald (pc := 163) dX12_takesLaw_163 (cR15 hg) (by decide) hg6.1 hg6.2 ?_
    have hg10 := h.1
    have h := h.2
    refine jm_iast (pc := 164) dX12_takesLaw_164 (cR15 hg) (by decide) hg10.1 hg10.2 (hm9 _ _) ?_
    have h := h _ rfl
    refine jm_mrI (fun hm12 => ?_)
    refine jm_iinc (pc := 165) (lv' := [(2, _), (0, _), (1, _)]) 2 dX12_takesLaw_165 rfl (by decide) rfl ?_
    refine jm_goto (pc := 168) 107 dX12_takesLaw_168 rfl ?_
    exact jm_sub [1, 2, 0] rfl h
theorem bX12_takesLaw_2 {l : Launch} {g : jm_G} {d : Nat} {v1 v2 : Int} (hg : jm_HR g) {mu : jm_M} {Q : Option Value → jm_M → Prop} (h : jm_rg v2 ∧ jm_rg v1 ∧ (v1 ≤ v2 → jm_V l g (d + 1) iX12_takesLaw 107 [(0, .ref 0), (1, jm_i v1), (2, jm_i 0)] [] mu Q) ∧ (v2 < v1 → (0 ≤ (32 + v2) ∧ (32 + v2) < 48) ∧ (0 ≤ ((16 * (mu.1 0 26)) + v2) ∧ ((16 * (mu.1 0 26)) + v2) < 48) ∧ ∀ m5, m5 = jm_wr mu 10 ((16 * (mu.1 0 26)) + v2) (mu.1 10 (32 + v2)) → (0 ≤ ((16 * (m5.1 0 26)) + v2) ∧ ((16 * (m5.1 0 26)) + v2) < 48) ∧ ∀ m8, m8 = jm_wr m5 11 ((16 * (m5.1 0 26)) + v2) (m5.1 11 (32 + v2)) → (0 ≤ ((16 * (m8.1 0 26)) + v2) ∧ ((16 * (m8.1 0 26)) + v2) < 48) ∧ ∀ m11, m11 = jm_wr m8 12 ((16 * (m8.1 0 26)) + v2) (m8.1 12 (32 + v2)) → (0 ≤ ((16 * (m11.1 0 26)) + v2) ∧ ((16 * (m11.1 0 26)) + v2) < 48) ∧ ∀ m14, m14 = jm_wr m11 13 ((16 * (m11.1 0 26)) + v2) (m11.1 13 (32 + v2)) → jm_V l g (d + 1) iX12_takesLaw 2 [(0, .ref 0), (1, jm_i v1), (2, jm_i (v2 + 1))] [] m14 Q)) : jm_V l g (d + 1) iX12_takesLaw 2 [(0, .ref 0), (1, jm_i v1), (2, jm_i v2)] [] mu Q := by
  refine jm_mrI (fun hm0 => ?_)
  refine jm_iload_n (pc := 2) 2 dX12_takesLaw_2 rfl ?_
  refine jm_iload_n (pc := 3) 1 dX12_takesLaw_3 rfl ?_
  have hg1 := h.1
  have h := h.2
  have hg2 := h.1
  have h := h.2
  refine jm_icmp_ge (pc := 4) 105 dX12_takesLaw_4 rfl hg1 hg2 (fun q => ?_) (fun q => ?_)
  · have h := h.1 q
    refine jm_iconst (pc := 105) dX12_takesLaw_105 ?_
    refine jm_istore_n (pc := 106) (lv' := [(2, _), (0, _), (1, _)]) dX12_takesLaw_106 (by decide) rfl ?_
    exact jm_sub [1, 2, 0] rfl h
  · have h := h.2 q
    refine jm_aload_n (pc := 7) 0 dX12_takesLaw_7 rfl ?_
    refine jm_getr (pc := 8) 20 dX12_takesLaw_8 fX12_37 (cR0 hg) rfl ?_
    refine jm_bipush (pc := 11) dX12_takesLaw_11 (by decide) ?_
    refine jm_aload_n (pc := 13) 0 dX12_takesLaw_13 rfl ?_
    refine jm_geti (pc := 14) 26 dX12_takesLaw_14 fX12_241 (cR0 hg) rfl ?_
    refine jm_imul (pc := 17) dX12_takesLaw_17 ?_
    refine jm_iload_n (pc := 18) 2 dX12_takesLaw_18 rfl ?_
    refine jm_iadd (pc := 19) dX12_takesLaw_19 ?_
    refine jm_aload_n (pc := 20) 0 dX12_takesLaw_20 rfl ?_
    refine jm_getr (pc := 21) 20 dX12_takesLaw_21 fX12_37 (cR0 hg) rfl ?_
    refine jm_bipush (pc := 24) dX12_takesLaw_24 (by decide) ?_
    refine jm_iload_n (pc := 26) 2 dX12_takesLaw_26 rfl ?_
    refine jm_iadd (pc := 27) dX12_takesLaw_27 ?_
    have hg3 := h.1
    have h := h.2
    refine jm_iald (pc := 28) dX12_takesLaw_28 (cR10 hg) (by decide) hg3.1 hg3.2 ?_
    have hg4 := h.1
    have h := h.2
    refine jm_iast (pc := 29) dX12_takesLaw_29 (cR10 hg) (by decide) hg4.1 hg4.2 (hm0 _ _) ?_
    have h := h _ rfl
    refine jm_mrI (fun hm6 => ?_)
    refine jm_aload_n (pc := 30) 0 dX12_takesLaw_30 rfl ?_
    refine jm_getr (pc := 31) 21 dX12_takesLaw_31 fX12_40 (cR0 hg) rfl ?_
    refine jm_bipush (pc := 34) dX12_takesLaw_34 (by decide) ?_
    refine jm_aload_n (pc := 36) 0 dX12_takesLaw_36 rfl ?_
    refine jm_geti (pc := 37) 26 dX12_takesLaw_37 fX12_241 (cR0 hg) rfl ?_
    refine jm_imul (pc := 40) dX12_takesLaw_40 ?_
    refine jm_iload_n (pc := 41) 2 dX12_takesLaw_41 rfl ?_
    refine jm_iadd (pc := 42) dX12_takesLaw_42 ?_
    refine jm_aload_n (pc := 43) 0 dX12_takesLaw_43 rfl ?_
    refine jm_getr (pc := 44) 21 dX12_takesLaw_44 fX12_40 (cR0 hg) rfl ?_
    refine jm_bipush (pc := 47) dX12_takesLaw_47 (by decide) ?_
    refine jm_iload_n (pc := 49) 2 dX12_takesLaw_49 rfl ?_
    refine jm_iadd (pc := 50) dX12_takesLaw_50 ?_
    refine jm_iald (pc := 51) dX12_takesLaw_51 (cR11 hg) (by decide) hg3.1 hg3.2 ?_
    have hg7 := h.1
    have h := h.2
    refine jm_iast (pc := 52) dX12_takesLaw_52 (cR11 hg) (by decide) hg7.1 hg7.2 (hm6 _ _) ?_
    have h := h _ rfl
    refine jm_mrI (fun hm9 => ?_)
    refine jm_aload_n (pc := 53) 0 dX12_takesLaw_53 rfl ?_
    refine jm_getr (pc := 54) 22 dX12_takesLaw_54 fX12_43 (cR0 hg) rfl ?_
    refine jm_bipush (pc := 57) dX12_takesLaw_57 (by decide) ?_
    refine jm_aload_n (pc := 59) 0 dX12_takesLaw_59 rfl ?_
    refine jm_geti (pc := 60) 26 dX12_takesLaw_60 fX12_241 (cR0 hg) rfl ?_
    refine jm_imul (pc := 63) dX12_takesLaw_63 ?_
    refine jm_iload_n (pc := 64) 2 dX12_takesLaw_64 rfl ?_
    refine jm_iadd (pc := 65) dX12_takesLaw_65 ?_
    refine jm_aload_n (pc := 66) 0 dX12_takesLaw_66 rfl ?_
    refine jm_getr (pc := 67) 22 dX12_takesLaw_67 fX12_43 (cR0 hg) rfl ?_
    refine jm_bipush (pc := 70) dX12_takesLaw_70 (by decide) ?_
    refine jm_iload_n (pc := 72) 2 dX12_takesLaw_72 rfl ?_
    refine jm_iadd (pc := 73) dX12_takesLaw_73 ?_
    refine jm_iald (pc := 74) dX12_takesLaw_74 (cR12 hg) (by decide) hg3.1 hg3.2 ?_
    have hg10 := h.1
    have h := h.2
    refine jm_iast (pc := 75) dX12_takesLaw_75 (cR12 hg) (by decide) hg10.1 hg10.2 (hm9 _ _) ?_
    have h := h _ rfl
    refine jm_mrI (fun hm12 => ?_)
    refine jm_aload_n (pc := 76) 0 dX12_takesLaw_76 rfl ?_
    refine jm_getr (pc := 77) 23 dX12_takesLaw_77 fX12_46 (cR0 hg) rfl ?_
    refine jm_bipush (pc := 80) dX12_takesLaw_80 (by decide) ?_
    refine jm_aload_n (pc := 82) 0 dX12_takesLaw_82 rfl ?_
    refine jm_geti (pc := 83) 26 dX12_takesLaw_83 fX12_241 (cR0 hg) rfl ?_
    refine jm_imul (pc := 86) dX12_takesLaw_86 ?_
    refine jm_iload_n (pc := 87) 2 dX12_takesLaw_87 rfl ?_
    refine jm_iadd (pc := 88) dX12_takesLaw_88 ?_
    refine jm_aload_n (pc := 89) 0 dX12_takesLaw_89 rfl ?_
    refine jm_getr (pc := 90) 23 dX12_takesLaw_90 fX12_46 (cR0 hg) rfl ?_
    refine jm_bipush (pc := 93) dX12_takesLaw_93 (by decide) ?_
    refine jm_iload_n (pc := 95) 2 dX12_takesLaw_95 rfl ?_
    refine jm_iadd (pc := 96) dX12_takesLaw_96 ?_
    refine jm_iald (pc := 97) dX12_takesLaw_97 (cR13 hg) (by decide) hg3.1 hg3.2 ?_
    have hg13 := h.1
    have h := h.2
    refine jm_iast (pc := 98) dX12_takesLaw_98 (cR13 hg) (by decide) hg13.1 hg13.2 (hm12 _ _) ?_
    have h := h _ rfl
    refine jm_mrI (fun hm15 => ?_)
    refine jm_iinc (pc := 99) (lv' := [(2, _), (0, _), (1, _)]) 2 dX12_takesLaw_99 rfl (by decide) rfl ?_
    refine jm_goto (pc := 102) 2 dX12_takesLaw_102 rfl ?_
    exact jm_sub [1, 2, 0] rfl h
theorem eX12_takesLaw {l : Launch} {g : jm_G} {d : Nat} {v1 : Int} (hg : jm_HR g) {mu : jm_M} {Q : Option Value → jm_M → Prop} (h : jm_V l g (d + 1) iX12_takesLaw 2 [(0, .ref 0), (1, jm_i v1), (2, jm_i 0)] [] mu Q) : jm_R l g (d + 1) iX12_takesLaw [.ref 0, jm_i v1] mu Q := by
  refine jm_enter [(0, .ref 0), (1, jm_i v1)] (by decide) (Nat.le_of_ble_eq_true rfl) rfl ?_
  refine jm_mrI (fun hm0 => ?_)
  refine jm_iconst (pc := 0) dX12_takesLaw_0 ?_
  refine jm_istore_n (pc := 1) (lv' := [(2, _), (0, _), (1, _)]) dX12_takesLaw_1 (by decide) rfl ?_
  exact jm_sub [1, 2, 0] rfl h
theorem dX12_readNumber_0 : decode cX12_readNumber 0 = .ok (.aload_n 0, 1) := by decide +kernel
theorem dX12_readNumber_1 : decode cX12_readNumber 1 = .ok (.getfield 163, 3) := by decide +kernel
theorem dX12_readNumber_4 : decode cX12_readNumber 4 = .ok (.iconst 3, 1) := by decide +kernel
theorem dX12_readNumber_5 : decode cX12_readNumber 5 = .ok (.if_icmp .eq 9, 3) := by decide +kernel
theorem dX12_readNumber_8 : decode cX12_readNumber 8 = .ok (.aload_n 0, 1) := by decide +kernel
theorem dX12_readNumber_9 : decode cX12_readNumber 9 = .ok (.iconst 1, 1) := by decide +kernel
theorem dX12_readNumber_10 : decode cX12_readNumber 10 = .ok (.invokevirtual 194, 3) := by decide +kernel
theorem dX12_readNumber_13 : decode cX12_readNumber 13 = .ok (.ireturn, 1) := by decide +kernel
theorem dX12_readNumber_14 : decode cX12_readNumber 14 = .ok (.aload_n 0, 1) := by decide +kernel
theorem dX12_readNumber_15 : decode cX12_readNumber 15 = .ok (.aload_n 0, 1) := by decide +kernel
theorem dX12_readNumber_16 : decode cX12_readNumber 16 = .ok (.getfield 166, 3) := by decide +kernel
theorem dX12_readNumber_19 : decode cX12_readNumber 19 = .ok (.iload_n 1, 1) := by decide +kernel
theorem dX12_readNumber_20 : decode cX12_readNumber 20 = .ok (.iload_n 2, 1) := by decide +kernel
theorem dX12_readNumber_21 : decode cX12_readNumber 21 = .ok (.invokevirtual 128, 3) := by decide +kernel
theorem dX12_readNumber_24 : decode cX12_readNumber 24 = .ok (.ifCond .ne 9, 3) := by decide +kernel
theorem dX12_readNumber_27 : decode cX12_readNumber 27 = .ok (.aload_n 0, 1) := by decide +kernel
theorem dX12_readNumber_28 : decode cX12_readNumber 28 = .ok (.iconst 2, 1) := by decide +kernel
theorem dX12_readNumber_29 : decode cX12_readNumber 29 = .ok (.invokevirtual 194, 3) := by decide +kernel
theorem dX12_readNumber_32 : decode cX12_readNumber 32 = .ok (.ireturn, 1) := by decide +kernel
theorem dX12_readNumber_33 : decode cX12_readNumber 33 = .ok (.aload_n 0, 1) := by decide +kernel
theorem dX12_readNumber_34 : decode cX12_readNumber 34 = .ok (.getfield 166, 3) := by decide +kernel
theorem dX12_readNumber_37 : decode cX12_readNumber 37 = .ok (.istore_n 3, 1) := by decide +kernel
theorem dX12_readNumber_38 : decode cX12_readNumber 38 = .ok (.aload_n 0, 1) := by decide +kernel
theorem dX12_readNumber_39 : decode cX12_readNumber 39 = .ok (.invokevirtual 200, 3) := by decide +kernel
theorem dX12_readNumber_42 : decode cX12_readNumber 42 = .ok (.iload_n 3, 1) := by decide +kernel
theorem dX12_readNumber_43 : decode cX12_readNumber 43 = .ok (.ireturn, 1) := by decide +kernel
theorem eX12_readNumber {l : Launch} {g : jm_G} {d : Nat} {v1 v2 : Int} (hg : jm_HR g) {mu : jm_M} {Q : Option Value → jm_M → Prop} (h : ((mu.1 0 16) = 3 → jm_rg v1 ∧ jm_rg v2 ∧ (v1 ≤ (mu.1 0 17) ∧ (mu.1 0 17) ≤ v2 → ∀ x3, x3 = (mu.1 0 17) → jm_R l g (d + 1) iX12_reads [.ref 0] mu (jm_qv fun m4 => Q (some (jm_i x3)) m4)) ∧ (¬ (v1 ≤ (mu.1 0 17) ∧ (mu.1 0 17) ≤ v2) → ∀ m8, m8 = (jm_wr (jm_wr mu 0 31 2) 0 32 ((jm_wr mu 0 31 2).1 0 15)) → Q (some (jm_i (-1))) m8)) ∧ (¬ (mu.1 0 16) = 3 → ∀ m10, m10 = (jm_wr (jm_wr mu 0 31 1) 0 32 ((jm_wr mu 0 31 1).1 0 15)) → Q (some (jm_i (-1))) m10)) : jm_R l g (d + 2) iX12_readNumber [.ref 0, jm_i v1, jm_i v2] mu Q := by
  refine jm_enter [(0, .ref 0), (1, jm_i v1), (2, jm_i v2)] (by decide) (Nat.le_of_ble_eq_true rfl) rfl ?_
  refine jm_mrI (fun hm0 => ?_)
  refine jm_aload_n (pc := 0) 0 dX12_readNumber_0 rfl ?_
  refine jm_geti (pc := 1) 16 dX12_readNumber_1 fX12_163 (cR0 hg) rfl ?_
  refine jm_iconst (pc := 4) dX12_readNumber_4 ?_
  refine jm_icmp_eq (pc := 5) 14 dX12_readNumber_5 rfl (hm0 _ _) ⟨by decide, by decide⟩ (fun q => ?_) (fun q => ?_)
  · have h := h.1 q
    refine jm_aload_n (pc := 14) 0 dX12_readNumber_14 rfl ?_
    refine jm_aload_n (pc := 15) 0 dX12_readNumber_15 rfl ?_
    refine jm_geti (pc := 16) 17 dX12_readNumber_16 fX12_166 (cR0 hg) rfl ?_
    refine jm_iload_n (pc := 19) 1 dX12_readNumber_19 rfl ?_
    refine jm_iload_n (pc := 20) 2 dX12_readNumber_20 rfl ?_
    have hg1 := h.1
    have h := h.2
    have hg2 := h.1
    have h := h.2
    refine jm_inlvi (pc := 21) (As := [_, _, _]) (st := []) iX12_isIn dX12_readNumber_21 mX12_128 (cR0 hg) ⟨_, rfl, rfl⟩ rfl rfl (Nat.le_of_ble_eq_true rfl) (pX12_isIn hg (hm0 _ _) hg1 hg2 (fun q => jm_kIi ?_) (fun q => jm_kIi ?_))
    · have h := h.1 q
      refine jm_if_ne (pc := 24) 33 dX12_readNumber_24 rfl ⟨by decide, by decide⟩ (fun q => ?_) (fun q => absurd q (by decide))
      refine jm_aload_n (pc := 33) 0 dX12_readNumber_33 rfl ?_
      refine jm_geti (pc := 34) 17 dX12_readNumber_34 fX12_166 (cR0 hg) rfl ?_
      have h := h _ rfl
      refine jm_istore_n (pc := 37) (lv' := [(3, _), (0, _), (1, _), (2, _)]) dX12_readNumber_37 (by decide) rfl ?_
      refine jm_aload_n (pc := 38) 1 dX12_readNumber_38 rfl ?_
      refine jm_callvv (pc := 39) (As := []) (st := []) iX12_reads dX12_readNumber_39 mX12_200 (cR0 hg) ⟨_, rfl, rfl⟩ rfl rfl (Nat.le_of_ble_eq_true rfl) h (fun m4 h hm7 => ?_)
      refine jm_iload_n (pc := 42) 0 dX12_readNumber_42 rfl ?_
      exact jm_iret (pc := 43) dX12_readNumber_43 rfl h
    · have h := h.2 q
      refine jm_if_ne (pc := 24) 33 dX12_readNumber_24 rfl ⟨by decide, by decide⟩ (fun q => absurd q (by decide)) (fun q => ?_)
      refine jm_aload_n (pc := 27) 0 dX12_readNumber_27 rfl ?_
      refine jm_iconst (pc := 28) dX12_readNumber_28 ?_
      refine jm_inlvi (pc := 29) (As := [_]) (st := []) iX12_errs dX12_readNumber_29 mX12_194 (cR0 hg) ⟨_, rfl, rfl⟩ rfl rfl (Nat.le_of_ble_eq_true rfl) (pX12_errs hg ⟨by decide, by decide⟩ (jm_kIi ?_))
      have h := h _ rfl
      refine jm_mrI (fun hm9 => ?_)
      exact jm_iret (pc := 32) dX12_readNumber_32 rfl h
  · have h := h.2 q
    refine jm_aload_n (pc := 8) 0 dX12_readNumber_8 rfl ?_
    refine jm_iconst (pc := 9) dX12_readNumber_9 ?_
    refine jm_inlvi (pc := 10) (As := [_]) (st := []) iX12_errs dX12_readNumber_10 mX12_194 (cR0 hg) ⟨_, rfl, rfl⟩ rfl rfl (Nat.le_of_ble_eq_true rfl) (pX12_errs hg ⟨by decide, by decide⟩ (jm_kIi ?_))
    have h := h _ rfl
    refine jm_mrI (fun hm11 => ?_)
    exact jm_iret (pc := 13) dX12_readNumber_13 rfl h
theorem dX12_readMark_0 : decode cX12_readMark 0 = .ok (.aload_n 0, 1) := by decide +kernel
theorem dX12_readMark_1 : decode cX12_readMark 1 = .ok (.iload_n 1, 1) := by decide +kernel
theorem dX12_readMark_2 : decode cX12_readMark 2 = .ok (.invokevirtual 207, 3) := by decide +kernel
theorem dX12_readMark_5 : decode cX12_readMark 5 = .ok (.ifCond .ne 9, 3) := by decide +kernel
theorem dX12_readMark_8 : decode cX12_readMark 8 = .ok (.aload_n 0, 1) := by decide +kernel
theorem dX12_readMark_9 : decode cX12_readMark 9 = .ok (.iconst 1, 1) := by decide +kernel
theorem dX12_readMark_10 : decode cX12_readMark 10 = .ok (.invokevirtual 194, 3) := by decide +kernel
theorem dX12_readMark_13 : decode cX12_readMark 13 = .ok (.ireturn, 1) := by decide +kernel
theorem dX12_readMark_14 : decode cX12_readMark 14 = .ok (.aload_n 0, 1) := by decide +kernel
theorem dX12_readMark_15 : decode cX12_readMark 15 = .ok (.invokevirtual 200, 3) := by decide +kernel
theorem dX12_readMark_18 : decode cX12_readMark 18 = .ok (.iconst 0, 1) := by decide +kernel
theorem dX12_readMark_19 : decode cX12_readMark 19 = .ok (.ireturn, 1) := by decide +kernel
theorem eX12_readMark {l : Launch} {g : jm_G} {d : Nat} {v1 : Int} (hg : jm_HR g) {mu : jm_M} {Q : Option Value → jm_M → Prop} (h : jm_rg v1 ∧ ((mu.1 0 16) = 4 ∧ (mu.1 0 17) = v1 → jm_R l g (d + 1) iX12_reads [.ref 0] mu (jm_qv fun m2 => Q (some (jm_i 0)) m2)) ∧ (¬ ((mu.1 0 16) = 4 ∧ (mu.1 0 17) = v1) → ∀ m6, m6 = (jm_wr (jm_wr mu 0 31 1) 0 32 ((jm_wr mu 0 31 1).1 0 15)) → Q (some (jm_i (-1))) m6)) : jm_R l g (d + 2) iX12_readMark [.ref 0, jm_i v1] mu Q := by
  refine jm_enter [(0, .ref 0), (1, jm_i v1)] (by decide) (Nat.le_of_ble_eq_true rfl) rfl ?_
  refine jm_mrI (fun hm0 => ?_)
  refine jm_aload_n (pc := 0) 0 dX12_readMark_0 rfl ?_
  refine jm_iload_n (pc := 1) 1 dX12_readMark_1 rfl ?_
  have hg1 := h.1
  have h := h.2
  refine jm_inlvi (pc := 2) (As := [_]) (st := []) iX12_isSign dX12_readMark_2 mX12_207 (cR0 hg) ⟨_, rfl, rfl⟩ rfl rfl (Nat.le_of_ble_eq_true rfl) (pX12_isSign hg hg1 (fun q => jm_kIi ?_) (fun q => jm_kIi ?_))
  · have h := h.1 q
    refine jm_if_ne (pc := 5) 14 dX12_readMark_5 rfl ⟨by decide, by decide⟩ (fun q => ?_) (fun q => absurd q (by decide))
    refine jm_aload_n (pc := 14) 0 dX12_readMark_14 rfl ?_
    refine jm_callvv (pc := 15) (As := []) (st := []) iX12_reads dX12_readMark_15 mX12_200 (cR0 hg) ⟨_, rfl, rfl⟩ rfl rfl (Nat.le_of_ble_eq_true rfl) h (fun m2 h hm5 => ?_)
    refine jm_iconst (pc := 18) dX12_readMark_18 ?_
    exact jm_iret (pc := 19) dX12_readMark_19 rfl h
  · have h := h.2 q
    refine jm_if_ne (pc := 5) 14 dX12_readMark_5 rfl ⟨by decide, by decide⟩ (fun q => absurd q (by decide)) (fun q => ?_)
    refine jm_aload_n (pc := 8) 0 dX12_readMark_8 rfl ?_
    refine jm_iconst (pc := 9) dX12_readMark_9 ?_
    refine jm_inlvi (pc := 10) (As := [_]) (st := []) iX12_errs dX12_readMark_10 mX12_194 (cR0 hg) ⟨_, rfl, rfl⟩ rfl rfl (Nat.le_of_ble_eq_true rfl) (pX12_errs hg ⟨by decide, by decide⟩ (jm_kIi ?_))
    have h := h _ rfl
    refine jm_mrI (fun hm7 => ?_)
    exact jm_iret (pc := 13) dX12_readMark_13 rfl h
theorem dX12_readTold_0 : decode cX12_readTold 0 = .ok (.aload_n 0, 1) := by decide +kernel
theorem dX12_readTold_1 : decode cX12_readTold 1 = .ok (.iload_n 1, 1) := by decide +kernel
theorem dX12_readTold_2 : decode cX12_readTold 2 = .ok (.invokevirtual 222, 3) := by decide +kernel
theorem dX12_readTold_5 : decode cX12_readTold 5 = .ok (.ifCond .ne 9, 3) := by decide +kernel
theorem dX12_readTold_8 : decode cX12_readTold 8 = .ok (.aload_n 0, 1) := by decide +kernel
theorem dX12_readTold_9 : decode cX12_readTold 9 = .ok (.iconst 1, 1) := by decide +kernel
theorem dX12_readTold_10 : decode cX12_readTold 10 = .ok (.invokevirtual 194, 3) := by decide +kernel
theorem dX12_readTold_13 : decode cX12_readTold 13 = .ok (.ireturn, 1) := by decide +kernel
theorem dX12_readTold_14 : decode cX12_readTold 14 = .ok (.aload_n 0, 1) := by decide +kernel
theorem dX12_readTold_15 : decode cX12_readTold 15 = .ok (.invokevirtual 200, 3) := by decide +kernel
theorem dX12_readTold_18 : decode cX12_readTold 18 = .ok (.aload_n 0, 1) := by decide +kernel
theorem dX12_readTold_19 : decode cX12_readTold 19 = .ok (.iload_n 2, 1) := by decide +kernel
theorem dX12_readTold_20 : decode cX12_readTold 20 = .ok (.iload_n 3, 1) := by decide +kernel
theorem dX12_readTold_21 : decode cX12_readTold 21 = .ok (.invokevirtual 244, 3) := by decide +kernel
theorem dX12_readTold_24 : decode cX12_readTold 24 = .ok (.ireturn, 1) := by decide +kernel
theorem eX12_readTold {l : Launch} {g : jm_G} {d : Nat} {v1 v2 v3 : Int} (hg : jm_HR g) {mu : jm_M} {Q : Option Value → jm_M → Prop} (h : jm_rg v1 ∧ ((mu.1 0 16) = 2 ∧ (mu.1 0 17) = v1 → jm_R l g (d + 1) iX12_reads [.ref 0] mu (jm_qv fun m2 => jm_R l g (d + 1) iX12_readNumber [.ref 0, jm_i v2, jm_i v3] m2 (jm_qi fun z7 m6 => Q (some (jm_i z7)) m6))) ∧ (¬ ((mu.1 0 16) = 2 ∧ (mu.1 0 17) = v1) → ∀ m10, m10 = (jm_wr (jm_wr mu 0 31 1) 0 32 ((jm_wr mu 0 31 1).1 0 15)) → Q (some (jm_i (-1))) m10)) : jm_R l g (d + 2) iX12_readTold [.ref 0, jm_i v1, jm_i v2, jm_i v3] mu Q := by
  refine jm_enter [(0, .ref 0), (1, jm_i v1), (2, jm_i v2), (3, jm_i v3)] (by decide) (Nat.le_of_ble_eq_true rfl) rfl ?_
  refine jm_mrI (fun hm0 => ?_)
  refine jm_aload_n (pc := 0) 0 dX12_readTold_0 rfl ?_
  refine jm_iload_n (pc := 1) 1 dX12_readTold_1 rfl ?_
  have hg1 := h.1
  have h := h.2
  refine jm_inlvi (pc := 2) (As := [_]) (st := []) iX12_isWord dX12_readTold_2 mX12_222 (cR0 hg) ⟨_, rfl, rfl⟩ rfl rfl (Nat.le_of_ble_eq_true rfl) (pX12_isWord hg hg1 (fun q => jm_kIi ?_) (fun q => jm_kIi ?_))
  · have h := h.1 q
    refine jm_if_ne (pc := 5) 14 dX12_readTold_5 rfl ⟨by decide, by decide⟩ (fun q => ?_) (fun q => absurd q (by decide))
    refine jm_aload_n (pc := 14) 0 dX12_readTold_14 rfl ?_
    refine jm_callvv (pc := 15) (As := []) (st := []) iX12_reads dX12_readTold_15 mX12_200 (cR0 hg) ⟨_, rfl, rfl⟩ rfl rfl (Nat.le_of_ble_eq_true rfl) h (fun m2 h hm5 => ?_)
    refine jm_aload_n (pc := 18) 0 dX12_readTold_18 rfl ?_
    refine jm_iload_n (pc := 19) 2 dX12_readTold_19 rfl ?_
    refine jm_iload_n (pc := 20) 3 dX12_readTold_20 rfl ?_
    refine jm_callvi (pc := 21) (As := [_, _]) (st := []) iX12_readNumber dX12_readTold_21 mX12_244 (cR0 hg) ⟨_, rfl, rfl⟩ rfl rfl (Nat.le_of_ble_eq_true rfl) h (fun z7 m6 hz8 h hm9 => ?_)
    exact jm_iret (pc := 24) dX12_readTold_24 rfl h
  · have h := h.2 q
    refine jm_if_ne (pc := 5) 14 dX12_readTold_5 rfl ⟨by decide, by decide⟩ (fun q => absurd q (by decide)) (fun q => ?_)
    refine jm_aload_n (pc := 8) 0 dX12_readTold_8 rfl ?_
    refine jm_iconst (pc := 9) dX12_readTold_9 ?_
    refine jm_inlvi (pc := 10) (As := [_]) (st := []) iX12_errs dX12_readTold_10 mX12_194 (cR0 hg) ⟨_, rfl, rfl⟩ rfl rfl (Nat.le_of_ble_eq_true rfl) (pX12_errs hg ⟨by decide, by decide⟩ (jm_kIi ?_))
    have h := h _ rfl
    refine jm_mrI (fun hm11 => ?_)
    exact jm_iret (pc := 13) dX12_readTold_13 rfl h
theorem dX12_readStep_0 : decode cX12_readStep 0 = .ok (.aload_n 0, 1) := by decide +kernel
theorem dX12_readStep_1 : decode cX12_readStep 1 = .ok (.bipush 19, 2) := by decide +kernel
theorem dX12_readStep_3 : decode cX12_readStep 3 = .ok (.invokevirtual 222, 3) := by decide +kernel
theorem dX12_readStep_6 : decode cX12_readStep 6 = .ok (.istore_n 2, 1) := by decide +kernel
theorem dX12_readStep_7 : decode cX12_readStep 7 = .ok (.aload_n 0, 1) := by decide +kernel
theorem dX12_readStep_8 : decode cX12_readStep 8 = .ok (.bipush 21, 2) := by decide +kernel
theorem dX12_readStep_10 : decode cX12_readStep 10 = .ok (.invokevirtual 222, 3) := by decide +kernel
theorem dX12_readStep_13 : decode cX12_readStep 13 = .ok (.istore_n 3, 1) := by decide +kernel
theorem dX12_readStep_14 : decode cX12_readStep 14 = .ok (.aload_n 0, 1) := by decide +kernel
theorem dX12_readStep_15 : decode cX12_readStep 15 = .ok (.getfield 62, 3) := by decide +kernel
theorem dX12_readStep_18 : decode cX12_readStep 18 = .ok (.iload_n 1, 1) := by decide +kernel
theorem dX12_readStep_19 : decode cX12_readStep 19 = .ok (.iaload, 1) := by decide +kernel
theorem dX12_readStep_20 : decode cX12_readStep 20 = .ok (.bipush 7, 2) := by decide +kernel
theorem dX12_readStep_22 : decode cX12_readStep 22 = .ok (.if_icmp .le 9, 3) := by decide +kernel
theorem dX12_readStep_25 : decode cX12_readStep 25 = .ok (.aload_n 0, 1) := by decide +kernel
theorem dX12_readStep_26 : decode cX12_readStep 26 = .ok (.iconst 3, 1) := by decide +kernel
theorem dX12_readStep_27 : decode cX12_readStep 27 = .ok (.invokevirtual 194, 3) := by decide +kernel
theorem dX12_readStep_30 : decode cX12_readStep 30 = .ok (.ireturn, 1) := by decide +kernel
theorem dX12_readStep_31 : decode cX12_readStep 31 = .ok (.aload_n 0, 1) := by decide +kernel
theorem dX12_readStep_32 : decode cX12_readStep 32 = .ok (.invokevirtual 200, 3) := by decide +kernel
theorem dX12_readStep_35 : decode cX12_readStep 35 = .ok (.iload_n 3, 1) := by decide +kernel
theorem dX12_readStep_36 : decode cX12_readStep 36 = .ok (.ifCond .eq 7, 3) := by decide +kernel
theorem dX12_readStep_39 : decode cX12_readStep 39 = .ok (.iconst 0, 1) := by decide +kernel
theorem dX12_readStep_40 : decode cX12_readStep 40 = .ok (.goto 10, 3) := by decide +kernel
theorem dX12_readStep_43 : decode cX12_readStep 43 = .ok (.aload_n 0, 1) := by decide +kernel
theorem dX12_readStep_44 : decode cX12_readStep 44 = .ok (.iconst 1, 1) := by decide +kernel
theorem dX12_readStep_45 : decode cX12_readStep 45 = .ok (.bipush 24, 2) := by decide +kernel
theorem dX12_readStep_47 : decode cX12_readStep 47 = .ok (.invokevirtual 244, 3) := by decide +kernel
theorem dX12_readStep_50 : decode cX12_readStep 50 = .ok (.istore 4, 2) := by decide +kernel
theorem dX12_readStep_52 : decode cX12_readStep 52 = .ok (.iload 4, 2) := by decide +kernel
theorem dX12_readStep_54 : decode cX12_readStep 54 = .ok (.iconst (-1), 1) := by decide +kernel
theorem dX12_readStep_55 : decode cX12_readStep 55 = .ok (.if_icmp .ne 5, 3) := by decide +kernel
theorem dX12_readStep_58 : decode cX12_readStep 58 = .ok (.iconst (-1), 1) := by decide +kernel
theorem dX12_readStep_59 : decode cX12_readStep 59 = .ok (.ireturn, 1) := by decide +kernel
theorem dX12_readStep_60 : decode cX12_readStep 60 = .ok (.aload_n 0, 1) := by decide +kernel
theorem dX12_readStep_61 : decode cX12_readStep 61 = .ok (.getfield 62, 3) := by decide +kernel
theorem dX12_readStep_64 : decode cX12_readStep 64 = .ok (.iload_n 1, 1) := by decide +kernel
theorem dX12_readStep_65 : decode cX12_readStep 65 = .ok (.aload_n 0, 1) := by decide +kernel
theorem dX12_readStep_66 : decode cX12_readStep 66 = .ok (.getfield 62, 3) := by decide +kernel
theorem dX12_readStep_69 : decode cX12_readStep 69 = .ok (.iload_n 1, 1) := by decide +kernel
theorem dX12_readStep_70 : decode cX12_readStep 70 = .ok (.iaload, 1) := by decide +kernel
theorem dX12_readStep_71 : decode cX12_readStep 71 = .ok (.iadd, 1) := by decide +kernel
theorem dX12_readStep_72 : decode cX12_readStep 72 = .ok (.iload_n 2, 1) := by decide +kernel
theorem dX12_readStep_73 : decode cX12_readStep 73 = .ok (.ifCond .eq 8, 3) := by decide +kernel
theorem dX12_readStep_76 : decode cX12_readStep 76 = .ok (.iload 4, 2) := by decide +kernel
theorem dX12_readStep_78 : decode cX12_readStep 78 = .ok (.goto 6, 3) := by decide +kernel
theorem dX12_readStep_81 : decode cX12_readStep 81 = .ok (.iload 4, 2) := by decide +kernel
theorem dX12_readStep_83 : decode cX12_readStep 83 = .ok (.ineg, 1) := by decide +kernel
theorem dX12_readStep_84 : decode cX12_readStep 84 = .ok (.iastore, 1) := by decide +kernel
theorem dX12_readStep_85 : decode cX12_readStep 85 = .ok (.aload_n 0, 1) := by decide +kernel
theorem dX12_readStep_86 : decode cX12_readStep 86 = .ok (.getfield 62, 3) := by decide +kernel
theorem dX12_readStep_89 : decode cX12_readStep 89 = .ok (.iload_n 1, 1) := by decide +kernel
theorem dX12_readStep_90 : decode cX12_readStep 90 = .ok (.aload_n 0, 1) := by decide +kernel
theorem dX12_readStep_91 : decode cX12_readStep 91 = .ok (.getfield 62, 3) := by decide +kernel
theorem dX12_readStep_94 : decode cX12_readStep 94 = .ok (.iload_n 1, 1) := by decide +kernel
theorem dX12_readStep_95 : decode cX12_readStep 95 = .ok (.iaload, 1) := by decide +kernel
theorem dX12_readStep_96 : decode cX12_readStep 96 = .ok (.iconst 1, 1) := by decide +kernel
theorem dX12_readStep_97 : decode cX12_readStep 97 = .ok (.iadd, 1) := by decide +kernel
theorem dX12_readStep_98 : decode cX12_readStep 98 = .ok (.iastore, 1) := by decide +kernel
theorem dX12_readStep_99 : decode cX12_readStep 99 = .ok (.iconst 0, 1) := by decide +kernel
theorem dX12_readStep_100 : decode cX12_readStep 100 = .ok (.ireturn, 1) := by decide +kernel
theorem bX12_readStep_84 {l : Launch} {g : jm_G} {d : Nat} {v1 s0 s1 : Int} (hg : jm_HR g) {mu : jm_M} {Q : Option Value → jm_M → Prop} (h : (0 ≤ s1 ∧ s1 < 384) ∧ jm_rg s0 ∧ ∀ m3, m3 = jm_wr mu 17 s1 s0 → (0 ≤ v1 ∧ v1 < 384) ∧ jm_rg ((m3.1 17 v1) + 1) ∧ ∀ m7, m7 = jm_wr m3 17 v1 ((m3.1 17 v1) + 1) → Q (some (jm_i 0)) m7) : jm_V l g (d + 2) iX12_readStep 84 [(0, .ref 0), (1, jm_i v1)] [jm_i s0, jm_i s1, .ref 17] mu Q := by
  refine jm_mrI (fun hm0 => ?_)
  have hg1 := h.1
  have h := h.2
  have hg2 := h.1
  have h := h.2
  refine jm_iast (pc := 84) dX12_readStep_84 (cR17 hg) (by decide) hg1.1 hg1.2 hg2 ?_
  have h := h _ rfl
  refine jm_mrI (fun hm4 => ?_)
  refine jm_aload_n (pc := 85) 0 dX12_readStep_85 rfl ?_
  refine jm_getr (pc := 86) 36 dX12_readStep_86 fX12_62 (cR0 hg) rfl ?_
  refine jm_iload_n (pc := 89) 1 dX12_readStep_89 rfl ?_
  refine jm_aload_n (pc := 90) 0 dX12_readStep_90 rfl ?_
  refine jm_getr (pc := 91) 36 dX12_readStep_91 fX12_62 (cR0 hg) rfl ?_
  refine jm_iload_n (pc := 94) 1 dX12_readStep_94 rfl ?_
  have hg5 := h.1
  have h := h.2
  refine jm_iald (pc := 95) dX12_readStep_95 (cR17 hg) (by decide) hg5.1 hg5.2 ?_
  refine jm_iconst (pc := 96) dX12_readStep_96 ?_
  refine jm_iadd (pc := 97) dX12_readStep_97 ?_
  have hg6 := h.1
  have h := h.2
  refine jm_iast (pc := 98) dX12_readStep_98 (cR17 hg) (by decide) hg5.1 hg5.2 hg6 ?_
  have h := h _ rfl
  refine jm_mrI (fun hm8 => ?_)
  refine jm_iconst (pc := 99) dX12_readStep_99 ?_
  exact jm_iret (pc := 100) dX12_readStep_100 rfl h
theorem bX12_readStep_50 {l : Launch} {g : jm_G} {d : Nat} {v1 v2 s0 : Int} (hg : jm_HR g) {mu : jm_M} {Q : Option Value → jm_M → Prop} (h : jm_rg s0 ∧ (¬ s0 = (-1) → (0 ≤ v1 ∧ v1 < 384) ∧ jm_rg v2 ∧ (v2 = 0 → jm_V l g (d + 2) iX12_readStep 84 [(0, .ref 0), (1, jm_i v1)] [jm_i (-s0), jm_i (v1 + (mu.1 17 v1)), .ref 17] mu Q) ∧ (¬ v2 = 0 → jm_V l g (d + 2) iX12_readStep 84 [(0, .ref 0), (1, jm_i v1)] [jm_i s0, jm_i (v1 + (mu.1 17 v1)), .ref 17] mu Q)) ∧ (s0 = (-1) → Q (some (jm_i (-1))) mu)) : jm_V l g (d + 2) iX12_readStep 50 [(0, .ref 0), (1, jm_i v1), (2, jm_i v2)] [jm_i s0] mu Q := by
  refine jm_mrI (fun hm0 => ?_)
  refine jm_istore (pc := 50) (lv' := [(4, _), (0, _), (1, _), (2, _)]) dX12_readStep_50 (by decide) rfl ?_
  refine jm_iload (pc := 52) 0 dX12_readStep_52 rfl ?_
  refine jm_iconst (pc := 54) dX12_readStep_54 ?_
  have hg1 := h.1
  have h := h.2
  refine jm_icmp_ne (pc := 55) 60 dX12_readStep_55 rfl hg1 ⟨by decide, by decide⟩ (fun q => ?_) (fun q => ?_)
  · have h := h.1 q
    refine jm_aload_n (pc := 60) 1 dX12_readStep_60 rfl ?_
    refine jm_getr (pc := 61) 36 dX12_readStep_61 fX12_62 (cR0 hg) rfl ?_
    refine jm_iload_n (pc := 64) 2 dX12_readStep_64 rfl ?_
    refine jm_aload_n (pc := 65) 1 dX12_readStep_65 rfl ?_
    refine jm_getr (pc := 66) 36 dX12_readStep_66 fX12_62 (cR0 hg) rfl ?_
    refine jm_iload_n (pc := 69) 2 dX12_readStep_69 rfl ?_
    have hg2 := h.1
    have h := h.2
    refine jm_iald (pc := 70) dX12_readStep_70 (cR17 hg) (by decide) hg2.1 hg2.2 ?_
    refine jm_iadd (pc := 71) dX12_readStep_71 ?_
    refine jm_iload_n (pc := 72) 3 dX12_readStep_72 rfl ?_
    have hg3 := h.1
    have h := h.2
    refine jm_if_eq (pc := 73) 81 dX12_readStep_73 rfl hg3 (fun q => ?_) (fun q => ?_)
    · have h := h.1 q
      refine jm_iload (pc := 81) 0 dX12_readStep_81 rfl ?_
      refine jm_ineg (pc := 83) dX12_readStep_83 ?_
      exact jm_sub [1, 2] rfl h
    · have h := h.2 q
      refine jm_iload (pc := 76) 0 dX12_readStep_76 rfl ?_
      refine jm_goto (pc := 78) 84 dX12_readStep_78 rfl ?_
      exact jm_sub [1, 2] rfl h
  · have h := h.2 q
    refine jm_iconst (pc := 58) dX12_readStep_58 ?_
    exact jm_iret (pc := 59) dX12_readStep_59 rfl h
theorem eX12_readStep {l : Launch} {g : jm_G} {d : Nat} {v1 : Int} (hg : jm_HR g) {mu : jm_M} {Q : Option Value → jm_M → Prop} (h : ((mu.1 0 16) = 2 ∧ (mu.1 0 17) = 19 → ((mu.1 0 16) = 2 ∧ (mu.1 0 17) = 21 → (0 ≤ v1 ∧ v1 < 384) ∧ ((mu.1 17 v1) ≤ 7 → jm_R l g (d + 1) iX12_reads [.ref 0] mu (jm_qv fun m2 => jm_V l g (d + 2) iX12_readStep 50 [(0, .ref 0), (1, jm_i v1), (2, jm_i 1)] [jm_i 0] m2 Q)) ∧ (7 < (mu.1 17 v1) → ∀ m6, m6 = (jm_wr (jm_wr mu 0 31 3) 0 32 ((jm_wr mu 0 31 3).1 0 15)) → Q (some (jm_i (-1))) m6)) ∧ (¬ ((mu.1 0 16) = 2 ∧ (mu.1 0 17) = 21) → (0 ≤ v1 ∧ v1 < 384) ∧ ((mu.1 17 v1) ≤ 7 → jm_R l g (d + 1) iX12_reads [.ref 0] mu (jm_qv fun m9 => jm_R l g (d + 1) iX12_readNumber [.ref 0, jm_i 1, jm_i 24] m9 (jm_qi fun z14 m13 => jm_V l g (d + 2) iX12_readStep 50 [(0, .ref 0), (1, jm_i v1), (2, jm_i 1)] [jm_i z14] m13 Q))) ∧ (7 < (mu.1 17 v1) → ∀ m17, m17 = (jm_wr (jm_wr mu 0 31 3) 0 32 ((jm_wr mu 0 31 3).1 0 15)) → Q (some (jm_i (-1))) m17))) ∧ (¬ ((mu.1 0 16) = 2 ∧ (mu.1 0 17) = 19) → ((mu.1 0 16) = 2 ∧ (mu.1 0 17) = 21 → (0 ≤ v1 ∧ v1 < 384) ∧ ((mu.1 17 v1) ≤ 7 → jm_R l g (d + 1) iX12_reads [.ref 0] mu (jm_qv fun m20 => jm_V l g (d + 2) iX12_readStep 50 [(0, .ref 0), (1, jm_i v1), (2, jm_i 0)] [jm_i 0] m20 Q)) ∧ (7 < (mu.1 17 v1) → ∀ m24, m24 = (jm_wr (jm_wr mu 0 31 3) 0 32 ((jm_wr mu 0 31 3).1 0 15)) → Q (some (jm_i (-1))) m24)) ∧ (¬ ((mu.1 0 16) = 2 ∧ (mu.1 0 17) = 21) → (0 ≤ v1 ∧ v1 < 384) ∧ ((mu.1 17 v1) ≤ 7 → jm_R l g (d + 1) iX12_reads [.ref 0] mu (jm_qv fun m27 => jm_R l g (d + 1) iX12_readNumber [.ref 0, jm_i 1, jm_i 24] m27 (jm_qi fun z32 m31 => jm_V l g (d + 2) iX12_readStep 50 [(0, .ref 0), (1, jm_i v1), (2, jm_i 0)] [jm_i z32] m31 Q))) ∧ (7 < (mu.1 17 v1) → ∀ m35, m35 = (jm_wr (jm_wr mu 0 31 3) 0 32 ((jm_wr mu 0 31 3).1 0 15)) → Q (some (jm_i (-1))) m35)))) : jm_R l g (d + 2) iX12_readStep [.ref 0, jm_i v1] mu Q := by
  refine jm_enter [(0, .ref 0), (1, jm_i v1)] (by decide) (Nat.le_of_ble_eq_true rfl) rfl ?_
  refine jm_mrI (fun hm0 => ?_)
  refine jm_aload_n (pc := 0) 0 dX12_readStep_0 rfl ?_
  refine jm_bipush (pc := 1) dX12_readStep_1 (by decide) ?_
  refine jm_inlvi (pc := 3) (As := [_]) (st := []) iX12_isWord dX12_readStep_3 mX12_222 (cR0 hg) ⟨_, rfl, rfl⟩ rfl rfl (Nat.le_of_ble_eq_true rfl) (pX12_isWord hg ⟨by decide, by decide⟩ (fun q => jm_kIi ?_) (fun q => jm_kIi ?_))
  · have h := h.1 q
    refine jm_istore_n (pc := 6) (lv' := [(2, _), (0, _), (1, _)]) dX12_readStep_6 (by decide) rfl ?_
    refine jm_aload_n (pc := 7) 1 dX12_readStep_7 rfl ?_
    refine jm_bipush (pc := 8) dX12_readStep_8 (by decide) ?_
    refine jm_inlvi (pc := 10) (As := [_]) (st := []) iX12_isWord dX12_readStep_10 mX12_222 (cR0 hg) ⟨_, rfl, rfl⟩ rfl rfl (Nat.le_of_ble_eq_true rfl) (pX12_isWord hg ⟨by decide, by decide⟩ (fun q => jm_kIi ?_) (fun q => jm_kIi ?_))
    · have h := h.1 q
      refine jm_istore_n (pc := 13) (lv' := [(3, _), (2, _), (0, _), (1, _)]) dX12_readStep_13 (by decide) rfl ?_
      refine jm_aload_n (pc := 14) 2 dX12_readStep_14 rfl ?_
      refine jm_getr (pc := 15) 36 dX12_readStep_15 fX12_62 (cR0 hg) rfl ?_
      refine jm_iload_n (pc := 18) 3 dX12_readStep_18 rfl ?_
      have hg1 := h.1
      have h := h.2
      refine jm_iald (pc := 19) dX12_readStep_19 (cR17 hg) (by decide) hg1.1 hg1.2 ?_
      refine jm_bipush (pc := 20) dX12_readStep_20 (by decide) ?_
      refine jm_icmp_le (pc := 22) 31 dX12_readStep_22 rfl (hm0 _ _) ⟨by decide, by decide⟩ (fun q => ?_) (fun q => ?_)
      · have h := h.1 q
        refine jm_aload_n (pc := 31) 2 dX12_readStep_31 rfl ?_
        refine jm_callvv (pc := 32) (As := []) (st := []) iX12_reads dX12_readStep_32 mX12_200 (cR0 hg) ⟨_, rfl, rfl⟩ rfl rfl (Nat.le_of_ble_eq_true rfl) h (fun m2 h hm5 => ?_)
        refine jm_iload_n (pc := 35) 0 dX12_readStep_35 rfl ?_
        refine jm_if_eq (pc := 36) 43 dX12_readStep_36 rfl ⟨by decide, by decide⟩ (fun q => absurd q (by decide)) (fun q => ?_)
        refine jm_iconst (pc := 39) dX12_readStep_39 ?_
        refine jm_goto (pc := 40) 50 dX12_readStep_40 rfl ?_
        exact jm_sub [2, 3, 1] rfl h
      · have h := h.2 q
        refine jm_aload_n (pc := 25) 2 dX12_readStep_25 rfl ?_
        refine jm_iconst (pc := 26) dX12_readStep_26 ?_
        refine jm_inlvi (pc := 27) (As := [_]) (st := []) iX12_errs dX12_readStep_27 mX12_194 (cR0 hg) ⟨_, rfl, rfl⟩ rfl rfl (Nat.le_of_ble_eq_true rfl) (pX12_errs hg ⟨by decide, by decide⟩ (jm_kIi ?_))
        have h := h _ rfl
        refine jm_mrI (fun hm7 => ?_)
        exact jm_iret (pc := 30) dX12_readStep_30 rfl h
    · have h := h.2 q
      refine jm_istore_n (pc := 13) (lv' := [(3, _), (2, _), (0, _), (1, _)]) dX12_readStep_13 (by decide) rfl ?_
      refine jm_aload_n (pc := 14) 2 dX12_readStep_14 rfl ?_
      refine jm_getr (pc := 15) 36 dX12_readStep_15 fX12_62 (cR0 hg) rfl ?_
      refine jm_iload_n (pc := 18) 3 dX12_readStep_18 rfl ?_
      have hg8 := h.1
      have h := h.2
      refine jm_iald (pc := 19) dX12_readStep_19 (cR17 hg) (by decide) hg8.1 hg8.2 ?_
      refine jm_bipush (pc := 20) dX12_readStep_20 (by decide) ?_
      refine jm_icmp_le (pc := 22) 31 dX12_readStep_22 rfl (hm0 _ _) ⟨by decide, by decide⟩ (fun q => ?_) (fun q => ?_)
      · have h := h.1 q
        refine jm_aload_n (pc := 31) 2 dX12_readStep_31 rfl ?_
        refine jm_callvv (pc := 32) (As := []) (st := []) iX12_reads dX12_readStep_32 mX12_200 (cR0 hg) ⟨_, rfl, rfl⟩ rfl rfl (Nat.le_of_ble_eq_true rfl) h (fun m9 h hm12 => ?_)
        refine jm_iload_n (pc := 35) 0 dX12_readStep_35 rfl ?_
        refine jm_if_eq (pc := 36) 43 dX12_readStep_36 rfl ⟨by decide, by decide⟩ (fun q => ?_) (fun q => absurd q (by decide))
        refine jm_aload_n (pc := 43) 2 dX12_readStep_43 rfl ?_
        refine jm_iconst (pc := 44) dX12_readStep_44 ?_
        refine jm_bipush (pc := 45) dX12_readStep_45 (by decide) ?_
        refine jm_callvi (pc := 47) (As := [_, _]) (st := []) iX12_readNumber dX12_readStep_47 mX12_244 (cR0 hg) ⟨_, rfl, rfl⟩ rfl rfl (Nat.le_of_ble_eq_true rfl) h (fun z14 m13 hz15 h hm16 => ?_)
        exact jm_sub [2, 3, 1] rfl h
      · have h := h.2 q
        refine jm_aload_n (pc := 25) 2 dX12_readStep_25 rfl ?_
        refine jm_iconst (pc := 26) dX12_readStep_26 ?_
        refine jm_inlvi (pc := 27) (As := [_]) (st := []) iX12_errs dX12_readStep_27 mX12_194 (cR0 hg) ⟨_, rfl, rfl⟩ rfl rfl (Nat.le_of_ble_eq_true rfl) (pX12_errs hg ⟨by decide, by decide⟩ (jm_kIi ?_))
        have h := h _ rfl
        refine jm_mrI (fun hm18 => ?_)
        exact jm_iret (pc := 30) dX12_readStep_30 rfl h
  · have h := h.2 q
    refine jm_istore_n (pc := 6) (lv' := [(2, _), (0, _), (1, _)]) dX12_readStep_6 (by decide) rfl ?_
    refine jm_aload_n (pc := 7) 1 dX12_readStep_7 rfl ?_
    refine jm_bipush (pc := 8) dX12_readStep_8 (by decide) ?_
    refine jm_inlvi (pc := 10) (As := [_]) (st := []) iX12_isWord dX12_readStep_10 mX12_222 (cR0 hg) ⟨_, rfl, rfl⟩ rfl rfl (Nat.le_of_ble_eq_true rfl) (pX12_isWord hg ⟨by decide, by decide⟩ (fun q => jm_kIi ?_) (fun q => jm_kIi ?_))
    · have h := h.1 q
      refine jm_istore_n (pc := 13) (lv' := [(3, _), (2, _), (0, _), (1, _)]) dX12_readStep_13 (by decide) rfl ?_
      refine jm_aload_n (pc := 14) 2 dX12_readStep_14 rfl ?_
      refine jm_getr (pc := 15) 36 dX12_readStep_15 fX12_62 (cR0 hg) rfl ?_
      refine jm_iload_n (pc := 18) 3 dX12_readStep_18 rfl ?_
      have hg19 := h.1
      have h := h.2
      refine jm_iald (pc := 19) dX12_readStep_19 (cR17 hg) (by decide) hg19.1 hg19.2 ?_
      refine jm_bipush (pc := 20) dX12_readStep_20 (by decide) ?_
      refine jm_icmp_le (pc := 22) 31 dX12_readStep_22 rfl (hm0 _ _) ⟨by decide, by decide⟩ (fun q => ?_) (fun q => ?_)
      · have h := h.1 q
        refine jm_aload_n (pc := 31) 2 dX12_readStep_31 rfl ?_
        refine jm_callvv (pc := 32) (As := []) (st := []) iX12_reads dX12_readStep_32 mX12_200 (cR0 hg) ⟨_, rfl, rfl⟩ rfl rfl (Nat.le_of_ble_eq_true rfl) h (fun m20 h hm23 => ?_)
        refine jm_iload_n (pc := 35) 0 dX12_readStep_35 rfl ?_
        refine jm_if_eq (pc := 36) 43 dX12_readStep_36 rfl ⟨by decide, by decide⟩ (fun q => absurd q (by decide)) (fun q => ?_)
        refine jm_iconst (pc := 39) dX12_readStep_39 ?_
        refine jm_goto (pc := 40) 50 dX12_readStep_40 rfl ?_
        exact jm_sub [2, 3, 1] rfl h
      · have h := h.2 q
        refine jm_aload_n (pc := 25) 2 dX12_readStep_25 rfl ?_
        refine jm_iconst (pc := 26) dX12_readStep_26 ?_
        refine jm_inlvi (pc := 27) (As := [_]) (st := []) iX12_errs dX12_readStep_27 mX12_194 (cR0 hg) ⟨_, rfl, rfl⟩ rfl rfl (Nat.le_of_ble_eq_true rfl) (pX12_errs hg ⟨by decide, by decide⟩ (jm_kIi ?_))
        have h := h _ rfl
        refine jm_mrI (fun hm25 => ?_)
        exact jm_iret (pc := 30) dX12_readStep_30 rfl h
    · have h := h.2 q
      refine jm_istore_n (pc := 13) (lv' := [(3, _), (2, _), (0, _), (1, _)]) dX12_readStep_13 (by decide) rfl ?_
      refine jm_aload_n (pc := 14) 2 dX12_readStep_14 rfl ?_
      refine jm_getr (pc := 15) 36 dX12_readStep_15 fX12_62 (cR0 hg) rfl ?_
      refine jm_iload_n (pc := 18) 3 dX12_readStep_18 rfl ?_
      have hg26 := h.1
      have h := h.2
      refine jm_iald (pc := 19) dX12_readStep_19 (cR17 hg) (by decide) hg26.1 hg26.2 ?_
      refine jm_bipush (pc := 20) dX12_readStep_20 (by decide) ?_
      refine jm_icmp_le (pc := 22) 31 dX12_readStep_22 rfl (hm0 _ _) ⟨by decide, by decide⟩ (fun q => ?_) (fun q => ?_)
      · have h := h.1 q
        refine jm_aload_n (pc := 31) 2 dX12_readStep_31 rfl ?_
        refine jm_callvv (pc := 32) (As := []) (st := []) iX12_reads dX12_readStep_32 mX12_200 (cR0 hg) ⟨_, rfl, rfl⟩ rfl rfl (Nat.le_of_ble_eq_true rfl) h (fun m27 h hm30 => ?_)
        refine jm_iload_n (pc := 35) 0 dX12_readStep_35 rfl ?_
        refine jm_if_eq (pc := 36) 43 dX12_readStep_36 rfl ⟨by decide, by decide⟩ (fun q => ?_) (fun q => absurd q (by decide))
        refine jm_aload_n (pc := 43) 2 dX12_readStep_43 rfl ?_
        refine jm_iconst (pc := 44) dX12_readStep_44 ?_
        refine jm_bipush (pc := 45) dX12_readStep_45 (by decide) ?_
        refine jm_callvi (pc := 47) (As := [_, _]) (st := []) iX12_readNumber dX12_readStep_47 mX12_244 (cR0 hg) ⟨_, rfl, rfl⟩ rfl rfl (Nat.le_of_ble_eq_true rfl) h (fun z32 m31 hz33 h hm34 => ?_)
        exact jm_sub [2, 3, 1] rfl h
      · have h := h.2 q
        refine jm_aload_n (pc := 25) 2 dX12_readStep_25 rfl ?_
        refine jm_iconst (pc := 26) dX12_readStep_26 ?_
        refine jm_inlvi (pc := 27) (As := [_]) (st := []) iX12_errs dX12_readStep_27 mX12_194 (cR0 hg) ⟨_, rfl, rfl⟩ rfl rfl (Nat.le_of_ble_eq_true rfl) (pX12_errs hg ⟨by decide, by decide⟩ (jm_kIi ?_))
        have h := h _ rfl
        refine jm_mrI (fun hm36 => ?_)
        exact jm_iret (pc := 30) dX12_readStep_30 rfl h
theorem dX12_readMotive_0 : decode cX12_readMotive 0 = .ok (.aload_n 0, 1) := by decide +kernel
theorem dX12_readMotive_1 : decode cX12_readMotive 1 = .ok (.bipush 18, 2) := by decide +kernel
theorem dX12_readMotive_3 : decode cX12_readMotive 3 = .ok (.iconst 0, 1) := by decide +kernel
theorem dX12_readMotive_4 : decode cX12_readMotive 4 = .ok (.iconst 5, 1) := by decide +kernel
theorem dX12_readMotive_5 : decode cX12_readMotive 5 = .ok (.invokevirtual 247, 3) := by decide +kernel
theorem dX12_readMotive_8 : decode cX12_readMotive 8 = .ok (.istore_n 1, 1) := by decide +kernel
theorem dX12_readMotive_9 : decode cX12_readMotive 9 = .ok (.iload_n 1, 1) := by decide +kernel
theorem dX12_readMotive_10 : decode cX12_readMotive 10 = .ok (.iconst (-1), 1) := by decide +kernel
theorem dX12_readMotive_11 : decode cX12_readMotive 11 = .ok (.if_icmp .ne 5, 3) := by decide +kernel
theorem dX12_readMotive_14 : decode cX12_readMotive 14 = .ok (.iconst (-1), 1) := by decide +kernel
theorem dX12_readMotive_15 : decode cX12_readMotive 15 = .ok (.ireturn, 1) := by decide +kernel
theorem dX12_readMotive_16 : decode cX12_readMotive 16 = .ok (.aload_n 0, 1) := by decide +kernel
theorem dX12_readMotive_17 : decode cX12_readMotive 17 = .ok (.getfield 163, 3) := by decide +kernel
theorem dX12_readMotive_20 : decode cX12_readMotive 20 = .ok (.iconst 3, 1) := by decide +kernel
theorem dX12_readMotive_21 : decode cX12_readMotive 21 = .ok (.if_icmp .ne 10, 3) := by decide +kernel
theorem dX12_readMotive_24 : decode cX12_readMotive 24 = .ok (.aload_n 0, 1) := by decide +kernel
theorem dX12_readMotive_25 : decode cX12_readMotive 25 = .ok (.getfield 166, 3) := by decide +kernel
theorem dX12_readMotive_28 : decode cX12_readMotive 28 = .ok (.goto 4, 3) := by decide +kernel
theorem dX12_readMotive_31 : decode cX12_readMotive 31 = .ok (.iconst 0, 1) := by decide +kernel
theorem dX12_readMotive_32 : decode cX12_readMotive 32 = .ok (.istore_n 2, 1) := by decide +kernel
theorem dX12_readMotive_33 : decode cX12_readMotive 33 = .ok (.aload_n 0, 1) := by decide +kernel
theorem dX12_readMotive_34 : decode cX12_readMotive 34 = .ok (.getfield 163, 3) := by decide +kernel
theorem dX12_readMotive_37 : decode cX12_readMotive 37 = .ok (.iconst 3, 1) := by decide +kernel
theorem dX12_readMotive_38 : decode cX12_readMotive 38 = .ok (.if_icmp .ne 34, 3) := by decide +kernel
theorem dX12_readMotive_41 : decode cX12_readMotive 41 = .ok (.iload_n 2, 1) := by decide +kernel
theorem dX12_readMotive_42 : decode cX12_readMotive 42 = .ok (.iconst 4, 1) := by decide +kernel
theorem dX12_readMotive_43 : decode cX12_readMotive 43 = .ok (.if_icmp .ge 29, 3) := by decide +kernel
theorem dX12_readMotive_46 : decode cX12_readMotive 46 = .ok (.aload_n 0, 1) := by decide +kernel
theorem dX12_readMotive_47 : decode cX12_readMotive 47 = .ok (.getfield 62, 3) := by decide +kernel
theorem dX12_readMotive_50 : decode cX12_readMotive 50 = .ok (.sipush 192, 3) := by decide +kernel
theorem dX12_readMotive_53 : decode cX12_readMotive 53 = .ok (.bipush 8, 2) := by decide +kernel
theorem dX12_readMotive_55 : decode cX12_readMotive 55 = .ok (.iconst 4, 1) := by decide +kernel
theorem dX12_readMotive_56 : decode cX12_readMotive 56 = .ok (.iload_n 1, 1) := by decide +kernel
theorem dX12_readMotive_57 : decode cX12_readMotive 57 = .ok (.imul, 1) := by decide +kernel
theorem dX12_readMotive_58 : decode cX12_readMotive 58 = .ok (.iload_n 2, 1) := by decide +kernel
theorem dX12_readMotive_59 : decode cX12_readMotive 59 = .ok (.iadd, 1) := by decide +kernel
theorem dX12_readMotive_60 : decode cX12_readMotive 60 = .ok (.imul, 1) := by decide +kernel
theorem dX12_readMotive_61 : decode cX12_readMotive 61 = .ok (.iadd, 1) := by decide +kernel
theorem dX12_readMotive_62 : decode cX12_readMotive 62 = .ok (.iaload, 1) := by decide +kernel
theorem dX12_readMotive_63 : decode cX12_readMotive 63 = .ok (.ifCond .le 9, 3) := by decide +kernel
theorem dX12_readMotive_66 : decode cX12_readMotive 66 = .ok (.aload_n 0, 1) := by decide +kernel
theorem dX12_readMotive_67 : decode cX12_readMotive 67 = .ok (.iconst 2, 1) := by decide +kernel
theorem dX12_readMotive_68 : decode cX12_readMotive 68 = .ok (.invokevirtual 194, 3) := by decide +kernel
theorem dX12_readMotive_71 : decode cX12_readMotive 71 = .ok (.ireturn, 1) := by decide +kernel
theorem dX12_readMotive_72 : decode cX12_readMotive 72 = .ok (.aload_n 0, 1) := by decide +kernel
theorem dX12_readMotive_73 : decode cX12_readMotive 73 = .ok (.iconst 0, 1) := by decide +kernel
theorem dX12_readMotive_74 : decode cX12_readMotive 74 = .ok (.iconst 3, 1) := by decide +kernel
theorem dX12_readMotive_75 : decode cX12_readMotive 75 = .ok (.invokevirtual 244, 3) := by decide +kernel
theorem dX12_readMotive_78 : decode cX12_readMotive 78 = .ok (.iconst (-1), 1) := by decide +kernel
theorem dX12_readMotive_79 : decode cX12_readMotive 79 = .ok (.if_icmp .ne 5, 3) := by decide +kernel
theorem dX12_readMotive_82 : decode cX12_readMotive 82 = .ok (.iconst (-1), 1) := by decide +kernel
theorem dX12_readMotive_83 : decode cX12_readMotive 83 = .ok (.ireturn, 1) := by decide +kernel
theorem dX12_readMotive_84 : decode cX12_readMotive 84 = .ok (.sipush 192, 3) := by decide +kernel
theorem dX12_readMotive_87 : decode cX12_readMotive 87 = .ok (.bipush 8, 2) := by decide +kernel
theorem dX12_readMotive_89 : decode cX12_readMotive 89 = .ok (.iconst 4, 1) := by decide +kernel
theorem dX12_readMotive_90 : decode cX12_readMotive 90 = .ok (.iload_n 1, 1) := by decide +kernel
theorem dX12_readMotive_91 : decode cX12_readMotive 91 = .ok (.imul, 1) := by decide +kernel
theorem dX12_readMotive_92 : decode cX12_readMotive 92 = .ok (.iload_n 2, 1) := by decide +kernel
theorem dX12_readMotive_93 : decode cX12_readMotive 93 = .ok (.iadd, 1) := by decide +kernel
theorem dX12_readMotive_94 : decode cX12_readMotive 94 = .ok (.imul, 1) := by decide +kernel
theorem dX12_readMotive_95 : decode cX12_readMotive 95 = .ok (.iadd, 1) := by decide +kernel
theorem dX12_readMotive_96 : decode cX12_readMotive 96 = .ok (.istore_n 3, 1) := by decide +kernel
theorem dX12_readMotive_97 : decode cX12_readMotive 97 = .ok (.aload_n 0, 1) := by decide +kernel
theorem dX12_readMotive_98 : decode cX12_readMotive 98 = .ok (.getfield 62, 3) := by decide +kernel
theorem dX12_readMotive_101 : decode cX12_readMotive 101 = .ok (.iload_n 3, 1) := by decide +kernel
theorem dX12_readMotive_102 : decode cX12_readMotive 102 = .ok (.iconst 1, 1) := by decide +kernel
theorem dX12_readMotive_103 : decode cX12_readMotive 103 = .ok (.iastore, 1) := by decide +kernel
theorem dX12_readMotive_104 : decode cX12_readMotive 104 = .ok (.aload_n 0, 1) := by decide +kernel
theorem dX12_readMotive_105 : decode cX12_readMotive 105 = .ok (.bipush 19, 2) := by decide +kernel
theorem dX12_readMotive_107 : decode cX12_readMotive 107 = .ok (.invokevirtual 222, 3) := by decide +kernel
theorem dX12_readMotive_110 : decode cX12_readMotive 110 = .ok (.ifCond .ne 21, 3) := by decide +kernel
theorem dX12_readMotive_113 : decode cX12_readMotive 113 = .ok (.aload_n 0, 1) := by decide +kernel
theorem dX12_readMotive_114 : decode cX12_readMotive 114 = .ok (.bipush 20, 2) := by decide +kernel
theorem dX12_readMotive_116 : decode cX12_readMotive 116 = .ok (.invokevirtual 222, 3) := by decide +kernel
theorem dX12_readMotive_119 : decode cX12_readMotive 119 = .ok (.ifCond .ne 12, 3) := by decide +kernel
theorem dX12_readMotive_122 : decode cX12_readMotive 122 = .ok (.aload_n 0, 1) := by decide +kernel
theorem dX12_readMotive_123 : decode cX12_readMotive 123 = .ok (.bipush 21, 2) := by decide +kernel
theorem dX12_readMotive_125 : decode cX12_readMotive 125 = .ok (.invokevirtual 222, 3) := by decide +kernel
theorem dX12_readMotive_128 : decode cX12_readMotive 128 = .ok (.ifCond .eq 14, 3) := by decide +kernel
theorem dX12_readMotive_131 : decode cX12_readMotive 131 = .ok (.aload_n 0, 1) := by decide +kernel
theorem dX12_readMotive_132 : decode cX12_readMotive 132 = .ok (.iload_n 3, 1) := by decide +kernel
theorem dX12_readMotive_133 : decode cX12_readMotive 133 = .ok (.invokevirtual 250, 3) := by decide +kernel
theorem dX12_readMotive_136 : decode cX12_readMotive 136 = .ok (.iconst (-1), 1) := by decide +kernel
theorem dX12_readMotive_137 : decode cX12_readMotive 137 = .ok (.if_icmp .ne (-33), 3) := by decide +kernel
theorem dX12_readMotive_140 : decode cX12_readMotive 140 = .ok (.iconst (-1), 1) := by decide +kernel
theorem dX12_readMotive_141 : decode cX12_readMotive 141 = .ok (.ireturn, 1) := by decide +kernel
theorem dX12_readMotive_142 : decode cX12_readMotive 142 = .ok (.aload_n 0, 1) := by decide +kernel
theorem dX12_readMotive_143 : decode cX12_readMotive 143 = .ok (.bipush 59, 2) := by decide +kernel
theorem dX12_readMotive_145 : decode cX12_readMotive 145 = .ok (.invokevirtual 253, 3) := by decide +kernel
theorem dX12_readMotive_148 : decode cX12_readMotive 148 = .ok (.ireturn, 1) := by decide +kernel
theorem bX12_readMotive_131 {l : Launch} {g : jm_G} {d : Nat} {v3 : Int} (hg : jm_HR g) {mu : jm_M} {Q : Option Value → jm_M → Prop} (h : jm_R l g (d + 1) iX12_readStep [.ref 0, jm_i v3] mu (jm_qi fun z2 m1 => (¬ z2 = (-1) → jm_V l g (d + 2) iX12_readMotive 104 [(0, .ref 0), (3, jm_i v3)] [] m1 Q) ∧ (z2 = (-1) → Q (some (jm_i (-1))) m1))) : jm_V l g (d + 2) iX12_readMotive 131 [(0, .ref 0), (3, jm_i v3)] [] mu Q := by
  refine jm_mrI (fun hm0 => ?_)
  refine jm_aload_n (pc := 131) 0 dX12_readMotive_131 rfl ?_
  refine jm_iload_n (pc := 132) 1 dX12_readMotive_132 rfl ?_
  refine jm_callvi (pc := 133) (As := [_]) (st := []) iX12_readStep dX12_readMotive_133 mX12_250 (cR0 hg) ⟨_, rfl, rfl⟩ rfl rfl (Nat.le_of_ble_eq_true rfl) h (fun z2 m1 hz3 h hm4 => ?_)
  refine jm_iconst (pc := 136) dX12_readMotive_136 ?_
  refine jm_icmp_ne (pc := 137) 104 dX12_readMotive_137 rfl hz3 ⟨by decide, by decide⟩ (fun q => ?_) (fun q => ?_)
  · have h := h.1 q
    exact jm_sub [0, 1] rfl h
  · have h := h.2 q
    refine jm_iconst (pc := 140) dX12_readMotive_140 ?_
    exact jm_iret (pc := 141) dX12_readMotive_141 rfl h
theorem bX12_readMotive_104 {l : Launch} {g : jm_G} {d : Nat} {v3 : Int} (hg : jm_HR g) {mu : jm_M} {Q : Option Value → jm_M → Prop} (h : ((mu.1 0 16) = 2 ∧ (mu.1 0 17) = 19 → jm_V l g (d + 2) iX12_readMotive 131 [(0, .ref 0), (3, jm_i v3)] [] mu Q) ∧ (¬ ((mu.1 0 16) = 2 ∧ (mu.1 0 17) = 19) → ((mu.1 0 16) = 2 ∧ (mu.1 0 17) = 20 → jm_V l g (d + 2) iX12_readMotive 131 [(0, .ref 0), (3, jm_i v3)] [] mu Q) ∧ (¬ ((mu.1 0 16) = 2 ∧ (mu.1 0 17) = 20) → ((mu.1 0 16) = 2 ∧ (mu.1 0 17) = 21 → jm_V l g (d + 2) iX12_readMotive 131 [(0, .ref 0), (3, jm_i v3)] [] mu Q) ∧ (¬ ((mu.1 0 16) = 2 ∧ (mu.1 0 17) = 21) → jm_R l g (d + 1) iX12_readMark [.ref 0, jm_i 59] mu (jm_qi fun z2 m1 => Q (some (jm_i z2)) m1))))) : jm_V l g (d + 2) iX12_readMotive 104 [(0, .ref 0), (3, jm_i v3)] [] mu Q := by
  refine jm_mrI (fun hm0 => ?_)
  refine jm_aload_n (pc := 104) 0 dX12_readMotive_104 rfl ?_
  refine jm_bipush (pc := 105) dX12_readMotive_105 (by decide) ?_
  refine jm_inlvi (pc := 107) (As := [_]) (st := []) iX12_isWord dX12_readMotive_107 mX12_222 (cR0 hg) ⟨_, rfl, rfl⟩ rfl rfl (Nat.le_of_ble_eq_true rfl) (pX12_isWord hg ⟨by decide, by decide⟩ (fun q => jm_kIi ?_) (fun q => jm_kIi ?_))
  · have h := h.1 q
    refine jm_if_ne (pc := 110) 131 dX12_readMotive_110 rfl ⟨by decide, by decide⟩ (fun q => ?_) (fun q => absurd q (by decide))
    exact jm_sub [0, 1] rfl h
  · have h := h.2 q
    refine jm_if_ne (pc := 110) 131 dX12_readMotive_110 rfl ⟨by decide, by decide⟩ (fun q => absurd q (by decide)) (fun q => ?_)
    refine jm_aload_n (pc := 113) 0 dX12_readMotive_113 rfl ?_
    refine jm_bipush (pc := 114) dX12_readMotive_114 (by decide) ?_
    refine jm_inlvi (pc := 116) (As := [_]) (st := []) iX12_isWord dX12_readMotive_116 mX12_222 (cR0 hg) ⟨_, rfl, rfl⟩ rfl rfl (Nat.le_of_ble_eq_true rfl) (pX12_isWord hg ⟨by decide, by decide⟩ (fun q => jm_kIi ?_) (fun q => jm_kIi ?_))
    · have h := h.1 q
      refine jm_if_ne (pc := 119) 131 dX12_readMotive_119 rfl ⟨by decide, by decide⟩ (fun q => ?_) (fun q => absurd q (by decide))
      exact jm_sub [0, 1] rfl h
    · have h := h.2 q
      refine jm_if_ne (pc := 119) 131 dX12_readMotive_119 rfl ⟨by decide, by decide⟩ (fun q => absurd q (by decide)) (fun q => ?_)
      refine jm_aload_n (pc := 122) 0 dX12_readMotive_122 rfl ?_
      refine jm_bipush (pc := 123) dX12_readMotive_123 (by decide) ?_
      refine jm_inlvi (pc := 125) (As := [_]) (st := []) iX12_isWord dX12_readMotive_125 mX12_222 (cR0 hg) ⟨_, rfl, rfl⟩ rfl rfl (Nat.le_of_ble_eq_true rfl) (pX12_isWord hg ⟨by decide, by decide⟩ (fun q => jm_kIi ?_) (fun q => jm_kIi ?_))
      · have h := h.1 q
        refine jm_if_eq (pc := 128) 142 dX12_readMotive_128 rfl ⟨by decide, by decide⟩ (fun q => absurd q (by decide)) (fun q => ?_)
        exact jm_sub [0, 1] rfl h
      · have h := h.2 q
        refine jm_if_eq (pc := 128) 142 dX12_readMotive_128 rfl ⟨by decide, by decide⟩ (fun q => ?_) (fun q => absurd q (by decide))
        refine jm_aload_n (pc := 142) 0 dX12_readMotive_142 rfl ?_
        refine jm_bipush (pc := 143) dX12_readMotive_143 (by decide) ?_
        refine jm_callvi (pc := 145) (As := [_]) (st := []) iX12_readMark dX12_readMotive_145 mX12_253 (cR0 hg) ⟨_, rfl, rfl⟩ rfl rfl (Nat.le_of_ble_eq_true rfl) h (fun z2 m1 hz3 h hm4 => ?_)
        exact jm_iret (pc := 148) dX12_readMotive_148 rfl h
theorem bX12_readMotive_72 {l : Launch} {g : jm_G} {d : Nat} {v1 v2 : Int} (hg : jm_HR g) {mu : jm_M} {Q : Option Value → jm_M → Prop} (h : jm_R l g (d + 1) iX12_readNumber [.ref 0, jm_i 0, jm_i 3] mu (jm_qi fun z2 m1 => (¬ z2 = (-1) → ∀ x5, x5 = (192 + (8 * ((4 * v1) + v2))) → (0 ≤ x5 ∧ x5 < 384) ∧ ∀ m7, m7 = jm_wr m1 17 x5 1 → jm_V l g (d + 2) iX12_readMotive 104 [(0, .ref 0), (3, jm_i x5)] [] m7 Q) ∧ (z2 = (-1) → Q (some (jm_i (-1))) m1))) : jm_V l g (d + 2) iX12_readMotive 72 [(0, .ref 0), (1, jm_i v1), (2, jm_i v2)] [] mu Q := by
  refine jm_mrI (fun hm0 => ?_)
  refine jm_aload_n (pc := 72) 0 dX12_readMotive_72 rfl ?_
  refine jm_iconst (pc := 73) dX12_readMotive_73 ?_
  refine jm_iconst (pc := 74) dX12_readMotive_74 ?_
  refine jm_callvi (pc := 75) (As := [_, _]) (st := []) iX12_readNumber dX12_readMotive_75 mX12_244 (cR0 hg) ⟨_, rfl, rfl⟩ rfl rfl (Nat.le_of_ble_eq_true rfl) h (fun z2 m1 hz3 h hm4 => ?_)
  refine jm_iconst (pc := 78) dX12_readMotive_78 ?_
  refine jm_icmp_ne (pc := 79) 84 dX12_readMotive_79 rfl hz3 ⟨by decide, by decide⟩ (fun q => ?_) (fun q => ?_)
  · have h := h.1 q
    refine jm_sipush (pc := 84) dX12_readMotive_84 (by decide) ?_
    refine jm_bipush (pc := 87) dX12_readMotive_87 (by decide) ?_
    refine jm_iconst (pc := 89) dX12_readMotive_89 ?_
    refine jm_iload_n (pc := 90) 1 dX12_readMotive_90 rfl ?_
    refine jm_imul (pc := 91) dX12_readMotive_91 ?_
    refine jm_iload_n (pc := 92) 2 dX12_readMotive_92 rfl ?_
    refine jm_iadd (pc := 93) dX12_readMotive_93 ?_
    refine jm_imul (pc := 94) dX12_readMotive_94 ?_
    refine jm_iadd (pc := 95) dX12_readMotive_95 ?_
    have h := h _ rfl
    refine jm_istore_n (pc := 96) (lv' := [(3, _), (0, _), (1, _), (2, _)]) dX12_readMotive_96 (by decide) rfl ?_
    refine jm_aload_n (pc := 97) 1 dX12_readMotive_97 rfl ?_
    refine jm_getr (pc := 98) 36 dX12_readMotive_98 fX12_62 (cR0 hg) rfl ?_
    refine jm_iload_n (pc := 101) 0 dX12_readMotive_101 rfl ?_
    refine jm_iconst (pc := 102) dX12_readMotive_102 ?_
    have hg6 := h.1
    have h := h.2
    refine jm_iast (pc := 103) dX12_readMotive_103 (cR17 hg) (by decide) hg6.1 hg6.2 ⟨by decide, by decide⟩ ?_
    have h := h _ rfl
    refine jm_mrI (fun hm8 => ?_)
    exact jm_sub [1, 0] rfl h
  · have h := h.2 q
    refine jm_iconst (pc := 82) dX12_readMotive_82 ?_
    exact jm_iret (pc := 83) dX12_readMotive_83 rfl h
theorem bX12_readMotive_32 {l : Launch} {g : jm_G} {d : Nat} {v1 s0 : Int} (hg : jm_HR g) {mu : jm_M} {Q : Option Value → jm_M → Prop} (h : (¬ (mu.1 0 16) = 3 → jm_V l g (d + 2) iX12_readMotive 72 [(0, .ref 0), (1, jm_i v1), (2, jm_i s0)] [] mu Q) ∧ ((mu.1 0 16) = 3 → jm_rg s0 ∧ (4 ≤ s0 → jm_V l g (d + 2) iX12_readMotive 72 [(0, .ref 0), (1, jm_i v1), (2, jm_i s0)] [] mu Q) ∧ (s0 < 4 → (0 ≤ (192 + (8 * ((4 * v1) + s0))) ∧ (192 + (8 * ((4 * v1) + s0))) < 384) ∧ ((mu.1 17 (192 + (8 * ((4 * v1) + s0)))) ≤ 0 → jm_V l g (d + 2) iX12_readMotive 72 [(0, .ref 0), (1, jm_i v1), (2, jm_i s0)] [] mu Q) ∧ (0 < (mu.1 17 (192 + (8 * ((4 * v1) + s0)))) → ∀ m3, m3 = (jm_wr (jm_wr mu 0 31 2) 0 32 ((jm_wr mu 0 31 2).1 0 15)) → Q (some (jm_i (-1))) m3)))) : jm_V l g (d + 2) iX12_readMotive 32 [(0, .ref 0), (1, jm_i v1)] [jm_i s0] mu Q := by
  refine jm_mrI (fun hm0 => ?_)
  refine jm_istore_n (pc := 32) (lv' := [(2, _), (0, _), (1, _)]) dX12_readMotive_32 (by decide) rfl ?_
  refine jm_aload_n (pc := 33) 1 dX12_readMotive_33 rfl ?_
  refine jm_geti (pc := 34) 16 dX12_readMotive_34 fX12_163 (cR0 hg) rfl ?_
  refine jm_iconst (pc := 37) dX12_readMotive_37 ?_
  refine jm_icmp_ne (pc := 38) 72 dX12_readMotive_38 rfl (hm0 _ _) ⟨by decide, by decide⟩ (fun q => ?_) (fun q => ?_)
  · have h := h.1 q
    exact jm_sub [1, 2, 0] rfl h
  · have h := h.2 q
    refine jm_iload_n (pc := 41) 0 dX12_readMotive_41 rfl ?_
    refine jm_iconst (pc := 42) dX12_readMotive_42 ?_
    have hg1 := h.1
    have h := h.2
    refine jm_icmp_ge (pc := 43) 72 dX12_readMotive_43 rfl hg1 ⟨by decide, by decide⟩ (fun q => ?_) (fun q => ?_)
    · have h := h.1 q
      exact jm_sub [1, 2, 0] rfl h
    · have h := h.2 q
      refine jm_aload_n (pc := 46) 1 dX12_readMotive_46 rfl ?_
      refine jm_getr (pc := 47) 36 dX12_readMotive_47 fX12_62 (cR0 hg) rfl ?_
      refine jm_sipush (pc := 50) dX12_readMotive_50 (by decide) ?_
      refine jm_bipush (pc := 53) dX12_readMotive_53 (by decide) ?_
      refine jm_iconst (pc := 55) dX12_readMotive_55 ?_
      refine jm_iload_n (pc := 56) 2 dX12_readMotive_56 rfl ?_
      refine jm_imul (pc := 57) dX12_readMotive_57 ?_
      refine jm_iload_n (pc := 58) 0 dX12_readMotive_58 rfl ?_
      refine jm_iadd (pc := 59) dX12_readMotive_59 ?_
      refine jm_imul (pc := 60) dX12_readMotive_60 ?_
      refine jm_iadd (pc := 61) dX12_readMotive_61 ?_
      have hg2 := h.1
      have h := h.2
      refine jm_iald (pc := 62) dX12_readMotive_62 (cR17 hg) (by decide) hg2.1 hg2.2 ?_
      refine jm_if_le (pc := 63) 72 dX12_readMotive_63 rfl (hm0 _ _) (fun q => ?_) (fun q => ?_)
      · have h := h.1 q
        exact jm_sub [1, 2, 0] rfl h
      · have h := h.2 q
        refine jm_aload_n (pc := 66) 1 dX12_readMotive_66 rfl ?_
        refine jm_iconst (pc := 67) dX12_readMotive_67 ?_
        refine jm_inlvi (pc := 68) (As := [_]) (st := []) iX12_errs dX12_readMotive_68 mX12_194 (cR0 hg) ⟨_, rfl, rfl⟩ rfl rfl (Nat.le_of_ble_eq_true rfl) (pX12_errs hg ⟨by decide, by decide⟩ (jm_kIi ?_))
        have h := h _ rfl
        refine jm_mrI (fun hm4 => ?_)
        exact jm_iret (pc := 71) dX12_readMotive_71 rfl h
theorem eX12_readMotive {l : Launch} {g : jm_G} {d : Nat} (hg : jm_HR g) {mu : jm_M} {Q : Option Value → jm_M → Prop} (h : jm_R l g (d + 1) iX12_readTold [.ref 0, jm_i 18, jm_i 0, jm_i 5] mu (jm_qi fun z2 m1 => (¬ z2 = (-1) → (¬ (m1.1 0 16) = 3 → jm_V l g (d + 2) iX12_readMotive 32 [(0, .ref 0), (1, jm_i z2)] [jm_i 0] m1 Q) ∧ ((m1.1 0 16) = 3 → jm_V l g (d + 2) iX12_readMotive 32 [(0, .ref 0), (1, jm_i z2)] [jm_i (m1.1 0 17)] m1 Q)) ∧ (z2 = (-1) → Q (some (jm_i (-1))) m1))) : jm_R l g (d + 2) iX12_readMotive [.ref 0] mu Q := by
  refine jm_enter [(0, .ref 0)] (by decide) (Nat.le_of_ble_eq_true rfl) rfl ?_
  refine jm_mrI (fun hm0 => ?_)
  refine jm_aload_n (pc := 0) 0 dX12_readMotive_0 rfl ?_
  refine jm_bipush (pc := 1) dX12_readMotive_1 (by decide) ?_
  refine jm_iconst (pc := 3) dX12_readMotive_3 ?_
  refine jm_iconst (pc := 4) dX12_readMotive_4 ?_
  refine jm_callvi (pc := 5) (As := [_, _, _]) (st := []) iX12_readTold dX12_readMotive_5 mX12_247 (cR0 hg) ⟨_, rfl, rfl⟩ rfl rfl (Nat.le_of_ble_eq_true rfl) h (fun z2 m1 hz3 h hm4 => ?_)
  refine jm_istore_n (pc := 8) (lv' := [(1, _), (0, _)]) dX12_readMotive_8 (by decide) rfl ?_
  refine jm_iload_n (pc := 9) 0 dX12_readMotive_9 rfl ?_
  refine jm_iconst (pc := 10) dX12_readMotive_10 ?_
  refine jm_icmp_ne (pc := 11) 16 dX12_readMotive_11 rfl hz3 ⟨by decide, by decide⟩ (fun q => ?_) (fun q => ?_)
  · have h := h.1 q
    refine jm_aload_n (pc := 16) 1 dX12_readMotive_16 rfl ?_
    refine jm_geti (pc := 17) 16 dX12_readMotive_17 fX12_163 (cR0 hg) rfl ?_
    refine jm_iconst (pc := 20) dX12_readMotive_20 ?_
    refine jm_icmp_ne (pc := 21) 31 dX12_readMotive_21 rfl (hm4 _ _) ⟨by decide, by decide⟩ (fun q => ?_) (fun q => ?_)
    · have h := h.1 q
      refine jm_iconst (pc := 31) dX12_readMotive_31 ?_
      exact jm_sub [1, 0] rfl h
    · have h := h.2 q
      refine jm_aload_n (pc := 24) 1 dX12_readMotive_24 rfl ?_
      refine jm_geti (pc := 25) 17 dX12_readMotive_25 fX12_166 (cR0 hg) rfl ?_
      refine jm_goto (pc := 28) 32 dX12_readMotive_28 rfl ?_
      exact jm_sub [1, 0] rfl h
  · have h := h.2 q
    refine jm_iconst (pc := 14) dX12_readMotive_14 ?_
    exact jm_iret (pc := 15) dX12_readMotive_15 rfl h
theorem dX12_readMotives_0 : decode cX12_readMotives 0 = .ok (.iconst 0, 1) := by decide +kernel
theorem dX12_readMotives_1 : decode cX12_readMotives 1 = .ok (.istore_n 1, 1) := by decide +kernel
theorem dX12_readMotives_2 : decode cX12_readMotives 2 = .ok (.iload_n 1, 1) := by decide +kernel
theorem dX12_readMotives_3 : decode cX12_readMotives 3 = .ok (.sipush 192, 3) := by decide +kernel
theorem dX12_readMotives_6 : decode cX12_readMotives 6 = .ok (.if_icmp .ge 20, 3) := by decide +kernel
theorem dX12_readMotives_9 : decode cX12_readMotives 9 = .ok (.aload_n 0, 1) := by decide +kernel
theorem dX12_readMotives_10 : decode cX12_readMotives 10 = .ok (.getfield 62, 3) := by decide +kernel
theorem dX12_readMotives_13 : decode cX12_readMotives 13 = .ok (.sipush 192, 3) := by decide +kernel
theorem dX12_readMotives_16 : decode cX12_readMotives 16 = .ok (.iload_n 1, 1) := by decide +kernel
theorem dX12_readMotives_17 : decode cX12_readMotives 17 = .ok (.iadd, 1) := by decide +kernel
theorem dX12_readMotives_18 : decode cX12_readMotives 18 = .ok (.iconst 0, 1) := by decide +kernel
theorem dX12_readMotives_19 : decode cX12_readMotives 19 = .ok (.iastore, 1) := by decide +kernel
theorem dX12_readMotives_20 : decode cX12_readMotives 20 = .ok (.iinc 1 1, 3) := by decide +kernel
theorem dX12_readMotives_23 : decode cX12_readMotives 23 = .ok (.goto (-21), 3) := by decide +kernel
theorem dX12_readMotives_26 : decode cX12_readMotives 26 = .ok (.iconst 0, 1) := by decide +kernel
theorem dX12_readMotives_27 : decode cX12_readMotives 27 = .ok (.istore_n 1, 1) := by decide +kernel
theorem dX12_readMotives_28 : decode cX12_readMotives 28 = .ok (.aload_n 0, 1) := by decide +kernel
theorem dX12_readMotives_29 : decode cX12_readMotives 29 = .ok (.bipush 18, 2) := by decide +kernel
theorem dX12_readMotives_31 : decode cX12_readMotives 31 = .ok (.invokevirtual 222, 3) := by decide +kernel
theorem dX12_readMotives_34 : decode cX12_readMotives 34 = .ok (.ifCond .eq 32, 3) := by decide +kernel
theorem dX12_readMotives_37 : decode cX12_readMotives 37 = .ok (.iload_n 1, 1) := by decide +kernel
theorem dX12_readMotives_38 : decode cX12_readMotives 38 = .ok (.bipush 16, 2) := by decide +kernel
theorem dX12_readMotives_40 : decode cX12_readMotives 40 = .ok (.if_icmp .ne 9, 3) := by decide +kernel
theorem dX12_readMotives_43 : decode cX12_readMotives 43 = .ok (.aload_n 0, 1) := by decide +kernel
theorem dX12_readMotives_44 : decode cX12_readMotives 44 = .ok (.iconst 3, 1) := by decide +kernel
theorem dX12_readMotives_45 : decode cX12_readMotives 45 = .ok (.invokevirtual 194, 3) := by decide +kernel
theorem dX12_readMotives_48 : decode cX12_readMotives 48 = .ok (.ireturn, 1) := by decide +kernel
theorem dX12_readMotives_49 : decode cX12_readMotives 49 = .ok (.aload_n 0, 1) := by decide +kernel
theorem dX12_readMotives_50 : decode cX12_readMotives 50 = .ok (.invokevirtual 256, 3) := by decide +kernel
theorem dX12_readMotives_53 : decode cX12_readMotives 53 = .ok (.iconst (-1), 1) := by decide +kernel
theorem dX12_readMotives_54 : decode cX12_readMotives 54 = .ok (.if_icmp .ne 5, 3) := by decide +kernel
theorem dX12_readMotives_57 : decode cX12_readMotives 57 = .ok (.iconst (-1), 1) := by decide +kernel
theorem dX12_readMotives_58 : decode cX12_readMotives 58 = .ok (.ireturn, 1) := by decide +kernel
theorem dX12_readMotives_59 : decode cX12_readMotives 59 = .ok (.iload_n 1, 1) := by decide +kernel
theorem dX12_readMotives_60 : decode cX12_readMotives 60 = .ok (.iconst 1, 1) := by decide +kernel
theorem dX12_readMotives_61 : decode cX12_readMotives 61 = .ok (.iadd, 1) := by decide +kernel
theorem dX12_readMotives_62 : decode cX12_readMotives 62 = .ok (.istore_n 1, 1) := by decide +kernel
theorem dX12_readMotives_63 : decode cX12_readMotives 63 = .ok (.goto (-35), 3) := by decide +kernel
theorem dX12_readMotives_66 : decode cX12_readMotives 66 = .ok (.aload_n 0, 1) := by decide +kernel
theorem dX12_readMotives_67 : decode cX12_readMotives 67 = .ok (.getfield 163, 3) := by decide +kernel
theorem dX12_readMotives_70 : decode cX12_readMotives 70 = .ok (.ifCond .ne 7, 3) := by decide +kernel
theorem dX12_readMotives_73 : decode cX12_readMotives 73 = .ok (.iload_n 1, 1) := by decide +kernel
theorem dX12_readMotives_74 : decode cX12_readMotives 74 = .ok (.goto 8, 3) := by decide +kernel
theorem dX12_readMotives_77 : decode cX12_readMotives 77 = .ok (.aload_n 0, 1) := by decide +kernel
theorem dX12_readMotives_78 : decode cX12_readMotives 78 = .ok (.iconst 1, 1) := by decide +kernel
theorem dX12_readMotives_79 : decode cX12_readMotives 79 = .ok (.invokevirtual 194, 3) := by decide +kernel
theorem dX12_readMotives_82 : decode cX12_readMotives 82 = .ok (.ireturn, 1) := by decide +kernel
theorem bX12_readMotives_28 {l : Launch} {g : jm_G} {d : Nat} {v1 : Int} (hg : jm_HR g) {mu : jm_M} {Q : Option Value → jm_M → Prop} (h : ((mu.1 0 16) = 2 ∧ (mu.1 0 17) = 18 → jm_rg v1 ∧ (¬ v1 = 16 → jm_R l g (d + 1) iX12_readMotive [.ref 0] mu (jm_qi fun z3 m2 => (¬ z3 = (-1) → ∀ x6, x6 = (v1 + 1) → jm_V l g (d + 2) iX12_readMotives 28 [(0, .ref 0), (1, jm_i x6)] [] m2 Q) ∧ (z3 = (-1) → Q (some (jm_i (-1))) m2))) ∧ (v1 = 16 → ∀ m7, m7 = (jm_wr (jm_wr mu 0 31 3) 0 32 ((jm_wr mu 0 31 3).1 0 15)) → Q (some (jm_i (-1))) m7)) ∧ (¬ ((mu.1 0 16) = 2 ∧ (mu.1 0 17) = 18) → (¬ (mu.1 0 16) = 0 → ∀ m9, m9 = (jm_wr (jm_wr mu 0 31 1) 0 32 ((jm_wr mu 0 31 1).1 0 15)) → Q (some (jm_i (-1))) m9) ∧ ((mu.1 0 16) = 0 → Q (some (jm_i v1)) mu))) : jm_V l g (d + 2) iX12_readMotives 28 [(0, .ref 0), (1, jm_i v1)] [] mu Q := by
  refine jm_mrI (fun hm0 => ?_)
  refine jm_aload_n (pc := 28) 0 dX12_readMotives_28 rfl ?_
  refine jm_bipush (pc := 29) dX12_readMotives_29 (by decide) ?_
  refine jm_inlvi (pc := 31) (As := [_]) (st := []) iX12_isWord dX12_readMotives_31 mX12_222 (cR0 hg) ⟨_, rfl, rfl⟩ rfl rfl (Nat.le_of_ble_eq_true rfl) (pX12_isWord hg ⟨by decide, by decide⟩ (fun q => jm_kIi ?_) (fun q => jm_kIi ?_))
  · have h := h.1 q
    refine jm_if_eq (pc := 34) 66 dX12_readMotives_34 rfl ⟨by decide, by decide⟩ (fun q => absurd q (by decide)) (fun q => ?_)
    refine jm_iload_n (pc := 37) 1 dX12_readMotives_37 rfl ?_
    refine jm_bipush (pc := 38) dX12_readMotives_38 (by decide) ?_
    have hg1 := h.1
    have h := h.2
    refine jm_icmp_ne (pc := 40) 49 dX12_readMotives_40 rfl hg1 ⟨by decide, by decide⟩ (fun q => ?_) (fun q => ?_)
    · have h := h.1 q
      refine jm_aload_n (pc := 49) 0 dX12_readMotives_49 rfl ?_
      refine jm_callvi (pc := 50) (As := []) (st := []) iX12_readMotive dX12_readMotives_50 mX12_256 (cR0 hg) ⟨_, rfl, rfl⟩ rfl rfl (Nat.le_of_ble_eq_true rfl) h (fun z3 m2 hz4 h hm5 => ?_)
      refine jm_iconst (pc := 53) dX12_readMotives_53 ?_
      refine jm_icmp_ne (pc := 54) 59 dX12_readMotives_54 rfl hz4 ⟨by decide, by decide⟩ (fun q => ?_) (fun q => ?_)
      · have h := h.1 q
        refine jm_iload_n (pc := 59) 1 dX12_readMotives_59 rfl ?_
        refine jm_iconst (pc := 60) dX12_readMotives_60 ?_
        refine jm_iadd (pc := 61) dX12_readMotives_61 ?_
        have h := h _ rfl
        refine jm_istore_n (pc := 62) (lv' := [(1, _), (0, _)]) dX12_readMotives_62 (by decide) rfl ?_
        refine jm_goto (pc := 63) 28 dX12_readMotives_63 rfl ?_
        exact jm_sub [1, 0] rfl h
      · have h := h.2 q
        refine jm_iconst (pc := 57) dX12_readMotives_57 ?_
        exact jm_iret (pc := 58) dX12_readMotives_58 rfl h
    · have h := h.2 q
      refine jm_aload_n (pc := 43) 0 dX12_readMotives_43 rfl ?_
      refine jm_iconst (pc := 44) dX12_readMotives_44 ?_
      refine jm_inlvi (pc := 45) (As := [_]) (st := []) iX12_errs dX12_readMotives_45 mX12_194 (cR0 hg) ⟨_, rfl, rfl⟩ rfl rfl (Nat.le_of_ble_eq_true rfl) (pX12_errs hg ⟨by decide, by decide⟩ (jm_kIi ?_))
      have h := h _ rfl
      refine jm_mrI (fun hm8 => ?_)
      exact jm_iret (pc := 48) dX12_readMotives_48 rfl h
  · have h := h.2 q
    refine jm_if_eq (pc := 34) 66 dX12_readMotives_34 rfl ⟨by decide, by decide⟩ (fun q => ?_) (fun q => absurd q (by decide))
    refine jm_aload_n (pc := 66) 0 dX12_readMotives_66 rfl ?_
    refine jm_geti (pc := 67) 16 dX12_readMotives_67 fX12_163 (cR0 hg) rfl ?_
    refine jm_if_ne (pc := 70) 77 dX12_readMotives_70 rfl (hm0 _ _) (fun q => ?_) (fun q => ?_)
    · have h := h.1 q
      refine jm_aload_n (pc := 77) 0 dX12_readMotives_77 rfl ?_
      refine jm_iconst (pc := 78) dX12_readMotives_78 ?_
      refine jm_inlvi (pc := 79) (As := [_]) (st := []) iX12_errs dX12_readMotives_79 mX12_194 (cR0 hg) ⟨_, rfl, rfl⟩ rfl rfl (Nat.le_of_ble_eq_true rfl) (pX12_errs hg ⟨by decide, by decide⟩ (jm_kIi ?_))
      have h := h _ rfl
      refine jm_mrI (fun hm10 => ?_)
      exact jm_iret (pc := 82) dX12_readMotives_82 rfl h
    · have h := h.2 q
      refine jm_iload_n (pc := 73) 1 dX12_readMotives_73 rfl ?_
      refine jm_goto (pc := 74) 82 dX12_readMotives_74 rfl ?_
      exact jm_iret (pc := 82) dX12_readMotives_82 rfl h
theorem bX12_readMotives_2 {l : Launch} {g : jm_G} {d : Nat} {v1 : Int} (hg : jm_HR g) {mu : jm_M} {Q : Option Value → jm_M → Prop} (h : jm_rg v1 ∧ (192 ≤ v1 → jm_V l g (d + 2) iX12_readMotives 28 [(0, .ref 0), (1, jm_i 0)] [] mu Q) ∧ (v1 < 192 → (0 ≤ (192 + v1) ∧ (192 + v1) < 384) ∧ ∀ m3, m3 = jm_wr mu 17 (192 + v1) 0 → jm_V l g (d + 2) iX12_readMotives 2 [(0, .ref 0), (1, jm_i (v1 + 1))] [] m3 Q)) : jm_V l g (d + 2) iX12_readMotives 2 [(0, .ref 0), (1, jm_i v1)] [] mu Q := by
  refine jm_mrI (fun hm0 => ?_)
  refine jm_iload_n (pc := 2) 1 dX12_readMotives_2 rfl ?_
  refine jm_sipush (pc := 3) dX12_readMotives_3 (by decide) ?_
  have hg1 := h.1
  have h := h.2
  refine jm_icmp_ge (pc := 6) 26 dX12_readMotives_6 rfl hg1 ⟨by decide, by decide⟩ (fun q => ?_) (fun q => ?_)
  · have h := h.1 q
    refine jm_iconst (pc := 26) dX12_readMotives_26 ?_
    refine jm_istore_n (pc := 27) (lv' := [(1, _), (0, _)]) dX12_readMotives_27 (by decide) rfl ?_
    exact jm_sub [1, 0] rfl h
  · have h := h.2 q
    refine jm_aload_n (pc := 9) 0 dX12_readMotives_9 rfl ?_
    refine jm_getr (pc := 10) 36 dX12_readMotives_10 fX12_62 (cR0 hg) rfl ?_
    refine jm_sipush (pc := 13) dX12_readMotives_13 (by decide) ?_
    refine jm_iload_n (pc := 16) 1 dX12_readMotives_16 rfl ?_
    refine jm_iadd (pc := 17) dX12_readMotives_17 ?_
    refine jm_iconst (pc := 18) dX12_readMotives_18 ?_
    have hg2 := h.1
    have h := h.2
    refine jm_iast (pc := 19) dX12_readMotives_19 (cR17 hg) (by decide) hg2.1 hg2.2 ⟨by decide, by decide⟩ ?_
    have h := h _ rfl
    refine jm_mrI (fun hm4 => ?_)
    refine jm_iinc (pc := 20) (lv' := [(1, _), (0, _)]) 1 dX12_readMotives_20 rfl (by decide) rfl ?_
    refine jm_goto (pc := 23) 2 dX12_readMotives_23 rfl ?_
    exact jm_sub [1, 0] rfl h
theorem eX12_readMotives {l : Launch} {g : jm_G} {d : Nat} (hg : jm_HR g) {mu : jm_M} {Q : Option Value → jm_M → Prop} (h : jm_V l g (d + 2) iX12_readMotives 2 [(0, .ref 0), (1, jm_i 0)] [] mu Q) : jm_R l g (d + 2) iX12_readMotives [.ref 0] mu Q := by
  refine jm_enter [(0, .ref 0)] (by decide) (Nat.le_of_ble_eq_true rfl) rfl ?_
  refine jm_mrI (fun hm0 => ?_)
  refine jm_iconst (pc := 0) dX12_readMotives_0 ?_
  refine jm_istore_n (pc := 1) (lv' := [(1, _), (0, _)]) dX12_readMotives_1 (by decide) rfl ?_
  exact jm_sub [1, 0] rfl h
