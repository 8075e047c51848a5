theorem dX12_best_0 : decode cX12_best 0 = .ok (.aload_n 0, 1) := by decide +kernel
theorem dX12_best_1 : decode cX12_best 1 = .ok (.iconst 0, 1) := by decide +kernel
theorem dX12_best_2 : decode cX12_best 2 = .ok (.putfield 104, 3) := by decide +kernel
theorem dX12_best_5 : decode cX12_best 5 = .ok (.aload_n 0, 1) := by decide +kernel
theorem dX12_best_6 : decode cX12_best 6 = .ok (.iload_n 1, 1) := by decide +kernel
theorem dX12_best_7 : decode cX12_best 7 = .ok (.invokevirtual 132, 3) := by decide +kernel
theorem dX12_best_10 : decode cX12_best 10 = .ok (.ifCond .eq 40, 3) := by decide +kernel
theorem dX12_best_13 : decode cX12_best 13 = .ok (.aload_n 0, 1) := by decide +kernel
theorem dX12_best_14 : decode cX12_best 14 = .ok (.iload_n 2, 1) := by decide +kernel
theorem dX12_best_15 : decode cX12_best 15 = .ok (.invokevirtual 136, 3) := by decide +kernel
theorem dX12_best_18 : decode cX12_best 18 = .ok (.ifCond .eq 32, 3) := by decide +kernel
theorem dX12_best_21 : decode cX12_best 21 = .ok (.aload_n 0, 1) := by decide +kernel
theorem dX12_best_22 : decode cX12_best 22 = .ok (.iload_n 3, 1) := by decide +kernel
theorem dX12_best_23 : decode cX12_best 23 = .ok (.invokevirtual 385, 3) := by decide +kernel
theorem dX12_best_26 : decode cX12_best 26 = .ok (.ifCond .eq 24, 3) := by decide +kernel
theorem dX12_best_29 : decode cX12_best 29 = .ok (.aload_n 0, 1) := by decide +kernel
theorem dX12_best_30 : decode cX12_best 30 = .ok (.iload 4, 2) := by decide +kernel
theorem dX12_best_32 : decode cX12_best 32 = .ok (.iconst 0, 1) := by decide +kernel
theorem dX12_best_33 : decode cX12_best 33 = .ok (.iconst 1, 1) := by decide +kernel
theorem dX12_best_34 : decode cX12_best 34 = .ok (.invokevirtual 128, 3) := by decide +kernel
theorem dX12_best_37 : decode cX12_best 37 = .ok (.ifCond .eq 13, 3) := by decide +kernel
theorem dX12_best_40 : decode cX12_best 40 = .ok (.aload_n 0, 1) := by decide +kernel
theorem dX12_best_41 : decode cX12_best 41 = .ok (.iload_n 1, 1) := by decide +kernel
theorem dX12_best_42 : decode cX12_best 42 = .ok (.iload_n 2, 1) := by decide +kernel
theorem dX12_best_43 : decode cX12_best 43 = .ok (.invokevirtual 344, 3) := by decide +kernel
theorem dX12_best_46 : decode cX12_best 46 = .ok (.iconst (-1), 1) := by decide +kernel
theorem dX12_best_47 : decode cX12_best 47 = .ok (.if_icmp .ne 5, 3) := by decide +kernel
theorem dX12_best_50 : decode cX12_best 50 = .ok (.iconst (-1), 1) := by decide +kernel
theorem dX12_best_51 : decode cX12_best 51 = .ok (.ireturn, 1) := by decide +kernel
theorem dX12_best_52 : decode cX12_best 52 = .ok (.iconst (-1), 1) := by decide +kernel
theorem dX12_best_53 : decode cX12_best 53 = .ok (.istore 5, 2) := by decide +kernel
theorem dX12_best_55 : decode cX12_best 55 = .ok (.iconst (-1), 1) := by decide +kernel
theorem dX12_best_56 : decode cX12_best 56 = .ok (.istore 6, 2) := by decide +kernel
theorem dX12_best_58 : decode cX12_best 58 = .ok (.iconst 0, 1) := by decide +kernel
theorem dX12_best_59 : decode cX12_best 59 = .ok (.istore 7, 2) := by decide +kernel
theorem dX12_best_61 : decode cX12_best 61 = .ok (.iload 7, 2) := by decide +kernel
theorem dX12_best_63 : decode cX12_best 63 = .ok (.bipush 60, 2) := by decide +kernel
theorem dX12_best_65 : decode cX12_best 65 = .ok (.if_icmp .ge 64, 3) := by decide +kernel
theorem dX12_best_68 : decode cX12_best 68 = .ok (.aload_n 0, 1) := by decide +kernel
theorem dX12_best_69 : decode cX12_best 69 = .ok (.iload_n 1, 1) := by decide +kernel
theorem dX12_best_70 : decode cX12_best 70 = .ok (.iload_n 2, 1) := by decide +kernel
theorem dX12_best_71 : decode cX12_best 71 = .ok (.iload 7, 2) := by decide +kernel
theorem dX12_best_73 : decode cX12_best 73 = .ok (.invokevirtual 351, 3) := by decide +kernel
theorem dX12_best_76 : decode cX12_best 76 = .ok (.ifCond .ne 6, 3) := by decide +kernel
theorem dX12_best_79 : decode cX12_best 79 = .ok (.goto 44, 3) := by decide +kernel
theorem dX12_best_82 : decode cX12_best 82 = .ok (.aload_n 0, 1) := by decide +kernel
theorem dX12_best_83 : decode cX12_best 83 = .ok (.aload_n 0, 1) := by decide +kernel
theorem dX12_best_84 : decode cX12_best 84 = .ok (.iload_n 1, 1) := by decide +kernel
theorem dX12_best_85 : decode cX12_best 85 = .ok (.iload_n 2, 1) := by decide +kernel
theorem dX12_best_86 : decode cX12_best 86 = .ok (.invokevirtual 344, 3) := by decide +kernel
theorem dX12_best_89 : decode cX12_best 89 = .ok (.iload 7, 2) := by decide +kernel
theorem dX12_best_91 : decode cX12_best 91 = .ok (.iload_n 3, 1) := by decide +kernel
theorem dX12_best_92 : decode cX12_best 92 = .ok (.invokevirtual 444, 3) := by decide +kernel
theorem dX12_best_95 : decode cX12_best 95 = .ok (.istore 8, 2) := by decide +kernel
theorem dX12_best_97 : decode cX12_best 97 = .ok (.iload 8, 2) := by decide +kernel
theorem dX12_best_99 : decode cX12_best 99 = .ok (.iload 6, 2) := by decide +kernel
theorem dX12_best_101 : decode cX12_best 101 = .ok (.if_icmp .le 8, 3) := by decide +kernel
theorem dX12_best_104 : decode cX12_best 104 = .ok (.iload 7, 2) := by decide +kernel
theorem dX12_best_106 : decode cX12_best 106 = .ok (.goto 5, 3) := by decide +kernel
theorem dX12_best_109 : decode cX12_best 109 = .ok (.iload 5, 2) := by decide +kernel
theorem dX12_best_111 : decode cX12_best 111 = .ok (.istore 5, 2) := by decide +kernel
theorem dX12_best_113 : decode cX12_best 113 = .ok (.aload_n 0, 1) := by decide +kernel
theorem dX12_best_114 : decode cX12_best 114 = .ok (.iload 6, 2) := by decide +kernel
theorem dX12_best_116 : decode cX12_best 116 = .ok (.iload 8, 2) := by decide +kernel
theorem dX12_best_118 : decode cX12_best 118 = .ok (.invokevirtual 447, 3) := by decide +kernel
theorem dX12_best_121 : decode cX12_best 121 = .ok (.istore 6, 2) := by decide +kernel
theorem dX12_best_123 : decode cX12_best 123 = .ok (.iinc 7 1, 3) := by decide +kernel
theorem dX12_best_126 : decode cX12_best 126 = .ok (.goto (-65), 3) := by decide +kernel
theorem dX12_best_129 : decode cX12_best 129 = .ok (.iload 4, 2) := by decide +kernel
theorem dX12_best_131 : decode cX12_best 131 = .ok (.ifCond .ne 8, 3) := by decide +kernel
theorem dX12_best_134 : decode cX12_best 134 = .ok (.iload 5, 2) := by decide +kernel
theorem dX12_best_136 : decode cX12_best 136 = .ok (.goto 5, 3) := by decide +kernel
theorem dX12_best_139 : decode cX12_best 139 = .ok (.iload 6, 2) := by decide +kernel
theorem dX12_best_141 : decode cX12_best 141 = .ok (.ireturn, 1) := by decide +kernel
theorem bX12_best_111 {l : Launch} {g : jm_G} {d : Nat} {v1 v2 v3 v4 v6 v7 v8 s0 : Int} (hg : jm_HR g) {mu : jm_M} {Q : Option Value → jm_M → Prop} (h : jm_R l g (d + 1) iX12_greater [.ref 0, jm_i v6, jm_i v8] mu (jm_qi fun z2 m1 => jm_V l g (d + 2) iX12_best 61 [(0, .ref 0), (1, jm_i v1), (2, jm_i v2), (3, jm_i v3), (4, jm_i v4), (5, jm_i s0), (6, jm_i z2), (7, jm_i (v7 + 1))] [] m1 Q)) : jm_V l g (d + 2) iX12_best 111 [(0, .ref 0), (1, jm_i v1), (2, jm_i v2), (3, jm_i v3), (4, jm_i v4), (6, jm_i v6), (7, jm_i v7), (8, jm_i v8)] [jm_i s0] mu Q := by
  refine jm_mrI (fun hm0 => ?_)
  refine jm_istore (pc := 111) (lv' := [(5, _), (0, _), (1, _), (2, _), (3, _), (4, _), (6, _), (7, _), (8, _)]) dX12_best_111 (by decide) rfl ?_
  refine jm_aload_n (pc := 113) 1 dX12_best_113 rfl ?_
  refine jm_iload (pc := 114) 6 dX12_best_114 rfl ?_
  refine jm_iload (pc := 116) 8 dX12_best_116 rfl ?_
  refine jm_callvi (pc := 118) (As := [_, _]) (st := []) iX12_greater dX12_best_118 mX12_447 (cR0 hg) ⟨_, rfl, rfl⟩ rfl rfl (Nat.le_of_ble_eq_true rfl) h (fun z2 m1 hz3 h hm4 => ?_)
  refine jm_istore (pc := 121) (lv' := [(6, _), (5, _), (0, _), (1, _), (2, _), (3, _), (4, _), (7, _), (8, _)]) dX12_best_121 (by decide) rfl ?_
  refine jm_iinc (pc := 123) (lv' := [(7, _), (6, _), (5, _), (0, _), (1, _), (2, _), (3, _), (4, _), (8, _)]) 7 dX12_best_123 rfl (by decide) rfl ?_
  refine jm_goto (pc := 126) 61 dX12_best_126 rfl ?_
  exact jm_sub [3, 4, 5, 6, 7, 2, 1, 0] rfl h
theorem bX12_best_61 {l : Launch} {g : jm_G} {d : Nat} {v1 v2 v3 v4 v5 v6 v7 : Int} (hg : jm_HR g) {mu : jm_M} {Q : Option Value → jm_M → Prop} (h : jm_rg v7 ∧ (60 ≤ v7 → jm_rg v4 ∧ (¬ v4 = 0 → Q (some (jm_i v6)) mu) ∧ (v4 = 0 → Q (some (jm_i v5)) mu)) ∧ (v7 < 60 → jm_R l g (d + 1) iX12_isSung [.ref 0, jm_i v1, jm_i v2, jm_i v7] mu (jm_qi fun z4 m3 => (¬ z4 = 0 → jm_R l g (d + 1) iX12_motiveOf [.ref 0, jm_i v1, jm_i v2] m3 (jm_qi fun z8 m7 => jm_R l g (d + 1) iX12_soundsWith [.ref 0, jm_i z8, jm_i v7, jm_i v3] m7 (jm_qi fun z12 m11 => jm_rg v6 ∧ (z12 ≤ v6 → jm_V l g (d + 2) iX12_best 111 [(0, .ref 0), (1, jm_i v1), (2, jm_i v2), (3, jm_i v3), (4, jm_i v4), (6, jm_i v6), (7, jm_i v7), (8, jm_i z12)] [jm_i v5] m11 Q) ∧ (v6 < z12 → jm_V l g (d + 2) iX12_best 111 [(0, .ref 0), (1, jm_i v1), (2, jm_i v2), (3, jm_i v3), (4, jm_i v4), (6, jm_i v6), (7, jm_i v7), (8, jm_i z12)] [jm_i v7] m11 Q)))) ∧ (z4 = 0 → jm_V l g (d + 2) iX12_best 61 [(0, .ref 0), (1, jm_i v1), (2, jm_i v2), (3, jm_i v3), (4, jm_i v4), (5, jm_i v5), (6, jm_i v6), (7, jm_i (v7 + 1))] [] m3 Q)))) : jm_V l g (d + 2) iX12_best 61 [(0, .ref 0), (1, jm_i v1), (2, jm_i v2), (3, jm_i v3), (4, jm_i v4), (5, jm_i v5), (6, jm_i v6), (7, jm_i v7)] [] mu Q := by
  refine jm_mrI (fun hm0 => ?_)
  refine jm_iload (pc := 61) 7 dX12_best_61 rfl ?_
  refine jm_bipush (pc := 63) dX12_best_63 (by decide) ?_
  have hg1 := h.1
  have h := h.2
  refine jm_icmp_ge (pc := 65) 129 dX12_best_65 rfl hg1 ⟨by decide, by decide⟩ (fun q => ?_) (fun q => ?_)
  · have h := h.1 q
    refine jm_iload (pc := 129) 4 dX12_best_129 rfl ?_
    have hg2 := h.1
    have h := h.2
    refine jm_if_ne (pc := 131) 139 dX12_best_131 rfl hg2 (fun q => ?_) (fun q => ?_)
    · have h := h.1 q
      refine jm_iload (pc := 139) 6 dX12_best_139 rfl ?_
      exact jm_iret (pc := 141) dX12_best_141 rfl h
    · have h := h.2 q
      refine jm_iload (pc := 134) 5 dX12_best_134 rfl ?_
      refine jm_goto (pc := 136) 141 dX12_best_136 rfl ?_
      exact jm_iret (pc := 141) dX12_best_141 rfl h
  · have h := h.2 q
    refine jm_aload_n (pc := 68) 0 dX12_best_68 rfl ?_
    refine jm_iload_n (pc := 69) 1 dX12_best_69 rfl ?_
    refine jm_iload_n (pc := 70) 2 dX12_best_70 rfl ?_
    refine jm_iload (pc := 71) 7 dX12_best_71 rfl ?_
    refine jm_callvi (pc := 73) (As := [_, _, _]) (st := []) iX12_isSung dX12_best_73 mX12_351 (cR0 hg) ⟨_, rfl, rfl⟩ rfl rfl (Nat.le_of_ble_eq_true rfl) h (fun z4 m3 hz5 h hm6 => ?_)
    refine jm_if_ne (pc := 76) 82 dX12_best_76 rfl hz5 (fun q => ?_) (fun q => ?_)
    · have h := h.1 q
      refine jm_aload_n (pc := 82) 0 dX12_best_82 rfl ?_
      refine jm_aload_n (pc := 83) 0 dX12_best_83 rfl ?_
      refine jm_iload_n (pc := 84) 1 dX12_best_84 rfl ?_
      refine jm_iload_n (pc := 85) 2 dX12_best_85 rfl ?_
      refine jm_callvi (pc := 86) (As := [_, _]) (st := [_]) iX12_motiveOf dX12_best_86 mX12_344 (cR0 hg) ⟨_, rfl, rfl⟩ rfl rfl (Nat.le_of_ble_eq_true rfl) h (fun z8 m7 hz9 h hm10 => ?_)
      refine jm_iload (pc := 89) 7 dX12_best_89 rfl ?_
      refine jm_iload_n (pc := 91) 3 dX12_best_91 rfl ?_
      refine jm_callvi (pc := 92) (As := [_, _, _]) (st := []) iX12_soundsWith dX12_best_92 mX12_444 (cR0 hg) ⟨_, rfl, rfl⟩ rfl rfl (Nat.le_of_ble_eq_true rfl) h (fun z12 m11 hz13 h hm14 => ?_)
      refine jm_istore (pc := 95) (lv' := [(8, _), (0, _), (1, _), (2, _), (3, _), (4, _), (5, _), (6, _), (7, _)]) dX12_best_95 (by decide) rfl ?_
      refine jm_iload (pc := 97) 0 dX12_best_97 rfl ?_
      refine jm_iload (pc := 99) 7 dX12_best_99 rfl ?_
      have hg15 := h.1
      have h := h.2
      refine jm_icmp_le (pc := 101) 109 dX12_best_101 rfl hz13 hg15 (fun q => ?_) (fun q => ?_)
      · have h := h.1 q
        refine jm_iload (pc := 109) 6 dX12_best_109 rfl ?_
        exact jm_sub [1, 2, 3, 4, 5, 7, 8, 0] rfl h
      · have h := h.2 q
        refine jm_iload (pc := 104) 8 dX12_best_104 rfl ?_
        refine jm_goto (pc := 106) 111 dX12_best_106 rfl ?_
        exact jm_sub [1, 2, 3, 4, 5, 7, 8, 0] rfl h
    · have h := h.2 q
      refine jm_goto (pc := 79) 123 dX12_best_79 rfl ?_
      refine jm_iinc (pc := 123) (lv' := [(7, _), (0, _), (1, _), (2, _), (3, _), (4, _), (5, _), (6, _)]) 7 dX12_best_123 rfl (by decide) rfl ?_
      refine jm_goto (pc := 126) 61 dX12_best_126 rfl ?_
      exact jm_sub [1, 2, 3, 4, 5, 6, 7, 0] rfl h
theorem eX12_best {l : Launch} {g : jm_G} {d : Nat} {v1 v2 v3 v4 : Int} (hg : jm_HR g) {mu : jm_M} {Q : Option Value → jm_M → Prop} (h : ∀ m1, m1 = jm_wr mu 0 0 0 → jm_rg v1 ∧ (0 ≤ v1 ∧ v1 < (m1.1 0 4) → jm_rg v2 ∧ (0 ≤ v2 ∧ v2 < 6 → jm_rg v3 ∧ (0 ≤ v3 ∧ v3 < (m1.1 1 4) → jm_rg v4 ∧ (0 ≤ v4 ∧ v4 ≤ 1 → jm_R l g (d + 1) iX12_motiveOf [.ref 0, jm_i v1, jm_i v2] m1 (jm_qi fun z8 m7 => (¬ z8 = (-1) → jm_V l g (d + 2) iX12_best 61 [(0, .ref 0), (1, jm_i v1), (2, jm_i v2), (3, jm_i v3), (4, jm_i v4), (5, jm_i (-1)), (6, jm_i (-1)), (7, jm_i 0)] [] m7 Q) ∧ (z8 = (-1) → Q (some (jm_i (-1))) m7))) ∧ (¬ (0 ≤ v4 ∧ v4 ≤ 1) → Q (some (jm_i (-1))) m1)) ∧ (¬ (0 ≤ v3 ∧ v3 < (m1.1 1 4)) → Q (some (jm_i (-1))) m1)) ∧ (¬ (0 ≤ v2 ∧ v2 < 6) → Q (some (jm_i (-1))) m1)) ∧ (¬ (0 ≤ v1 ∧ v1 < (m1.1 0 4)) → Q (some (jm_i (-1))) m1)) : jm_R l g (d + 2) iX12_best [.ref 0, jm_i v1, jm_i v2, jm_i v3, jm_i v4] mu Q := by
  refine jm_enter [(0, .ref 0), (1, jm_i v1), (2, jm_i v2), (3, jm_i v3), (4, jm_i v4)] (by decide) (Nat.le_of_ble_eq_true rfl) rfl ?_
  refine jm_mrI (fun hm0 => ?_)
  refine jm_aload_n (pc := 0) 0 dX12_best_0 rfl ?_
  refine jm_iconst (pc := 1) dX12_best_1 ?_
  refine jm_put (pc := 2) 0 dX12_best_2 fX12_104 ftX12 (fun q h => by cases h; rfl) (jm_nI _) (jm_fI _) (cR0 hg) rfl ⟨by decide, by decide⟩ ?_
  have h := h _ rfl
  refine jm_mrI (fun hm2 => ?_)
  refine jm_aload_n (pc := 5) 0 dX12_best_5 rfl ?_
  refine jm_iload_n (pc := 6) 1 dX12_best_6 rfl ?_
  have hg3 := h.1
  have h := h.2
  refine jm_inlvi (pc := 7) (As := [_]) (st := []) iX12_isWitness dX12_best_7 mX12_132 (cR0 hg) ⟨_, rfl, rfl⟩ rfl rfl (Nat.le_of_ble_eq_true rfl) (pX12_isWitness hg hg3 (fun q => jm_kIi ?_) (fun q => jm_kIi ?_))
  · have h := h.1 q
    refine jm_if_eq (pc := 10) 50 dX12_best_10 rfl ⟨by decide, by decide⟩ (fun q => absurd q (by decide)) (fun q => ?_)
    refine jm_aload_n (pc := 13) 0 dX12_best_13 rfl ?_
    refine jm_iload_n (pc := 14) 2 dX12_best_14 rfl ?_
    have hg4 := h.1
    have h := h.2
    refine jm_inlvi (pc := 15) (As := [_]) (st := []) iX12_isFact dX12_best_15 mX12_136 (cR0 hg) ⟨_, rfl, rfl⟩ rfl rfl (Nat.le_of_ble_eq_true rfl) (pX12_isFact hg hg4 (fun q => jm_kIi ?_) (fun q => jm_kIi ?_))
    · have h := h.1 q
      refine jm_if_eq (pc := 18) 50 dX12_best_18 rfl ⟨by decide, by decide⟩ (fun q => absurd q (by decide)) (fun q => ?_)
      refine jm_aload_n (pc := 21) 0 dX12_best_21 rfl ?_
      refine jm_iload_n (pc := 22) 3 dX12_best_22 rfl ?_
      have hg5 := h.1
      have h := h.2
      refine jm_inlvi (pc := 23) (As := [_]) (st := []) iX12_isTestimony dX12_best_23 mX12_385 (cR0 hg) ⟨_, rfl, rfl⟩ rfl rfl (Nat.le_of_ble_eq_true rfl) (pX12_isTestimony hg hg5 (fun q => jm_kIi ?_) (fun q => jm_kIi ?_))
      · have h := h.1 q
        refine jm_if_eq (pc := 26) 50 dX12_best_26 rfl ⟨by decide, by decide⟩ (fun q => absurd q (by decide)) (fun q => ?_)
        refine jm_aload_n (pc := 29) 0 dX12_best_29 rfl ?_
        refine jm_iload (pc := 30) 4 dX12_best_30 rfl ?_
        refine jm_iconst (pc := 32) dX12_best_32 ?_
        refine jm_iconst (pc := 33) dX12_best_33 ?_
        have hg6 := h.1
        have h := h.2
        refine jm_inlvi (pc := 34) (As := [_, _, _]) (st := []) iX12_isIn dX12_best_34 mX12_128 (cR0 hg) ⟨_, rfl, rfl⟩ rfl rfl (Nat.le_of_ble_eq_true rfl) (pX12_isIn hg hg6 ⟨by decide, by decide⟩ ⟨by decide, by decide⟩ (fun q => jm_kIi ?_) (fun q => jm_kIi ?_))
        · have h := h.1 q
          refine jm_if_eq (pc := 37) 50 dX12_best_37 rfl ⟨by decide, by decide⟩ (fun q => absurd q (by decide)) (fun q => ?_)
          refine jm_aload_n (pc := 40) 0 dX12_best_40 rfl ?_
          refine jm_iload_n (pc := 41) 1 dX12_best_41 rfl ?_
          refine jm_iload_n (pc := 42) 2 dX12_best_42 rfl ?_
          refine jm_callvi (pc := 43) (As := [_, _]) (st := []) iX12_motiveOf dX12_best_43 mX12_344 (cR0 hg) ⟨_, rfl, rfl⟩ rfl rfl (Nat.le_of_ble_eq_true rfl) h (fun z8 m7 hz9 h hm10 => ?_)
          refine jm_iconst (pc := 46) dX12_best_46 ?_
          refine jm_icmp_ne (pc := 47) 52 dX12_best_47 rfl hz9 ⟨by decide, by decide⟩ (fun q => ?_) (fun q => ?_)
          · have h := h.1 q
            refine jm_iconst (pc := 52) dX12_best_52 ?_
            refine jm_istore (pc := 53) (lv' := [(5, _), (0, _), (1, _), (2, _), (3, _), (4, _)]) dX12_best_53 (by decide) rfl ?_
            refine jm_iconst (pc := 55) dX12_best_55 ?_
            refine jm_istore (pc := 56) (lv' := [(6, _), (5, _), (0, _), (1, _), (2, _), (3, _), (4, _)]) dX12_best_56 (by decide) rfl ?_
            refine jm_iconst (pc := 58) dX12_best_58 ?_
            refine jm_istore (pc := 59) (lv' := [(7, _), (6, _), (5, _), (0, _), (1, _), (2, _), (3, _), (4, _)]) dX12_best_59 (by decide) rfl ?_
            exact jm_sub [3, 4, 5, 6, 7, 2, 1, 0] rfl h
          · have h := h.2 q
            refine jm_iconst (pc := 50) dX12_best_50 ?_
            exact jm_iret (pc := 51) dX12_best_51 rfl h
        · have h := h.2 q
          refine jm_if_eq (pc := 37) 50 dX12_best_37 rfl ⟨by decide, by decide⟩ (fun q => ?_) (fun q => absurd q (by decide))
          refine jm_iconst (pc := 50) dX12_best_50 ?_
          exact jm_iret (pc := 51) dX12_best_51 rfl h
      · have h := h.2 q
        refine jm_if_eq (pc := 26) 50 dX12_best_26 rfl ⟨by decide, by decide⟩ (fun q => ?_) (fun q => absurd q (by decide))
        refine jm_iconst (pc := 50) dX12_best_50 ?_
        exact jm_iret (pc := 51) dX12_best_51 rfl h
    · have h := h.2 q
      refine jm_if_eq (pc := 18) 50 dX12_best_18 rfl ⟨by decide, by decide⟩ (fun q => ?_) (fun q => absurd q (by decide))
      refine jm_iconst (pc := 50) dX12_best_50 ?_
      exact jm_iret (pc := 51) dX12_best_51 rfl h
  · have h := h.2 q
    refine jm_if_eq (pc := 10) 50 dX12_best_10 rfl ⟨by decide, by decide⟩ (fun q => ?_) (fun q => absurd q (by decide))
    refine jm_iconst (pc := 50) dX12_best_50 ?_
    exact jm_iret (pc := 51) dX12_best_51 rfl h
theorem dX12_canon_0 : decode cX12_canon 0 = .ok (.aload_n 0, 1) := by decide +kernel
theorem dX12_canon_1 : decode cX12_canon 1 = .ok (.iconst 0, 1) := by decide +kernel
theorem dX12_canon_2 : decode cX12_canon 2 = .ok (.putfield 104, 3) := by decide +kernel
theorem dX12_canon_5 : decode cX12_canon 5 = .ok (.aload_n 0, 1) := by decide +kernel
theorem dX12_canon_6 : decode cX12_canon 6 = .ok (.iload_n 1, 1) := by decide +kernel
theorem dX12_canon_7 : decode cX12_canon 7 = .ok (.invokevirtual 385, 3) := by decide +kernel
theorem dX12_canon_10 : decode cX12_canon 10 = .ok (.ifCond .eq 14, 3) := by decide +kernel
theorem dX12_canon_13 : decode cX12_canon 13 = .ok (.aload_n 0, 1) := by decide +kernel
theorem dX12_canon_14 : decode cX12_canon 14 = .ok (.iload_n 2, 1) := by decide +kernel
theorem dX12_canon_15 : decode cX12_canon 15 = .ok (.iconst 1, 1) := by decide +kernel
theorem dX12_canon_16 : decode cX12_canon 16 = .ok (.bipush 30, 2) := by decide +kernel
theorem dX12_canon_18 : decode cX12_canon 18 = .ok (.invokevirtual 128, 3) := by decide +kernel
theorem dX12_canon_21 : decode cX12_canon 21 = .ok (.ifCond .ne 5, 3) := by decide +kernel
theorem dX12_canon_24 : decode cX12_canon 24 = .ok (.iconst (-1), 1) := by decide +kernel
theorem dX12_canon_25 : decode cX12_canon 25 = .ok (.ireturn, 1) := by decide +kernel
theorem dX12_canon_26 : decode cX12_canon 26 = .ok (.iconst 0, 1) := by decide +kernel
theorem dX12_canon_27 : decode cX12_canon 27 = .ok (.istore_n 3, 1) := by decide +kernel
theorem dX12_canon_28 : decode cX12_canon 28 = .ok (.iconst 0, 1) := by decide +kernel
theorem dX12_canon_29 : decode cX12_canon 29 = .ok (.istore 4, 2) := by decide +kernel
theorem dX12_canon_31 : decode cX12_canon 31 = .ok (.iload 4, 2) := by decide +kernel
theorem dX12_canon_33 : decode cX12_canon 33 = .ok (.iload_n 2, 1) := by decide +kernel
theorem dX12_canon_34 : decode cX12_canon 34 = .ok (.iadd, 1) := by decide +kernel
theorem dX12_canon_35 : decode cX12_canon 35 = .ok (.aload_n 0, 1) := by decide +kernel
theorem dX12_canon_36 : decode cX12_canon 36 = .ok (.iload_n 1, 1) := by decide +kernel
theorem dX12_canon_37 : decode cX12_canon 37 = .ok (.iconst 5, 1) := by decide +kernel
theorem dX12_canon_38 : decode cX12_canon 38 = .ok (.invokevirtual 314, 3) := by decide +kernel
theorem dX12_canon_41 : decode cX12_canon 41 = .ok (.if_icmp .ge 50, 3) := by decide +kernel
theorem dX12_canon_44 : decode cX12_canon 44 = .ok (.aload_n 0, 1) := by decide +kernel
theorem dX12_canon_45 : decode cX12_canon 45 = .ok (.aload_n 0, 1) := by decide +kernel
theorem dX12_canon_46 : decode cX12_canon 46 = .ok (.getfield 86, 3) := by decide +kernel
theorem dX12_canon_49 : decode cX12_canon 49 = .ok (.aload_n 0, 1) := by decide +kernel
theorem dX12_canon_50 : decode cX12_canon 50 = .ok (.iload_n 1, 1) := by decide +kernel
theorem dX12_canon_51 : decode cX12_canon 51 = .ok (.iconst 4, 1) := by decide +kernel
theorem dX12_canon_52 : decode cX12_canon 52 = .ok (.invokevirtual 314, 3) := by decide +kernel
theorem dX12_canon_55 : decode cX12_canon 55 = .ok (.iload 4, 2) := by decide +kernel
theorem dX12_canon_57 : decode cX12_canon 57 = .ok (.iadd, 1) := by decide +kernel
theorem dX12_canon_58 : decode cX12_canon 58 = .ok (.iaload, 1) := by decide +kernel
theorem dX12_canon_59 : decode cX12_canon 59 = .ok (.aload_n 0, 1) := by decide +kernel
theorem dX12_canon_60 : decode cX12_canon 60 = .ok (.getfield 86, 3) := by decide +kernel
theorem dX12_canon_63 : decode cX12_canon 63 = .ok (.aload_n 0, 1) := by decide +kernel
theorem dX12_canon_64 : decode cX12_canon 64 = .ok (.iload_n 1, 1) := by decide +kernel
theorem dX12_canon_65 : decode cX12_canon 65 = .ok (.iconst 4, 1) := by decide +kernel
theorem dX12_canon_66 : decode cX12_canon 66 = .ok (.invokevirtual 314, 3) := by decide +kernel
theorem dX12_canon_69 : decode cX12_canon 69 = .ok (.iload 4, 2) := by decide +kernel
theorem dX12_canon_71 : decode cX12_canon 71 = .ok (.iadd, 1) := by decide +kernel
theorem dX12_canon_72 : decode cX12_canon 72 = .ok (.iload_n 2, 1) := by decide +kernel
theorem dX12_canon_73 : decode cX12_canon 73 = .ok (.iadd, 1) := by decide +kernel
theorem dX12_canon_74 : decode cX12_canon 74 = .ok (.iaload, 1) := by decide +kernel
theorem dX12_canon_75 : decode cX12_canon 75 = .ok (.invokevirtual 440, 3) := by decide +kernel
theorem dX12_canon_78 : decode cX12_canon 78 = .ok (.ifCond .eq 7, 3) := by decide +kernel
theorem dX12_canon_81 : decode cX12_canon 81 = .ok (.iload_n 3, 1) := by decide +kernel
theorem dX12_canon_82 : decode cX12_canon 82 = .ok (.iconst 1, 1) := by decide +kernel
theorem dX12_canon_83 : decode cX12_canon 83 = .ok (.iadd, 1) := by decide +kernel
theorem dX12_canon_84 : decode cX12_canon 84 = .ok (.istore_n 3, 1) := by decide +kernel
theorem dX12_canon_85 : decode cX12_canon 85 = .ok (.iinc 4 1, 3) := by decide +kernel
theorem dX12_canon_88 : decode cX12_canon 88 = .ok (.goto (-57), 3) := by decide +kernel
theorem dX12_canon_91 : decode cX12_canon 91 = .ok (.iload_n 3, 1) := by decide +kernel
theorem dX12_canon_92 : decode cX12_canon 92 = .ok (.ireturn, 1) := by decide +kernel
theorem bX12_canon_31 {l : Launch} {g : jm_G} {d : Nat} {v1 v2 v3 v4 : Int} (hg : jm_HR g) {mu : jm_M} {Q : Option Value → jm_M → Prop} (h : (0 ≤ ((6 * v1) + 5) ∧ ((6 * v1) + 5) < 120) ∧ jm_rg (v4 + v2) ∧ ((mu.1 24 ((6 * v1) + 5)) ≤ (v4 + v2) → Q (some (jm_i v3)) mu) ∧ ((v4 + v2) < (mu.1 24 ((6 * v1) + 5)) → (0 ≤ ((6 * v1) + 4) ∧ ((6 * v1) + 4) < 120) ∧ (0 ≤ ((mu.1 24 ((6 * v1) + 4)) + v4) ∧ ((mu.1 24 ((6 * v1) + 4)) + v4) < 200) ∧ (0 ≤ ((6 * v1) + 4) ∧ ((6 * v1) + 4) < 120) ∧ (0 ≤ (((mu.1 24 ((6 * v1) + 4)) + v4) + v2) ∧ (((mu.1 24 ((6 * v1) + 4)) + v4) + v2) < 200) ∧ jm_R l g (d + 1) iX12_doSound [.ref 0, jm_i (mu.1 25 ((mu.1 24 ((6 * v1) + 4)) + v4)), jm_i (mu.1 25 (((mu.1 24 ((6 * v1) + 4)) + v4) + v2))] mu (jm_qi fun z8 m7 => (z8 = 0 → jm_V l g (d + 2) iX12_canon 31 [(0, .ref 0), (1, jm_i v1), (2, jm_i v2), (3, jm_i v3), (4, jm_i (v4 + 1))] [] m7 Q) ∧ (¬ z8 = 0 → ∀ x11, x11 = (v3 + 1) → jm_V l g (d + 2) iX12_canon 31 [(0, .ref 0), (1, jm_i v1), (2, jm_i v2), (3, jm_i x11), (4, jm_i (v4 + 1))] [] m7 Q)))) : jm_V l g (d + 2) iX12_canon 31 [(0, .ref 0), (1, jm_i v1), (2, jm_i v2), (3, jm_i v3), (4, jm_i v4)] [] mu Q := by
  refine jm_mrI (fun hm0 => ?_)
  refine jm_iload (pc := 31) 4 dX12_canon_31 rfl ?_
  refine jm_iload_n (pc := 33) 2 dX12_canon_33 rfl ?_
  refine jm_iadd (pc := 34) dX12_canon_34 ?_
  refine jm_aload_n (pc := 35) 0 dX12_canon_35 rfl ?_
  refine jm_iload_n (pc := 36) 1 dX12_canon_36 rfl ?_
  refine jm_iconst (pc := 37) dX12_canon_37 ?_
  have hg1 := h.1
  have h := h.2
  refine jm_inlvi (pc := 38) (As := [_, _]) (st := [_]) iX12_ofTestimony dX12_canon_38 mX12_314 (cR0 hg) ⟨_, rfl, rfl⟩ rfl rfl (Nat.le_of_ble_eq_true rfl) (pX12_ofTestimony hg hg1 (jm_kIi ?_))
  have hg2 := h.1
  have h := h.2
  refine jm_icmp_ge (pc := 41) 91 dX12_canon_41 rfl hg2 (hm0 _ _) (fun q => ?_) (fun q => ?_)
  · have h := h.1 q
    refine jm_iload_n (pc := 91) 3 dX12_canon_91 rfl ?_
    exact jm_iret (pc := 92) dX12_canon_92 rfl h
  · have h := h.2 q
    refine jm_aload_n (pc := 44) 0 dX12_canon_44 rfl ?_
    refine jm_aload_n (pc := 45) 0 dX12_canon_45 rfl ?_
    refine jm_getr (pc := 46) 46 dX12_canon_46 fX12_86 (cR0 hg) rfl ?_
    refine jm_aload_n (pc := 49) 0 dX12_canon_49 rfl ?_
    refine jm_iload_n (pc := 50) 1 dX12_canon_50 rfl ?_
    refine jm_iconst (pc := 51) dX12_canon_51 ?_
    have hg3 := h.1
    have h := h.2
    refine jm_inlvi (pc := 52) (As := [_, _]) (st := [_, _]) iX12_ofTestimony dX12_canon_52 mX12_314 (cR0 hg) ⟨_, rfl, rfl⟩ rfl rfl (Nat.le_of_ble_eq_true rfl) (pX12_ofTestimony hg hg3 (jm_kIi ?_))
    refine jm_iload (pc := 55) 4 dX12_canon_55 rfl ?_
    refine jm_iadd (pc := 57) dX12_canon_57 ?_
    have hg4 := h.1
    have h := h.2
    refine jm_iald (pc := 58) dX12_canon_58 (cR25 hg) (by decide) hg4.1 hg4.2 ?_
    refine jm_aload_n (pc := 59) 0 dX12_canon_59 rfl ?_
    refine jm_getr (pc := 60) 46 dX12_canon_60 fX12_86 (cR0 hg) rfl ?_
    refine jm_aload_n (pc := 63) 0 dX12_canon_63 rfl ?_
    refine jm_iload_n (pc := 64) 1 dX12_canon_64 rfl ?_
    refine jm_iconst (pc := 65) dX12_canon_65 ?_
    have hg5 := h.1
    have h := h.2
    refine jm_inlvi (pc := 66) (As := [_, _]) (st := [_, _, _]) iX12_ofTestimony dX12_canon_66 mX12_314 (cR0 hg) ⟨_, rfl, rfl⟩ rfl rfl (Nat.le_of_ble_eq_true rfl) (pX12_ofTestimony hg hg5 (jm_kIi ?_))
    refine jm_iload (pc := 69) 4 dX12_canon_69 rfl ?_
    refine jm_iadd (pc := 71) dX12_canon_71 ?_
    refine jm_iload_n (pc := 72) 2 dX12_canon_72 rfl ?_
    refine jm_iadd (pc := 73) dX12_canon_73 ?_
    have hg6 := h.1
    have h := h.2
    refine jm_iald (pc := 74) dX12_canon_74 (cR25 hg) (by decide) hg6.1 hg6.2 ?_
    refine jm_callvi (pc := 75) (As := [_, _]) (st := []) iX12_doSound dX12_canon_75 mX12_440 (cR0 hg) ⟨_, rfl, rfl⟩ rfl rfl (Nat.le_of_ble_eq_true rfl) h (fun z8 m7 hz9 h hm10 => ?_)
    refine jm_if_eq (pc := 78) 85 dX12_canon_78 rfl hz9 (fun q => ?_) (fun q => ?_)
    · have h := h.1 q
      refine jm_iinc (pc := 85) (lv' := [(4, _), (0, _), (1, _), (2, _), (3, _)]) 4 dX12_canon_85 rfl (by decide) rfl ?_
      refine jm_goto (pc := 88) 31 dX12_canon_88 rfl ?_
      exact jm_sub [1, 2, 3, 4, 0] rfl h
    · have h := h.2 q
      refine jm_iload_n (pc := 81) 3 dX12_canon_81 rfl ?_
      refine jm_iconst (pc := 82) dX12_canon_82 ?_
      refine jm_iadd (pc := 83) dX12_canon_83 ?_
      have h := h _ rfl
      refine jm_istore_n (pc := 84) (lv' := [(3, _), (0, _), (1, _), (2, _), (4, _)]) dX12_canon_84 (by decide) rfl ?_
      refine jm_iinc (pc := 85) (lv' := [(4, _), (3, _), (0, _), (1, _), (2, _)]) 4 dX12_canon_85 rfl (by decide) rfl ?_
      refine jm_goto (pc := 88) 31 dX12_canon_88 rfl ?_
      exact jm_sub [2, 3, 4, 1, 0] rfl h
theorem eX12_canon {l : Launch} {g : jm_G} {d : Nat} {v1 v2 : Int} (hg : jm_HR g) {mu : jm_M} {Q : Option Value → jm_M → Prop} (h : ∀ m1, m1 = jm_wr mu 0 0 0 → jm_rg v1 ∧ (0 ≤ v1 ∧ v1 < (m1.1 1 4) → jm_rg v2 ∧ (1 ≤ v2 ∧ v2 ≤ 30 → jm_V l g (d + 2) iX12_canon 31 [(0, .ref 0), (1, jm_i v1), (2, jm_i v2), (3, jm_i 0), (4, jm_i 0)] [] m1 Q) ∧ (¬ (1 ≤ v2 ∧ v2 ≤ 30) → Q (some (jm_i (-1))) m1)) ∧ (¬ (0 ≤ v1 ∧ v1 < (m1.1 1 4)) → Q (some (jm_i (-1))) m1)) : jm_R l g (d + 2) iX12_canon [.ref 0, jm_i v1, jm_i v2] mu Q := by
  refine jm_enter [(0, .ref 0), (1, jm_i v1), (2, jm_i v2)] (by decide) (Nat.le_of_ble_eq_true rfl) rfl ?_
  refine jm_mrI (fun hm0 => ?_)
  refine jm_aload_n (pc := 0) 0 dX12_canon_0 rfl ?_
  refine jm_iconst (pc := 1) dX12_canon_1 ?_
  refine jm_put (pc := 2) 0 dX12_canon_2 fX12_104 ftX12 (fun q h => by cases h; rfl) (jm_nI _) (jm_fI _) (cR0 hg) rfl ⟨by decide, by decide⟩ ?_
  have h := h _ rfl
  refine jm_mrI (fun hm2 => ?_)
  refine jm_aload_n (pc := 5) 0 dX12_canon_5 rfl ?_
  refine jm_iload_n (pc := 6) 1 dX12_canon_6 rfl ?_
  have hg3 := h.1
  have h := h.2
  refine jm_inlvi (pc := 7) (As := [_]) (st := []) iX12_isTestimony dX12_canon_7 mX12_385 (cR0 hg) ⟨_, rfl, rfl⟩ rfl rfl (Nat.le_of_ble_eq_true rfl) (pX12_isTestimony hg hg3 (fun q => jm_kIi ?_) (fun q => jm_kIi ?_))
  · have h := h.1 q
    refine jm_if_eq (pc := 10) 24 dX12_canon_10 rfl ⟨by decide, by decide⟩ (fun q => absurd q (by decide)) (fun q => ?_)
    refine jm_aload_n (pc := 13) 0 dX12_canon_13 rfl ?_
    refine jm_iload_n (pc := 14) 2 dX12_canon_14 rfl ?_
    refine jm_iconst (pc := 15) dX12_canon_15 ?_
    refine jm_bipush (pc := 16) dX12_canon_16 (by decide) ?_
    have hg4 := h.1
    have h := h.2
    refine jm_inlvi (pc := 18) (As := [_, _, _]) (st := []) iX12_isIn dX12_canon_18 mX12_128 (cR0 hg) ⟨_, rfl, rfl⟩ rfl rfl (Nat.le_of_ble_eq_true rfl) (pX12_isIn hg hg4 ⟨by decide, by decide⟩ ⟨by decide, by decide⟩ (fun q => jm_kIi ?_) (fun q => jm_kIi ?_))
    · have h := h.1 q
      refine jm_if_ne (pc := 21) 26 dX12_canon_21 rfl ⟨by decide, by decide⟩ (fun q => ?_) (fun q => absurd q (by decide))
      refine jm_iconst (pc := 26) dX12_canon_26 ?_
      refine jm_istore_n (pc := 27) (lv' := [(3, _), (0, _), (1, _), (2, _)]) dX12_canon_27 (by decide) rfl ?_
      refine jm_iconst (pc := 28) dX12_canon_28 ?_
      refine jm_istore (pc := 29) (lv' := [(4, _), (3, _), (0, _), (1, _), (2, _)]) dX12_canon_29 (by decide) rfl ?_
      exact jm_sub [2, 3, 4, 1, 0] rfl h
    · have h := h.2 q
      refine jm_if_ne (pc := 21) 26 dX12_canon_21 rfl ⟨by decide, by decide⟩ (fun q => absurd q (by decide)) (fun q => ?_)
      refine jm_iconst (pc := 24) dX12_canon_24 ?_
      exact jm_iret (pc := 25) dX12_canon_25 rfl h
  · have h := h.2 q
    refine jm_if_eq (pc := 10) 24 dX12_canon_10 rfl ⟨by decide, by decide⟩ (fun q => ?_) (fun q => absurd q (by decide))
    refine jm_iconst (pc := 24) dX12_canon_24 ?_
    exact jm_iret (pc := 25) dX12_canon_25 rfl h
theorem dX12_weighedFor_0 : decode cX12_weighedFor 0 = .ok (.iconst 0, 1) := by decide +kernel
theorem dX12_weighedFor_1 : decode cX12_weighedFor 1 = .ok (.istore_n 3, 1) := by decide +kernel
theorem dX12_weighedFor_2 : decode cX12_weighedFor 2 = .ok (.iconst 0, 1) := by decide +kernel
theorem dX12_weighedFor_3 : decode cX12_weighedFor 3 = .ok (.istore 4, 2) := by decide +kernel
theorem dX12_weighedFor_5 : decode cX12_weighedFor 5 = .ok (.iload 4, 2) := by decide +kernel
theorem dX12_weighedFor_7 : decode cX12_weighedFor 7 = .ok (.aload_n 0, 1) := by decide +kernel
theorem dX12_weighedFor_8 : decode cX12_weighedFor 8 = .ok (.getfield 7, 3) := by decide +kernel
theorem dX12_weighedFor_11 : decode cX12_weighedFor 11 = .ok (.iconst 4, 1) := by decide +kernel
theorem dX12_weighedFor_12 : decode cX12_weighedFor 12 = .ok (.iaload, 1) := by decide +kernel
theorem dX12_weighedFor_13 : decode cX12_weighedFor 13 = .ok (.if_icmp .ge 77, 3) := by decide +kernel
theorem dX12_weighedFor_16 : decode cX12_weighedFor 16 = .ok (.aload_n 0, 1) := by decide +kernel
theorem dX12_weighedFor_17 : decode cX12_weighedFor 17 = .ok (.iload 4, 2) := by decide +kernel
theorem dX12_weighedFor_19 : decode cX12_weighedFor 19 = .ok (.iconst 1, 1) := by decide +kernel
theorem dX12_weighedFor_20 : decode cX12_weighedFor 20 = .ok (.invokevirtual 314, 3) := by decide +kernel
theorem dX12_weighedFor_23 : decode cX12_weighedFor 23 = .ok (.iload_n 1, 1) := by decide +kernel
theorem dX12_weighedFor_24 : decode cX12_weighedFor 24 = .ok (.if_icmp .ne 60, 3) := by decide +kernel
theorem dX12_weighedFor_27 : decode cX12_weighedFor 27 = .ok (.aload_n 0, 1) := by decide +kernel
theorem dX12_weighedFor_28 : decode cX12_weighedFor 28 = .ok (.iload 4, 2) := by decide +kernel
theorem dX12_weighedFor_30 : decode cX12_weighedFor 30 = .ok (.iconst 2, 1) := by decide +kernel
theorem dX12_weighedFor_31 : decode cX12_weighedFor 31 = .ok (.invokevirtual 314, 3) := by decide +kernel
theorem dX12_weighedFor_34 : decode cX12_weighedFor 34 = .ok (.iload_n 2, 1) := by decide +kernel
theorem dX12_weighedFor_35 : decode cX12_weighedFor 35 = .ok (.if_icmp .ne 49, 3) := by decide +kernel
theorem dX12_weighedFor_38 : decode cX12_weighedFor 38 = .ok (.aload_n 0, 1) := by decide +kernel
theorem dX12_weighedFor_39 : decode cX12_weighedFor 39 = .ok (.iload 4, 2) := by decide +kernel
theorem dX12_weighedFor_41 : decode cX12_weighedFor 41 = .ok (.invokevirtual 388, 3) := by decide +kernel
theorem dX12_weighedFor_44 : decode cX12_weighedFor 44 = .ok (.ifCond .ne 40, 3) := by decide +kernel
theorem dX12_weighedFor_47 : decode cX12_weighedFor 47 = .ok (.aload_n 0, 1) := by decide +kernel
theorem dX12_weighedFor_48 : decode cX12_weighedFor 48 = .ok (.iload 4, 2) := by decide +kernel
theorem dX12_weighedFor_50 : decode cX12_weighedFor 50 = .ok (.iconst 3, 1) := by decide +kernel
theorem dX12_weighedFor_51 : decode cX12_weighedFor 51 = .ok (.invokevirtual 314, 3) := by decide +kernel
theorem dX12_weighedFor_54 : decode cX12_weighedFor 54 = .ok (.aload_n 0, 1) := by decide +kernel
theorem dX12_weighedFor_55 : decode cX12_weighedFor 55 = .ok (.invokevirtual 450, 3) := by decide +kernel
theorem dX12_weighedFor_58 : decode cX12_weighedFor 58 = .ok (.if_icmp .gt 26, 3) := by decide +kernel
theorem dX12_weighedFor_61 : decode cX12_weighedFor 61 = .ok (.iload_n 3, 1) := by decide +kernel
theorem dX12_weighedFor_62 : decode cX12_weighedFor 62 = .ok (.aload_n 0, 1) := by decide +kernel
theorem dX12_weighedFor_63 : decode cX12_weighedFor 63 = .ok (.aload_n 0, 1) := by decide +kernel
theorem dX12_weighedFor_64 : decode cX12_weighedFor 64 = .ok (.iload 4, 2) := by decide +kernel
theorem dX12_weighedFor_66 : decode cX12_weighedFor 66 = .ok (.iconst 0, 1) := by decide +kernel
theorem dX12_weighedFor_67 : decode cX12_weighedFor 67 = .ok (.invokevirtual 314, 3) := by decide +kernel
theorem dX12_weighedFor_70 : decode cX12_weighedFor 70 = .ok (.iload_n 1, 1) := by decide +kernel
theorem dX12_weighedFor_71 : decode cX12_weighedFor 71 = .ok (.iload_n 2, 1) := by decide +kernel
theorem dX12_weighedFor_72 : decode cX12_weighedFor 72 = .ok (.aload_n 0, 1) := by decide +kernel
theorem dX12_weighedFor_73 : decode cX12_weighedFor 73 = .ok (.iload 4, 2) := by decide +kernel
theorem dX12_weighedFor_75 : decode cX12_weighedFor 75 = .ok (.iconst 3, 1) := by decide +kernel
theorem dX12_weighedFor_76 : decode cX12_weighedFor 76 = .ok (.invokevirtual 314, 3) := by decide +kernel
theorem dX12_weighedFor_79 : decode cX12_weighedFor 79 = .ok (.invokevirtual 406, 3) := by decide +kernel
theorem dX12_weighedFor_82 : decode cX12_weighedFor 82 = .ok (.iadd, 1) := by decide +kernel
theorem dX12_weighedFor_83 : decode cX12_weighedFor 83 = .ok (.istore_n 3, 1) := by decide +kernel
theorem dX12_weighedFor_84 : decode cX12_weighedFor 84 = .ok (.iinc 4 1, 3) := by decide +kernel
theorem dX12_weighedFor_87 : decode cX12_weighedFor 87 = .ok (.goto (-82), 3) := by decide +kernel
theorem dX12_weighedFor_90 : decode cX12_weighedFor 90 = .ok (.iload_n 3, 1) := by decide +kernel
theorem dX12_weighedFor_91 : decode cX12_weighedFor 91 = .ok (.ireturn, 1) := by decide +kernel
theorem bX12_weighedFor_5 {l : Launch} {g : jm_G} {d : Nat} {v1 v2 v3 v4 : Int} (hg : jm_HR g) {mu : jm_M} {Q : Option Value → jm_M → Prop} (h : jm_rg v4 ∧ ((mu.1 1 4) ≤ v4 → Q (some (jm_i v3)) mu) ∧ (v4 < (mu.1 1 4) → (0 ≤ ((6 * v4) + 1) ∧ ((6 * v4) + 1) < 120) ∧ jm_rg v1 ∧ (¬ (mu.1 24 ((6 * v4) + 1)) = v1 → jm_V l g (d + 2) iX12_weighedFor 5 [(0, .ref 0), (1, jm_i v1), (2, jm_i v2), (3, jm_i v3), (4, jm_i (v4 + 1))] [] mu Q) ∧ ((mu.1 24 ((6 * v4) + 1)) = v1 → (0 ≤ ((6 * v4) + 2) ∧ ((6 * v4) + 2) < 120) ∧ jm_rg v2 ∧ (¬ (mu.1 24 ((6 * v4) + 2)) = v2 → jm_V l g (d + 2) iX12_weighedFor 5 [(0, .ref 0), (1, jm_i v1), (2, jm_i v2), (3, jm_i v3), (4, jm_i (v4 + 1))] [] mu Q) ∧ ((mu.1 24 ((6 * v4) + 2)) = v2 → ((jm_and (jm_shr (mu.1 1 5) v4) 1) = 1 → jm_V l g (d + 2) iX12_weighedFor 5 [(0, .ref 0), (1, jm_i v1), (2, jm_i v2), (3, jm_i v3), (4, jm_i (v4 + 1))] [] mu Q) ∧ (¬ ((jm_and (jm_shr (mu.1 1 5) v4) 1) = 1) → (0 ≤ ((6 * v4) + 3) ∧ ((6 * v4) + 3) < 120) ∧ jm_rg ((mu.1 0 11) + 1) ∧ (((mu.1 0 11) + 1) < (mu.1 24 ((6 * v4) + 3)) → jm_V l g (d + 2) iX12_weighedFor 5 [(0, .ref 0), (1, jm_i v1), (2, jm_i v2), (3, jm_i v3), (4, jm_i (v4 + 1))] [] mu Q) ∧ ((mu.1 24 ((6 * v4) + 3)) ≤ ((mu.1 0 11) + 1) → (0 ≤ ((6 * v4) + 0) ∧ ((6 * v4) + 0) < 120) ∧ (0 ≤ ((6 * v4) + 3) ∧ ((6 * v4) + 3) < 120) ∧ jm_R l g (d + 1) iX12_weighOf [.ref 0, jm_i (mu.1 24 ((6 * v4) + 0)), jm_i v1, jm_i v2, jm_i (mu.1 24 ((6 * v4) + 3))] mu (jm_qi fun z11 m10 => ∀ x14, x14 = (v3 + z11) → jm_V l g (d + 2) iX12_weighedFor 5 [(0, .ref 0), (1, jm_i v1), (2, jm_i v2), (3, jm_i x14), (4, jm_i (v4 + 1))] [] m10 Q))))))) : jm_V l g (d + 2) iX12_weighedFor 5 [(0, .ref 0), (1, jm_i v1), (2, jm_i v2), (3, jm_i v3), (4, jm_i v4)] [] mu Q := by
  refine jm_mrI (fun hm0 => ?_)
  refine jm_iload (pc := 5) 4 dX12_weighedFor_5 rfl ?_
  refine jm_aload_n (pc := 7) 0 dX12_weighedFor_7 rfl ?_
  refine jm_getr (pc := 8) 1 dX12_weighedFor_8 fX12_7 (cR0 hg) rfl ?_
  refine jm_iconst (pc := 11) dX12_weighedFor_11 ?_
  refine jm_iald (pc := 12) dX12_weighedFor_12 (cR1 hg) (by decide) (by decide) (by decide) ?_
  have hg1 := h.1
  have h := h.2
  refine jm_icmp_ge (pc := 13) 90 dX12_weighedFor_13 rfl hg1 (hm0 _ _) (fun q => ?_) (fun q => ?_)
  · have h := h.1 q
    refine jm_iload_n (pc := 90) 3 dX12_weighedFor_90 rfl ?_
    exact jm_iret (pc := 91) dX12_weighedFor_91 rfl h
  · have h := h.2 q
    refine jm_aload_n (pc := 16) 0 dX12_weighedFor_16 rfl ?_
    refine jm_iload (pc := 17) 4 dX12_weighedFor_17 rfl ?_
    refine jm_iconst (pc := 19) dX12_weighedFor_19 ?_
    have hg2 := h.1
    have h := h.2
    refine jm_inlvi (pc := 20) (As := [_, _]) (st := []) iX12_ofTestimony dX12_weighedFor_20 mX12_314 (cR0 hg) ⟨_, rfl, rfl⟩ rfl rfl (Nat.le_of_ble_eq_true rfl) (pX12_ofTestimony hg hg2 (jm_kIi ?_))
    refine jm_iload_n (pc := 23) 1 dX12_weighedFor_23 rfl ?_
    have hg3 := h.1
    have h := h.2
    refine jm_icmp_ne (pc := 24) 84 dX12_weighedFor_24 rfl (hm0 _ _) hg3 (fun q => ?_) (fun q => ?_)
    · have h := h.1 q
      refine jm_iinc (pc := 84) (lv' := [(4, _), (0, _), (1, _), (2, _), (3, _)]) 4 dX12_weighedFor_84 rfl (by decide) rfl ?_
      refine jm_goto (pc := 87) 5 dX12_weighedFor_87 rfl ?_
      exact jm_sub [1, 2, 3, 4, 0] rfl h
    · have h := h.2 q
      refine jm_aload_n (pc := 27) 0 dX12_weighedFor_27 rfl ?_
      refine jm_iload (pc := 28) 4 dX12_weighedFor_28 rfl ?_
      refine jm_iconst (pc := 30) dX12_weighedFor_30 ?_
      have hg4 := h.1
      have h := h.2
      refine jm_inlvi (pc := 31) (As := [_, _]) (st := []) iX12_ofTestimony dX12_weighedFor_31 mX12_314 (cR0 hg) ⟨_, rfl, rfl⟩ rfl rfl (Nat.le_of_ble_eq_true rfl) (pX12_ofTestimony hg hg4 (jm_kIi ?_))
      refine jm_iload_n (pc := 34) 2 dX12_weighedFor_34 rfl ?_
      have hg5 := h.1
      have h := h.2
      refine jm_icmp_ne (pc := 35) 84 dX12_weighedFor_35 rfl (hm0 _ _) hg5 (fun q => ?_) (fun q => ?_)
      · have h := h.1 q
        refine jm_iinc (pc := 84) (lv' := [(4, _), (0, _), (1, _), (2, _), (3, _)]) 4 dX12_weighedFor_84 rfl (by decide) rfl ?_
        refine jm_goto (pc := 87) 5 dX12_weighedFor_87 rfl ?_
        exact jm_sub [1, 2, 3, 4, 0] rfl h
      · have h := h.2 q
        refine jm_aload_n (pc := 38) 0 dX12_weighedFor_38 rfl ?_
        refine jm_iload (pc := 39) 4 dX12_weighedFor_39 rfl ?_
        refine jm_inlvi (pc := 41) (As := [_]) (st := []) iX12_isStruck dX12_weighedFor_41 mX12_388 (cR0 hg) ⟨_, rfl, rfl⟩ rfl rfl (Nat.le_of_ble_eq_true rfl) (pX12_isStruck hg  (fun q => jm_kIi ?_) (fun q => jm_kIi ?_))
        · have h := h.1 q
          refine jm_if_ne (pc := 44) 84 dX12_weighedFor_44 rfl ⟨by decide, by decide⟩ (fun q => ?_) (fun q => absurd q (by decide))
          refine jm_iinc (pc := 84) (lv' := [(4, _), (0, _), (1, _), (2, _), (3, _)]) 4 dX12_weighedFor_84 rfl (by decide) rfl ?_
          refine jm_goto (pc := 87) 5 dX12_weighedFor_87 rfl ?_
          exact jm_sub [1, 2, 3, 4, 0] rfl h
        · have h := h.2 q
          refine jm_if_ne (pc := 44) 84 dX12_weighedFor_44 rfl ⟨by decide, by decide⟩ (fun q => absurd q (by decide)) (fun q => ?_)
          refine jm_aload_n (pc := 47) 0 dX12_weighedFor_47 rfl ?_
          refine jm_iload (pc := 48) 4 dX12_weighedFor_48 rfl ?_
          refine jm_iconst (pc := 50) dX12_weighedFor_50 ?_
          have hg6 := h.1
          have h := h.2
          refine jm_inlvi (pc := 51) (As := [_, _]) (st := []) iX12_ofTestimony dX12_weighedFor_51 mX12_314 (cR0 hg) ⟨_, rfl, rfl⟩ rfl rfl (Nat.le_of_ble_eq_true rfl) (pX12_ofTestimony hg hg6 (jm_kIi ?_))
          refine jm_aload_n (pc := 54) 0 dX12_weighedFor_54 rfl ?_
          refine jm_inlvi (pc := 55) (As := []) (st := [_]) iX12_flatsNow dX12_weighedFor_55 mX12_450 (cR0 hg) ⟨_, rfl, rfl⟩ rfl rfl (Nat.le_of_ble_eq_true rfl) (pX12_flatsNow hg  (jm_kIi ?_))
          have hg7 := h.1
          have h := h.2
          refine jm_icmp_gt (pc := 58) 84 dX12_weighedFor_58 rfl (hm0 _ _) hg7 (fun q => ?_) (fun q => ?_)
          · have h := h.1 q
            refine jm_iinc (pc := 84) (lv' := [(4, _), (0, _), (1, _), (2, _), (3, _)]) 4 dX12_weighedFor_84 rfl (by decide) rfl ?_
            refine jm_goto (pc := 87) 5 dX12_weighedFor_87 rfl ?_
            exact jm_sub [1, 2, 3, 4, 0] rfl h
          · have h := h.2 q
            refine jm_iload_n (pc := 61) 3 dX12_weighedFor_61 rfl ?_
            refine jm_aload_n (pc := 62) 0 dX12_weighedFor_62 rfl ?_
            refine jm_aload_n (pc := 63) 0 dX12_weighedFor_63 rfl ?_
            refine jm_iload (pc := 64) 4 dX12_weighedFor_64 rfl ?_
            refine jm_iconst (pc := 66) dX12_weighedFor_66 ?_
            have hg8 := h.1
            have h := h.2
            refine jm_inlvi (pc := 67) (As := [_, _]) (st := [_, _]) iX12_ofTestimony dX12_weighedFor_67 mX12_314 (cR0 hg) ⟨_, rfl, rfl⟩ rfl rfl (Nat.le_of_ble_eq_true rfl) (pX12_ofTestimony hg hg8 (jm_kIi ?_))
            refine jm_iload_n (pc := 70) 1 dX12_weighedFor_70 rfl ?_
            refine jm_iload_n (pc := 71) 2 dX12_weighedFor_71 rfl ?_
            refine jm_aload_n (pc := 72) 0 dX12_weighedFor_72 rfl ?_
            refine jm_iload (pc := 73) 4 dX12_weighedFor_73 rfl ?_
            refine jm_iconst (pc := 75) dX12_weighedFor_75 ?_
            have hg9 := h.1
            have h := h.2
            refine jm_inlvi (pc := 76) (As := [_, _]) (st := [_, _, _, _, _]) iX12_ofTestimony dX12_weighedFor_76 mX12_314 (cR0 hg) ⟨_, rfl, rfl⟩ rfl rfl (Nat.le_of_ble_eq_true rfl) (pX12_ofTestimony hg hg9 (jm_kIi ?_))
            refine jm_callvi (pc := 79) (As := [_, _, _, _]) (st := [_]) iX12_weighOf dX12_weighedFor_79 mX12_406 (cR0 hg) ⟨_, rfl, rfl⟩ rfl rfl (Nat.le_of_ble_eq_true rfl) h (fun z11 m10 hz12 h hm13 => ?_)
            refine jm_iadd (pc := 82) dX12_weighedFor_82 ?_
            have h := h _ rfl
            refine jm_istore_n (pc := 83) (lv' := [(3, _), (0, _), (1, _), (2, _), (4, _)]) dX12_weighedFor_83 (by decide) rfl ?_
            refine jm_iinc (pc := 84) (lv' := [(4, _), (3, _), (0, _), (1, _), (2, _)]) 4 dX12_weighedFor_84 rfl (by decide) rfl ?_
            refine jm_goto (pc := 87) 5 dX12_weighedFor_87 rfl ?_
            exact jm_sub [2, 3, 4, 1, 0] rfl h
theorem eX12_weighedFor {l : Launch} {g : jm_G} {d : Nat} {v1 v2 : Int} (hg : jm_HR g) {mu : jm_M} {Q : Option Value → jm_M → Prop} (h : jm_V l g (d + 2) iX12_weighedFor 5 [(0, .ref 0), (1, jm_i v1), (2, jm_i v2), (3, jm_i 0), (4, jm_i 0)] [] mu Q) : jm_R l g (d + 2) iX12_weighedFor [.ref 0, jm_i v1, jm_i v2] mu Q := by
  refine jm_enter [(0, .ref 0), (1, jm_i v1), (2, jm_i v2)] (by decide) (Nat.le_of_ble_eq_true rfl) rfl ?_
  refine jm_mrI (fun hm0 => ?_)
  refine jm_iconst (pc := 0) dX12_weighedFor_0 ?_
  refine jm_istore_n (pc := 1) (lv' := [(3, _), (0, _), (1, _), (2, _)]) dX12_weighedFor_1 (by decide) rfl ?_
  refine jm_iconst (pc := 2) dX12_weighedFor_2 ?_
  refine jm_istore (pc := 3) (lv' := [(4, _), (3, _), (0, _), (1, _), (2, _)]) dX12_weighedFor_3 (by decide) rfl ?_
  exact jm_sub [2, 3, 4, 1, 0] rfl h
theorem dX12_isFoundWith_0 : decode cX12_isFoundWith 0 = .ok (.aload_n 0, 1) := by decide +kernel
theorem dX12_isFoundWith_1 : decode cX12_isFoundWith 1 = .ok (.iload_n 1, 1) := by decide +kernel
theorem dX12_isFoundWith_2 : decode cX12_isFoundWith 2 = .ok (.iload_n 2, 1) := by decide +kernel
theorem dX12_isFoundWith_3 : decode cX12_isFoundWith 3 = .ok (.invokevirtual 453, 3) := by decide +kernel
theorem dX12_isFoundWith_6 : decode cX12_isFoundWith 6 = .ok (.iload_n 3, 1) := by decide +kernel
theorem dX12_isFoundWith_7 : decode cX12_isFoundWith 7 = .ok (.iadd, 1) := by decide +kernel
theorem dX12_isFoundWith_8 : decode cX12_isFoundWith 8 = .ok (.istore 4, 2) := by decide +kernel
theorem dX12_isFoundWith_10 : decode cX12_isFoundWith 10 = .ok (.iconst 0, 1) := by decide +kernel
theorem dX12_isFoundWith_11 : decode cX12_isFoundWith 11 = .ok (.istore 5, 2) := by decide +kernel
theorem dX12_isFoundWith_13 : decode cX12_isFoundWith 13 = .ok (.iload 5, 2) := by decide +kernel
theorem dX12_isFoundWith_15 : decode cX12_isFoundWith 15 = .ok (.iconst 4, 1) := by decide +kernel
theorem dX12_isFoundWith_16 : decode cX12_isFoundWith 16 = .ok (.if_icmp .ge 29, 3) := by decide +kernel
theorem dX12_isFoundWith_19 : decode cX12_isFoundWith 19 = .ok (.iload 5, 2) := by decide +kernel
theorem dX12_isFoundWith_21 : decode cX12_isFoundWith 21 = .ok (.iload_n 2, 1) := by decide +kernel
theorem dX12_isFoundWith_22 : decode cX12_isFoundWith 22 = .ok (.if_icmp .eq 17, 3) := by decide +kernel
theorem dX12_isFoundWith_25 : decode cX12_isFoundWith 25 = .ok (.aload_n 0, 1) := by decide +kernel
theorem dX12_isFoundWith_26 : decode cX12_isFoundWith 26 = .ok (.iload_n 1, 1) := by decide +kernel
theorem dX12_isFoundWith_27 : decode cX12_isFoundWith 27 = .ok (.iload 5, 2) := by decide +kernel
theorem dX12_isFoundWith_29 : decode cX12_isFoundWith 29 = .ok (.invokevirtual 453, 3) := by decide +kernel
theorem dX12_isFoundWith_32 : decode cX12_isFoundWith 32 = .ok (.iload 4, 2) := by decide +kernel
theorem dX12_isFoundWith_34 : decode cX12_isFoundWith 34 = .ok (.if_icmp .lt 5, 3) := by decide +kernel
theorem dX12_isFoundWith_37 : decode cX12_isFoundWith 37 = .ok (.iconst 0, 1) := by decide +kernel
theorem dX12_isFoundWith_38 : decode cX12_isFoundWith 38 = .ok (.ireturn, 1) := by decide +kernel
theorem dX12_isFoundWith_39 : decode cX12_isFoundWith 39 = .ok (.iinc 5 1, 3) := by decide +kernel
theorem dX12_isFoundWith_42 : decode cX12_isFoundWith 42 = .ok (.goto (-29), 3) := by decide +kernel
theorem dX12_isFoundWith_45 : decode cX12_isFoundWith 45 = .ok (.iload 4, 2) := by decide +kernel
theorem dX12_isFoundWith_47 : decode cX12_isFoundWith 47 = .ok (.aload_n 0, 1) := by decide +kernel
theorem dX12_isFoundWith_48 : decode cX12_isFoundWith 48 = .ok (.invokevirtual 456, 3) := by decide +kernel
theorem dX12_isFoundWith_51 : decode cX12_isFoundWith 51 = .ok (.if_icmp .lt 7, 3) := by decide +kernel
theorem dX12_isFoundWith_54 : decode cX12_isFoundWith 54 = .ok (.iconst 1, 1) := by decide +kernel
theorem dX12_isFoundWith_55 : decode cX12_isFoundWith 55 = .ok (.goto 4, 3) := by decide +kernel
theorem dX12_isFoundWith_58 : decode cX12_isFoundWith 58 = .ok (.iconst 0, 1) := by decide +kernel
theorem dX12_isFoundWith_59 : decode cX12_isFoundWith 59 = .ok (.ireturn, 1) := by decide +kernel
theorem bX12_isFoundWith_13 {l : Launch} {g : jm_G} {d : Nat} {v1 v2 v4 v5 : Int} (hg : jm_HR g) {mu : jm_M} {Q : Option Value → jm_M → Prop} (h : jm_rg v5 ∧ (4 ≤ v5 → jm_rg v4 ∧ jm_rg ((mu.1 0 10) + 10) ∧ (v4 < ((mu.1 0 10) + 10) → Q (some (jm_i 0)) mu) ∧ (((mu.1 0 10) + 10) ≤ v4 → Q (some (jm_i 1)) mu)) ∧ (v5 < 4 → jm_rg v2 ∧ (v5 = v2 → jm_V l g (d + 2) iX12_isFoundWith 13 [(0, .ref 0), (1, jm_i v1), (2, jm_i v2), (4, jm_i v4), (5, jm_i (v5 + 1))] [] mu Q) ∧ (¬ v5 = v2 → jm_R l g (d + 1) iX12_weighedFor [.ref 0, jm_i v1, jm_i v5] mu (jm_qi fun z6 m5 => jm_rg v4 ∧ (z6 < v4 → jm_V l g (d + 2) iX12_isFoundWith 13 [(0, .ref 0), (1, jm_i v1), (2, jm_i v2), (4, jm_i v4), (5, jm_i (v5 + 1))] [] m5 Q) ∧ (v4 ≤ z6 → Q (some (jm_i 0)) m5))))) : jm_V l g (d + 2) iX12_isFoundWith 13 [(0, .ref 0), (1, jm_i v1), (2, jm_i v2), (4, jm_i v4), (5, jm_i v5)] [] mu Q := by
  refine jm_mrI (fun hm0 => ?_)
  refine jm_iload (pc := 13) 4 dX12_isFoundWith_13 rfl ?_
  refine jm_iconst (pc := 15) dX12_isFoundWith_15 ?_
  have hg1 := h.1
  have h := h.2
  refine jm_icmp_ge (pc := 16) 45 dX12_isFoundWith_16 rfl hg1 ⟨by decide, by decide⟩ (fun q => ?_) (fun q => ?_)
  · have h := h.1 q
    refine jm_iload (pc := 45) 3 dX12_isFoundWith_45 rfl ?_
    refine jm_aload_n (pc := 47) 0 dX12_isFoundWith_47 rfl ?_
    refine jm_inlvi (pc := 48) (As := []) (st := [_]) iX12_needNow dX12_isFoundWith_48 mX12_456 (cR0 hg) ⟨_, rfl, rfl⟩ rfl rfl (Nat.le_of_ble_eq_true rfl) (pX12_needNow hg  (jm_kIi ?_))
    have hg2 := h.1
    have h := h.2
    have hg3 := h.1
    have h := h.2
    refine jm_icmp_lt (pc := 51) 58 dX12_isFoundWith_51 rfl hg2 hg3 (fun q => ?_) (fun q => ?_)
    · have h := h.1 q
      refine jm_iconst (pc := 58) dX12_isFoundWith_58 ?_
      exact jm_zret (pc := 59) dX12_isFoundWith_59 rfl (Or.inl rfl) h
    · have h := h.2 q
      refine jm_iconst (pc := 54) dX12_isFoundWith_54 ?_
      refine jm_goto (pc := 55) 59 dX12_isFoundWith_55 rfl ?_
      exact jm_zret (pc := 59) dX12_isFoundWith_59 rfl (Or.inr rfl) h
  · have h := h.2 q
    refine jm_iload (pc := 19) 4 dX12_isFoundWith_19 rfl ?_
    refine jm_iload_n (pc := 21) 2 dX12_isFoundWith_21 rfl ?_
    have hg4 := h.1
    have h := h.2
    refine jm_icmp_eq (pc := 22) 39 dX12_isFoundWith_22 rfl hg1 hg4 (fun q => ?_) (fun q => ?_)
    · have h := h.1 q
      refine jm_iinc (pc := 39) (lv' := [(5, _), (0, _), (1, _), (2, _), (4, _)]) 4 dX12_isFoundWith_39 rfl (by decide) rfl ?_
      refine jm_goto (pc := 42) 13 dX12_isFoundWith_42 rfl ?_
      exact jm_sub [1, 2, 3, 4, 0] rfl h
    · have h := h.2 q
      refine jm_aload_n (pc := 25) 0 dX12_isFoundWith_25 rfl ?_
      refine jm_iload_n (pc := 26) 1 dX12_isFoundWith_26 rfl ?_
      refine jm_iload (pc := 27) 4 dX12_isFoundWith_27 rfl ?_
      refine jm_callvi (pc := 29) (As := [_, _]) (st := []) iX12_weighedFor dX12_isFoundWith_29 mX12_453 (cR0 hg) ⟨_, rfl, rfl⟩ rfl rfl (Nat.le_of_ble_eq_true rfl) h (fun z6 m5 hz7 h hm8 => ?_)
      refine jm_iload (pc := 32) 3 dX12_isFoundWith_32 rfl ?_
      have hg9 := h.1
      have h := h.2
      refine jm_icmp_lt (pc := 34) 39 dX12_isFoundWith_34 rfl hz7 hg9 (fun q => ?_) (fun q => ?_)
      · have h := h.1 q
        refine jm_iinc (pc := 39) (lv' := [(5, _), (0, _), (1, _), (2, _), (4, _)]) 4 dX12_isFoundWith_39 rfl (by decide) rfl ?_
        refine jm_goto (pc := 42) 13 dX12_isFoundWith_42 rfl ?_
        exact jm_sub [1, 2, 3, 4, 0] rfl h
      · have h := h.2 q
        refine jm_iconst (pc := 37) dX12_isFoundWith_37 ?_
        exact jm_zret (pc := 38) dX12_isFoundWith_38 rfl (Or.inl rfl) h
theorem eX12_isFoundWith {l : Launch} {g : jm_G} {d : Nat} {v1 v2 v3 : Int} (hg : jm_HR g) {mu : jm_M} {Q : Option Value → jm_M → Prop} (h : jm_R l g (d + 1) iX12_weighedFor [.ref 0, jm_i v1, jm_i v2] mu (jm_qi fun z2 m1 => ∀ x5, x5 = (z2 + v3) → jm_V l g (d + 2) iX12_isFoundWith 13 [(0, .ref 0), (1, jm_i v1), (2, jm_i v2), (4, jm_i x5), (5, jm_i 0)] [] m1 Q)) : jm_R l g (d + 2) iX12_isFoundWith [.ref 0, jm_i v1, jm_i v2, jm_i v3] mu Q := by
  refine jm_enter [(0, .ref 0), (1, jm_i v1), (2, jm_i v2), (3, jm_i v3)] (by decide) (Nat.le_of_ble_eq_true rfl) rfl ?_
  refine jm_mrI (fun hm0 => ?_)
  refine jm_aload_n (pc := 0) 0 dX12_isFoundWith_0 rfl ?_
  refine jm_iload_n (pc := 1) 1 dX12_isFoundWith_1 rfl ?_
  refine jm_iload_n (pc := 2) 2 dX12_isFoundWith_2 rfl ?_
  refine jm_callvi (pc := 3) (As := [_, _]) (st := []) iX12_weighedFor dX12_isFoundWith_3 mX12_453 (cR0 hg) ⟨_, rfl, rfl⟩ rfl rfl (Nat.le_of_ble_eq_true rfl) h (fun z2 m1 hz3 h hm4 => ?_)
  refine jm_iload_n (pc := 6) 3 dX12_isFoundWith_6 rfl ?_
  refine jm_iadd (pc := 7) dX12_isFoundWith_7 ?_
  have h := h _ rfl
  refine jm_istore (pc := 8) (lv' := [(4, _), (0, _), (1, _), (2, _), (3, _)]) dX12_isFoundWith_8 (by decide) rfl ?_
  refine jm_iconst (pc := 10) dX12_isFoundWith_10 ?_
  refine jm_istore (pc := 11) (lv' := [(5, _), (4, _), (0, _), (1, _), (2, _), (3, _)]) dX12_isFoundWith_11 (by decide) rfl ?_
  exact jm_sub [2, 3, 4, 1, 0] rfl h
theorem dX12_weighed_0 : decode cX12_weighed 0 = .ok (.aload_n 0, 1) := by decide +kernel
theorem dX12_weighed_1 : decode cX12_weighed 1 = .ok (.iconst 0, 1) := by decide +kernel
theorem dX12_weighed_2 : decode cX12_weighed 2 = .ok (.putfield 104, 3) := by decide +kernel
theorem dX12_weighed_5 : decode cX12_weighed 5 = .ok (.aload_n 0, 1) := by decide +kernel
theorem dX12_weighed_6 : decode cX12_weighed 6 = .ok (.iload_n 1, 1) := by decide +kernel
theorem dX12_weighed_7 : decode cX12_weighed 7 = .ok (.invokevirtual 136, 3) := by decide +kernel
theorem dX12_weighed_10 : decode cX12_weighed 10 = .ok (.ifCond .eq 22, 3) := by decide +kernel
theorem dX12_weighed_13 : decode cX12_weighed 13 = .ok (.aload_n 0, 1) := by decide +kernel
theorem dX12_weighed_14 : decode cX12_weighed 14 = .ok (.iload_n 2, 1) := by decide +kernel
theorem dX12_weighed_15 : decode cX12_weighed 15 = .ok (.iconst 0, 1) := by decide +kernel
theorem dX12_weighed_16 : decode cX12_weighed 16 = .ok (.iconst 3, 1) := by decide +kernel
theorem dX12_weighed_17 : decode cX12_weighed 17 = .ok (.invokevirtual 128, 3) := by decide +kernel
theorem dX12_weighed_20 : decode cX12_weighed 20 = .ok (.ifCond .eq 12, 3) := by decide +kernel
theorem dX12_weighed_23 : decode cX12_weighed 23 = .ok (.aload_n 0, 1) := by decide +kernel
theorem dX12_weighed_24 : decode cX12_weighed 24 = .ok (.iload_n 1, 1) := by decide +kernel
theorem dX12_weighed_25 : decode cX12_weighed 25 = .ok (.iload_n 2, 1) := by decide +kernel
theorem dX12_weighed_26 : decode cX12_weighed 26 = .ok (.invokevirtual 453, 3) := by decide +kernel
theorem dX12_weighed_29 : decode cX12_weighed 29 = .ok (.goto 4, 3) := by decide +kernel
theorem dX12_weighed_32 : decode cX12_weighed 32 = .ok (.iconst (-1), 1) := by decide +kernel
theorem dX12_weighed_33 : decode cX12_weighed 33 = .ok (.ireturn, 1) := by decide +kernel
theorem eX12_weighed {l : Launch} {g : jm_G} {d : Nat} {v1 v2 : Int} (hg : jm_HR g) {mu : jm_M} {Q : Option Value → jm_M → Prop} (h : ∀ m1, m1 = jm_wr mu 0 0 0 → jm_rg v1 ∧ (0 ≤ v1 ∧ v1 < 6 → jm_rg v2 ∧ (0 ≤ v2 ∧ v2 ≤ 3 → jm_R l g (d + 1) iX12_weighedFor [.ref 0, jm_i v1, jm_i v2] m1 (jm_qi fun z6 m5 => Q (some (jm_i z6)) m5)) ∧ (¬ (0 ≤ v2 ∧ v2 ≤ 3) → Q (some (jm_i (-1))) m1)) ∧ (¬ (0 ≤ v1 ∧ v1 < 6) → Q (some (jm_i (-1))) m1)) : jm_R l g (d + 2) iX12_weighed [.ref 0, jm_i v1, jm_i v2] mu Q := by
  refine jm_enter [(0, .ref 0), (1, jm_i v1), (2, jm_i v2)] (by decide) (Nat.le_of_ble_eq_true rfl) rfl ?_
  refine jm_mrI (fun hm0 => ?_)
  refine jm_aload_n (pc := 0) 0 dX12_weighed_0 rfl ?_
  refine jm_iconst (pc := 1) dX12_weighed_1 ?_
  refine jm_put (pc := 2) 0 dX12_weighed_2 fX12_104 ftX12 (fun q h => by cases h; rfl) (jm_nI _) (jm_fI _) (cR0 hg) rfl ⟨by decide, by decide⟩ ?_
  have h := h _ rfl
  refine jm_mrI (fun hm2 => ?_)
  refine jm_aload_n (pc := 5) 0 dX12_weighed_5 rfl ?_
  refine jm_iload_n (pc := 6) 1 dX12_weighed_6 rfl ?_
  have hg3 := h.1
  have h := h.2
  refine jm_inlvi (pc := 7) (As := [_]) (st := []) iX12_isFact dX12_weighed_7 mX12_136 (cR0 hg) ⟨_, rfl, rfl⟩ rfl rfl (Nat.le_of_ble_eq_true rfl) (pX12_isFact hg hg3 (fun q => jm_kIi ?_) (fun q => jm_kIi ?_))
  · have h := h.1 q
    refine jm_if_eq (pc := 10) 32 dX12_weighed_10 rfl ⟨by decide, by decide⟩ (fun q => absurd q (by decide)) (fun q => ?_)
    refine jm_aload_n (pc := 13) 0 dX12_weighed_13 rfl ?_
    refine jm_iload_n (pc := 14) 2 dX12_weighed_14 rfl ?_
    refine jm_iconst (pc := 15) dX12_weighed_15 ?_
    refine jm_iconst (pc := 16) dX12_weighed_16 ?_
    have hg4 := h.1
    have h := h.2
    refine jm_inlvi (pc := 17) (As := [_, _, _]) (st := []) iX12_isIn dX12_weighed_17 mX12_128 (cR0 hg) ⟨_, rfl, rfl⟩ rfl rfl (Nat.le_of_ble_eq_true rfl) (pX12_isIn hg hg4 ⟨by decide, by decide⟩ ⟨by decide, by decide⟩ (fun q => jm_kIi ?_) (fun q => jm_kIi ?_))
    · have h := h.1 q
      refine jm_if_eq (pc := 20) 32 dX12_weighed_20 rfl ⟨by decide, by decide⟩ (fun q => absurd q (by decide)) (fun q => ?_)
      refine jm_aload_n (pc := 23) 0 dX12_weighed_23 rfl ?_
      refine jm_iload_n (pc := 24) 1 dX12_weighed_24 rfl ?_
      refine jm_iload_n (pc := 25) 2 dX12_weighed_25 rfl ?_
      refine jm_callvi (pc := 26) (As := [_, _]) (st := []) iX12_weighedFor dX12_weighed_26 mX12_453 (cR0 hg) ⟨_, rfl, rfl⟩ rfl rfl (Nat.le_of_ble_eq_true rfl) h (fun z6 m5 hz7 h hm8 => ?_)
      refine jm_goto (pc := 29) 33 dX12_weighed_29 rfl ?_
      exact jm_iret (pc := 33) dX12_weighed_33 rfl h
    · have h := h.2 q
      refine jm_if_eq (pc := 20) 32 dX12_weighed_20 rfl ⟨by decide, by decide⟩ (fun q => ?_) (fun q => absurd q (by decide))
      refine jm_iconst (pc := 32) dX12_weighed_32 ?_
      exact jm_iret (pc := 33) dX12_weighed_33 rfl h
  · have h := h.2 q
    refine jm_if_eq (pc := 10) 32 dX12_weighed_10 rfl ⟨by decide, by decide⟩ (fun q => ?_) (fun q => absurd q (by decide))
    refine jm_iconst (pc := 32) dX12_weighed_32 ?_
    exact jm_iret (pc := 33) dX12_weighed_33 rfl h
theorem dX12_found_0 : decode cX12_found 0 = .ok (.aload_n 0, 1) := by decide +kernel
theorem dX12_found_1 : decode cX12_found 1 = .ok (.iconst 0, 1) := by decide +kernel
theorem dX12_found_2 : decode cX12_found 2 = .ok (.putfield 104, 3) := by decide +kernel
theorem dX12_found_5 : decode cX12_found 5 = .ok (.aload_n 0, 1) := by decide +kernel
theorem dX12_found_6 : decode cX12_found 6 = .ok (.iload_n 1, 1) := by decide +kernel
theorem dX12_found_7 : decode cX12_found 7 = .ok (.invokevirtual 136, 3) := by decide +kernel
theorem dX12_found_10 : decode cX12_found 10 = .ok (.ifCond .ne 5, 3) := by decide +kernel
theorem dX12_found_13 : decode cX12_found 13 = .ok (.iconst (-1), 1) := by decide +kernel
theorem dX12_found_14 : decode cX12_found 14 = .ok (.ireturn, 1) := by decide +kernel
theorem dX12_found_15 : decode cX12_found 15 = .ok (.iconst 0, 1) := by decide +kernel
theorem dX12_found_16 : decode cX12_found 16 = .ok (.istore_n 2, 1) := by decide +kernel
theorem dX12_found_17 : decode cX12_found 17 = .ok (.iload_n 2, 1) := by decide +kernel
theorem dX12_found_18 : decode cX12_found 18 = .ok (.iconst 4, 1) := by decide +kernel
theorem dX12_found_19 : decode cX12_found 19 = .ok (.if_icmp .ge 21, 3) := by decide +kernel
theorem dX12_found_22 : decode cX12_found 22 = .ok (.aload_n 0, 1) := by decide +kernel
theorem dX12_found_23 : decode cX12_found 23 = .ok (.iload_n 1, 1) := by decide +kernel
theorem dX12_found_24 : decode cX12_found 24 = .ok (.iload_n 2, 1) := by decide +kernel
theorem dX12_found_25 : decode cX12_found 25 = .ok (.iconst 0, 1) := by decide +kernel
theorem dX12_found_26 : decode cX12_found 26 = .ok (.invokevirtual 459, 3) := by decide +kernel
theorem dX12_found_29 : decode cX12_found 29 = .ok (.ifCond .eq 5, 3) := by decide +kernel
theorem dX12_found_32 : decode cX12_found 32 = .ok (.iload_n 2, 1) := by decide +kernel
theorem dX12_found_33 : decode cX12_found 33 = .ok (.ireturn, 1) := by decide +kernel
theorem dX12_found_34 : decode cX12_found 34 = .ok (.iinc 2 1, 3) := by decide +kernel
theorem dX12_found_37 : decode cX12_found 37 = .ok (.goto (-20), 3) := by decide +kernel
theorem dX12_found_40 : decode cX12_found 40 = .ok (.iconst (-1), 1) := by decide +kernel
theorem dX12_found_41 : decode cX12_found 41 = .ok (.ireturn, 1) := by decide +kernel
theorem bX12_found_17 {l : Launch} {g : jm_G} {d : Nat} {v1 v2 : Int} (hg : jm_HR g) {mu : jm_M} {Q : Option Value → jm_M → Prop} (h : jm_rg v2 ∧ (4 ≤ v2 → Q (some (jm_i (-1))) mu) ∧ (v2 < 4 → jm_R l g (d + 1) iX12_isFoundWith [.ref 0, jm_i v1, jm_i v2, jm_i 0] mu (jm_qi fun z3 m2 => (z3 = 0 → jm_V l g (d + 2) iX12_found 17 [(0, .ref 0), (1, jm_i v1), (2, jm_i (v2 + 1))] [] m2 Q) ∧ (¬ z3 = 0 → Q (some (jm_i v2)) m2)))) : jm_V l g (d + 2) iX12_found 17 [(0, .ref 0), (1, jm_i v1), (2, jm_i v2)] [] mu Q := by
  refine jm_mrI (fun hm0 => ?_)
  refine jm_iload_n (pc := 17) 2 dX12_found_17 rfl ?_
  refine jm_iconst (pc := 18) dX12_found_18 ?_
  have hg1 := h.1
  have h := h.2
  refine jm_icmp_ge (pc := 19) 40 dX12_found_19 rfl hg1 ⟨by decide, by decide⟩ (fun q => ?_) (fun q => ?_)
  · have h := h.1 q
    refine jm_iconst (pc := 40) dX12_found_40 ?_
    exact jm_iret (pc := 41) dX12_found_41 rfl h
  · have h := h.2 q
    refine jm_aload_n (pc := 22) 0 dX12_found_22 rfl ?_
    refine jm_iload_n (pc := 23) 1 dX12_found_23 rfl ?_
    refine jm_iload_n (pc := 24) 2 dX12_found_24 rfl ?_
    refine jm_iconst (pc := 25) dX12_found_25 ?_
    refine jm_callvi (pc := 26) (As := [_, _, _]) (st := []) iX12_isFoundWith dX12_found_26 mX12_459 (cR0 hg) ⟨_, rfl, rfl⟩ rfl rfl (Nat.le_of_ble_eq_true rfl) h (fun z3 m2 hz4 h hm5 => ?_)
    refine jm_if_eq (pc := 29) 34 dX12_found_29 rfl hz4 (fun q => ?_) (fun q => ?_)
    · have h := h.1 q
      refine jm_iinc (pc := 34) (lv' := [(2, _), (0, _), (1, _)]) 2 dX12_found_34 rfl (by decide) rfl ?_
      refine jm_goto (pc := 37) 17 dX12_found_37 rfl ?_
      exact jm_sub [1, 2, 0] rfl h
    · have h := h.2 q
      refine jm_iload_n (pc := 32) 2 dX12_found_32 rfl ?_
      exact jm_iret (pc := 33) dX12_found_33 rfl h
theorem eX12_found {l : Launch} {g : jm_G} {d : Nat} {v1 : Int} (hg : jm_HR g) {mu : jm_M} {Q : Option Value → jm_M → Prop} (h : ∀ m1, m1 = jm_wr mu 0 0 0 → jm_rg v1 ∧ (0 ≤ v1 ∧ v1 < 6 → jm_V l g (d + 2) iX12_found 17 [(0, .ref 0), (1, jm_i v1), (2, jm_i 0)] [] m1 Q) ∧ (¬ (0 ≤ v1 ∧ v1 < 6) → Q (some (jm_i (-1))) m1)) : jm_R l g (d + 2) iX12_found [.ref 0, jm_i v1] mu Q := by
  refine jm_enter [(0, .ref 0), (1, jm_i v1)] (by decide) (Nat.le_of_ble_eq_true rfl) rfl ?_
  refine jm_mrI (fun hm0 => ?_)
  refine jm_aload_n (pc := 0) 0 dX12_found_0 rfl ?_
  refine jm_iconst (pc := 1) dX12_found_1 ?_
  refine jm_put (pc := 2) 0 dX12_found_2 fX12_104 ftX12 (fun q h => by cases h; rfl) (jm_nI _) (jm_fI _) (cR0 hg) rfl ⟨by decide, by decide⟩ ?_
  have h := h _ rfl
  refine jm_mrI (fun hm2 => ?_)
  refine jm_aload_n (pc := 5) 0 dX12_found_5 rfl ?_
  refine jm_iload_n (pc := 6) 1 dX12_found_6 rfl ?_
  have hg3 := h.1
  have h := h.2
  refine jm_inlvi (pc := 7) (As := [_]) (st := []) iX12_isFact dX12_found_7 mX12_136 (cR0 hg) ⟨_, rfl, rfl⟩ rfl rfl (Nat.le_of_ble_eq_true rfl) (pX12_isFact hg hg3 (fun q => jm_kIi ?_) (fun q => jm_kIi ?_))
  · have h := h.1 q
    refine jm_if_ne (pc := 10) 15 dX12_found_10 rfl ⟨by decide, by decide⟩ (fun q => ?_) (fun q => absurd q (by decide))
    refine jm_iconst (pc := 15) dX12_found_15 ?_
    refine jm_istore_n (pc := 16) (lv' := [(2, _), (0, _), (1, _)]) dX12_found_16 (by decide) rfl ?_
    exact jm_sub [1, 2, 0] rfl h
  · have h := h.2 q
    refine jm_if_ne (pc := 10) 15 dX12_found_10 rfl ⟨by decide, by decide⟩ (fun q => absurd q (by decide)) (fun q => ?_)
    refine jm_iconst (pc := 13) dX12_found_13 ?_
    exact jm_iret (pc := 14) dX12_found_14 rfl h
theorem dX12_singersFor_0 : decode cX12_singersFor 0 = .ok (.iconst 0, 1) := by decide +kernel
theorem dX12_singersFor_1 : decode cX12_singersFor 1 = .ok (.istore_n 3, 1) := by decide +kernel
theorem dX12_singersFor_2 : decode cX12_singersFor 2 = .ok (.iconst 0, 1) := by decide +kernel
theorem dX12_singersFor_3 : decode cX12_singersFor 3 = .ok (.istore 4, 2) := by decide +kernel
theorem dX12_singersFor_5 : decode cX12_singersFor 5 = .ok (.iload 4, 2) := by decide +kernel
theorem dX12_singersFor_7 : decode cX12_singersFor 7 = .ok (.aload_n 0, 1) := by decide +kernel
theorem dX12_singersFor_8 : decode cX12_singersFor 8 = .ok (.getfield 121, 3) := by decide +kernel
theorem dX12_singersFor_11 : decode cX12_singersFor 11 = .ok (.if_icmp .ge 41, 3) := by decide +kernel
theorem dX12_singersFor_14 : decode cX12_singersFor 14 = .ok (.aload_n 0, 1) := by decide +kernel
theorem dX12_singersFor_15 : decode cX12_singersFor 15 = .ok (.iload 4, 2) := by decide +kernel
theorem dX12_singersFor_17 : decode cX12_singersFor 17 = .ok (.iload_n 1, 1) := by decide +kernel
theorem dX12_singersFor_18 : decode cX12_singersFor 18 = .ok (.invokevirtual 419, 3) := by decide +kernel
theorem dX12_singersFor_21 : decode cX12_singersFor 21 = .ok (.aload_n 0, 1) := by decide +kernel
theorem dX12_singersFor_22 : decode cX12_singersFor 22 = .ok (.iload 4, 2) := by decide +kernel
theorem dX12_singersFor_24 : decode cX12_singersFor 24 = .ok (.iload_n 1, 1) := by decide +kernel
theorem dX12_singersFor_25 : decode cX12_singersFor 25 = .ok (.invokevirtual 341, 3) := by decide +kernel
theorem dX12_singersFor_28 : decode cX12_singersFor 28 = .ok (.iload_n 2, 1) := by decide +kernel
theorem dX12_singersFor_29 : decode cX12_singersFor 29 = .ok (.if_icmp .ne 17, 3) := by decide +kernel
theorem dX12_singersFor_32 : decode cX12_singersFor 32 = .ok (.aload_n 0, 1) := by decide +kernel
theorem dX12_singersFor_33 : decode cX12_singersFor 33 = .ok (.getfield 410, 3) := by decide +kernel
theorem dX12_singersFor_36 : decode cX12_singersFor 36 = .ok (.ifCond .le 10, 3) := by decide +kernel
theorem dX12_singersFor_39 : decode cX12_singersFor 39 = .ok (.iload_n 3, 1) := by decide +kernel
theorem dX12_singersFor_40 : decode cX12_singersFor 40 = .ok (.iconst 1, 1) := by decide +kernel
theorem dX12_singersFor_41 : decode cX12_singersFor 41 = .ok (.iload 4, 2) := by decide +kernel
theorem dX12_singersFor_43 : decode cX12_singersFor 43 = .ok (.ishl, 1) := by decide +kernel
theorem dX12_singersFor_44 : decode cX12_singersFor 44 = .ok (.ior, 1) := by decide +kernel
theorem dX12_singersFor_45 : decode cX12_singersFor 45 = .ok (.istore_n 3, 1) := by decide +kernel
theorem dX12_singersFor_46 : decode cX12_singersFor 46 = .ok (.iinc 4 1, 3) := by decide +kernel
theorem dX12_singersFor_49 : decode cX12_singersFor 49 = .ok (.goto (-44), 3) := by decide +kernel
theorem dX12_singersFor_52 : decode cX12_singersFor 52 = .ok (.iload_n 3, 1) := by decide +kernel
theorem dX12_singersFor_53 : decode cX12_singersFor 53 = .ok (.ireturn, 1) := by decide +kernel
theorem bX12_singersFor_5 {l : Launch} {g : jm_G} {d : Nat} {v1 v2 v3 v4 : Int} (hg : jm_HR g) {mu : jm_M} {Q : Option Value → jm_M → Prop} (h : jm_rg v4 ∧ ((mu.1 0 4) ≤ v4 → Q (some (jm_i v3)) mu) ∧ (v4 < (mu.1 0 4) → jm_R l g (d + 1) iX12_findsKeys [.ref 0, jm_i v4, jm_i v1] mu (jm_qv fun m2 => (0 ≤ ((6 * v4) + v1) ∧ ((6 * v4) + v1) < 48) ∧ jm_rg ((m2.1 6 ((6 * v4) + v1)) - 1) ∧ jm_rg v2 ∧ (¬ ((m2.1 6 ((6 * v4) + v1)) - 1) = v2 → jm_V l g (d + 2) iX12_singersFor 5 [(0, .ref 0), (1, jm_i v1), (2, jm_i v2), (3, jm_i v3), (4, jm_i (v4 + 1))] [] m2 Q) ∧ (((m2.1 6 ((6 * v4) + v1)) - 1) = v2 → ((m2.1 0 48) ≤ 0 → jm_V l g (d + 2) iX12_singersFor 5 [(0, .ref 0), (1, jm_i v1), (2, jm_i v2), (3, jm_i v3), (4, jm_i (v4 + 1))] [] m2 Q) ∧ (0 < (m2.1 0 48) → ∀ x9, x9 = (jm_or v3 (jm_shl 1 v4)) → jm_V l g (d + 2) iX12_singersFor 5 [(0, .ref 0), (1, jm_i v1), (2, jm_i v2), (3, jm_i x9), (4, jm_i (v4 + 1))] [] m2 Q))))) : jm_V l g (d + 2) iX12_singersFor 5 [(0, .ref 0), (1, jm_i v1), (2, jm_i v2), (3, jm_i v3), (4, jm_i v4)] [] mu Q := by
  refine jm_mrI (fun hm0 => ?_)
  refine jm_iload (pc := 5) 4 dX12_singersFor_5 rfl ?_
  refine jm_aload_n (pc := 7) 0 dX12_singersFor_7 rfl ?_
  refine jm_geti (pc := 8) 4 dX12_singersFor_8 fX12_121 (cR0 hg) rfl ?_
  have hg1 := h.1
  have h := h.2
  refine jm_icmp_ge (pc := 11) 52 dX12_singersFor_11 rfl hg1 (hm0 _ _) (fun q => ?_) (fun q => ?_)
  · have h := h.1 q
    refine jm_iload_n (pc := 52) 3 dX12_singersFor_52 rfl ?_
    exact jm_iret (pc := 53) dX12_singersFor_53 rfl h
  · have h := h.2 q
    refine jm_aload_n (pc := 14) 0 dX12_singersFor_14 rfl ?_
    refine jm_iload (pc := 15) 4 dX12_singersFor_15 rfl ?_
    refine jm_iload_n (pc := 17) 1 dX12_singersFor_17 rfl ?_
    refine jm_callvv (pc := 18) (As := [_, _]) (st := []) iX12_findsKeys dX12_singersFor_18 mX12_419 (cR0 hg) ⟨_, rfl, rfl⟩ rfl rfl (Nat.le_of_ble_eq_true rfl) h (fun m2 h hm5 => ?_)
    refine jm_aload_n (pc := 21) 0 dX12_singersFor_21 rfl ?_
    refine jm_iload (pc := 22) 4 dX12_singersFor_22 rfl ?_
    refine jm_iload_n (pc := 24) 1 dX12_singersFor_24 rfl ?_
    have hg6 := h.1
    have h := h.2
    refine jm_inlvi (pc := 25) (As := [_, _]) (st := []) iX12_claimOf dX12_singersFor_25 mX12_341 (cR0 hg) ⟨_, rfl, rfl⟩ rfl rfl (Nat.le_of_ble_eq_true rfl) (pX12_claimOf hg hg6 (jm_kIi ?_))
    refine jm_iload_n (pc := 28) 2 dX12_singersFor_28 rfl ?_
    have hg7 := h.1
    have h := h.2
    have hg8 := h.1
    have h := h.2
    refine jm_icmp_ne (pc := 29) 46 dX12_singersFor_29 rfl hg7 hg8 (fun q => ?_) (fun q => ?_)
    · have h := h.1 q
      refine jm_iinc (pc := 46) (lv' := [(4, _), (0, _), (1, _), (2, _), (3, _)]) 4 dX12_singersFor_46 rfl (by decide) rfl ?_
      refine jm_goto (pc := 49) 5 dX12_singersFor_49 rfl ?_
      exact jm_sub [1, 2, 3, 4, 0] rfl h
    · have h := h.2 q
      refine jm_aload_n (pc := 32) 0 dX12_singersFor_32 rfl ?_
      refine jm_geti (pc := 33) 48 dX12_singersFor_33 fX12_410 (cR0 hg) rfl ?_
      refine jm_if_le (pc := 36) 46 dX12_singersFor_36 rfl (hm5 _ _) (fun q => ?_) (fun q => ?_)
      · have h := h.1 q
        refine jm_iinc (pc := 46) (lv' := [(4, _), (0, _), (1, _), (2, _), (3, _)]) 4 dX12_singersFor_46 rfl (by decide) rfl ?_
        refine jm_goto (pc := 49) 5 dX12_singersFor_49 rfl ?_
        exact jm_sub [1, 2, 3, 4, 0] rfl h
      · have h := h.2 q
        refine jm_iload_n (pc := 39) 3 dX12_singersFor_39 rfl ?_
        refine jm_iconst (pc := 40) dX12_singersFor_40 ?_
        refine jm_iload (pc := 41) 4 dX12_singersFor_41 rfl ?_
        refine jm_ishl (pc := 43) dX12_singersFor_43 ?_
        refine jm_ior (pc := 44) dX12_singersFor_44 ?_
        have h := h _ rfl
        refine jm_istore_n (pc := 45) (lv' := [(3, _), (0, _), (1, _), (2, _), (4, _)]) dX12_singersFor_45 (by decide) rfl ?_
        refine jm_iinc (pc := 46) (lv' := [(4, _), (3, _), (0, _), (1, _), (2, _)]) 4 dX12_singersFor_46 rfl (by decide) rfl ?_
        refine jm_goto (pc := 49) 5 dX12_singersFor_49 rfl ?_
        exact jm_sub [2, 3, 4, 1, 0] rfl h
theorem eX12_singersFor {l : Launch} {g : jm_G} {d : Nat} {v1 v2 : Int} (hg : jm_HR g) {mu : jm_M} {Q : Option Value → jm_M → Prop} (h : jm_V l g (d + 2) iX12_singersFor 5 [(0, .ref 0), (1, jm_i v1), (2, jm_i v2), (3, jm_i 0), (4, jm_i 0)] [] mu Q) : jm_R l g (d + 2) iX12_singersFor [.ref 0, jm_i v1, jm_i v2] mu Q := by
  refine jm_enter [(0, .ref 0), (1, jm_i v1), (2, jm_i v2)] (by decide) (Nat.le_of_ble_eq_true rfl) rfl ?_
  refine jm_mrI (fun hm0 => ?_)
  refine jm_iconst (pc := 0) dX12_singersFor_0 ?_
  refine jm_istore_n (pc := 1) (lv' := [(3, _), (0, _), (1, _), (2, _)]) dX12_singersFor_1 (by decide) rfl ?_
  refine jm_iconst (pc := 2) dX12_singersFor_2 ?_
  refine jm_istore (pc := 3) (lv' := [(4, _), (3, _), (0, _), (1, _), (2, _)]) dX12_singersFor_3 (by decide) rfl ?_
  exact jm_sub [2, 3, 4, 1, 0] rfl h
theorem dX12_calls_0 : decode cX12_calls 0 = .ok (.aload_n 0, 1) := by decide +kernel
theorem dX12_calls_1 : decode cX12_calls 1 = .ok (.iconst 0, 1) := by decide +kernel
theorem dX12_calls_2 : decode cX12_calls 2 = .ok (.putfield 104, 3) := by decide +kernel
theorem dX12_calls_5 : decode cX12_calls 5 = .ok (.aload_n 0, 1) := by decide +kernel
theorem dX12_calls_6 : decode cX12_calls 6 = .ok (.iload_n 1, 1) := by decide +kernel
theorem dX12_calls_7 : decode cX12_calls 7 = .ok (.invokevirtual 136, 3) := by decide +kernel
theorem dX12_calls_10 : decode cX12_calls 10 = .ok (.ifCond .eq 23, 3) := by decide +kernel
theorem dX12_calls_13 : decode cX12_calls 13 = .ok (.aload_n 0, 1) := by decide +kernel
theorem dX12_calls_14 : decode cX12_calls 14 = .ok (.iload_n 2, 1) := by decide +kernel
theorem dX12_calls_15 : decode cX12_calls 15 = .ok (.iconst 0, 1) := by decide +kernel
theorem dX12_calls_16 : decode cX12_calls 16 = .ok (.iconst 3, 1) := by decide +kernel
theorem dX12_calls_17 : decode cX12_calls 17 = .ok (.invokevirtual 128, 3) := by decide +kernel
theorem dX12_calls_20 : decode cX12_calls 20 = .ok (.ifCond .eq 13, 3) := by decide +kernel
theorem dX12_calls_23 : decode cX12_calls 23 = .ok (.aload_n 0, 1) := by decide +kernel
theorem dX12_calls_24 : decode cX12_calls 24 = .ok (.iload_n 3, 1) := by decide +kernel
theorem dX12_calls_25 : decode cX12_calls 25 = .ok (.iconst 0, 1) := by decide +kernel
theorem dX12_calls_26 : decode cX12_calls 26 = .ok (.iconst 1, 1) := by decide +kernel
theorem dX12_calls_27 : decode cX12_calls 27 = .ok (.invokevirtual 128, 3) := by decide +kernel
theorem dX12_calls_30 : decode cX12_calls 30 = .ok (.ifCond .ne 5, 3) := by decide +kernel
theorem dX12_calls_33 : decode cX12_calls 33 = .ok (.iconst (-1), 1) := by decide +kernel
theorem dX12_calls_34 : decode cX12_calls 34 = .ok (.ireturn, 1) := by decide +kernel
theorem dX12_calls_35 : decode cX12_calls 35 = .ok (.aload_n 0, 1) := by decide +kernel
theorem dX12_calls_36 : decode cX12_calls 36 = .ok (.iload_n 1, 1) := by decide +kernel
theorem dX12_calls_37 : decode cX12_calls 37 = .ok (.iload_n 2, 1) := by decide +kernel
theorem dX12_calls_38 : decode cX12_calls 38 = .ok (.invokevirtual 462, 3) := by decide +kernel
theorem dX12_calls_41 : decode cX12_calls 41 = .ok (.istore 4, 2) := by decide +kernel
theorem dX12_calls_43 : decode cX12_calls 43 = .ok (.iconst (-1), 1) := by decide +kernel
theorem dX12_calls_44 : decode cX12_calls 44 = .ok (.istore 5, 2) := by decide +kernel
theorem dX12_calls_46 : decode cX12_calls 46 = .ok (.iconst 0, 1) := by decide +kernel
theorem dX12_calls_47 : decode cX12_calls 47 = .ok (.istore 6, 2) := by decide +kernel
theorem dX12_calls_49 : decode cX12_calls 49 = .ok (.iload 6, 2) := by decide +kernel
theorem dX12_calls_51 : decode cX12_calls 51 = .ok (.iconst 1, 1) := by decide +kernel
theorem dX12_calls_52 : decode cX12_calls 52 = .ok (.aload_n 0, 1) := by decide +kernel
theorem dX12_calls_53 : decode cX12_calls 53 = .ok (.getfield 121, 3) := by decide +kernel
theorem dX12_calls_56 : decode cX12_calls 56 = .ok (.ishl, 1) := by decide +kernel
theorem dX12_calls_57 : decode cX12_calls 57 = .ok (.if_icmp .ge 104, 3) := by decide +kernel
theorem dX12_calls_60 : decode cX12_calls 60 = .ok (.iload 6, 2) := by decide +kernel
theorem dX12_calls_62 : decode cX12_calls 62 = .ok (.iload 4, 2) := by decide +kernel
theorem dX12_calls_64 : decode cX12_calls 64 = .ok (.iconst (-1), 1) := by decide +kernel
theorem dX12_calls_65 : decode cX12_calls 65 = .ok (.ixor, 1) := by decide +kernel
theorem dX12_calls_66 : decode cX12_calls 66 = .ok (.iand, 1) := by decide +kernel
theorem dX12_calls_67 : decode cX12_calls 67 = .ok (.ifCond .ne 88, 3) := by decide +kernel
theorem dX12_calls_70 : decode cX12_calls 70 = .ok (.iload 5, 2) := by decide +kernel
theorem dX12_calls_72 : decode cX12_calls 72 = .ok (.iconst (-1), 1) := by decide +kernel
theorem dX12_calls_73 : decode cX12_calls 73 = .ok (.if_icmp .eq 21, 3) := by decide +kernel
theorem dX12_calls_76 : decode cX12_calls 76 = .ok (.aload_n 0, 1) := by decide +kernel
theorem dX12_calls_77 : decode cX12_calls 77 = .ok (.iload 6, 2) := by decide +kernel
theorem dX12_calls_79 : decode cX12_calls 79 = .ok (.invokevirtual 465, 3) := by decide +kernel
theorem dX12_calls_82 : decode cX12_calls 82 = .ok (.aload_n 0, 1) := by decide +kernel
theorem dX12_calls_83 : decode cX12_calls 83 = .ok (.iload 5, 2) := by decide +kernel
theorem dX12_calls_85 : decode cX12_calls 85 = .ok (.invokevirtual 465, 3) := by decide +kernel
theorem dX12_calls_88 : decode cX12_calls 88 = .ok (.if_icmp .lt 6, 3) := by decide +kernel
theorem dX12_calls_91 : decode cX12_calls 91 = .ok (.goto 64, 3) := by decide +kernel
theorem dX12_calls_94 : decode cX12_calls 94 = .ok (.iconst 0, 1) := by decide +kernel
theorem dX12_calls_95 : decode cX12_calls 95 = .ok (.istore 7, 2) := by decide +kernel
theorem dX12_calls_97 : decode cX12_calls 97 = .ok (.iconst 0, 1) := by decide +kernel
theorem dX12_calls_98 : decode cX12_calls 98 = .ok (.istore 8, 2) := by decide +kernel
theorem dX12_calls_100 : decode cX12_calls 100 = .ok (.iload 8, 2) := by decide +kernel
theorem dX12_calls_102 : decode cX12_calls 102 = .ok (.aload_n 0, 1) := by decide +kernel
theorem dX12_calls_103 : decode cX12_calls 103 = .ok (.getfield 121, 3) := by decide +kernel
theorem dX12_calls_106 : decode cX12_calls 106 = .ok (.if_icmp .ge 34, 3) := by decide +kernel
theorem dX12_calls_109 : decode cX12_calls 109 = .ok (.iload 6, 2) := by decide +kernel
theorem dX12_calls_111 : decode cX12_calls 111 = .ok (.iload 8, 2) := by decide +kernel
theorem dX12_calls_113 : decode cX12_calls 113 = .ok (.ishr, 1) := by decide +kernel
theorem dX12_calls_114 : decode cX12_calls 114 = .ok (.iconst 1, 1) := by decide +kernel
theorem dX12_calls_115 : decode cX12_calls 115 = .ok (.iand, 1) := by decide +kernel
theorem dX12_calls_116 : decode cX12_calls 116 = .ok (.iconst 1, 1) := by decide +kernel
theorem dX12_calls_117 : decode cX12_calls 117 = .ok (.if_icmp .ne 17, 3) := by decide +kernel
theorem dX12_calls_120 : decode cX12_calls 120 = .ok (.iload 7, 2) := by decide +kernel
theorem dX12_calls_122 : decode cX12_calls 122 = .ok (.aload_n 0, 1) := by decide +kernel
theorem dX12_calls_123 : decode cX12_calls 123 = .ok (.iload 8, 2) := by decide +kernel
theorem dX12_calls_125 : decode cX12_calls 125 = .ok (.iload_n 1, 1) := by decide +kernel
theorem dX12_calls_126 : decode cX12_calls 126 = .ok (.iload_n 2, 1) := by decide +kernel
theorem dX12_calls_127 : decode cX12_calls 127 = .ok (.iconst 0, 1) := by decide +kernel
theorem dX12_calls_128 : decode cX12_calls 128 = .ok (.invokevirtual 406, 3) := by decide +kernel
theorem dX12_calls_131 : decode cX12_calls 131 = .ok (.iadd, 1) := by decide +kernel
theorem dX12_calls_132 : decode cX12_calls 132 = .ok (.istore 7, 2) := by decide +kernel
theorem dX12_calls_134 : decode cX12_calls 134 = .ok (.iinc 8 1, 3) := by decide +kernel
theorem dX12_calls_137 : decode cX12_calls 137 = .ok (.goto (-37), 3) := by decide +kernel
theorem dX12_calls_140 : decode cX12_calls 140 = .ok (.aload_n 0, 1) := by decide +kernel
theorem dX12_calls_141 : decode cX12_calls 141 = .ok (.iload_n 1, 1) := by decide +kernel
theorem dX12_calls_142 : decode cX12_calls 142 = .ok (.iload_n 2, 1) := by decide +kernel
theorem dX12_calls_143 : decode cX12_calls 143 = .ok (.iload 7, 2) := by decide +kernel
theorem dX12_calls_145 : decode cX12_calls 145 = .ok (.invokevirtual 459, 3) := by decide +kernel
theorem dX12_calls_148 : decode cX12_calls 148 = .ok (.ifCond .eq 7, 3) := by decide +kernel
theorem dX12_calls_151 : decode cX12_calls 151 = .ok (.iload 6, 2) := by decide +kernel
theorem dX12_calls_153 : decode cX12_calls 153 = .ok (.istore 5, 2) := by decide +kernel
theorem dX12_calls_155 : decode cX12_calls 155 = .ok (.iinc 6 1, 3) := by decide +kernel
theorem dX12_calls_158 : decode cX12_calls 158 = .ok (.goto (-109), 3) := by decide +kernel
theorem dX12_calls_161 : decode cX12_calls 161 = .ok (.iload 5, 2) := by decide +kernel
theorem dX12_calls_163 : decode cX12_calls 163 = .ok (.iconst (-1), 1) := by decide +kernel
theorem dX12_calls_164 : decode cX12_calls 164 = .ok (.if_icmp .eq 8, 3) := by decide +kernel
theorem dX12_calls_167 : decode cX12_calls 167 = .ok (.iload_n 3, 1) := by decide +kernel
theorem dX12_calls_168 : decode cX12_calls 168 = .ok (.iconst 1, 1) := by decide +kernel
theorem dX12_calls_169 : decode cX12_calls 169 = .ok (.if_icmp .ne 8, 3) := by decide +kernel
theorem dX12_calls_172 : decode cX12_calls 172 = .ok (.iload 5, 2) := by decide +kernel
theorem dX12_calls_174 : decode cX12_calls 174 = .ok (.goto 9, 3) := by decide +kernel
theorem dX12_calls_177 : decode cX12_calls 177 = .ok (.aload_n 0, 1) := by decide +kernel
theorem dX12_calls_178 : decode cX12_calls 178 = .ok (.iload 5, 2) := by decide +kernel
theorem dX12_calls_180 : decode cX12_calls 180 = .ok (.invokevirtual 465, 3) := by decide +kernel
theorem dX12_calls_183 : decode cX12_calls 183 = .ok (.ireturn, 1) := by decide +kernel
theorem bX12_calls_100 {l : Launch} {g : jm_G} {d : Nat} {v1 v2 v3 v4 v5 v6 v7 v8 : Int} (hg : jm_HR g) {mu : jm_M} {Q : Option Value → jm_M → Prop} (h : jm_rg v8 ∧ ((mu.1 0 4) ≤ v8 → jm_R l g (d + 1) iX12_isFoundWith [.ref 0, jm_i v1, jm_i v2, jm_i v7] mu (jm_qi fun z3 m2 => (z3 = 0 → jm_V l g (d + 2) iX12_calls 49 [(0, .ref 0), (1, jm_i v1), (2, jm_i v2), (3, jm_i v3), (4, jm_i v4), (5, jm_i v5), (6, jm_i (v6 + 1))] [] m2 Q) ∧ (¬ z3 = 0 → jm_V l g (d + 2) iX12_calls 49 [(0, .ref 0), (1, jm_i v1), (2, jm_i v2), (3, jm_i v3), (4, jm_i v4), (5, jm_i v6), (6, jm_i (v6 + 1))] [] m2 Q))) ∧ (v8 < (mu.1 0 4) → (¬ (jm_and (jm_shr v6 v8) 1) = 1 → jm_V l g (d + 2) iX12_calls 100 [(0, .ref 0), (1, jm_i v1), (2, jm_i v2), (3, jm_i v3), (4, jm_i v4), (5, jm_i v5), (6, jm_i v6), (7, jm_i v7), (8, jm_i (v8 + 1))] [] mu Q) ∧ ((jm_and (jm_shr v6 v8) 1) = 1 → jm_R l g (d + 1) iX12_weighOf [.ref 0, jm_i v8, jm_i v1, jm_i v2, jm_i 0] mu (jm_qi fun z7 m6 => ∀ x10, x10 = (v7 + z7) → jm_V l g (d + 2) iX12_calls 100 [(0, .ref 0), (1, jm_i v1), (2, jm_i v2), (3, jm_i v3), (4, jm_i v4), (5, jm_i v5), (6, jm_i v6), (7, jm_i x10), (8, jm_i (v8 + 1))] [] m6 Q)))) : jm_V l g (d + 2) iX12_calls 100 [(0, .ref 0), (1, jm_i v1), (2, jm_i v2), (3, jm_i v3), (4, jm_i v4), (5, jm_i v5), (6, jm_i v6), (7, jm_i v7), (8, jm_i v8)] [] mu Q := by
  refine jm_mrI (fun hm0 => ?_)
  refine jm_iload (pc := 100) 8 dX12_calls_100 rfl ?_
  refine jm_aload_n (pc := 102) 0 dX12_calls_102 rfl ?_
  refine jm_geti (pc := 103) 4 dX12_calls_103 fX12_121 (cR0 hg) rfl ?_
  have hg1 := h.1
  have h := h.2
  refine jm_icmp_ge (pc := 106) 140 dX12_calls_106 rfl hg1 (hm0 _ _) (fun q => ?_) (fun q => ?_)
  · have h := h.1 q
    refine jm_aload_n (pc := 140) 0 dX12_calls_140 rfl ?_
    refine jm_iload_n (pc := 141) 1 dX12_calls_141 rfl ?_
    refine jm_iload_n (pc := 142) 2 dX12_calls_142 rfl ?_
    refine jm_iload (pc := 143) 7 dX12_calls_143 rfl ?_
    refine jm_callvi (pc := 145) (As := [_, _, _]) (st := []) iX12_isFoundWith dX12_calls_145 mX12_459 (cR0 hg) ⟨_, rfl, rfl⟩ rfl rfl (Nat.le_of_ble_eq_true rfl) h (fun z3 m2 hz4 h hm5 => ?_)
    refine jm_if_eq (pc := 148) 155 dX12_calls_148 rfl hz4 (fun q => ?_) (fun q => ?_)
    · have h := h.1 q
      refine jm_iinc (pc := 155) (lv' := [(6, _), (0, _), (1, _), (2, _), (3, _), (4, _), (5, _), (7, _), (8, _)]) 6 dX12_calls_155 rfl (by decide) rfl ?_
      refine jm_goto (pc := 158) 49 dX12_calls_158 rfl ?_
      exact jm_sub [1, 2, 3, 4, 5, 6, 0] rfl h
    · have h := h.2 q
      refine jm_iload (pc := 151) 6 dX12_calls_151 rfl ?_
      refine jm_istore (pc := 153) (lv' := [(5, _), (0, _), (1, _), (2, _), (3, _), (4, _), (6, _), (7, _), (8, _)]) dX12_calls_153 (by decide) rfl ?_
      refine jm_iinc (pc := 155) (lv' := [(6, _), (5, _), (0, _), (1, _), (2, _), (3, _), (4, _), (7, _), (8, _)]) 6 dX12_calls_155 rfl (by decide) rfl ?_
      refine jm_goto (pc := 158) 49 dX12_calls_158 rfl ?_
      exact jm_sub [2, 3, 4, 5, 6, 1, 0] rfl h
  · have h := h.2 q
    refine jm_iload (pc := 109) 6 dX12_calls_109 rfl ?_
    refine jm_iload (pc := 111) 8 dX12_calls_111 rfl ?_
    refine jm_ishr (pc := 113) dX12_calls_113 ?_
    refine jm_iconst (pc := 114) dX12_calls_114 ?_
    refine jm_iand (pc := 115) dX12_calls_115 ?_
    refine jm_iconst (pc := 116) dX12_calls_116 ?_
    refine jm_icmp_ne (pc := 117) 134 dX12_calls_117 rfl (jm_rgT _) ⟨by decide, by decide⟩ (fun q => ?_) (fun q => ?_)
    · have h := h.1 q
      refine jm_iinc (pc := 134) (lv' := [(8, _), (0, _), (1, _), (2, _), (3, _), (4, _), (5, _), (6, _), (7, _)]) 8 dX12_calls_134 rfl (by decide) rfl ?_
      refine jm_goto (pc := 137) 100 dX12_calls_137 rfl ?_
      exact jm_sub [1, 2, 3, 4, 5, 6, 7, 8, 0] rfl h
    · have h := h.2 q
      refine jm_iload (pc := 120) 7 dX12_calls_120 rfl ?_
      refine jm_aload_n (pc := 122) 0 dX12_calls_122 rfl ?_
      refine jm_iload (pc := 123) 8 dX12_calls_123 rfl ?_
      refine jm_iload_n (pc := 125) 1 dX12_calls_125 rfl ?_
      refine jm_iload_n (pc := 126) 2 dX12_calls_126 rfl ?_
      refine jm_iconst (pc := 127) dX12_calls_127 ?_
      refine jm_callvi (pc := 128) (As := [_, _, _, _]) (st := [_]) iX12_weighOf dX12_calls_128 mX12_406 (cR0 hg) ⟨_, rfl, rfl⟩ rfl rfl (Nat.le_of_ble_eq_true rfl) h (fun z7 m6 hz8 h hm9 => ?_)
      refine jm_iadd (pc := 131) dX12_calls_131 ?_
      have h := h _ rfl
      refine jm_istore (pc := 132) (lv' := [(7, _), (0, _), (1, _), (2, _), (3, _), (4, _), (5, _), (6, _), (8, _)]) dX12_calls_132 (by decide) rfl ?_
      refine jm_iinc (pc := 134) (lv' := [(8, _), (7, _), (0, _), (1, _), (2, _), (3, _), (4, _), (5, _), (6, _)]) 8 dX12_calls_134 rfl (by decide) rfl ?_
      refine jm_goto (pc := 137) 100 dX12_calls_137 rfl ?_
      exact jm_sub [2, 3, 4, 5, 6, 7, 8, 1, 0] rfl h
theorem bX12_calls_49 {l : Launch} {g : jm_G} {d : Nat} {v1 v2 v3 v4 v5 v6 : Int} (hg : jm_HR g) {mu : jm_M} {Q : Option Value → jm_M → Prop} (h : jm_rg v6 ∧ ((jm_shl 1 (mu.1 0 4)) ≤ v6 → jm_rg v5 ∧ (v5 = (-1) → Q (some (jm_i v5)) mu) ∧ (¬ v5 = (-1) → jm_rg v3 ∧ (¬ v3 = 1 → jm_R l g (d + 1) iX12_onesOf [.ref 0, jm_i v5] mu (jm_qi fun z5 m4 => Q (some (jm_i z5)) m4)) ∧ (v3 = 1 → Q (some (jm_i v5)) mu))) ∧ (v6 < (jm_shl 1 (mu.1 0 4)) → (¬ (jm_and v6 (jm_xor v4 (-1))) = 0 → jm_V l g (d + 2) iX12_calls 49 [(0, .ref 0), (1, jm_i v1), (2, jm_i v2), (3, jm_i v3), (4, jm_i v4), (5, jm_i v5), (6, jm_i (v6 + 1))] [] mu Q) ∧ ((jm_and v6 (jm_xor v4 (-1))) = 0 → jm_rg v5 ∧ (v5 = (-1) → jm_V l g (d + 2) iX12_calls 100 [(0, .ref 0), (1, jm_i v1), (2, jm_i v2), (3, jm_i v3), (4, jm_i v4), (5, jm_i v5), (6, jm_i v6), (7, jm_i 0), (8, jm_i 0)] [] mu Q) ∧ (¬ v5 = (-1) → jm_R l g (d + 1) iX12_onesOf [.ref 0, jm_i v6] mu (jm_qi fun z10 m9 => jm_R l g (d + 1) iX12_onesOf [.ref 0, jm_i v5] m9 (jm_qi fun z14 m13 => (z10 < z14 → jm_V l g (d + 2) iX12_calls 100 [(0, .ref 0), (1, jm_i v1), (2, jm_i v2), (3, jm_i v3), (4, jm_i v4), (5, jm_i v5), (6, jm_i v6), (7, jm_i 0), (8, jm_i 0)] [] m13 Q) ∧ (z14 ≤ z10 → jm_V l g (d + 2) iX12_calls 49 [(0, .ref 0), (1, jm_i v1), (2, jm_i v2), (3, jm_i v3), (4, jm_i v4), (5, jm_i v5), (6, jm_i (v6 + 1))] [] m13 Q))))))) : jm_V l g (d + 2) iX12_calls 49 [(0, .ref 0), (1, jm_i v1), (2, jm_i v2), (3, jm_i v3), (4, jm_i v4), (5, jm_i v5), (6, jm_i v6)] [] mu Q := by
  refine jm_mrI (fun hm0 => ?_)
  refine jm_iload (pc := 49) 6 dX12_calls_49 rfl ?_
  refine jm_iconst (pc := 51) dX12_calls_51 ?_
  refine jm_aload_n (pc := 52) 0 dX12_calls_52 rfl ?_
  refine jm_geti (pc := 53) 4 dX12_calls_53 fX12_121 (cR0 hg) rfl ?_
  refine jm_ishl (pc := 56) dX12_calls_56 ?_
  have hg1 := h.1
  have h := h.2
  refine jm_icmp_ge (pc := 57) 161 dX12_calls_57 rfl hg1 (jm_rgT _) (fun q => ?_) (fun q => ?_)
  · have h := h.1 q
    refine jm_iload (pc := 161) 5 dX12_calls_161 rfl ?_
    refine jm_iconst (pc := 163) dX12_calls_163 ?_
    have hg2 := h.1
    have h := h.2
    refine jm_icmp_eq (pc := 164) 172 dX12_calls_164 rfl hg2 ⟨by decide, by decide⟩ (fun q => ?_) (fun q => ?_)
    · have h := h.1 q
      refine jm_iload (pc := 172) 5 dX12_calls_172 rfl ?_
      refine jm_goto (pc := 174) 183 dX12_calls_174 rfl ?_
      exact jm_iret (pc := 183) dX12_calls_183 rfl h
    · have h := h.2 q
      refine jm_iload_n (pc := 167) 3 dX12_calls_167 rfl ?_
      refine jm_iconst (pc := 168) dX12_calls_168 ?_
      have hg3 := h.1
      have h := h.2
      refine jm_icmp_ne (pc := 169) 177 dX12_calls_169 rfl hg3 ⟨by decide, by decide⟩ (fun q => ?_) (fun q => ?_)
      · have h := h.1 q
        refine jm_aload_n (pc := 177) 0 dX12_calls_177 rfl ?_
        refine jm_iload (pc := 178) 5 dX12_calls_178 rfl ?_
        refine jm_callvi (pc := 180) (As := [_]) (st := []) iX12_onesOf dX12_calls_180 mX12_465 (cR0 hg) ⟨_, rfl, rfl⟩ rfl rfl (Nat.le_of_ble_eq_true rfl) h (fun z5 m4 hz6 h hm7 => ?_)
        exact jm_iret (pc := 183) dX12_calls_183 rfl h
      · have h := h.2 q
        refine jm_iload (pc := 172) 5 dX12_calls_172 rfl ?_
        refine jm_goto (pc := 174) 183 dX12_calls_174 rfl ?_
        exact jm_iret (pc := 183) dX12_calls_183 rfl h
  · have h := h.2 q
    refine jm_iload (pc := 60) 6 dX12_calls_60 rfl ?_
    refine jm_iload (pc := 62) 4 dX12_calls_62 rfl ?_
    refine jm_iconst (pc := 64) dX12_calls_64 ?_
    refine jm_ixor (pc := 65) dX12_calls_65 ?_
    refine jm_iand (pc := 66) dX12_calls_66 ?_
    refine jm_if_ne (pc := 67) 155 dX12_calls_67 rfl (jm_rgT _) (fun q => ?_) (fun q => ?_)
    · have h := h.1 q
      refine jm_iinc (pc := 155) (lv' := [(6, _), (0, _), (1, _), (2, _), (3, _), (4, _), (5, _)]) 6 dX12_calls_155 rfl (by decide) rfl ?_
      refine jm_goto (pc := 158) 49 dX12_calls_158 rfl ?_
      exact jm_sub [1, 2, 3, 4, 5, 6, 0] rfl h
    · have h := h.2 q
      refine jm_iload (pc := 70) 5 dX12_calls_70 rfl ?_
      refine jm_iconst (pc := 72) dX12_calls_72 ?_
      have hg8 := h.1
      have h := h.2
      refine jm_icmp_eq (pc := 73) 94 dX12_calls_73 rfl hg8 ⟨by decide, by decide⟩ (fun q => ?_) (fun q => ?_)
      · have h := h.1 q
        refine jm_iconst (pc := 94) dX12_calls_94 ?_
        refine jm_istore (pc := 95) (lv' := [(7, _), (0, _), (1, _), (2, _), (3, _), (4, _), (5, _), (6, _)]) dX12_calls_95 (by decide) rfl ?_
        refine jm_iconst (pc := 97) dX12_calls_97 ?_
        refine jm_istore (pc := 98) (lv' := [(8, _), (7, _), (0, _), (1, _), (2, _), (3, _), (4, _), (5, _), (6, _)]) dX12_calls_98 (by decide) rfl ?_
        exact jm_sub [2, 3, 4, 5, 6, 7, 8, 1, 0] rfl h
      · have h := h.2 q
        refine jm_aload_n (pc := 76) 0 dX12_calls_76 rfl ?_
        refine jm_iload (pc := 77) 6 dX12_calls_77 rfl ?_
        refine jm_callvi (pc := 79) (As := [_]) (st := []) iX12_onesOf dX12_calls_79 mX12_465 (cR0 hg) ⟨_, rfl, rfl⟩ rfl rfl (Nat.le_of_ble_eq_true rfl) h (fun z10 m9 hz11 h hm12 => ?_)
        refine jm_aload_n (pc := 82) 0 dX12_calls_82 rfl ?_
        refine jm_iload (pc := 83) 5 dX12_calls_83 rfl ?_
        refine jm_callvi (pc := 85) (As := [_]) (st := [_]) iX12_onesOf dX12_calls_85 mX12_465 (cR0 hg) ⟨_, rfl, rfl⟩ rfl rfl (Nat.le_of_ble_eq_true rfl) h (fun z14 m13 hz15 h hm16 => ?_)
        refine jm_icmp_lt (pc := 88) 94 dX12_calls_88 rfl hz11 hz15 (fun q => ?_) (fun q => ?_)
        · have h := h.1 q
          refine jm_iconst (pc := 94) dX12_calls_94 ?_
          refine jm_istore (pc := 95) (lv' := [(7, _), (0, _), (1, _), (2, _), (3, _), (4, _), (5, _), (6, _)]) dX12_calls_95 (by decide) rfl ?_
          refine jm_iconst (pc := 97) dX12_calls_97 ?_
          refine jm_istore (pc := 98) (lv' := [(8, _), (7, _), (0, _), (1, _), (2, _), (3, _), (4, _), (5, _), (6, _)]) dX12_calls_98 (by decide) rfl ?_
          exact jm_sub [2, 3, 4, 5, 6, 7, 8, 1, 0] rfl h
        · have h := h.2 q
          refine jm_goto (pc := 91) 155 dX12_calls_91 rfl ?_
          refine jm_iinc (pc := 155) (lv' := [(6, _), (0, _), (1, _), (2, _), (3, _), (4, _), (5, _)]) 6 dX12_calls_155 rfl (by decide) rfl ?_
          refine jm_goto (pc := 158) 49 dX12_calls_158 rfl ?_
          exact jm_sub [1, 2, 3, 4, 5, 6, 0] rfl h
theorem eX12_calls {l : Launch} {g : jm_G} {d : Nat} {v1 v2 v3 : Int} (hg : jm_HR g) {mu : jm_M} {Q : Option Value → jm_M → Prop} (h : ∀ m1, m1 = jm_wr mu 0 0 0 → jm_rg v1 ∧ (0 ≤ v1 ∧ v1 < 6 → jm_rg v2 ∧ (0 ≤ v2 ∧ v2 ≤ 3 → jm_rg v3 ∧ (0 ≤ v3 ∧ v3 ≤ 1 → jm_R l g (d + 1) iX12_singersFor [.ref 0, jm_i v1, jm_i v2] m1 (jm_qi fun z7 m6 => jm_V l g (d + 2) iX12_calls 49 [(0, .ref 0), (1, jm_i v1), (2, jm_i v2), (3, jm_i v3), (4, jm_i z7), (5, jm_i (-1)), (6, jm_i 0)] [] m6 Q)) ∧ (¬ (0 ≤ v3 ∧ v3 ≤ 1) → Q (some (jm_i (-1))) m1)) ∧ (¬ (0 ≤ v2 ∧ v2 ≤ 3) → Q (some (jm_i (-1))) m1)) ∧ (¬ (0 ≤ v1 ∧ v1 < 6) → Q (some (jm_i (-1))) m1)) : jm_R l g (d + 2) iX12_calls [.ref 0, jm_i v1, jm_i v2, jm_i v3] mu Q := by
  refine jm_enter [(0, .ref 0), (1, jm_i v1), (2, jm_i v2), (3, jm_i v3)] (by decide) (Nat.le_of_ble_eq_true rfl) rfl ?_
  refine jm_mrI (fun hm0 => ?_)
  refine jm_aload_n (pc := 0) 0 dX12_calls_0 rfl ?_
  refine jm_iconst (pc := 1) dX12_calls_1 ?_
  refine jm_put (pc := 2) 0 dX12_calls_2 fX12_104 ftX12 (fun q h => by cases h; rfl) (jm_nI _) (jm_fI _) (cR0 hg) rfl ⟨by decide, by decide⟩ ?_
  have h := h _ rfl
  refine jm_mrI (fun hm2 => ?_)
  refine jm_aload_n (pc := 5) 0 dX12_calls_5 rfl ?_
  refine jm_iload_n (pc := 6) 1 dX12_calls_6 rfl ?_
  have hg3 := h.1
  have h := h.2
  refine jm_inlvi (pc := 7) (As := [_]) (st := []) iX12_isFact dX12_calls_7 mX12_136 (cR0 hg) ⟨_, rfl, rfl⟩ rfl rfl (Nat.le_of_ble_eq_true rfl) (pX12_isFact hg hg3 (fun q => jm_kIi ?_) (fun q => jm_kIi ?_))
  · have h := h.1 q
    refine jm_if_eq (pc := 10) 33 dX12_calls_10 rfl ⟨by decide, by decide⟩ (fun q => absurd q (by decide)) (fun q => ?_)
    refine jm_aload_n (pc := 13) 0 dX12_calls_13 rfl ?_
    refine jm_iload_n (pc := 14) 2 dX12_calls_14 rfl ?_
    refine jm_iconst (pc := 15) dX12_calls_15 ?_
    refine jm_iconst (pc := 16) dX12_calls_16 ?_
    have hg4 := h.1
    have h := h.2
    refine jm_inlvi (pc := 17) (As := [_, _, _]) (st := []) iX12_isIn dX12_calls_17 mX12_128 (cR0 hg) ⟨_, rfl, rfl⟩ rfl rfl (Nat.le_of_ble_eq_true rfl) (pX12_isIn hg hg4 ⟨by decide, by decide⟩ ⟨by decide, by decide⟩ (fun q => jm_kIi ?_) (fun q => jm_kIi ?_))
    · have h := h.1 q
      refine jm_if_eq (pc := 20) 33 dX12_calls_20 rfl ⟨by decide, by decide⟩ (fun q => absurd q (by decide)) (fun q => ?_)
      refine jm_aload_n (pc := 23) 0 dX12_calls_23 rfl ?_
      refine jm_iload_n (pc := 24) 3 dX12_calls_24 rfl ?_
      refine jm_iconst (pc := 25) dX12_calls_25 ?_
      refine jm_iconst (pc := 26) dX12_calls_26 ?_
      have hg5 := h.1
      have h := h.2
      refine jm_inlvi (pc := 27) (As := [_, _, _]) (st := []) iX12_isIn dX12_calls_27 mX12_128 (cR0 hg) ⟨_, rfl, rfl⟩ rfl rfl (Nat.le_of_ble_eq_true rfl) (pX12_isIn hg hg5 ⟨by decide, by decide⟩ ⟨by decide, by decide⟩ (fun q => jm_kIi ?_) (fun q => jm_kIi ?_))
      · have h := h.1 q
        refine jm_if_ne (pc := 30) 35 dX12_calls_30 rfl ⟨by decide, by decide⟩ (fun q => ?_) (fun q => absurd q (by decide))
        refine jm_aload_n (pc := 35) 0 dX12_calls_35 rfl ?_
        refine jm_iload_n (pc := 36) 1 dX12_calls_36 rfl ?_
        refine jm_iload_n (pc := 37) 2 dX12_calls_37 rfl ?_
        refine jm_callvi (pc := 38) (As := [_, _]) (st := []) iX12_singersFor dX12_calls_38 mX12_462 (cR0 hg) ⟨_, rfl, rfl⟩ rfl rfl (Nat.le_of_ble_eq_true rfl) h (fun z7 m6 hz8 h hm9 => ?_)
        refine jm_istore (pc := 41) (lv' := [(4, _), (0, _), (1, _), (2, _), (3, _)]) dX12_calls_41 (by decide) rfl ?_
        refine jm_iconst (pc := 43) dX12_calls_43 ?_
        refine jm_istore (pc := 44) (lv' := [(5, _), (4, _), (0, _), (1, _), (2, _), (3, _)]) dX12_calls_44 (by decide) rfl ?_
        refine jm_iconst (pc := 46) dX12_calls_46 ?_
        refine jm_istore (pc := 47) (lv' := [(6, _), (5, _), (4, _), (0, _), (1, _), (2, _), (3, _)]) dX12_calls_47 (by decide) rfl ?_
        exact jm_sub [3, 4, 5, 6, 2, 1, 0] rfl h
      · have h := h.2 q
        refine jm_if_ne (pc := 30) 35 dX12_calls_30 rfl ⟨by decide, by decide⟩ (fun q => absurd q (by decide)) (fun q => ?_)
        refine jm_iconst (pc := 33) dX12_calls_33 ?_
        exact jm_iret (pc := 34) dX12_calls_34 rfl h
    · have h := h.2 q
      refine jm_if_eq (pc := 20) 33 dX12_calls_20 rfl ⟨by decide, by decide⟩ (fun q => ?_) (fun q => absurd q (by decide))
      refine jm_iconst (pc := 33) dX12_calls_33 ?_
      exact jm_iret (pc := 34) dX12_calls_34 rfl h
  · have h := h.2 q
    refine jm_if_eq (pc := 10) 33 dX12_calls_10 rfl ⟨by decide, by decide⟩ (fun q => ?_) (fun q => absurd q (by decide))
    refine jm_iconst (pc := 33) dX12_calls_33 ?_
    exact jm_iret (pc := 34) dX12_calls_34 rfl h
theorem dX12_doAgree_0 : decode cX12_doAgree 0 = .ok (.iconst 0, 1) := by decide +kernel
theorem dX12_doAgree_1 : decode cX12_doAgree 1 = .ok (.istore_n 3, 1) := by decide +kernel
theorem dX12_doAgree_2 : decode cX12_doAgree 2 = .ok (.iload_n 3, 1) := by decide +kernel
theorem dX12_doAgree_3 : decode cX12_doAgree 3 = .ok (.bipush 6, 2) := by decide +kernel
theorem dX12_doAgree_5 : decode cX12_doAgree 5 = .ok (.if_icmp .ge 46, 3) := by decide +kernel
theorem dX12_doAgree_8 : decode cX12_doAgree 8 = .ok (.aload_n 0, 1) := by decide +kernel
theorem dX12_doAgree_9 : decode cX12_doAgree 9 = .ok (.iload_n 1, 1) := by decide +kernel
theorem dX12_doAgree_10 : decode cX12_doAgree 10 = .ok (.iload_n 3, 1) := by decide +kernel
theorem dX12_doAgree_11 : decode cX12_doAgree 11 = .ok (.invokevirtual 341, 3) := by decide +kernel
theorem dX12_doAgree_14 : decode cX12_doAgree 14 = .ok (.iconst (-1), 1) := by decide +kernel
theorem dX12_doAgree_15 : decode cX12_doAgree 15 = .ok (.if_icmp .eq 30, 3) := by decide +kernel
theorem dX12_doAgree_18 : decode cX12_doAgree 18 = .ok (.aload_n 0, 1) := by decide +kernel
theorem dX12_doAgree_19 : decode cX12_doAgree 19 = .ok (.iload_n 2, 1) := by decide +kernel
theorem dX12_doAgree_20 : decode cX12_doAgree 20 = .ok (.iload_n 3, 1) := by decide +kernel
theorem dX12_doAgree_21 : decode cX12_doAgree 21 = .ok (.invokevirtual 341, 3) := by decide +kernel
theorem dX12_doAgree_24 : decode cX12_doAgree 24 = .ok (.iconst (-1), 1) := by decide +kernel
theorem dX12_doAgree_25 : decode cX12_doAgree 25 = .ok (.if_icmp .eq 20, 3) := by decide +kernel
theorem dX12_doAgree_28 : decode cX12_doAgree 28 = .ok (.aload_n 0, 1) := by decide +kernel
theorem dX12_doAgree_29 : decode cX12_doAgree 29 = .ok (.iload_n 1, 1) := by decide +kernel
theorem dX12_doAgree_30 : decode cX12_doAgree 30 = .ok (.iload_n 3, 1) := by decide +kernel
theorem dX12_doAgree_31 : decode cX12_doAgree 31 = .ok (.invokevirtual 341, 3) := by decide +kernel
theorem dX12_doAgree_34 : decode cX12_doAgree 34 = .ok (.aload_n 0, 1) := by decide +kernel
theorem dX12_doAgree_35 : decode cX12_doAgree 35 = .ok (.iload_n 2, 1) := by decide +kernel
theorem dX12_doAgree_36 : decode cX12_doAgree 36 = .ok (.iload_n 3, 1) := by decide +kernel
theorem dX12_doAgree_37 : decode cX12_doAgree 37 = .ok (.invokevirtual 341, 3) := by decide +kernel
theorem dX12_doAgree_40 : decode cX12_doAgree 40 = .ok (.if_icmp .eq 5, 3) := by decide +kernel
theorem dX12_doAgree_43 : decode cX12_doAgree 43 = .ok (.iconst 0, 1) := by decide +kernel
theorem dX12_doAgree_44 : decode cX12_doAgree 44 = .ok (.ireturn, 1) := by decide +kernel
theorem dX12_doAgree_45 : decode cX12_doAgree 45 = .ok (.iinc 3 1, 3) := by decide +kernel
theorem dX12_doAgree_48 : decode cX12_doAgree 48 = .ok (.goto (-46), 3) := by decide +kernel
theorem dX12_doAgree_51 : decode cX12_doAgree 51 = .ok (.iconst 1, 1) := by decide +kernel
theorem dX12_doAgree_52 : decode cX12_doAgree 52 = .ok (.ireturn, 1) := by decide +kernel
theorem bX12_doAgree_2 {l : Launch} {g : jm_G} {d : Nat} {v1 v2 v3 : Int} (hg : jm_HR g) {mu : jm_M} {Q : Option Value → jm_M → Prop} (h : jm_rg v3 ∧ (6 ≤ v3 → Q (some (jm_i 1)) mu) ∧ (v3 < 6 → (0 ≤ ((6 * v1) + v3) ∧ ((6 * v1) + v3) < 48) ∧ jm_rg ((mu.1 6 ((6 * v1) + v3)) - 1) ∧ (((mu.1 6 ((6 * v1) + v3)) - 1) = (-1) → jm_V l g (d + 2) iX12_doAgree 2 [(0, .ref 0), (1, jm_i v1), (2, jm_i v2), (3, jm_i (v3 + 1))] [] mu Q) ∧ (¬ ((mu.1 6 ((6 * v1) + v3)) - 1) = (-1) → (0 ≤ ((6 * v2) + v3) ∧ ((6 * v2) + v3) < 48) ∧ jm_rg ((mu.1 6 ((6 * v2) + v3)) - 1) ∧ (((mu.1 6 ((6 * v2) + v3)) - 1) = (-1) → jm_V l g (d + 2) iX12_doAgree 2 [(0, .ref 0), (1, jm_i v1), (2, jm_i v2), (3, jm_i (v3 + 1))] [] mu Q) ∧ (¬ ((mu.1 6 ((6 * v2) + v3)) - 1) = (-1) → (0 ≤ ((6 * v1) + v3) ∧ ((6 * v1) + v3) < 48) ∧ (0 ≤ ((6 * v2) + v3) ∧ ((6 * v2) + v3) < 48) ∧ (((mu.1 6 ((6 * v1) + v3)) - 1) = ((mu.1 6 ((6 * v2) + v3)) - 1) → jm_V l g (d + 2) iX12_doAgree 2 [(0, .ref 0), (1, jm_i v1), (2, jm_i v2), (3, jm_i (v3 + 1))] [] mu Q) ∧ (¬ ((mu.1 6 ((6 * v1) + v3)) - 1) = ((mu.1 6 ((6 * v2) + v3)) - 1) → Q (some (jm_i 0)) mu))))) : jm_V l g (d + 2) iX12_doAgree 2 [(0, .ref 0), (1, jm_i v1), (2, jm_i v2), (3, jm_i v3)] [] mu Q := by
  refine jm_mrI (fun hm0 => ?_)
  refine jm_iload_n (pc := 2) 3 dX12_doAgree_2 rfl ?_
  refine jm_bipush (pc := 3) dX12_doAgree_3 (by decide) ?_
  have hg1 := h.1
  have h := h.2
  refine jm_icmp_ge (pc := 5) 51 dX12_doAgree_5 rfl hg1 ⟨by decide, by decide⟩ (fun q => ?_) (fun q => ?_)
  · have h := h.1 q
    refine jm_iconst (pc := 51) dX12_doAgree_51 ?_
    exact jm_zret (pc := 52) dX12_doAgree_52 rfl (Or.inr rfl) h
  · have h := h.2 q
    refine jm_aload_n (pc := 8) 0 dX12_doAgree_8 rfl ?_
    refine jm_iload_n (pc := 9) 1 dX12_doAgree_9 rfl ?_
    refine jm_iload_n (pc := 10) 3 dX12_doAgree_10 rfl ?_
    have hg2 := h.1
    have h := h.2
    refine jm_inlvi (pc := 11) (As := [_, _]) (st := []) iX12_claimOf dX12_doAgree_11 mX12_341 (cR0 hg) ⟨_, rfl, rfl⟩ rfl rfl (Nat.le_of_ble_eq_true rfl) (pX12_claimOf hg hg2 (jm_kIi ?_))
    refine jm_iconst (pc := 14) dX12_doAgree_14 ?_
    have hg3 := h.1
    have h := h.2
    refine jm_icmp_eq (pc := 15) 45 dX12_doAgree_15 rfl hg3 ⟨by decide, by decide⟩ (fun q => ?_) (fun q => ?_)
    · have h := h.1 q
      refine jm_iinc (pc := 45) (lv' := [(3, _), (0, _), (1, _), (2, _)]) 3 dX12_doAgree_45 rfl (by decide) rfl ?_
      refine jm_goto (pc := 48) 2 dX12_doAgree_48 rfl ?_
      exact jm_sub [1, 2, 3, 0] rfl h
    · have h := h.2 q
      refine jm_aload_n (pc := 18) 0 dX12_doAgree_18 rfl ?_
      refine jm_iload_n (pc := 19) 2 dX12_doAgree_19 rfl ?_
      refine jm_iload_n (pc := 20) 3 dX12_doAgree_20 rfl ?_
      have hg4 := h.1
      have h := h.2
      refine jm_inlvi (pc := 21) (As := [_, _]) (st := []) iX12_claimOf dX12_doAgree_21 mX12_341 (cR0 hg) ⟨_, rfl, rfl⟩ rfl rfl (Nat.le_of_ble_eq_true rfl) (pX12_claimOf hg hg4 (jm_kIi ?_))
      refine jm_iconst (pc := 24) dX12_doAgree_24 ?_
      have hg5 := h.1
      have h := h.2
      refine jm_icmp_eq (pc := 25) 45 dX12_doAgree_25 rfl hg5 ⟨by decide, by decide⟩ (fun q => ?_) (fun q => ?_)
      · have h := h.1 q
        refine jm_iinc (pc := 45) (lv' := [(3, _), (0, _), (1, _), (2, _)]) 3 dX12_doAgree_45 rfl (by decide) rfl ?_
        refine jm_goto (pc := 48) 2 dX12_doAgree_48 rfl ?_
        exact jm_sub [1, 2, 3, 0] rfl h
      · have h := h.2 q
        refine jm_aload_n (pc := 28) 0 dX12_doAgree_28 rfl ?_
        refine jm_iload_n (pc := 29) 1 dX12_doAgree_29 rfl ?_
        refine jm_iload_n (pc := 30) 3 dX12_doAgree_30 rfl ?_
        have hg6 := h.1
        have h := h.2
        refine jm_inlvi (pc := 31) (As := [_, _]) (st := []) iX12_claimOf dX12_doAgree_31 mX12_341 (cR0 hg) ⟨_, rfl, rfl⟩ rfl rfl (Nat.le_of_ble_eq_true rfl) (pX12_claimOf hg hg6 (jm_kIi ?_))
        refine jm_aload_n (pc := 34) 0 dX12_doAgree_34 rfl ?_
        refine jm_iload_n (pc := 35) 2 dX12_doAgree_35 rfl ?_
        refine jm_iload_n (pc := 36) 3 dX12_doAgree_36 rfl ?_
        have hg7 := h.1
        have h := h.2
        refine jm_inlvi (pc := 37) (As := [_, _]) (st := [_]) iX12_claimOf dX12_doAgree_37 mX12_341 (cR0 hg) ⟨_, rfl, rfl⟩ rfl rfl (Nat.le_of_ble_eq_true rfl) (pX12_claimOf hg hg7 (jm_kIi ?_))
        refine jm_icmp_eq (pc := 40) 45 dX12_doAgree_40 rfl hg3 hg5 (fun q => ?_) (fun q => ?_)
        · have h := h.1 q
          refine jm_iinc (pc := 45) (lv' := [(3, _), (0, _), (1, _), (2, _)]) 3 dX12_doAgree_45 rfl (by decide) rfl ?_
          refine jm_goto (pc := 48) 2 dX12_doAgree_48 rfl ?_
          exact jm_sub [1, 2, 3, 0] rfl h
        · have h := h.2 q
          refine jm_iconst (pc := 43) dX12_doAgree_43 ?_
          exact jm_zret (pc := 44) dX12_doAgree_44 rfl (Or.inl rfl) h
theorem eX12_doAgree {l : Launch} {g : jm_G} {d : Nat} {v1 v2 : Int} (hg : jm_HR g) {mu : jm_M} {Q : Option Value → jm_M → Prop} (h : jm_V l g (d + 2) iX12_doAgree 2 [(0, .ref 0), (1, jm_i v1), (2, jm_i v2), (3, jm_i 0)] [] mu Q) : jm_R l g (d + 2) iX12_doAgree [.ref 0, jm_i v1, jm_i v2] mu Q := by
  refine jm_enter [(0, .ref 0), (1, jm_i v1), (2, jm_i v2)] (by decide) (Nat.le_of_ble_eq_true rfl) rfl ?_
  refine jm_mrI (fun hm0 => ?_)
  refine jm_iconst (pc := 0) dX12_doAgree_0 ?_
  refine jm_istore_n (pc := 1) (lv' := [(3, _), (0, _), (1, _), (2, _)]) dX12_doAgree_1 (by decide) rfl ?_
  exact jm_sub [1, 2, 3, 0] rfl h
theorem dX12_isChoir_0 : decode cX12_isChoir 0 = .ok (.iconst 0, 1) := by decide +kernel
theorem dX12_isChoir_1 : decode cX12_isChoir 1 = .ok (.istore_n 2, 1) := by decide +kernel
theorem dX12_isChoir_2 : decode cX12_isChoir 2 = .ok (.iload_n 2, 1) := by decide +kernel
theorem dX12_isChoir_3 : decode cX12_isChoir 3 = .ok (.aload_n 0, 1) := by decide +kernel
theorem dX12_isChoir_4 : decode cX12_isChoir 4 = .ok (.getfield 121, 3) := by decide +kernel
theorem dX12_isChoir_7 : decode cX12_isChoir 7 = .ok (.if_icmp .ge 51, 3) := by decide +kernel
theorem dX12_isChoir_10 : decode cX12_isChoir 10 = .ok (.iconst 0, 1) := by decide +kernel
theorem dX12_isChoir_11 : decode cX12_isChoir 11 = .ok (.istore_n 3, 1) := by decide +kernel
theorem dX12_isChoir_12 : decode cX12_isChoir 12 = .ok (.iload_n 3, 1) := by decide +kernel
theorem dX12_isChoir_13 : decode cX12_isChoir 13 = .ok (.iload_n 2, 1) := by decide +kernel
theorem dX12_isChoir_14 : decode cX12_isChoir 14 = .ok (.if_icmp .ge 38, 3) := by decide +kernel
theorem dX12_isChoir_17 : decode cX12_isChoir 17 = .ok (.iload_n 1, 1) := by decide +kernel
theorem dX12_isChoir_18 : decode cX12_isChoir 18 = .ok (.iload_n 2, 1) := by decide +kernel
theorem dX12_isChoir_19 : decode cX12_isChoir 19 = .ok (.ishr, 1) := by decide +kernel
theorem dX12_isChoir_20 : decode cX12_isChoir 20 = .ok (.iconst 1, 1) := by decide +kernel
theorem dX12_isChoir_21 : decode cX12_isChoir 21 = .ok (.iand, 1) := by decide +kernel
theorem dX12_isChoir_22 : decode cX12_isChoir 22 = .ok (.iconst 1, 1) := by decide +kernel
theorem dX12_isChoir_23 : decode cX12_isChoir 23 = .ok (.if_icmp .ne 23, 3) := by decide +kernel
theorem dX12_isChoir_26 : decode cX12_isChoir 26 = .ok (.iload_n 1, 1) := by decide +kernel
theorem dX12_isChoir_27 : decode cX12_isChoir 27 = .ok (.iload_n 3, 1) := by decide +kernel
theorem dX12_isChoir_28 : decode cX12_isChoir 28 = .ok (.ishr, 1) := by decide +kernel
theorem dX12_isChoir_29 : decode cX12_isChoir 29 = .ok (.iconst 1, 1) := by decide +kernel
theorem dX12_isChoir_30 : decode cX12_isChoir 30 = .ok (.iand, 1) := by decide +kernel
theorem dX12_isChoir_31 : decode cX12_isChoir 31 = .ok (.iconst 1, 1) := by decide +kernel
theorem dX12_isChoir_32 : decode cX12_isChoir 32 = .ok (.if_icmp .ne 14, 3) := by decide +kernel
theorem dX12_isChoir_35 : decode cX12_isChoir 35 = .ok (.aload_n 0, 1) := by decide +kernel
theorem dX12_isChoir_36 : decode cX12_isChoir 36 = .ok (.iload_n 2, 1) := by decide +kernel
theorem dX12_isChoir_37 : decode cX12_isChoir 37 = .ok (.iload_n 3, 1) := by decide +kernel
theorem dX12_isChoir_38 : decode cX12_isChoir 38 = .ok (.invokevirtual 468, 3) := by decide +kernel
theorem dX12_isChoir_41 : decode cX12_isChoir 41 = .ok (.ifCond .ne 5, 3) := by decide +kernel
theorem dX12_isChoir_44 : decode cX12_isChoir 44 = .ok (.iconst 0, 1) := by decide +kernel
theorem dX12_isChoir_45 : decode cX12_isChoir 45 = .ok (.ireturn, 1) := by decide +kernel
theorem dX12_isChoir_46 : decode cX12_isChoir 46 = .ok (.iinc 3 1, 3) := by decide +kernel
theorem dX12_isChoir_49 : decode cX12_isChoir 49 = .ok (.goto (-37), 3) := by decide +kernel
theorem dX12_isChoir_52 : decode cX12_isChoir 52 = .ok (.iinc 2 1, 3) := by decide +kernel
theorem dX12_isChoir_55 : decode cX12_isChoir 55 = .ok (.goto (-53), 3) := by decide +kernel
theorem dX12_isChoir_58 : decode cX12_isChoir 58 = .ok (.iconst 1, 1) := by decide +kernel
theorem dX12_isChoir_59 : decode cX12_isChoir 59 = .ok (.ireturn, 1) := by decide +kernel
theorem bX12_isChoir_12 {l : Launch} {g : jm_G} {d : Nat} {v1 v2 v3 : Int} (hg : jm_HR g) {mu : jm_M} {Q : Option Value → jm_M → Prop} (h : jm_rg v3 ∧ jm_rg v2 ∧ (v2 ≤ v3 → jm_V l g (d + 1) iX12_isChoir 2 [(0, .ref 0), (1, jm_i v1), (2, jm_i (v2 + 1))] [] mu Q) ∧ (v3 < v2 → (¬ (jm_and (jm_shr v1 v2) 1) = 1 → jm_V l g (d + 1) iX12_isChoir 12 [(0, .ref 0), (1, jm_i v1), (2, jm_i v2), (3, jm_i (v3 + 1))] [] mu Q) ∧ ((jm_and (jm_shr v1 v2) 1) = 1 → (¬ (jm_and (jm_shr v1 v3) 1) = 1 → jm_V l g (d + 1) iX12_isChoir 12 [(0, .ref 0), (1, jm_i v1), (2, jm_i v2), (3, jm_i (v3 + 1))] [] mu Q) ∧ ((jm_and (jm_shr v1 v3) 1) = 1 → jm_R l g d iX12_doAgree [.ref 0, jm_i v2, jm_i v3] mu (jm_qi fun z4 m3 => (¬ z4 = 0 → jm_V l g (d + 1) iX12_isChoir 12 [(0, .ref 0), (1, jm_i v1), (2, jm_i v2), (3, jm_i (v3 + 1))] [] m3 Q) ∧ (z4 = 0 → Q (some (jm_i 0)) m3)))))) : jm_V l g (d + 1) iX12_isChoir 12 [(0, .ref 0), (1, jm_i v1), (2, jm_i v2), (3, jm_i v3)] [] mu Q := by
  refine jm_mrI (fun hm0 => ?_)
  refine jm_iload_n (pc := 12) 3 dX12_isChoir_12 rfl ?_
  refine jm_iload_n (pc := 13) 2 dX12_isChoir_13 rfl ?_
  have hg1 := h.1
  have h := h.2
  have hg2 := h.1
  have h := h.2
  refine jm_icmp_ge (pc := 14) 52 dX12_isChoir_14 rfl hg1 hg2 (fun q => ?_) (fun q => ?_)
  · have h := h.1 q
    refine jm_iinc (pc := 52) (lv' := [(2, _), (0, _), (1, _), (3, _)]) 2 dX12_isChoir_52 rfl (by decide) rfl ?_
    refine jm_goto (pc := 55) 2 dX12_isChoir_55 rfl ?_
    exact jm_sub [1, 2, 0] rfl h
  · have h := h.2 q
    refine jm_iload_n (pc := 17) 1 dX12_isChoir_17 rfl ?_
    refine jm_iload_n (pc := 18) 2 dX12_isChoir_18 rfl ?_
    refine jm_ishr (pc := 19) dX12_isChoir_19 ?_
    refine jm_iconst (pc := 20) dX12_isChoir_20 ?_
    refine jm_iand (pc := 21) dX12_isChoir_21 ?_
    refine jm_iconst (pc := 22) dX12_isChoir_22 ?_
    refine jm_icmp_ne (pc := 23) 46 dX12_isChoir_23 rfl (jm_rgT _) ⟨by decide, by decide⟩ (fun q => ?_) (fun q => ?_)
    · have h := h.1 q
      refine jm_iinc (pc := 46) (lv' := [(3, _), (0, _), (1, _), (2, _)]) 3 dX12_isChoir_46 rfl (by decide) rfl ?_
      refine jm_goto (pc := 49) 12 dX12_isChoir_49 rfl ?_
      exact jm_sub [1, 2, 3, 0] rfl h
    · have h := h.2 q
      refine jm_iload_n (pc := 26) 1 dX12_isChoir_26 rfl ?_
      refine jm_iload_n (pc := 27) 3 dX12_isChoir_27 rfl ?_
      refine jm_ishr (pc := 28) dX12_isChoir_28 ?_
      refine jm_iconst (pc := 29) dX12_isChoir_29 ?_
      refine jm_iand (pc := 30) dX12_isChoir_30 ?_
      refine jm_iconst (pc := 31) dX12_isChoir_31 ?_
      refine jm_icmp_ne (pc := 32) 46 dX12_isChoir_32 rfl (jm_rgT _) ⟨by decide, by decide⟩ (fun q => ?_) (fun q => ?_)
      · have h := h.1 q
        refine jm_iinc (pc := 46) (lv' := [(3, _), (0, _), (1, _), (2, _)]) 3 dX12_isChoir_46 rfl (by decide) rfl ?_
        refine jm_goto (pc := 49) 12 dX12_isChoir_49 rfl ?_
        exact jm_sub [1, 2, 3, 0] rfl h
      · have h := h.2 q
        refine jm_aload_n (pc := 35) 0 dX12_isChoir_35 rfl ?_
        refine jm_iload_n (pc := 36) 2 dX12_isChoir_36 rfl ?_
        refine jm_iload_n (pc := 37) 3 dX12_isChoir_37 rfl ?_
        refine jm_callvi (pc := 38) (As := [_, _]) (st := []) iX12_doAgree dX12_isChoir_38 mX12_468 (cR0 hg) ⟨_, rfl, rfl⟩ rfl rfl (Nat.le_of_ble_eq_true rfl) h (fun z4 m3 hz5 h hm6 => ?_)
        refine jm_if_ne (pc := 41) 46 dX12_isChoir_41 rfl hz5 (fun q => ?_) (fun q => ?_)
        · have h := h.1 q
          refine jm_iinc (pc := 46) (lv' := [(3, _), (0, _), (1, _), (2, _)]) 3 dX12_isChoir_46 rfl (by decide) rfl ?_
          refine jm_goto (pc := 49) 12 dX12_isChoir_49 rfl ?_
          exact jm_sub [1, 2, 3, 0] rfl h
        · have h := h.2 q
          refine jm_iconst (pc := 44) dX12_isChoir_44 ?_
          exact jm_zret (pc := 45) dX12_isChoir_45 rfl (Or.inl rfl) h
theorem bX12_isChoir_2 {l : Launch} {g : jm_G} {d : Nat} {v1 v2 : Int} (hg : jm_HR g) {mu : jm_M} {Q : Option Value → jm_M → Prop} (h : jm_rg v2 ∧ ((mu.1 0 4) ≤ v2 → Q (some (jm_i 1)) mu) ∧ (v2 < (mu.1 0 4) → jm_V l g (d + 1) iX12_isChoir 12 [(0, .ref 0), (1, jm_i v1), (2, jm_i v2), (3, jm_i 0)] [] mu Q)) : jm_V l g (d + 1) iX12_isChoir 2 [(0, .ref 0), (1, jm_i v1), (2, jm_i v2)] [] mu Q := by
  refine jm_mrI (fun hm0 => ?_)
  refine jm_iload_n (pc := 2) 2 dX12_isChoir_2 rfl ?_
  refine jm_aload_n (pc := 3) 0 dX12_isChoir_3 rfl ?_
  refine jm_geti (pc := 4) 4 dX12_isChoir_4 fX12_121 (cR0 hg) rfl ?_
  have hg1 := h.1
  have h := h.2
  refine jm_icmp_ge (pc := 7) 58 dX12_isChoir_7 rfl hg1 (hm0 _ _) (fun q => ?_) (fun q => ?_)
  · have h := h.1 q
    refine jm_iconst (pc := 58) dX12_isChoir_58 ?_
    exact jm_zret (pc := 59) dX12_isChoir_59 rfl (Or.inr rfl) h
  · have h := h.2 q
    refine jm_iconst (pc := 10) dX12_isChoir_10 ?_
    refine jm_istore_n (pc := 11) (lv' := [(3, _), (0, _), (1, _), (2, _)]) dX12_isChoir_11 (by decide) rfl ?_
    exact jm_sub [1, 2, 3, 0] rfl h
theorem eX12_isChoir {l : Launch} {g : jm_G} {d : Nat} {v1 : Int} (hg : jm_HR g) {mu : jm_M} {Q : Option Value → jm_M → Prop} (h : jm_V l g (d + 1) iX12_isChoir 2 [(0, .ref 0), (1, jm_i v1), (2, jm_i 0)] [] mu Q) : jm_R l g (d + 1) iX12_isChoir [.ref 0, jm_i v1] mu Q := by
  refine jm_enter [(0, .ref 0), (1, jm_i v1)] (by decide) (Nat.le_of_ble_eq_true rfl) rfl ?_
  refine jm_mrI (fun hm0 => ?_)
  refine jm_iconst (pc := 0) dX12_isChoir_0 ?_
  refine jm_istore_n (pc := 1) (lv' := [(2, _), (0, _), (1, _)]) dX12_isChoir_1 (by decide) rfl ?_
  exact jm_sub [1, 2, 0] rfl h
theorem dX12_choir_0 : decode cX12_choir 0 = .ok (.aload_n 0, 1) := by decide +kernel
theorem dX12_choir_1 : decode cX12_choir 1 = .ok (.iconst 0, 1) := by decide +kernel
theorem dX12_choir_2 : decode cX12_choir 2 = .ok (.putfield 104, 3) := by decide +kernel
theorem dX12_choir_5 : decode cX12_choir 5 = .ok (.aload_n 0, 1) := by decide +kernel
theorem dX12_choir_6 : decode cX12_choir 6 = .ok (.iload_n 1, 1) := by decide +kernel
theorem dX12_choir_7 : decode cX12_choir 7 = .ok (.iconst 0, 1) := by decide +kernel
theorem dX12_choir_8 : decode cX12_choir 8 = .ok (.iconst 1, 1) := by decide +kernel
theorem dX12_choir_9 : decode cX12_choir 9 = .ok (.invokevirtual 128, 3) := by decide +kernel
theorem dX12_choir_12 : decode cX12_choir 12 = .ok (.ifCond .ne 5, 3) := by decide +kernel
theorem dX12_choir_15 : decode cX12_choir 15 = .ok (.iconst (-1), 1) := by decide +kernel
theorem dX12_choir_16 : decode cX12_choir 16 = .ok (.ireturn, 1) := by decide +kernel
theorem dX12_choir_17 : decode cX12_choir 17 = .ok (.iconst 0, 1) := by decide +kernel
theorem dX12_choir_18 : decode cX12_choir 18 = .ok (.istore_n 2, 1) := by decide +kernel
theorem dX12_choir_19 : decode cX12_choir 19 = .ok (.iconst 1, 1) := by decide +kernel
theorem dX12_choir_20 : decode cX12_choir 20 = .ok (.istore_n 3, 1) := by decide +kernel
theorem dX12_choir_21 : decode cX12_choir 21 = .ok (.iload_n 3, 1) := by decide +kernel
theorem dX12_choir_22 : decode cX12_choir 22 = .ok (.iconst 1, 1) := by decide +kernel
theorem dX12_choir_23 : decode cX12_choir 23 = .ok (.aload_n 0, 1) := by decide +kernel
theorem dX12_choir_24 : decode cX12_choir 24 = .ok (.getfield 121, 3) := by decide +kernel
theorem dX12_choir_27 : decode cX12_choir 27 = .ok (.ishl, 1) := by decide +kernel
theorem dX12_choir_28 : decode cX12_choir 28 = .ok (.if_icmp .ge 32, 3) := by decide +kernel
theorem dX12_choir_31 : decode cX12_choir 31 = .ok (.aload_n 0, 1) := by decide +kernel
theorem dX12_choir_32 : decode cX12_choir 32 = .ok (.iload_n 3, 1) := by decide +kernel
theorem dX12_choir_33 : decode cX12_choir 33 = .ok (.invokevirtual 465, 3) := by decide +kernel
theorem dX12_choir_36 : decode cX12_choir 36 = .ok (.aload_n 0, 1) := by decide +kernel
theorem dX12_choir_37 : decode cX12_choir 37 = .ok (.iload_n 2, 1) := by decide +kernel
theorem dX12_choir_38 : decode cX12_choir 38 = .ok (.invokevirtual 465, 3) := by decide +kernel
theorem dX12_choir_41 : decode cX12_choir 41 = .ok (.if_icmp .le 13, 3) := by decide +kernel
theorem dX12_choir_44 : decode cX12_choir 44 = .ok (.aload_n 0, 1) := by decide +kernel
theorem dX12_choir_45 : decode cX12_choir 45 = .ok (.iload_n 3, 1) := by decide +kernel
theorem dX12_choir_46 : decode cX12_choir 46 = .ok (.invokevirtual 471, 3) := by decide +kernel
theorem dX12_choir_49 : decode cX12_choir 49 = .ok (.ifCond .eq 5, 3) := by decide +kernel
theorem dX12_choir_52 : decode cX12_choir 52 = .ok (.iload_n 3, 1) := by decide +kernel
theorem dX12_choir_53 : decode cX12_choir 53 = .ok (.istore_n 2, 1) := by decide +kernel
theorem dX12_choir_54 : decode cX12_choir 54 = .ok (.iinc 3 1, 3) := by decide +kernel
theorem dX12_choir_57 : decode cX12_choir 57 = .ok (.goto (-36), 3) := by decide +kernel
theorem dX12_choir_60 : decode cX12_choir 60 = .ok (.iload_n 1, 1) := by decide +kernel
theorem dX12_choir_61 : decode cX12_choir 61 = .ok (.ifCond .ne 11, 3) := by decide +kernel
theorem dX12_choir_64 : decode cX12_choir 64 = .ok (.aload_n 0, 1) := by decide +kernel
theorem dX12_choir_65 : decode cX12_choir 65 = .ok (.iload_n 2, 1) := by decide +kernel
theorem dX12_choir_66 : decode cX12_choir 66 = .ok (.invokevirtual 465, 3) := by decide +kernel
theorem dX12_choir_69 : decode cX12_choir 69 = .ok (.goto 4, 3) := by decide +kernel
theorem dX12_choir_72 : decode cX12_choir 72 = .ok (.iload_n 2, 1) := by decide +kernel
theorem dX12_choir_73 : decode cX12_choir 73 = .ok (.ireturn, 1) := by decide +kernel
theorem bX12_choir_21 {l : Launch} {g : jm_G} {d : Nat} {v1 v2 v3 : Int} (hg : jm_HR g) {mu : jm_M} {Q : Option Value → jm_M → Prop} (h : jm_rg v3 ∧ ((jm_shl 1 (mu.1 0 4)) ≤ v3 → jm_rg v1 ∧ (¬ v1 = 0 → Q (some (jm_i v2)) mu) ∧ (v1 = 0 → jm_R l g (d + 1) iX12_onesOf [.ref 0, jm_i v2] mu (jm_qi fun z4 m3 => Q (some (jm_i z4)) m3))) ∧ (v3 < (jm_shl 1 (mu.1 0 4)) → jm_R l g (d + 1) iX12_onesOf [.ref 0, jm_i v3] mu (jm_qi fun z8 m7 => jm_R l g (d + 1) iX12_onesOf [.ref 0, jm_i v2] m7 (jm_qi fun z12 m11 => (z8 ≤ z12 → jm_V l g (d + 2) iX12_choir 21 [(0, .ref 0), (1, jm_i v1), (2, jm_i v2), (3, jm_i (v3 + 1))] [] m11 Q) ∧ (z12 < z8 → jm_R l g (d + 1) iX12_isChoir [.ref 0, jm_i v3] m11 (jm_qi fun z16 m15 => (z16 = 0 → jm_V l g (d + 2) iX12_choir 21 [(0, .ref 0), (1, jm_i v1), (2, jm_i v2), (3, jm_i (v3 + 1))] [] m15 Q) ∧ (¬ z16 = 0 → jm_V l g (d + 2) iX12_choir 21 [(0, .ref 0), (1, jm_i v1), (2, jm_i v3), (3, jm_i (v3 + 1))] [] m15 Q))))))) : jm_V l g (d + 2) iX12_choir 21 [(0, .ref 0), (1, jm_i v1), (2, jm_i v2), (3, jm_i v3)] [] mu Q := by
  refine jm_mrI (fun hm0 => ?_)
  refine jm_iload_n (pc := 21) 3 dX12_choir_21 rfl ?_
  refine jm_iconst (pc := 22) dX12_choir_22 ?_
  refine jm_aload_n (pc := 23) 0 dX12_choir_23 rfl ?_
  refine jm_geti (pc := 24) 4 dX12_choir_24 fX12_121 (cR0 hg) rfl ?_
  refine jm_ishl (pc := 27) dX12_choir_27 ?_
  have hg1 := h.1
  have h := h.2
  refine jm_icmp_ge (pc := 28) 60 dX12_choir_28 rfl hg1 (jm_rgT _) (fun q => ?_) (fun q => ?_)
  · have h := h.1 q
    refine jm_iload_n (pc := 60) 1 dX12_choir_60 rfl ?_
    have hg2 := h.1
    have h := h.2
    refine jm_if_ne (pc := 61) 72 dX12_choir_61 rfl hg2 (fun q => ?_) (fun q => ?_)
    · have h := h.1 q
      refine jm_iload_n (pc := 72) 2 dX12_choir_72 rfl ?_
      exact jm_iret (pc := 73) dX12_choir_73 rfl h
    · have h := h.2 q
      refine jm_aload_n (pc := 64) 0 dX12_choir_64 rfl ?_
      refine jm_iload_n (pc := 65) 2 dX12_choir_65 rfl ?_
      refine jm_callvi (pc := 66) (As := [_]) (st := []) iX12_onesOf dX12_choir_66 mX12_465 (cR0 hg) ⟨_, rfl, rfl⟩ rfl rfl (Nat.le_of_ble_eq_true rfl) h (fun z4 m3 hz5 h hm6 => ?_)
      refine jm_goto (pc := 69) 73 dX12_choir_69 rfl ?_
      exact jm_iret (pc := 73) dX12_choir_73 rfl h
  · have h := h.2 q
    refine jm_aload_n (pc := 31) 0 dX12_choir_31 rfl ?_
    refine jm_iload_n (pc := 32) 3 dX12_choir_32 rfl ?_
    refine jm_callvi (pc := 33) (As := [_]) (st := []) iX12_onesOf dX12_choir_33 mX12_465 (cR0 hg) ⟨_, rfl, rfl⟩ rfl rfl (Nat.le_of_ble_eq_true rfl) h (fun z8 m7 hz9 h hm10 => ?_)
    refine jm_aload_n (pc := 36) 0 dX12_choir_36 rfl ?_
    refine jm_iload_n (pc := 37) 2 dX12_choir_37 rfl ?_
    refine jm_callvi (pc := 38) (As := [_]) (st := [_]) iX12_onesOf dX12_choir_38 mX12_465 (cR0 hg) ⟨_, rfl, rfl⟩ rfl rfl (Nat.le_of_ble_eq_true rfl) h (fun z12 m11 hz13 h hm14 => ?_)
    refine jm_icmp_le (pc := 41) 54 dX12_choir_41 rfl hz9 hz13 (fun q => ?_) (fun q => ?_)
    · have h := h.1 q
      refine jm_iinc (pc := 54) (lv' := [(3, _), (0, _), (1, _), (2, _)]) 3 dX12_choir_54 rfl (by decide) rfl ?_
      refine jm_goto (pc := 57) 21 dX12_choir_57 rfl ?_
      exact jm_sub [1, 2, 3, 0] rfl h
    · have h := h.2 q
      refine jm_aload_n (pc := 44) 0 dX12_choir_44 rfl ?_
      refine jm_iload_n (pc := 45) 3 dX12_choir_45 rfl ?_
      refine jm_callvi (pc := 46) (As := [_]) (st := []) iX12_isChoir dX12_choir_46 mX12_471 (cR0 hg) ⟨_, rfl, rfl⟩ rfl rfl (Nat.le_of_ble_eq_true rfl) h (fun z16 m15 hz17 h hm18 => ?_)
      refine jm_if_eq (pc := 49) 54 dX12_choir_49 rfl hz17 (fun q => ?_) (fun q => ?_)
      · have h := h.1 q
        refine jm_iinc (pc := 54) (lv' := [(3, _), (0, _), (1, _), (2, _)]) 3 dX12_choir_54 rfl (by decide) rfl ?_
        refine jm_goto (pc := 57) 21 dX12_choir_57 rfl ?_
        exact jm_sub [1, 2, 3, 0] rfl h
      · have h := h.2 q
        refine jm_iload_n (pc := 52) 3 dX12_choir_52 rfl ?_
        refine jm_istore_n (pc := 53) (lv' := [(2, _), (0, _), (1, _), (3, _)]) dX12_choir_53 (by decide) rfl ?_
        refine jm_iinc (pc := 54) (lv' := [(3, _), (2, _), (0, _), (1, _)]) 3 dX12_choir_54 rfl (by decide) rfl ?_
        refine jm_goto (pc := 57) 21 dX12_choir_57 rfl ?_
        exact jm_sub [2, 3, 1, 0] rfl h
theorem eX12_choir {l : Launch} {g : jm_G} {d : Nat} {v1 : Int} (hg : jm_HR g) {mu : jm_M} {Q : Option Value → jm_M → Prop} (h : ∀ m1, m1 = jm_wr mu 0 0 0 → jm_rg v1 ∧ (0 ≤ v1 ∧ v1 ≤ 1 → jm_V l g (d + 2) iX12_choir 21 [(0, .ref 0), (1, jm_i v1), (2, jm_i 0), (3, jm_i 1)] [] m1 Q) ∧ (¬ (0 ≤ v1 ∧ v1 ≤ 1) → Q (some (jm_i (-1))) m1)) : jm_R l g (d + 2) iX12_choir [.ref 0, jm_i v1] mu Q := by
  refine jm_enter [(0, .ref 0), (1, jm_i v1)] (by decide) (Nat.le_of_ble_eq_true rfl) rfl ?_
  refine jm_mrI (fun hm0 => ?_)
  refine jm_aload_n (pc := 0) 0 dX12_choir_0 rfl ?_
  refine jm_iconst (pc := 1) dX12_choir_1 ?_
  refine jm_put (pc := 2) 0 dX12_choir_2 fX12_104 ftX12 (fun q h => by cases h; rfl) (jm_nI _) (jm_fI _) (cR0 hg) rfl ⟨by decide, by decide⟩ ?_
  have h := h _ rfl
  refine jm_mrI (fun hm2 => ?_)
  refine jm_aload_n (pc := 5) 0 dX12_choir_5 rfl ?_
  refine jm_iload_n (pc := 6) 1 dX12_choir_6 rfl ?_
  refine jm_iconst (pc := 7) dX12_choir_7 ?_
  refine jm_iconst (pc := 8) dX12_choir_8 ?_
  have hg3 := h.1
  have h := h.2
  refine jm_inlvi (pc := 9) (As := [_, _, _]) (st := []) iX12_isIn dX12_choir_9 mX12_128 (cR0 hg) ⟨_, rfl, rfl⟩ rfl rfl (Nat.le_of_ble_eq_true rfl) (pX12_isIn hg hg3 ⟨by decide, by decide⟩ ⟨by decide, by decide⟩ (fun q => jm_kIi ?_) (fun q => jm_kIi ?_))
  · have h := h.1 q
    refine jm_if_ne (pc := 12) 17 dX12_choir_12 rfl ⟨by decide, by decide⟩ (fun q => ?_) (fun q => absurd q (by decide))
    refine jm_iconst (pc := 17) dX12_choir_17 ?_
    refine jm_istore_n (pc := 18) (lv' := [(2, _), (0, _), (1, _)]) dX12_choir_18 (by decide) rfl ?_
    refine jm_iconst (pc := 19) dX12_choir_19 ?_
    refine jm_istore_n (pc := 20) (lv' := [(3, _), (2, _), (0, _), (1, _)]) dX12_choir_20 (by decide) rfl ?_
    exact jm_sub [2, 3, 1, 0] rfl h
  · have h := h.2 q
    refine jm_if_ne (pc := 12) 17 dX12_choir_12 rfl ⟨by decide, by decide⟩ (fun q => absurd q (by decide)) (fun q => ?_)
    refine jm_iconst (pc := 15) dX12_choir_15 ?_
    exact jm_iret (pc := 16) dX12_choir_16 rfl h
theorem dX12_valueIn_0 : decode cX12_valueIn 0 = .ok (.iload_n 1, 1) := by decide +kernel
theorem dX12_valueIn_1 : decode cX12_valueIn 1 = .ok (.iconst 2, 1) := by decide +kernel
theorem dX12_valueIn_2 : decode cX12_valueIn 2 = .ok (.iload_n 2, 1) := by decide +kernel
theorem dX12_valueIn_3 : decode cX12_valueIn 3 = .ok (.imul, 1) := by decide +kernel
theorem dX12_valueIn_4 : decode cX12_valueIn 4 = .ok (.ishr, 1) := by decide +kernel
theorem dX12_valueIn_5 : decode cX12_valueIn 5 = .ok (.iconst 3, 1) := by decide +kernel
theorem dX12_valueIn_6 : decode cX12_valueIn 6 = .ok (.iand, 1) := by decide +kernel
theorem dX12_valueIn_7 : decode cX12_valueIn 7 = .ok (.ireturn, 1) := by decide +kernel
theorem eX12_valueIn {l : Launch} {g : jm_G} {d : Nat} {v1 v2 : Int} (hg : jm_HR g) {mu : jm_M} {Q : Option Value → jm_M → Prop} (h : Q (some (jm_i (jm_and (jm_shr v1 (2 * v2)) 3))) mu) : jm_R l g (d + 1) iX12_valueIn [.ref 0, jm_i v1, jm_i v2] mu Q := by
  refine jm_enter [(0, .ref 0), (1, jm_i v1), (2, jm_i v2)] (by decide) (Nat.le_of_ble_eq_true rfl) rfl ?_
  refine jm_mrI (fun hm0 => ?_)
  refine jm_iload_n (pc := 0) 1 dX12_valueIn_0 rfl ?_
  refine jm_iconst (pc := 1) dX12_valueIn_1 ?_
  refine jm_iload_n (pc := 2) 2 dX12_valueIn_2 rfl ?_
  refine jm_imul (pc := 3) dX12_valueIn_3 ?_
  refine jm_ishr (pc := 4) dX12_valueIn_4 ?_
  refine jm_iconst (pc := 5) dX12_valueIn_5 ?_
  refine jm_iand (pc := 6) dX12_valueIn_6 ?_
  exact jm_iret (pc := 7) dX12_valueIn_7 rfl h
theorem pX12_valueIn {l : Launch} {g : jm_G} {d : Nat} {v1 v2 : Int} (hg : jm_HR g) {mu : jm_M} {Q : Option Value → jm_M → Prop} (h : Q (some (jm_i (jm_and (jm_shr v1 (2 * v2)) 3))) mu) : jm_R l g (d + 1) iX12_valueIn [.ref 0, jm_i v1, jm_i v2] mu Q := by
  refine eX12_valueIn hg ?_
  exact h
theorem dX12_liarsIn_0 : decode cX12_liarsIn 0 = .ok (.iconst 0, 1) := by decide +kernel
theorem dX12_liarsIn_1 : decode cX12_liarsIn 1 = .ok (.istore_n 2, 1) := by decide +kernel
theorem dX12_liarsIn_2 : decode cX12_liarsIn 2 = .ok (.iconst 0, 1) := by decide +kernel
theorem dX12_liarsIn_3 : decode cX12_liarsIn 3 = .ok (.istore_n 3, 1) := by decide +kernel
theorem dX12_liarsIn_4 : decode cX12_liarsIn 4 = .ok (.iload_n 3, 1) := by decide +kernel
theorem dX12_liarsIn_5 : decode cX12_liarsIn 5 = .ok (.aload_n 0, 1) := by decide +kernel
theorem dX12_liarsIn_6 : decode cX12_liarsIn 6 = .ok (.getfield 121, 3) := by decide +kernel
theorem dX12_liarsIn_9 : decode cX12_liarsIn 9 = .ok (.if_icmp .ge 68, 3) := by decide +kernel
theorem dX12_liarsIn_12 : decode cX12_liarsIn 12 = .ok (.iconst 0, 1) := by decide +kernel
theorem dX12_liarsIn_13 : decode cX12_liarsIn 13 = .ok (.istore 4, 2) := by decide +kernel
theorem dX12_liarsIn_15 : decode cX12_liarsIn 15 = .ok (.iconst 0, 1) := by decide +kernel
theorem dX12_liarsIn_16 : decode cX12_liarsIn 16 = .ok (.istore 5, 2) := by decide +kernel
theorem dX12_liarsIn_18 : decode cX12_liarsIn 18 = .ok (.iload 5, 2) := by decide +kernel
theorem dX12_liarsIn_20 : decode cX12_liarsIn 20 = .ok (.bipush 6, 2) := by decide +kernel
theorem dX12_liarsIn_22 : decode cX12_liarsIn 22 = .ok (.if_icmp .ge 40, 3) := by decide +kernel
theorem dX12_liarsIn_25 : decode cX12_liarsIn 25 = .ok (.aload_n 0, 1) := by decide +kernel
theorem dX12_liarsIn_26 : decode cX12_liarsIn 26 = .ok (.iload_n 3, 1) := by decide +kernel
theorem dX12_liarsIn_27 : decode cX12_liarsIn 27 = .ok (.iload 5, 2) := by decide +kernel
theorem dX12_liarsIn_29 : decode cX12_liarsIn 29 = .ok (.invokevirtual 341, 3) := by decide +kernel
theorem dX12_liarsIn_32 : decode cX12_liarsIn 32 = .ok (.iconst (-1), 1) := by decide +kernel
theorem dX12_liarsIn_33 : decode cX12_liarsIn 33 = .ok (.if_icmp .eq 23, 3) := by decide +kernel
theorem dX12_liarsIn_36 : decode cX12_liarsIn 36 = .ok (.aload_n 0, 1) := by decide +kernel
theorem dX12_liarsIn_37 : decode cX12_liarsIn 37 = .ok (.iload_n 3, 1) := by decide +kernel
theorem dX12_liarsIn_38 : decode cX12_liarsIn 38 = .ok (.iload 5, 2) := by decide +kernel
theorem dX12_liarsIn_40 : decode cX12_liarsIn 40 = .ok (.invokevirtual 341, 3) := by decide +kernel
theorem dX12_liarsIn_43 : decode cX12_liarsIn 43 = .ok (.aload_n 0, 1) := by decide +kernel
theorem dX12_liarsIn_44 : decode cX12_liarsIn 44 = .ok (.iload_n 1, 1) := by decide +kernel
theorem dX12_liarsIn_45 : decode cX12_liarsIn 45 = .ok (.iload 5, 2) := by decide +kernel
theorem dX12_liarsIn_47 : decode cX12_liarsIn 47 = .ok (.invokevirtual 474, 3) := by decide +kernel
theorem dX12_liarsIn_50 : decode cX12_liarsIn 50 = .ok (.if_icmp .eq 6, 3) := by decide +kernel
theorem dX12_liarsIn_53 : decode cX12_liarsIn 53 = .ok (.iconst 1, 1) := by decide +kernel
theorem dX12_liarsIn_54 : decode cX12_liarsIn 54 = .ok (.istore 4, 2) := by decide +kernel
theorem dX12_liarsIn_56 : decode cX12_liarsIn 56 = .ok (.iinc 5 1, 3) := by decide +kernel
theorem dX12_liarsIn_59 : decode cX12_liarsIn 59 = .ok (.goto (-41), 3) := by decide +kernel
theorem dX12_liarsIn_62 : decode cX12_liarsIn 62 = .ok (.iload 4, 2) := by decide +kernel
theorem dX12_liarsIn_64 : decode cX12_liarsIn 64 = .ok (.ifCond .eq 7, 3) := by decide +kernel
theorem dX12_liarsIn_67 : decode cX12_liarsIn 67 = .ok (.iload_n 2, 1) := by decide +kernel
theorem dX12_liarsIn_68 : decode cX12_liarsIn 68 = .ok (.iconst 1, 1) := by decide +kernel
theorem dX12_liarsIn_69 : decode cX12_liarsIn 69 = .ok (.iadd, 1) := by decide +kernel
theorem dX12_liarsIn_70 : decode cX12_liarsIn 70 = .ok (.istore_n 2, 1) := by decide +kernel
theorem dX12_liarsIn_71 : decode cX12_liarsIn 71 = .ok (.iinc 3 1, 3) := by decide +kernel
theorem dX12_liarsIn_74 : decode cX12_liarsIn 74 = .ok (.goto (-70), 3) := by decide +kernel
theorem dX12_liarsIn_77 : decode cX12_liarsIn 77 = .ok (.iload_n 2, 1) := by decide +kernel
theorem dX12_liarsIn_78 : decode cX12_liarsIn 78 = .ok (.ireturn, 1) := by decide +kernel
theorem bX12_liarsIn_18 {l : Launch} {g : jm_G} {d : Nat} {v1 v2 v3 v4 v5 : Int} (hg : jm_HR g) {mu : jm_M} {Q : Option Value → jm_M → Prop} (h : jm_rg v5 ∧ (6 ≤ v5 → jm_rg v4 ∧ (v4 = 0 → jm_V l g (d + 2) iX12_liarsIn 4 [(0, .ref 0), (1, jm_i v1), (2, jm_i v2), (3, jm_i (v3 + 1))] [] mu Q) ∧ (¬ v4 = 0 → ∀ x3, x3 = (v2 + 1) → jm_V l g (d + 2) iX12_liarsIn 4 [(0, .ref 0), (1, jm_i v1), (2, jm_i x3), (3, jm_i (v3 + 1))] [] mu Q)) ∧ (v5 < 6 → (0 ≤ ((6 * v3) + v5) ∧ ((6 * v3) + v5) < 48) ∧ jm_rg ((mu.1 6 ((6 * v3) + v5)) - 1) ∧ (((mu.1 6 ((6 * v3) + v5)) - 1) = (-1) → jm_V l g (d + 2) iX12_liarsIn 18 [(0, .ref 0), (1, jm_i v1), (2, jm_i v2), (3, jm_i v3), (4, jm_i v4), (5, jm_i (v5 + 1))] [] mu Q) ∧ (¬ ((mu.1 6 ((6 * v3) + v5)) - 1) = (-1) → (0 ≤ ((6 * v3) + v5) ∧ ((6 * v3) + v5) < 48) ∧ (((mu.1 6 ((6 * v3) + v5)) - 1) = (jm_and (jm_shr v1 (2 * v5)) 3) → jm_V l g (d + 2) iX12_liarsIn 18 [(0, .ref 0), (1, jm_i v1), (2, jm_i v2), (3, jm_i v3), (4, jm_i v4), (5, jm_i (v5 + 1))] [] mu Q) ∧ (¬ ((mu.1 6 ((6 * v3) + v5)) - 1) = (jm_and (jm_shr v1 (2 * v5)) 3) → jm_V l g (d + 2) iX12_liarsIn 18 [(0, .ref 0), (1, jm_i v1), (2, jm_i v2), (3, jm_i v3), (4, jm_i 1), (5, jm_i (v5 + 1))] [] mu Q)))) : jm_V l g (d + 2) iX12_liarsIn 18 [(0, .ref 0), (1, jm_i v1), (2, jm_i v2), (3, jm_i v3), (4, jm_i v4), (5, jm_i v5)] [] mu Q := by
  refine jm_mrI (fun hm0 => ?_)
  refine jm_iload (pc := 18) 5 dX12_liarsIn_18 rfl ?_
  refine jm_bipush (pc := 20) dX12_liarsIn_20 (by decide) ?_
  have hg1 := h.1
  have h := h.2
  refine jm_icmp_ge (pc := 22) 62 dX12_liarsIn_22 rfl hg1 ⟨by decide, by decide⟩ (fun q => ?_) (fun q => ?_)
  · have h := h.1 q
    refine jm_iload (pc := 62) 4 dX12_liarsIn_62 rfl ?_
    have hg2 := h.1
    have h := h.2
    refine jm_if_eq (pc := 64) 71 dX12_liarsIn_64 rfl hg2 (fun q => ?_) (fun q => ?_)
    · have h := h.1 q
      refine jm_iinc (pc := 71) (lv' := [(3, _), (0, _), (1, _), (2, _), (4, _), (5, _)]) 3 dX12_liarsIn_71 rfl (by decide) rfl ?_
      refine jm_goto (pc := 74) 4 dX12_liarsIn_74 rfl ?_
      exact jm_sub [1, 2, 3, 0] rfl h
    · have h := h.2 q
      refine jm_iload_n (pc := 67) 2 dX12_liarsIn_67 rfl ?_
      refine jm_iconst (pc := 68) dX12_liarsIn_68 ?_
      refine jm_iadd (pc := 69) dX12_liarsIn_69 ?_
      have h := h _ rfl
      refine jm_istore_n (pc := 70) (lv' := [(2, _), (0, _), (1, _), (3, _), (4, _), (5, _)]) dX12_liarsIn_70 (by decide) rfl ?_
      refine jm_iinc (pc := 71) (lv' := [(3, _), (2, _), (0, _), (1, _), (4, _), (5, _)]) 3 dX12_liarsIn_71 rfl (by decide) rfl ?_
      refine jm_goto (pc := 74) 4 dX12_liarsIn_74 rfl ?_
      exact jm_sub [2, 3, 1, 0] rfl h
  · have h := h.2 q
    refine jm_aload_n (pc := 25) 0 dX12_liarsIn_25 rfl ?_
    refine jm_iload_n (pc := 26) 3 dX12_liarsIn_26 rfl ?_
    refine jm_iload (pc := 27) 5 dX12_liarsIn_27 rfl ?_
    have hg4 := h.1
    have h := h.2
    refine jm_inlvi (pc := 29) (As := [_, _]) (st := []) iX12_claimOf dX12_liarsIn_29 mX12_341 (cR0 hg) ⟨_, rfl, rfl⟩ rfl rfl (Nat.le_of_ble_eq_true rfl) (pX12_claimOf hg hg4 (jm_kIi ?_))
    refine jm_iconst (pc := 32) dX12_liarsIn_32 ?_
    have hg5 := h.1
    have h := h.2
    refine jm_icmp_eq (pc := 33) 56 dX12_liarsIn_33 rfl hg5 ⟨by decide, by decide⟩ (fun q => ?_) (fun q => ?_)
    · have h := h.1 q
      refine jm_iinc (pc := 56) (lv' := [(5, _), (0, _), (1, _), (2, _), (3, _), (4, _)]) 5 dX12_liarsIn_56 rfl (by decide) rfl ?_
      refine jm_goto (pc := 59) 18 dX12_liarsIn_59 rfl ?_
      exact jm_sub [1, 2, 3, 4, 5, 0] rfl h
    · have h := h.2 q
      refine jm_aload_n (pc := 36) 0 dX12_liarsIn_36 rfl ?_
      refine jm_iload_n (pc := 37) 3 dX12_liarsIn_37 rfl ?_
      refine jm_iload (pc := 38) 5 dX12_liarsIn_38 rfl ?_
      have hg6 := h.1
      have h := h.2
      refine jm_inlvi (pc := 40) (As := [_, _]) (st := []) iX12_claimOf dX12_liarsIn_40 mX12_341 (cR0 hg) ⟨_, rfl, rfl⟩ rfl rfl (Nat.le_of_ble_eq_true rfl) (pX12_claimOf hg hg6 (jm_kIi ?_))
      refine jm_aload_n (pc := 43) 0 dX12_liarsIn_43 rfl ?_
      refine jm_iload_n (pc := 44) 1 dX12_liarsIn_44 rfl ?_
      refine jm_iload (pc := 45) 5 dX12_liarsIn_45 rfl ?_
      refine jm_inlvi (pc := 47) (As := [_, _]) (st := [_]) iX12_valueIn dX12_liarsIn_47 mX12_474 (cR0 hg) ⟨_, rfl, rfl⟩ rfl rfl (Nat.le_of_ble_eq_true rfl) (pX12_valueIn hg  (jm_kIi ?_))
      refine jm_icmp_eq (pc := 50) 56 dX12_liarsIn_50 rfl hg5 (jm_rgT _) (fun q => ?_) (fun q => ?_)
      · have h := h.1 q
        refine jm_iinc (pc := 56) (lv' := [(5, _), (0, _), (1, _), (2, _), (3, _), (4, _)]) 5 dX12_liarsIn_56 rfl (by decide) rfl ?_
        refine jm_goto (pc := 59) 18 dX12_liarsIn_59 rfl ?_
        exact jm_sub [1, 2, 3, 4, 5, 0] rfl h
      · have h := h.2 q
        refine jm_iconst (pc := 53) dX12_liarsIn_53 ?_
        refine jm_istore (pc := 54) (lv' := [(4, _), (0, _), (1, _), (2, _), (3, _), (5, _)]) dX12_liarsIn_54 (by decide) rfl ?_
        refine jm_iinc (pc := 56) (lv' := [(5, _), (4, _), (0, _), (1, _), (2, _), (3, _)]) 5 dX12_liarsIn_56 rfl (by decide) rfl ?_
        refine jm_goto (pc := 59) 18 dX12_liarsIn_59 rfl ?_
        exact jm_sub [2, 3, 4, 5, 1, 0] rfl h
theorem bX12_liarsIn_4 {l : Launch} {g : jm_G} {d : Nat} {v1 v2 v3 : Int} (hg : jm_HR g) {mu : jm_M} {Q : Option Value → jm_M → Prop} (h : jm_rg v3 ∧ ((mu.1 0 4) ≤ v3 → Q (some (jm_i v2)) mu) ∧ (v3 < (mu.1 0 4) → jm_V l g (d + 2) iX12_liarsIn 18 [(0, .ref 0), (1, jm_i v1), (2, jm_i v2), (3, jm_i v3), (4, jm_i 0), (5, jm_i 0)] [] mu Q)) : jm_V l g (d + 2) iX12_liarsIn 4 [(0, .ref 0), (1, jm_i v1), (2, jm_i v2), (3, jm_i v3)] [] mu Q := by
  refine jm_mrI (fun hm0 => ?_)
  refine jm_iload_n (pc := 4) 3 dX12_liarsIn_4 rfl ?_
  refine jm_aload_n (pc := 5) 0 dX12_liarsIn_5 rfl ?_
  refine jm_geti (pc := 6) 4 dX12_liarsIn_6 fX12_121 (cR0 hg) rfl ?_
  have hg1 := h.1
  have h := h.2
  refine jm_icmp_ge (pc := 9) 77 dX12_liarsIn_9 rfl hg1 (hm0 _ _) (fun q => ?_) (fun q => ?_)
  · have h := h.1 q
    refine jm_iload_n (pc := 77) 2 dX12_liarsIn_77 rfl ?_
    exact jm_iret (pc := 78) dX12_liarsIn_78 rfl h
  · have h := h.2 q
    refine jm_iconst (pc := 12) dX12_liarsIn_12 ?_
    refine jm_istore (pc := 13) (lv' := [(4, _), (0, _), (1, _), (2, _), (3, _)]) dX12_liarsIn_13 (by decide) rfl ?_
    refine jm_iconst (pc := 15) dX12_liarsIn_15 ?_
    refine jm_istore (pc := 16) (lv' := [(5, _), (4, _), (0, _), (1, _), (2, _), (3, _)]) dX12_liarsIn_16 (by decide) rfl ?_
    exact jm_sub [2, 3, 4, 5, 1, 0] rfl h
theorem eX12_liarsIn {l : Launch} {g : jm_G} {d : Nat} {v1 : Int} (hg : jm_HR g) {mu : jm_M} {Q : Option Value → jm_M → Prop} (h : jm_V l g (d + 2) iX12_liarsIn 4 [(0, .ref 0), (1, jm_i v1), (2, jm_i 0), (3, jm_i 0)] [] mu Q) : jm_R l g (d + 2) iX12_liarsIn [.ref 0, jm_i v1] mu Q := by
  refine jm_enter [(0, .ref 0), (1, jm_i v1)] (by decide) (Nat.le_of_ble_eq_true rfl) rfl ?_
  refine jm_mrI (fun hm0 => ?_)
  refine jm_iconst (pc := 0) dX12_liarsIn_0 ?_
  refine jm_istore_n (pc := 1) (lv' := [(2, _), (0, _), (1, _)]) dX12_liarsIn_1 (by decide) rfl ?_
  refine jm_iconst (pc := 2) dX12_liarsIn_2 ?_
  refine jm_istore_n (pc := 3) (lv' := [(3, _), (2, _), (0, _), (1, _)]) dX12_liarsIn_3 (by decide) rfl ?_
  exact jm_sub [2, 3, 1, 0] rfl h
theorem dX12_findsWorlds_0 : decode cX12_findsWorlds 0 = .ok (.iconst 0, 1) := by decide +kernel
theorem dX12_findsWorlds_1 : decode cX12_findsWorlds 1 = .ok (.istore_n 2, 1) := by decide +kernel
theorem dX12_findsWorlds_2 : decode cX12_findsWorlds 2 = .ok (.iconst 0, 1) := by decide +kernel
theorem dX12_findsWorlds_3 : decode cX12_findsWorlds 3 = .ok (.istore_n 3, 1) := by decide +kernel
theorem dX12_findsWorlds_4 : decode cX12_findsWorlds 4 = .ok (.iload_n 3, 1) := by decide +kernel
theorem dX12_findsWorlds_5 : decode cX12_findsWorlds 5 = .ok (.bipush 24, 2) := by decide +kernel
theorem dX12_findsWorlds_7 : decode cX12_findsWorlds 7 = .ok (.if_icmp .ge 16, 3) := by decide +kernel
theorem dX12_findsWorlds_10 : decode cX12_findsWorlds 10 = .ok (.aload_n 0, 1) := by decide +kernel
theorem dX12_findsWorlds_11 : decode cX12_findsWorlds 11 = .ok (.getfield 98, 3) := by decide +kernel
theorem dX12_findsWorlds_14 : decode cX12_findsWorlds 14 = .ok (.iload_n 3, 1) := by decide +kernel
theorem dX12_findsWorlds_15 : decode cX12_findsWorlds 15 = .ok (.iconst 0, 1) := by decide +kernel
theorem dX12_findsWorlds_16 : decode cX12_findsWorlds 16 = .ok (.iastore, 1) := by decide +kernel
theorem dX12_findsWorlds_17 : decode cX12_findsWorlds 17 = .ok (.iinc 3 1, 3) := by decide +kernel
theorem dX12_findsWorlds_20 : decode cX12_findsWorlds 20 = .ok (.goto (-16), 3) := by decide +kernel
theorem dX12_findsWorlds_23 : decode cX12_findsWorlds 23 = .ok (.iconst 0, 1) := by decide +kernel
theorem dX12_findsWorlds_24 : decode cX12_findsWorlds 24 = .ok (.istore_n 3, 1) := by decide +kernel
theorem dX12_findsWorlds_25 : decode cX12_findsWorlds 25 = .ok (.iload_n 3, 1) := by decide +kernel
theorem dX12_findsWorlds_26 : decode cX12_findsWorlds 26 = .ok (.sipush 4096, 3) := by decide +kernel
theorem dX12_findsWorlds_29 : decode cX12_findsWorlds 29 = .ok (.if_icmp .ge 77, 3) := by decide +kernel
theorem dX12_findsWorlds_32 : decode cX12_findsWorlds 32 = .ok (.aload_n 0, 1) := by decide +kernel
theorem dX12_findsWorlds_33 : decode cX12_findsWorlds 33 = .ok (.iload_n 3, 1) := by decide +kernel
theorem dX12_findsWorlds_34 : decode cX12_findsWorlds 34 = .ok (.invokevirtual 477, 3) := by decide +kernel
theorem dX12_findsWorlds_37 : decode cX12_findsWorlds 37 = .ok (.iload_n 1, 1) := by decide +kernel
theorem dX12_findsWorlds_38 : decode cX12_findsWorlds 38 = .ok (.if_icmp .le 6, 3) := by decide +kernel
theorem dX12_findsWorlds_41 : decode cX12_findsWorlds 41 = .ok (.goto 59, 3) := by decide +kernel
theorem dX12_findsWorlds_44 : decode cX12_findsWorlds 44 = .ok (.iload_n 2, 1) := by decide +kernel
theorem dX12_findsWorlds_45 : decode cX12_findsWorlds 45 = .ok (.iconst 1, 1) := by decide +kernel
theorem dX12_findsWorlds_46 : decode cX12_findsWorlds 46 = .ok (.iadd, 1) := by decide +kernel
theorem dX12_findsWorlds_47 : decode cX12_findsWorlds 47 = .ok (.istore_n 2, 1) := by decide +kernel
theorem dX12_findsWorlds_48 : decode cX12_findsWorlds 48 = .ok (.iconst 0, 1) := by decide +kernel
theorem dX12_findsWorlds_49 : decode cX12_findsWorlds 49 = .ok (.istore 4, 2) := by decide +kernel
theorem dX12_findsWorlds_51 : decode cX12_findsWorlds 51 = .ok (.iload 4, 2) := by decide +kernel
theorem dX12_findsWorlds_53 : decode cX12_findsWorlds 53 = .ok (.bipush 6, 2) := by decide +kernel
theorem dX12_findsWorlds_55 : decode cX12_findsWorlds 55 = .ok (.if_icmp .ge 45, 3) := by decide +kernel
theorem dX12_findsWorlds_58 : decode cX12_findsWorlds 58 = .ok (.aload_n 0, 1) := by decide +kernel
theorem dX12_findsWorlds_59 : decode cX12_findsWorlds 59 = .ok (.getfield 98, 3) := by decide +kernel
theorem dX12_findsWorlds_62 : decode cX12_findsWorlds 62 = .ok (.iconst 4, 1) := by decide +kernel
theorem dX12_findsWorlds_63 : decode cX12_findsWorlds 63 = .ok (.iload 4, 2) := by decide +kernel
theorem dX12_findsWorlds_65 : decode cX12_findsWorlds 65 = .ok (.imul, 1) := by decide +kernel
theorem dX12_findsWorlds_66 : decode cX12_findsWorlds 66 = .ok (.aload_n 0, 1) := by decide +kernel
theorem dX12_findsWorlds_67 : decode cX12_findsWorlds 67 = .ok (.iload_n 3, 1) := by decide +kernel
theorem dX12_findsWorlds_68 : decode cX12_findsWorlds 68 = .ok (.iload 4, 2) := by decide +kernel
theorem dX12_findsWorlds_70 : decode cX12_findsWorlds 70 = .ok (.invokevirtual 474, 3) := by decide +kernel
theorem dX12_findsWorlds_73 : decode cX12_findsWorlds 73 = .ok (.iadd, 1) := by decide +kernel
theorem dX12_findsWorlds_74 : decode cX12_findsWorlds 74 = .ok (.aload_n 0, 1) := by decide +kernel
theorem dX12_findsWorlds_75 : decode cX12_findsWorlds 75 = .ok (.getfield 98, 3) := by decide +kernel
theorem dX12_findsWorlds_78 : decode cX12_findsWorlds 78 = .ok (.iconst 4, 1) := by decide +kernel
theorem dX12_findsWorlds_79 : decode cX12_findsWorlds 79 = .ok (.iload 4, 2) := by decide +kernel
theorem dX12_findsWorlds_81 : decode cX12_findsWorlds 81 = .ok (.imul, 1) := by decide +kernel
theorem dX12_findsWorlds_82 : decode cX12_findsWorlds 82 = .ok (.aload_n 0, 1) := by decide +kernel
theorem dX12_findsWorlds_83 : decode cX12_findsWorlds 83 = .ok (.iload_n 3, 1) := by decide +kernel
theorem dX12_findsWorlds_84 : decode cX12_findsWorlds 84 = .ok (.iload 4, 2) := by decide +kernel
theorem dX12_findsWorlds_86 : decode cX12_findsWorlds 86 = .ok (.invokevirtual 474, 3) := by decide +kernel
theorem dX12_findsWorlds_89 : decode cX12_findsWorlds 89 = .ok (.iadd, 1) := by decide +kernel
theorem dX12_findsWorlds_90 : decode cX12_findsWorlds 90 = .ok (.iaload, 1) := by decide +kernel
theorem dX12_findsWorlds_91 : decode cX12_findsWorlds 91 = .ok (.iconst 1, 1) := by decide +kernel
theorem dX12_findsWorlds_92 : decode cX12_findsWorlds 92 = .ok (.iadd, 1) := by decide +kernel
theorem dX12_findsWorlds_93 : decode cX12_findsWorlds 93 = .ok (.iastore, 1) := by decide +kernel
theorem dX12_findsWorlds_94 : decode cX12_findsWorlds 94 = .ok (.iinc 4 1, 3) := by decide +kernel
theorem dX12_findsWorlds_97 : decode cX12_findsWorlds 97 = .ok (.goto (-46), 3) := by decide +kernel
theorem dX12_findsWorlds_100 : decode cX12_findsWorlds 100 = .ok (.iinc 3 1, 3) := by decide +kernel
theorem dX12_findsWorlds_103 : decode cX12_findsWorlds 103 = .ok (.goto (-78), 3) := by decide +kernel
theorem dX12_findsWorlds_106 : decode cX12_findsWorlds 106 = .ok (.iload_n 2, 1) := by decide +kernel
theorem dX12_findsWorlds_107 : decode cX12_findsWorlds 107 = .ok (.ireturn, 1) := by decide +kernel
theorem bX12_findsWorlds_51 {l : Launch} {g : jm_G} {d : Nat} {v1 v2 v3 v4 : Int} (hg : jm_HR g) {mu : jm_M} {Q : Option Value → jm_M → Prop} (h : jm_rg v4 ∧ (6 ≤ v4 → jm_V l g (d + 2) iX12_findsWorlds 25 [(0, .ref 0), (1, jm_i v1), (2, jm_i v2), (3, jm_i (v3 + 1))] [] mu Q) ∧ (v4 < 6 → (0 ≤ ((4 * v4) + (jm_and (jm_shr v3 (2 * v4)) 3)) ∧ ((4 * v4) + (jm_and (jm_shr v3 (2 * v4)) 3)) < 24) ∧ jm_rg ((mu.1 29 ((4 * v4) + (jm_and (jm_shr v3 (2 * v4)) 3))) + 1) ∧ ∀ m4, m4 = jm_wr mu 29 ((4 * v4) + (jm_and (jm_shr v3 (2 * v4)) 3)) ((mu.1 29 ((4 * v4) + (jm_and (jm_shr v3 (2 * v4)) 3))) + 1) → jm_V l g (d + 2) iX12_findsWorlds 51 [(0, .ref 0), (1, jm_i v1), (2, jm_i v2), (3, jm_i v3), (4, jm_i (v4 + 1))] [] m4 Q)) : jm_V l g (d + 2) iX12_findsWorlds 51 [(0, .ref 0), (1, jm_i v1), (2, jm_i v2), (3, jm_i v3), (4, jm_i v4)] [] mu Q := by
  refine jm_mrI (fun hm0 => ?_)
  refine jm_iload (pc := 51) 4 dX12_findsWorlds_51 rfl ?_
  refine jm_bipush (pc := 53) dX12_findsWorlds_53 (by decide) ?_
  have hg1 := h.1
  have h := h.2
  refine jm_icmp_ge (pc := 55) 100 dX12_findsWorlds_55 rfl hg1 ⟨by decide, by decide⟩ (fun q => ?_) (fun q => ?_)
  · have h := h.1 q
    refine jm_iinc (pc := 100) (lv' := [(3, _), (0, _), (1, _), (2, _), (4, _)]) 3 dX12_findsWorlds_100 rfl (by decide) rfl ?_
    refine jm_goto (pc := 103) 25 dX12_findsWorlds_103 rfl ?_
    exact jm_sub [1, 2, 3, 0] rfl h
  · have h := h.2 q
    refine jm_aload_n (pc := 58) 0 dX12_findsWorlds_58 rfl ?_
    refine jm_getr (pc := 59) 54 dX12_findsWorlds_59 fX12_98 (cR0 hg) rfl ?_
    refine jm_iconst (pc := 62) dX12_findsWorlds_62 ?_
    refine jm_iload (pc := 63) 4 dX12_findsWorlds_63 rfl ?_
    refine jm_imul (pc := 65) dX12_findsWorlds_65 ?_
    refine jm_aload_n (pc := 66) 0 dX12_findsWorlds_66 rfl ?_
    refine jm_iload_n (pc := 67) 3 dX12_findsWorlds_67 rfl ?_
    refine jm_iload (pc := 68) 4 dX12_findsWorlds_68 rfl ?_
    refine jm_inlvi (pc := 70) (As := [_, _]) (st := [_, _]) iX12_valueIn dX12_findsWorlds_70 mX12_474 (cR0 hg) ⟨_, rfl, rfl⟩ rfl rfl (Nat.le_of_ble_eq_true rfl) (pX12_valueIn hg  (jm_kIi ?_))
    refine jm_iadd (pc := 73) dX12_findsWorlds_73 ?_
    refine jm_aload_n (pc := 74) 0 dX12_findsWorlds_74 rfl ?_
    refine jm_getr (pc := 75) 54 dX12_findsWorlds_75 fX12_98 (cR0 hg) rfl ?_
    refine jm_iconst (pc := 78) dX12_findsWorlds_78 ?_
    refine jm_iload (pc := 79) 4 dX12_findsWorlds_79 rfl ?_
    refine jm_imul (pc := 81) dX12_findsWorlds_81 ?_
    refine jm_aload_n (pc := 82) 0 dX12_findsWorlds_82 rfl ?_
    refine jm_iload_n (pc := 83) 3 dX12_findsWorlds_83 rfl ?_
    refine jm_iload (pc := 84) 4 dX12_findsWorlds_84 rfl ?_
    refine jm_inlvi (pc := 86) (As := [_, _]) (st := [_, _, _, _]) iX12_valueIn dX12_findsWorlds_86 mX12_474 (cR0 hg) ⟨_, rfl, rfl⟩ rfl rfl (Nat.le_of_ble_eq_true rfl) (pX12_valueIn hg  (jm_kIi ?_))
    refine jm_iadd (pc := 89) dX12_findsWorlds_89 ?_
    have hg2 := h.1
    have h := h.2
    refine jm_iald (pc := 90) dX12_findsWorlds_90 (cR29 hg) (by decide) hg2.1 hg2.2 ?_
    refine jm_iconst (pc := 91) dX12_findsWorlds_91 ?_
    refine jm_iadd (pc := 92) dX12_findsWorlds_92 ?_
    have hg3 := h.1
    have h := h.2
    refine jm_iast (pc := 93) dX12_findsWorlds_93 (cR29 hg) (by decide) hg2.1 hg2.2 hg3 ?_
    have h := h _ rfl
    refine jm_mrI (fun hm5 => ?_)
    refine jm_iinc (pc := 94) (lv' := [(4, _), (0, _), (1, _), (2, _), (3, _)]) 4 dX12_findsWorlds_94 rfl (by decide) rfl ?_
    refine jm_goto (pc := 97) 51 dX12_findsWorlds_97 rfl ?_
    exact jm_sub [1, 2, 3, 4, 0] rfl h
theorem bX12_findsWorlds_25 {l : Launch} {g : jm_G} {d : Nat} {v1 v2 v3 : Int} (hg : jm_HR g) {mu : jm_M} {Q : Option Value → jm_M → Prop} (h : jm_rg v3 ∧ (4096 ≤ v3 → Q (some (jm_i v2)) mu) ∧ (v3 < 4096 → jm_R l g (d + 1) iX12_liarsIn [.ref 0, jm_i v3] mu (jm_qi fun z3 m2 => jm_rg v1 ∧ (z3 ≤ v1 → ∀ x7, x7 = (v2 + 1) → jm_V l g (d + 2) iX12_findsWorlds 51 [(0, .ref 0), (1, jm_i v1), (2, jm_i x7), (3, jm_i v3), (4, jm_i 0)] [] m2 Q) ∧ (v1 < z3 → jm_V l g (d + 2) iX12_findsWorlds 25 [(0, .ref 0), (1, jm_i v1), (2, jm_i v2), (3, jm_i (v3 + 1))] [] m2 Q)))) : jm_V l g (d + 2) iX12_findsWorlds 25 [(0, .ref 0), (1, jm_i v1), (2, jm_i v2), (3, jm_i v3)] [] mu Q := by
  refine jm_mrI (fun hm0 => ?_)
  refine jm_iload_n (pc := 25) 3 dX12_findsWorlds_25 rfl ?_
  refine jm_sipush (pc := 26) dX12_findsWorlds_26 (by decide) ?_
  have hg1 := h.1
  have h := h.2
  refine jm_icmp_ge (pc := 29) 106 dX12_findsWorlds_29 rfl hg1 ⟨by decide, by decide⟩ (fun q => ?_) (fun q => ?_)
  · have h := h.1 q
    refine jm_iload_n (pc := 106) 2 dX12_findsWorlds_106 rfl ?_
    exact jm_iret (pc := 107) dX12_findsWorlds_107 rfl h
  · have h := h.2 q
    refine jm_aload_n (pc := 32) 0 dX12_findsWorlds_32 rfl ?_
    refine jm_iload_n (pc := 33) 3 dX12_findsWorlds_33 rfl ?_
    refine jm_callvi (pc := 34) (As := [_]) (st := []) iX12_liarsIn dX12_findsWorlds_34 mX12_477 (cR0 hg) ⟨_, rfl, rfl⟩ rfl rfl (Nat.le_of_ble_eq_true rfl) h (fun z3 m2 hz4 h hm5 => ?_)
    refine jm_iload_n (pc := 37) 1 dX12_findsWorlds_37 rfl ?_
    have hg6 := h.1
    have h := h.2
    refine jm_icmp_le (pc := 38) 44 dX12_findsWorlds_38 rfl hz4 hg6 (fun q => ?_) (fun q => ?_)
    · have h := h.1 q
      refine jm_iload_n (pc := 44) 2 dX12_findsWorlds_44 rfl ?_
      refine jm_iconst (pc := 45) dX12_findsWorlds_45 ?_
      refine jm_iadd (pc := 46) dX12_findsWorlds_46 ?_
      have h := h _ rfl
      refine jm_istore_n (pc := 47) (lv' := [(2, _), (0, _), (1, _), (3, _)]) dX12_findsWorlds_47 (by decide) rfl ?_
      refine jm_iconst (pc := 48) dX12_findsWorlds_48 ?_
      refine jm_istore (pc := 49) (lv' := [(4, _), (2, _), (0, _), (1, _), (3, _)]) dX12_findsWorlds_49 (by decide) rfl ?_
      exact jm_sub [2, 3, 1, 4, 0] rfl h
    · have h := h.2 q
      refine jm_goto (pc := 41) 100 dX12_findsWorlds_41 rfl ?_
      refine jm_iinc (pc := 100) (lv' := [(3, _), (0, _), (1, _), (2, _)]) 3 dX12_findsWorlds_100 rfl (by decide) rfl ?_
      refine jm_goto (pc := 103) 25 dX12_findsWorlds_103 rfl ?_
      exact jm_sub [1, 2, 3, 0] rfl h
theorem bX12_findsWorlds_4 {l : Launch} {g : jm_G} {d : Nat} {v1 v2 v3 : Int} (hg : jm_HR g) {mu : jm_M} {Q : Option Value → jm_M → Prop} (h : jm_rg v3 ∧ (24 ≤ v3 → jm_V l g (d + 2) iX12_findsWorlds 25 [(0, .ref 0), (1, jm_i v1), (2, jm_i v2), (3, jm_i 0)] [] mu Q) ∧ (v3 < 24 → (0 ≤ v3 ∧ v3 < 24) ∧ ∀ m3, m3 = jm_wr mu 29 v3 0 → jm_V l g (d + 2) iX12_findsWorlds 4 [(0, .ref 0), (1, jm_i v1), (2, jm_i v2), (3, jm_i (v3 + 1))] [] m3 Q)) : jm_V l g (d + 2) iX12_findsWorlds 4 [(0, .ref 0), (1, jm_i v1), (2, jm_i v2), (3, jm_i v3)] [] mu Q := by
  refine jm_mrI (fun hm0 => ?_)
  refine jm_iload_n (pc := 4) 3 dX12_findsWorlds_4 rfl ?_
  refine jm_bipush (pc := 5) dX12_findsWorlds_5 (by decide) ?_
  have hg1 := h.1
  have h := h.2
  refine jm_icmp_ge (pc := 7) 23 dX12_findsWorlds_7 rfl hg1 ⟨by decide, by decide⟩ (fun q => ?_) (fun q => ?_)
  · have h := h.1 q
    refine jm_iconst (pc := 23) dX12_findsWorlds_23 ?_
    refine jm_istore_n (pc := 24) (lv' := [(3, _), (0, _), (1, _), (2, _)]) dX12_findsWorlds_24 (by decide) rfl ?_
    exact jm_sub [1, 2, 3, 0] rfl h
  · have h := h.2 q
    refine jm_aload_n (pc := 10) 0 dX12_findsWorlds_10 rfl ?_
    refine jm_getr (pc := 11) 54 dX12_findsWorlds_11 fX12_98 (cR0 hg) rfl ?_
    refine jm_iload_n (pc := 14) 3 dX12_findsWorlds_14 rfl ?_
    refine jm_iconst (pc := 15) dX12_findsWorlds_15 ?_
    have hg2 := h.1
    have h := h.2
    refine jm_iast (pc := 16) dX12_findsWorlds_16 (cR29 hg) (by decide) hg2.1 hg2.2 ⟨by decide, by decide⟩ ?_
    have h := h _ rfl
    refine jm_mrI (fun hm4 => ?_)
    refine jm_iinc (pc := 17) (lv' := [(3, _), (0, _), (1, _), (2, _)]) 3 dX12_findsWorlds_17 rfl (by decide) rfl ?_
    refine jm_goto (pc := 20) 4 dX12_findsWorlds_20 rfl ?_
    exact jm_sub [1, 2, 3, 0] rfl h
theorem eX12_findsWorlds {l : Launch} {g : jm_G} {d : Nat} {v1 : Int} (hg : jm_HR g) {mu : jm_M} {Q : Option Value → jm_M → Prop} (h : jm_V l g (d + 2) iX12_findsWorlds 4 [(0, .ref 0), (1, jm_i v1), (2, jm_i 0), (3, jm_i 0)] [] mu Q) : jm_R l g (d + 2) iX12_findsWorlds [.ref 0, jm_i v1] mu Q := by
  refine jm_enter [(0, .ref 0), (1, jm_i v1)] (by decide) (Nat.le_of_ble_eq_true rfl) rfl ?_
  refine jm_mrI (fun hm0 => ?_)
  refine jm_iconst (pc := 0) dX12_findsWorlds_0 ?_
  refine jm_istore_n (pc := 1) (lv' := [(2, _), (0, _), (1, _)]) dX12_findsWorlds_1 (by decide) rfl ?_
  refine jm_iconst (pc := 2) dX12_findsWorlds_2 ?_
  refine jm_istore_n (pc := 3) (lv' := [(3, _), (2, _), (0, _), (1, _)]) dX12_findsWorlds_3 (by decide) rfl ?_
  exact jm_sub [2, 3, 1, 0] rfl h
theorem dX12_mostIn_0 : decode cX12_mostIn 0 = .ok (.iconst 0, 1) := by decide +kernel
theorem dX12_mostIn_1 : decode cX12_mostIn 1 = .ok (.istore_n 2, 1) := by decide +kernel
theorem dX12_mostIn_2 : decode cX12_mostIn 2 = .ok (.iconst 0, 1) := by decide +kernel
theorem dX12_mostIn_3 : decode cX12_mostIn 3 = .ok (.istore_n 3, 1) := by decide +kernel
theorem dX12_mostIn_4 : decode cX12_mostIn 4 = .ok (.iload_n 3, 1) := by decide +kernel
theorem dX12_mostIn_5 : decode cX12_mostIn 5 = .ok (.iconst 4, 1) := by decide +kernel
theorem dX12_mostIn_6 : decode cX12_mostIn 6 = .ok (.if_icmp .ge 25, 3) := by decide +kernel
theorem dX12_mostIn_9 : decode cX12_mostIn 9 = .ok (.aload_n 0, 1) := by decide +kernel
theorem dX12_mostIn_10 : decode cX12_mostIn 10 = .ok (.iload_n 2, 1) := by decide +kernel
theorem dX12_mostIn_11 : decode cX12_mostIn 11 = .ok (.aload_n 0, 1) := by decide +kernel
theorem dX12_mostIn_12 : decode cX12_mostIn 12 = .ok (.getfield 98, 3) := by decide +kernel
theorem dX12_mostIn_15 : decode cX12_mostIn 15 = .ok (.iconst 4, 1) := by decide +kernel
theorem dX12_mostIn_16 : decode cX12_mostIn 16 = .ok (.iload_n 1, 1) := by decide +kernel
theorem dX12_mostIn_17 : decode cX12_mostIn 17 = .ok (.imul, 1) := by decide +kernel
theorem dX12_mostIn_18 : decode cX12_mostIn 18 = .ok (.iload_n 3, 1) := by decide +kernel
theorem dX12_mostIn_19 : decode cX12_mostIn 19 = .ok (.iadd, 1) := by decide +kernel
theorem dX12_mostIn_20 : decode cX12_mostIn 20 = .ok (.iaload, 1) := by decide +kernel
theorem dX12_mostIn_21 : decode cX12_mostIn 21 = .ok (.invokevirtual 447, 3) := by decide +kernel
theorem dX12_mostIn_24 : decode cX12_mostIn 24 = .ok (.istore_n 2, 1) := by decide +kernel
theorem dX12_mostIn_25 : decode cX12_mostIn 25 = .ok (.iinc 3 1, 3) := by decide +kernel
theorem dX12_mostIn_28 : decode cX12_mostIn 28 = .ok (.goto (-24), 3) := by decide +kernel
theorem dX12_mostIn_31 : decode cX12_mostIn 31 = .ok (.iload_n 2, 1) := by decide +kernel
theorem dX12_mostIn_32 : decode cX12_mostIn 32 = .ok (.ireturn, 1) := by decide +kernel
theorem bX12_mostIn_4 {l : Launch} {g : jm_G} {d : Nat} {v1 v2 v3 : Int} (hg : jm_HR g) {mu : jm_M} {Q : Option Value → jm_M → Prop} (h : jm_rg v3 ∧ (4 ≤ v3 → Q (some (jm_i v2)) mu) ∧ (v3 < 4 → (0 ≤ ((4 * v1) + v3) ∧ ((4 * v1) + v3) < 24) ∧ jm_R l g d iX12_greater [.ref 0, jm_i v2, jm_i (mu.1 29 ((4 * v1) + v3))] mu (jm_qi fun z4 m3 => jm_V l g (d + 1) iX12_mostIn 4 [(0, .ref 0), (1, jm_i v1), (2, jm_i z4), (3, jm_i (v3 + 1))] [] m3 Q))) : jm_V l g (d + 1) iX12_mostIn 4 [(0, .ref 0), (1, jm_i v1), (2, jm_i v2), (3, jm_i v3)] [] mu Q := by
  refine jm_mrI (fun hm0 => ?_)
  refine jm_iload_n (pc := 4) 3 dX12_mostIn_4 rfl ?_
  refine jm_iconst (pc := 5) dX12_mostIn_5 ?_
  have hg1 := h.1
  have h := h.2
  refine jm_icmp_ge (pc := 6) 31 dX12_mostIn_6 rfl hg1 ⟨by decide, by decide⟩ (fun q => ?_) (fun q => ?_)
  · have h := h.1 q
    refine jm_iload_n (pc := 31) 2 dX12_mostIn_31 rfl ?_
    exact jm_iret (pc := 32) dX12_mostIn_32 rfl h
  · have h := h.2 q
    refine jm_aload_n (pc := 9) 0 dX12_mostIn_9 rfl ?_
    refine jm_iload_n (pc := 10) 2 dX12_mostIn_10 rfl ?_
    refine jm_aload_n (pc := 11) 0 dX12_mostIn_11 rfl ?_
    refine jm_getr (pc := 12) 54 dX12_mostIn_12 fX12_98 (cR0 hg) rfl ?_
    refine jm_iconst (pc := 15) dX12_mostIn_15 ?_
    refine jm_iload_n (pc := 16) 1 dX12_mostIn_16 rfl ?_
    refine jm_imul (pc := 17) dX12_mostIn_17 ?_
    refine jm_iload_n (pc := 18) 3 dX12_mostIn_18 rfl ?_
    refine jm_iadd (pc := 19) dX12_mostIn_19 ?_
    have hg2 := h.1
    have h := h.2
    refine jm_iald (pc := 20) dX12_mostIn_20 (cR29 hg) (by decide) hg2.1 hg2.2 ?_
    refine jm_callvi (pc := 21) (As := [_, _]) (st := []) iX12_greater dX12_mostIn_21 mX12_447 (cR0 hg) ⟨_, rfl, rfl⟩ rfl rfl (Nat.le_of_ble_eq_true rfl) h (fun z4 m3 hz5 h hm6 => ?_)
    refine jm_istore_n (pc := 24) (lv' := [(2, _), (0, _), (1, _), (3, _)]) dX12_mostIn_24 (by decide) rfl ?_
    refine jm_iinc (pc := 25) (lv' := [(3, _), (2, _), (0, _), (1, _)]) 3 dX12_mostIn_25 rfl (by decide) rfl ?_
    refine jm_goto (pc := 28) 4 dX12_mostIn_28 rfl ?_
    exact jm_sub [2, 3, 1, 0] rfl h
theorem eX12_mostIn {l : Launch} {g : jm_G} {d : Nat} {v1 : Int} (hg : jm_HR g) {mu : jm_M} {Q : Option Value → jm_M → Prop} (h : jm_V l g (d + 1) iX12_mostIn 4 [(0, .ref 0), (1, jm_i v1), (2, jm_i 0), (3, jm_i 0)] [] mu Q) : jm_R l g (d + 1) iX12_mostIn [.ref 0, jm_i v1] mu Q := by
  refine jm_enter [(0, .ref 0), (1, jm_i v1)] (by decide) (Nat.le_of_ble_eq_true rfl) rfl ?_
  refine jm_mrI (fun hm0 => ?_)
  refine jm_iconst (pc := 0) dX12_mostIn_0 ?_
  refine jm_istore_n (pc := 1) (lv' := [(2, _), (0, _), (1, _)]) dX12_mostIn_1 (by decide) rfl ?_
  refine jm_iconst (pc := 2) dX12_mostIn_2 ?_
  refine jm_istore_n (pc := 3) (lv' := [(3, _), (2, _), (0, _), (1, _)]) dX12_mostIn_3 (by decide) rfl ?_
  exact jm_sub [2, 3, 1, 0] rfl h
theorem dX12_worlds_0 : decode cX12_worlds 0 = .ok (.aload_n 0, 1) := by decide +kernel
theorem dX12_worlds_1 : decode cX12_worlds 1 = .ok (.iconst 0, 1) := by decide +kernel
theorem dX12_worlds_2 : decode cX12_worlds 2 = .ok (.putfield 104, 3) := by decide +kernel
theorem dX12_worlds_5 : decode cX12_worlds 5 = .ok (.aload_n 0, 1) := by decide +kernel
theorem dX12_worlds_6 : decode cX12_worlds 6 = .ok (.iload_n 1, 1) := by decide +kernel
theorem dX12_worlds_7 : decode cX12_worlds 7 = .ok (.iconst 0, 1) := by decide +kernel
theorem dX12_worlds_8 : decode cX12_worlds 8 = .ok (.bipush 8, 2) := by decide +kernel
theorem dX12_worlds_10 : decode cX12_worlds 10 = .ok (.invokevirtual 128, 3) := by decide +kernel
theorem dX12_worlds_13 : decode cX12_worlds 13 = .ok (.ifCond .eq 13, 3) := by decide +kernel
theorem dX12_worlds_16 : decode cX12_worlds 16 = .ok (.aload_n 0, 1) := by decide +kernel
theorem dX12_worlds_17 : decode cX12_worlds 17 = .ok (.iload_n 2, 1) := by decide +kernel
theorem dX12_worlds_18 : decode cX12_worlds 18 = .ok (.iconst 0, 1) := by decide +kernel
theorem dX12_worlds_19 : decode cX12_worlds 19 = .ok (.iconst 2, 1) := by decide +kernel
theorem dX12_worlds_20 : decode cX12_worlds 20 = .ok (.invokevirtual 128, 3) := by decide +kernel
theorem dX12_worlds_23 : decode cX12_worlds 23 = .ok (.ifCond .ne 5, 3) := by decide +kernel
theorem dX12_worlds_26 : decode cX12_worlds 26 = .ok (.iconst (-1), 1) := by decide +kernel
theorem dX12_worlds_27 : decode cX12_worlds 27 = .ok (.ireturn, 1) := by decide +kernel
theorem dX12_worlds_28 : decode cX12_worlds 28 = .ok (.aload_n 0, 1) := by decide +kernel
theorem dX12_worlds_29 : decode cX12_worlds 29 = .ok (.iload_n 1, 1) := by decide +kernel
theorem dX12_worlds_30 : decode cX12_worlds 30 = .ok (.invokevirtual 480, 3) := by decide +kernel
theorem dX12_worlds_33 : decode cX12_worlds 33 = .ok (.istore_n 3, 1) := by decide +kernel
theorem dX12_worlds_34 : decode cX12_worlds 34 = .ok (.iload_n 2, 1) := by decide +kernel
theorem dX12_worlds_35 : decode cX12_worlds 35 = .ok (.ifCond .ne 5, 3) := by decide +kernel
theorem dX12_worlds_38 : decode cX12_worlds 38 = .ok (.iload_n 3, 1) := by decide +kernel
theorem dX12_worlds_39 : decode cX12_worlds 39 = .ok (.ireturn, 1) := by decide +kernel
theorem dX12_worlds_40 : decode cX12_worlds 40 = .ok (.iconst 0, 1) := by decide +kernel
theorem dX12_worlds_41 : decode cX12_worlds 41 = .ok (.istore 4, 2) := by decide +kernel
theorem dX12_worlds_43 : decode cX12_worlds 43 = .ok (.iconst 0, 1) := by decide +kernel
theorem dX12_worlds_44 : decode cX12_worlds 44 = .ok (.istore 5, 2) := by decide +kernel
theorem dX12_worlds_46 : decode cX12_worlds 46 = .ok (.iconst 0, 1) := by decide +kernel
theorem dX12_worlds_47 : decode cX12_worlds 47 = .ok (.istore 6, 2) := by decide +kernel
theorem dX12_worlds_49 : decode cX12_worlds 49 = .ok (.iload 6, 2) := by decide +kernel
theorem dX12_worlds_51 : decode cX12_worlds 51 = .ok (.bipush 6, 2) := by decide +kernel
theorem dX12_worlds_53 : decode cX12_worlds 53 = .ok (.if_icmp .ge 47, 3) := by decide +kernel
theorem dX12_worlds_56 : decode cX12_worlds 56 = .ok (.aload_n 0, 1) := by decide +kernel
theorem dX12_worlds_57 : decode cX12_worlds 57 = .ok (.iload 6, 2) := by decide +kernel
theorem dX12_worlds_59 : decode cX12_worlds 59 = .ok (.invokevirtual 483, 3) := by decide +kernel
theorem dX12_worlds_62 : decode cX12_worlds 62 = .ok (.iload_n 3, 1) := by decide +kernel
theorem dX12_worlds_63 : decode cX12_worlds 63 = .ok (.if_icmp .ne 12, 3) := by decide +kernel
theorem dX12_worlds_66 : decode cX12_worlds 66 = .ok (.iload 4, 2) := by decide +kernel
theorem dX12_worlds_68 : decode cX12_worlds 68 = .ok (.iconst 1, 1) := by decide +kernel
theorem dX12_worlds_69 : decode cX12_worlds 69 = .ok (.iload 6, 2) := by decide +kernel
theorem dX12_worlds_71 : decode cX12_worlds 71 = .ok (.ishl, 1) := by decide +kernel
theorem dX12_worlds_72 : decode cX12_worlds 72 = .ok (.ior, 1) := by decide +kernel
theorem dX12_worlds_73 : decode cX12_worlds 73 = .ok (.istore 4, 2) := by decide +kernel
theorem dX12_worlds_75 : decode cX12_worlds 75 = .ok (.aload_n 0, 1) := by decide +kernel
theorem dX12_worlds_76 : decode cX12_worlds 76 = .ok (.iload 6, 2) := by decide +kernel
theorem dX12_worlds_78 : decode cX12_worlds 78 = .ok (.invokevirtual 483, 3) := by decide +kernel
theorem dX12_worlds_81 : decode cX12_worlds 81 = .ok (.aload_n 0, 1) := by decide +kernel
theorem dX12_worlds_82 : decode cX12_worlds 82 = .ok (.iload 5, 2) := by decide +kernel
theorem dX12_worlds_84 : decode cX12_worlds 84 = .ok (.invokevirtual 483, 3) := by decide +kernel
theorem dX12_worlds_87 : decode cX12_worlds 87 = .ok (.if_icmp .ge 7, 3) := by decide +kernel
theorem dX12_worlds_90 : decode cX12_worlds 90 = .ok (.iload 6, 2) := by decide +kernel
theorem dX12_worlds_92 : decode cX12_worlds 92 = .ok (.istore 5, 2) := by decide +kernel
theorem dX12_worlds_94 : decode cX12_worlds 94 = .ok (.iinc 6 1, 3) := by decide +kernel
theorem dX12_worlds_97 : decode cX12_worlds 97 = .ok (.goto (-48), 3) := by decide +kernel
theorem dX12_worlds_100 : decode cX12_worlds 100 = .ok (.iload_n 2, 1) := by decide +kernel
theorem dX12_worlds_101 : decode cX12_worlds 101 = .ok (.iconst 1, 1) := by decide +kernel
theorem dX12_worlds_102 : decode cX12_worlds 102 = .ok (.if_icmp .ne 8, 3) := by decide +kernel
theorem dX12_worlds_105 : decode cX12_worlds 105 = .ok (.iload 4, 2) := by decide +kernel
theorem dX12_worlds_107 : decode cX12_worlds 107 = .ok (.goto 14, 3) := by decide +kernel
theorem dX12_worlds_110 : decode cX12_worlds 110 = .ok (.iload_n 3, 1) := by decide +kernel
theorem dX12_worlds_111 : decode cX12_worlds 111 = .ok (.iconst 2, 1) := by decide +kernel
theorem dX12_worlds_112 : decode cX12_worlds 112 = .ok (.if_icmp .ge 7, 3) := by decide +kernel
theorem dX12_worlds_115 : decode cX12_worlds 115 = .ok (.iconst (-1), 1) := by decide +kernel
theorem dX12_worlds_116 : decode cX12_worlds 116 = .ok (.goto 5, 3) := by decide +kernel
theorem dX12_worlds_119 : decode cX12_worlds 119 = .ok (.iload 5, 2) := by decide +kernel
theorem dX12_worlds_121 : decode cX12_worlds 121 = .ok (.ireturn, 1) := by decide +kernel
theorem bX12_worlds_75 {l : Launch} {g : jm_G} {d : Nat} {v2 v3 v4 v5 v6 : Int} (hg : jm_HR g) {mu : jm_M} {Q : Option Value → jm_M → Prop} (h : jm_R l g (d + 1) iX12_mostIn [.ref 0, jm_i v6] mu (jm_qi fun z2 m1 => jm_R l g (d + 1) iX12_mostIn [.ref 0, jm_i v5] m1 (jm_qi fun z6 m5 => (z6 ≤ z2 → jm_V l g (d + 2) iX12_worlds 49 [(0, .ref 0), (2, jm_i v2), (3, jm_i v3), (4, jm_i v4), (5, jm_i v5), (6, jm_i (v6 + 1))] [] m5 Q) ∧ (z2 < z6 → jm_V l g (d + 2) iX12_worlds 49 [(0, .ref 0), (2, jm_i v2), (3, jm_i v3), (4, jm_i v4), (5, jm_i v6), (6, jm_i (v6 + 1))] [] m5 Q)))) : jm_V l g (d + 2) iX12_worlds 75 [(0, .ref 0), (2, jm_i v2), (3, jm_i v3), (4, jm_i v4), (5, jm_i v5), (6, jm_i v6)] [] mu Q := by
  refine jm_mrI (fun hm0 => ?_)
  refine jm_aload_n (pc := 75) 0 dX12_worlds_75 rfl ?_
  refine jm_iload (pc := 76) 5 dX12_worlds_76 rfl ?_
  refine jm_callvi (pc := 78) (As := [_]) (st := []) iX12_mostIn dX12_worlds_78 mX12_483 (cR0 hg) ⟨_, rfl, rfl⟩ rfl rfl (Nat.le_of_ble_eq_true rfl) h (fun z2 m1 hz3 h hm4 => ?_)
  refine jm_aload_n (pc := 81) 0 dX12_worlds_81 rfl ?_
  refine jm_iload (pc := 82) 4 dX12_worlds_82 rfl ?_
  refine jm_callvi (pc := 84) (As := [_]) (st := [_]) iX12_mostIn dX12_worlds_84 mX12_483 (cR0 hg) ⟨_, rfl, rfl⟩ rfl rfl (Nat.le_of_ble_eq_true rfl) h (fun z6 m5 hz7 h hm8 => ?_)
  refine jm_icmp_ge (pc := 87) 94 dX12_worlds_87 rfl hz3 hz7 (fun q => ?_) (fun q => ?_)
  · have h := h.1 q
    refine jm_iinc (pc := 94) (lv' := [(6, _), (0, _), (2, _), (3, _), (4, _), (5, _)]) 5 dX12_worlds_94 rfl (by decide) rfl ?_
    refine jm_goto (pc := 97) 49 dX12_worlds_97 rfl ?_
    exact jm_sub [1, 2, 3, 4, 5, 0] rfl h
  · have h := h.2 q
    refine jm_iload (pc := 90) 5 dX12_worlds_90 rfl ?_
    refine jm_istore (pc := 92) (lv' := [(5, _), (0, _), (2, _), (3, _), (4, _), (6, _)]) dX12_worlds_92 (by decide) rfl ?_
    refine jm_iinc (pc := 94) (lv' := [(6, _), (5, _), (0, _), (2, _), (3, _), (4, _)]) 5 dX12_worlds_94 rfl (by decide) rfl ?_
    refine jm_goto (pc := 97) 49 dX12_worlds_97 rfl ?_
    exact jm_sub [2, 3, 4, 5, 1, 0] rfl h
theorem bX12_worlds_49 {l : Launch} {g : jm_G} {d : Nat} {v2 v3 v4 v5 v6 : Int} (hg : jm_HR g) {mu : jm_M} {Q : Option Value → jm_M → Prop} (h : jm_rg v6 ∧ (6 ≤ v6 → jm_rg v2 ∧ (¬ v2 = 1 → jm_rg v3 ∧ (2 ≤ v3 → Q (some (jm_i v5)) mu) ∧ (v3 < 2 → Q (some (jm_i (-1))) mu)) ∧ (v2 = 1 → Q (some (jm_i v4)) mu)) ∧ (v6 < 6 → jm_R l g (d + 1) iX12_mostIn [.ref 0, jm_i v6] mu (jm_qi fun z5 m4 => jm_rg v3 ∧ (¬ z5 = v3 → jm_V l g (d + 2) iX12_worlds 75 [(0, .ref 0), (2, jm_i v2), (3, jm_i v3), (4, jm_i v4), (5, jm_i v5), (6, jm_i v6)] [] m4 Q) ∧ (z5 = v3 → ∀ x9, x9 = (jm_or v4 (jm_shl 1 v6)) → jm_V l g (d + 2) iX12_worlds 75 [(0, .ref 0), (2, jm_i v2), (3, jm_i v3), (4, jm_i x9), (5, jm_i v5), (6, jm_i v6)] [] m4 Q)))) : jm_V l g (d + 2) iX12_worlds 49 [(0, .ref 0), (2, jm_i v2), (3, jm_i v3), (4, jm_i v4), (5, jm_i v5), (6, jm_i v6)] [] mu Q := by
  refine jm_mrI (fun hm0 => ?_)
  refine jm_iload (pc := 49) 5 dX12_worlds_49 rfl ?_
  refine jm_bipush (pc := 51) dX12_worlds_51 (by decide) ?_
  have hg1 := h.1
  have h := h.2
  refine jm_icmp_ge (pc := 53) 100 dX12_worlds_53 rfl hg1 ⟨by decide, by decide⟩ (fun q => ?_) (fun q => ?_)
  · have h := h.1 q
    refine jm_iload_n (pc := 100) 1 dX12_worlds_100 rfl ?_
    refine jm_iconst (pc := 101) dX12_worlds_101 ?_
    have hg2 := h.1
    have h := h.2
    refine jm_icmp_ne (pc := 102) 110 dX12_worlds_102 rfl hg2 ⟨by decide, by decide⟩ (fun q => ?_) (fun q => ?_)
    · have h := h.1 q
      refine jm_iload_n (pc := 110) 2 dX12_worlds_110 rfl ?_
      refine jm_iconst (pc := 111) dX12_worlds_111 ?_
      have hg3 := h.1
      have h := h.2
      refine jm_icmp_ge (pc := 112) 119 dX12_worlds_112 rfl hg3 ⟨by decide, by decide⟩ (fun q => ?_) (fun q => ?_)
      · have h := h.1 q
        refine jm_iload (pc := 119) 4 dX12_worlds_119 rfl ?_
        exact jm_iret (pc := 121) dX12_worlds_121 rfl h
      · have h := h.2 q
        refine jm_iconst (pc := 115) dX12_worlds_115 ?_
        refine jm_goto (pc := 116) 121 dX12_worlds_116 rfl ?_
        exact jm_iret (pc := 121) dX12_worlds_121 rfl h
    · have h := h.2 q
      refine jm_iload (pc := 105) 3 dX12_worlds_105 rfl ?_
      refine jm_goto (pc := 107) 121 dX12_worlds_107 rfl ?_
      exact jm_iret (pc := 121) dX12_worlds_121 rfl h
  · have h := h.2 q
    refine jm_aload_n (pc := 56) 0 dX12_worlds_56 rfl ?_
    refine jm_iload (pc := 57) 5 dX12_worlds_57 rfl ?_
    refine jm_callvi (pc := 59) (As := [_]) (st := []) iX12_mostIn dX12_worlds_59 mX12_483 (cR0 hg) ⟨_, rfl, rfl⟩ rfl rfl (Nat.le_of_ble_eq_true rfl) h (fun z5 m4 hz6 h hm7 => ?_)
    refine jm_iload_n (pc := 62) 2 dX12_worlds_62 rfl ?_
    have hg8 := h.1
    have h := h.2
    refine jm_icmp_ne (pc := 63) 75 dX12_worlds_63 rfl hz6 hg8 (fun q => ?_) (fun q => ?_)
    · have h := h.1 q
      exact jm_sub [0, 1, 2, 3, 4, 5] rfl h
    · have h := h.2 q
      refine jm_iload (pc := 66) 3 dX12_worlds_66 rfl ?_
      refine jm_iconst (pc := 68) dX12_worlds_68 ?_
      refine jm_iload (pc := 69) 5 dX12_worlds_69 rfl ?_
      refine jm_ishl (pc := 71) dX12_worlds_71 ?_
      refine jm_ior (pc := 72) dX12_worlds_72 ?_
      have h := h _ rfl
      refine jm_istore (pc := 73) (lv' := [(4, _), (0, _), (2, _), (3, _), (5, _), (6, _)]) dX12_worlds_73 (by decide) rfl ?_
      exact jm_sub [1, 2, 3, 0, 4, 5] rfl h
theorem eX12_worlds {l : Launch} {g : jm_G} {d : Nat} {v1 v2 : Int} (hg : jm_HR g) {mu : jm_M} {Q : Option Value → jm_M → Prop} (h : ∀ m1, m1 = jm_wr mu 0 0 0 → jm_rg v1 ∧ (0 ≤ v1 ∧ v1 ≤ 8 → jm_rg v2 ∧ (0 ≤ v2 ∧ v2 ≤ 2 → jm_R l g (d + 1) iX12_findsWorlds [.ref 0, jm_i v1] m1 (jm_qi fun z6 m5 => (¬ v2 = 0 → jm_V l g (d + 2) iX12_worlds 49 [(0, .ref 0), (2, jm_i v2), (3, jm_i z6), (4, jm_i 0), (5, jm_i 0), (6, jm_i 0)] [] m5 Q) ∧ (v2 = 0 → Q (some (jm_i z6)) m5))) ∧ (¬ (0 ≤ v2 ∧ v2 ≤ 2) → Q (some (jm_i (-1))) m1)) ∧ (¬ (0 ≤ v1 ∧ v1 ≤ 8) → Q (some (jm_i (-1))) m1)) : jm_R l g (d + 2) iX12_worlds [.ref 0, jm_i v1, jm_i v2] mu Q := by
  refine jm_enter [(0, .ref 0), (1, jm_i v1), (2, jm_i v2)] (by decide) (Nat.le_of_ble_eq_true rfl) rfl ?_
  refine jm_mrI (fun hm0 => ?_)
  refine jm_aload_n (pc := 0) 0 dX12_worlds_0 rfl ?_
  refine jm_iconst (pc := 1) dX12_worlds_1 ?_
  refine jm_put (pc := 2) 0 dX12_worlds_2 fX12_104 ftX12 (fun q h => by cases h; rfl) (jm_nI _) (jm_fI _) (cR0 hg) rfl ⟨by decide, by decide⟩ ?_
  have h := h _ rfl
  refine jm_mrI (fun hm2 => ?_)
  refine jm_aload_n (pc := 5) 0 dX12_worlds_5 rfl ?_
  refine jm_iload_n (pc := 6) 1 dX12_worlds_6 rfl ?_
  refine jm_iconst (pc := 7) dX12_worlds_7 ?_
  refine jm_bipush (pc := 8) dX12_worlds_8 (by decide) ?_
  have hg3 := h.1
  have h := h.2
  refine jm_inlvi (pc := 10) (As := [_, _, _]) (st := []) iX12_isIn dX12_worlds_10 mX12_128 (cR0 hg) ⟨_, rfl, rfl⟩ rfl rfl (Nat.le_of_ble_eq_true rfl) (pX12_isIn hg hg3 ⟨by decide, by decide⟩ ⟨by decide, by decide⟩ (fun q => jm_kIi ?_) (fun q => jm_kIi ?_))
  · have h := h.1 q
    refine jm_if_eq (pc := 13) 26 dX12_worlds_13 rfl ⟨by decide, by decide⟩ (fun q => absurd q (by decide)) (fun q => ?_)
    refine jm_aload_n (pc := 16) 0 dX12_worlds_16 rfl ?_
    refine jm_iload_n (pc := 17) 2 dX12_worlds_17 rfl ?_
    refine jm_iconst (pc := 18) dX12_worlds_18 ?_
    refine jm_iconst (pc := 19) dX12_worlds_19 ?_
    have hg4 := h.1
    have h := h.2
    refine jm_inlvi (pc := 20) (As := [_, _, _]) (st := []) iX12_isIn dX12_worlds_20 mX12_128 (cR0 hg) ⟨_, rfl, rfl⟩ rfl rfl (Nat.le_of_ble_eq_true rfl) (pX12_isIn hg hg4 ⟨by decide, by decide⟩ ⟨by decide, by decide⟩ (fun q => jm_kIi ?_) (fun q => jm_kIi ?_))
    · have h := h.1 q
      refine jm_if_ne (pc := 23) 28 dX12_worlds_23 rfl ⟨by decide, by decide⟩ (fun q => ?_) (fun q => absurd q (by decide))
      refine jm_aload_n (pc := 28) 0 dX12_worlds_28 rfl ?_
      refine jm_iload_n (pc := 29) 1 dX12_worlds_29 rfl ?_
      refine jm_callvi (pc := 30) (As := [_]) (st := []) iX12_findsWorlds dX12_worlds_30 mX12_480 (cR0 hg) ⟨_, rfl, rfl⟩ rfl rfl (Nat.le_of_ble_eq_true rfl) h (fun z6 m5 hz7 h hm8 => ?_)
      refine jm_istore_n (pc := 33) (lv' := [(3, _), (0, _), (1, _), (2, _)]) dX12_worlds_33 (by decide) rfl ?_
      refine jm_iload_n (pc := 34) 3 dX12_worlds_34 rfl ?_
      refine jm_if_ne (pc := 35) 40 dX12_worlds_35 rfl hg4 (fun q => ?_) (fun q => ?_)
      · have h := h.1 q
        refine jm_iconst (pc := 40) dX12_worlds_40 ?_
        refine jm_istore (pc := 41) (lv' := [(4, _), (3, _), (0, _), (1, _), (2, _)]) dX12_worlds_41 (by decide) rfl ?_
        refine jm_iconst (pc := 43) dX12_worlds_43 ?_
        refine jm_istore (pc := 44) (lv' := [(5, _), (4, _), (3, _), (0, _), (1, _), (2, _)]) dX12_worlds_44 (by decide) rfl ?_
        refine jm_iconst (pc := 46) dX12_worlds_46 ?_
        refine jm_istore (pc := 47) (lv' := [(6, _), (5, _), (4, _), (3, _), (0, _), (1, _), (2, _)]) dX12_worlds_47 (by decide) rfl ?_
        exact jm_sub [4, 6, 3, 2, 1, 0] rfl h
      · have h := h.2 q
        refine jm_iload_n (pc := 38) 0 dX12_worlds_38 rfl ?_
        exact jm_iret (pc := 39) dX12_worlds_39 rfl h
    · have h := h.2 q
      refine jm_if_ne (pc := 23) 28 dX12_worlds_23 rfl ⟨by decide, by decide⟩ (fun q => absurd q (by decide)) (fun q => ?_)
      refine jm_iconst (pc := 26) dX12_worlds_26 ?_
      exact jm_iret (pc := 27) dX12_worlds_27 rfl h
  · have h := h.2 q
    refine jm_if_eq (pc := 13) 26 dX12_worlds_13 rfl ⟨by decide, by decide⟩ (fun q => ?_) (fun q => absurd q (by decide))
    refine jm_iconst (pc := 26) dX12_worlds_26 ?_
    exact jm_iret (pc := 27) dX12_worlds_27 rfl h
theorem dX12_isUnlike_0 : decode cX12_isUnlike 0 = .ok (.iload_n 1, 1) := by decide +kernel
theorem dX12_isUnlike_1 : decode cX12_isUnlike 1 = .ok (.iload_n 2, 1) := by decide +kernel
theorem dX12_isUnlike_2 : decode cX12_isUnlike 2 = .ok (.if_icmp .eq 35, 3) := by decide +kernel
theorem dX12_isUnlike_5 : decode cX12_isUnlike 5 = .ok (.iload_n 1, 1) := by decide +kernel
theorem dX12_isUnlike_6 : decode cX12_isUnlike 6 = .ok (.iload_n 3, 1) := by decide +kernel
theorem dX12_isUnlike_7 : decode cX12_isUnlike 7 = .ok (.if_icmp .eq 30, 3) := by decide +kernel
theorem dX12_isUnlike_10 : decode cX12_isUnlike 10 = .ok (.iload_n 1, 1) := by decide +kernel
theorem dX12_isUnlike_11 : decode cX12_isUnlike 11 = .ok (.iload 4, 2) := by decide +kernel
theorem dX12_isUnlike_13 : decode cX12_isUnlike 13 = .ok (.if_icmp .eq 24, 3) := by decide +kernel
theorem dX12_isUnlike_16 : decode cX12_isUnlike 16 = .ok (.iload_n 2, 1) := by decide +kernel
theorem dX12_isUnlike_17 : decode cX12_isUnlike 17 = .ok (.iload_n 3, 1) := by decide +kernel
theorem dX12_isUnlike_18 : decode cX12_isUnlike 18 = .ok (.if_icmp .eq 19, 3) := by decide +kernel
theorem dX12_isUnlike_21 : decode cX12_isUnlike 21 = .ok (.iload_n 2, 1) := by decide +kernel
theorem dX12_isUnlike_22 : decode cX12_isUnlike 22 = .ok (.iload 4, 2) := by decide +kernel
theorem dX12_isUnlike_24 : decode cX12_isUnlike 24 = .ok (.if_icmp .eq 13, 3) := by decide +kernel
theorem dX12_isUnlike_27 : decode cX12_isUnlike 27 = .ok (.iload_n 3, 1) := by decide +kernel
theorem dX12_isUnlike_28 : decode cX12_isUnlike 28 = .ok (.iload 4, 2) := by decide +kernel
theorem dX12_isUnlike_30 : decode cX12_isUnlike 30 = .ok (.if_icmp .eq 7, 3) := by decide +kernel
theorem dX12_isUnlike_33 : decode cX12_isUnlike 33 = .ok (.iconst 1, 1) := by decide +kernel
theorem dX12_isUnlike_34 : decode cX12_isUnlike 34 = .ok (.goto 4, 3) := by decide +kernel
theorem dX12_isUnlike_37 : decode cX12_isUnlike 37 = .ok (.iconst 0, 1) := by decide +kernel
theorem dX12_isUnlike_38 : decode cX12_isUnlike 38 = .ok (.ireturn, 1) := by decide +kernel
theorem eX12_isUnlike {l : Launch} {g : jm_G} {d : Nat} {v1 v2 v3 v4 : Int} (hg : jm_HR g) {mu : jm_M} {Q : Option Value → jm_M → Prop} (h : jm_rg v1 ∧ jm_rg v2 ∧ (v1 = v2 → Q (some (jm_i 0)) mu) ∧ (¬ v1 = v2 → jm_rg v3 ∧ (v1 = v3 → Q (some (jm_i 0)) mu) ∧ (¬ v1 = v3 → jm_rg v4 ∧ (v1 = v4 → Q (some (jm_i 0)) mu) ∧ (¬ v1 = v4 → (v2 = v3 → Q (some (jm_i 0)) mu) ∧ (¬ v2 = v3 → (v2 = v4 → Q (some (jm_i 0)) mu) ∧ (¬ v2 = v4 → (v3 = v4 → Q (some (jm_i 0)) mu) ∧ (¬ v3 = v4 → Q (some (jm_i 1)) mu))))))) : jm_R l g (d + 1) iX12_isUnlike [.ref 0, jm_i v1, jm_i v2, jm_i v3, jm_i v4] mu Q := by
  refine jm_enter [(0, .ref 0), (1, jm_i v1), (2, jm_i v2), (3, jm_i v3), (4, jm_i v4)] (by decide) (Nat.le_of_ble_eq_true rfl) rfl ?_
  refine jm_mrI (fun hm0 => ?_)
  refine jm_iload_n (pc := 0) 1 dX12_isUnlike_0 rfl ?_
  refine jm_iload_n (pc := 1) 2 dX12_isUnlike_1 rfl ?_
  have hg1 := h.1
  have h := h.2
  have hg2 := h.1
  have h := h.2
  refine jm_icmp_eq (pc := 2) 37 dX12_isUnlike_2 rfl hg1 hg2 (fun q => ?_) (fun q => ?_)
  · have h := h.1 q
    refine jm_iconst (pc := 37) dX12_isUnlike_37 ?_
    exact jm_zret (pc := 38) dX12_isUnlike_38 rfl (Or.inl rfl) h
  · have h := h.2 q
    refine jm_iload_n (pc := 5) 1 dX12_isUnlike_5 rfl ?_
    refine jm_iload_n (pc := 6) 3 dX12_isUnlike_6 rfl ?_
    have hg3 := h.1
    have h := h.2
    refine jm_icmp_eq (pc := 7) 37 dX12_isUnlike_7 rfl hg1 hg3 (fun q => ?_) (fun q => ?_)
    · have h := h.1 q
      refine jm_iconst (pc := 37) dX12_isUnlike_37 ?_
      exact jm_zret (pc := 38) dX12_isUnlike_38 rfl (Or.inl rfl) h
    · have h := h.2 q
      refine jm_iload_n (pc := 10) 1 dX12_isUnlike_10 rfl ?_
      refine jm_iload (pc := 11) 4 dX12_isUnlike_11 rfl ?_
      have hg4 := h.1
      have h := h.2
      refine jm_icmp_eq (pc := 13) 37 dX12_isUnlike_13 rfl hg1 hg4 (fun q => ?_) (fun q => ?_)
      · have h := h.1 q
        refine jm_iconst (pc := 37) dX12_isUnlike_37 ?_
        exact jm_zret (pc := 38) dX12_isUnlike_38 rfl (Or.inl rfl) h
      · have h := h.2 q
        refine jm_iload_n (pc := 16) 2 dX12_isUnlike_16 rfl ?_
        refine jm_iload_n (pc := 17) 3 dX12_isUnlike_17 rfl ?_
        refine jm_icmp_eq (pc := 18) 37 dX12_isUnlike_18 rfl hg2 hg3 (fun q => ?_) (fun q => ?_)
        · have h := h.1 q
          refine jm_iconst (pc := 37) dX12_isUnlike_37 ?_
          exact jm_zret (pc := 38) dX12_isUnlike_38 rfl (Or.inl rfl) h
        · have h := h.2 q
          refine jm_iload_n (pc := 21) 2 dX12_isUnlike_21 rfl ?_
          refine jm_iload (pc := 22) 4 dX12_isUnlike_22 rfl ?_
          refine jm_icmp_eq (pc := 24) 37 dX12_isUnlike_24 rfl hg2 hg4 (fun q => ?_) (fun q => ?_)
          · have h := h.1 q
            refine jm_iconst (pc := 37) dX12_isUnlike_37 ?_
            exact jm_zret (pc := 38) dX12_isUnlike_38 rfl (Or.inl rfl) h
          · have h := h.2 q
            refine jm_iload_n (pc := 27) 3 dX12_isUnlike_27 rfl ?_
            refine jm_iload (pc := 28) 4 dX12_isUnlike_28 rfl ?_
            refine jm_icmp_eq (pc := 30) 37 dX12_isUnlike_30 rfl hg3 hg4 (fun q => ?_) (fun q => ?_)
            · have h := h.1 q
              refine jm_iconst (pc := 37) dX12_isUnlike_37 ?_
              exact jm_zret (pc := 38) dX12_isUnlike_38 rfl (Or.inl rfl) h
            · have h := h.2 q
              refine jm_iconst (pc := 33) dX12_isUnlike_33 ?_
              refine jm_goto (pc := 34) 38 dX12_isUnlike_34 rfl ?_
              exact jm_zret (pc := 38) dX12_isUnlike_38 rfl (Or.inr rfl) h
theorem pX12_isUnlike {l : Launch} {g : jm_G} {d : Nat} {v1 v2 v3 v4 : Int} (hg : jm_HR g) {mu : jm_M} {Q : Option Value → jm_M → Prop} (o0 : jm_rg v1) (o1 : jm_rg v2) (o2 : jm_rg v3) (o3 : jm_rg v4) (h1 : ¬ v1 = v2 ∧ ¬ v1 = v3 ∧ ¬ v1 = v4 ∧ ¬ v2 = v3 ∧ ¬ v2 = v4 ∧ ¬ v3 = v4 → Q (some (jm_i 1)) mu) (h0 : ¬ (¬ v1 = v2 ∧ ¬ v1 = v3 ∧ ¬ v1 = v4 ∧ ¬ v2 = v3 ∧ ¬ v2 = v4 ∧ ¬ v3 = v4) → Q (some (jm_i 0)) mu) : jm_R l g (d + 1) iX12_isUnlike [.ref 0, jm_i v1, jm_i v2, jm_i v3, jm_i v4] mu Q := by
  refine eX12_isUnlike hg ?_
  refine ⟨o0, ?_⟩
  refine ⟨o1, ?_⟩
  refine ⟨fun q0 => ?_, fun q0 => ?_⟩
  · exact h0 (by omega)
  · refine ⟨o2, ?_⟩
    refine ⟨fun q1 => ?_, fun q1 => ?_⟩
    · exact h0 (by omega)
    · refine ⟨o3, ?_⟩
      refine ⟨fun q2 => ?_, fun q2 => ?_⟩
      · exact h0 (by omega)
      · refine ⟨fun q3 => ?_, fun q3 => ?_⟩
        · exact h0 (by omega)
        · refine ⟨fun q4 => ?_, fun q4 => ?_⟩
          · exact h0 (by omega)
          · refine ⟨fun q5 => ?_, fun q5 => ?_⟩
            · exact h0 (by omega)
            · exact h1 (⟨q0, q1, q2, q3, q4, q5⟩)
theorem dX12_areWitnesses_0 : decode cX12_areWitnesses 0 = .ok (.aload_n 0, 1) := by decide +kernel
theorem dX12_areWitnesses_1 : decode cX12_areWitnesses 1 = .ok (.iload_n 1, 1) := by decide +kernel
theorem dX12_areWitnesses_2 : decode cX12_areWitnesses 2 = .ok (.invokevirtual 132, 3) := by decide +kernel
theorem dX12_areWitnesses_5 : decode cX12_areWitnesses 5 = .ok (.ifCond .eq 44, 3) := by decide +kernel
theorem dX12_areWitnesses_8 : decode cX12_areWitnesses 8 = .ok (.aload_n 0, 1) := by decide +kernel
theorem dX12_areWitnesses_9 : decode cX12_areWitnesses 9 = .ok (.iload_n 2, 1) := by decide +kernel
theorem dX12_areWitnesses_10 : decode cX12_areWitnesses 10 = .ok (.invokevirtual 132, 3) := by decide +kernel
theorem dX12_areWitnesses_13 : decode cX12_areWitnesses 13 = .ok (.ifCond .eq 36, 3) := by decide +kernel
theorem dX12_areWitnesses_16 : decode cX12_areWitnesses 16 = .ok (.aload_n 0, 1) := by decide +kernel
theorem dX12_areWitnesses_17 : decode cX12_areWitnesses 17 = .ok (.iload_n 3, 1) := by decide +kernel
theorem dX12_areWitnesses_18 : decode cX12_areWitnesses 18 = .ok (.invokevirtual 132, 3) := by decide +kernel
theorem dX12_areWitnesses_21 : decode cX12_areWitnesses 21 = .ok (.ifCond .eq 28, 3) := by decide +kernel
theorem dX12_areWitnesses_24 : decode cX12_areWitnesses 24 = .ok (.aload_n 0, 1) := by decide +kernel
theorem dX12_areWitnesses_25 : decode cX12_areWitnesses 25 = .ok (.iload 4, 2) := by decide +kernel
theorem dX12_areWitnesses_27 : decode cX12_areWitnesses 27 = .ok (.invokevirtual 132, 3) := by decide +kernel
theorem dX12_areWitnesses_30 : decode cX12_areWitnesses 30 = .ok (.ifCond .eq 19, 3) := by decide +kernel
theorem dX12_areWitnesses_33 : decode cX12_areWitnesses 33 = .ok (.aload_n 0, 1) := by decide +kernel
theorem dX12_areWitnesses_34 : decode cX12_areWitnesses 34 = .ok (.iload_n 1, 1) := by decide +kernel
theorem dX12_areWitnesses_35 : decode cX12_areWitnesses 35 = .ok (.iload_n 2, 1) := by decide +kernel
theorem dX12_areWitnesses_36 : decode cX12_areWitnesses 36 = .ok (.iload_n 3, 1) := by decide +kernel
theorem dX12_areWitnesses_37 : decode cX12_areWitnesses 37 = .ok (.iload 4, 2) := by decide +kernel
theorem dX12_areWitnesses_39 : decode cX12_areWitnesses 39 = .ok (.invokevirtual 486, 3) := by decide +kernel
theorem dX12_areWitnesses_42 : decode cX12_areWitnesses 42 = .ok (.ifCond .eq 7, 3) := by decide +kernel
theorem dX12_areWitnesses_45 : decode cX12_areWitnesses 45 = .ok (.iconst 1, 1) := by decide +kernel
theorem dX12_areWitnesses_46 : decode cX12_areWitnesses 46 = .ok (.goto 4, 3) := by decide +kernel
theorem dX12_areWitnesses_49 : decode cX12_areWitnesses 49 = .ok (.iconst 0, 1) := by decide +kernel
theorem dX12_areWitnesses_50 : decode cX12_areWitnesses 50 = .ok (.ireturn, 1) := by decide +kernel
theorem eX12_areWitnesses {l : Launch} {g : jm_G} {d : Nat} {v1 v2 v3 v4 : Int} (hg : jm_HR g) {mu : jm_M} {Q : Option Value → jm_M → Prop} (h : jm_rg v1 ∧ (0 ≤ v1 ∧ v1 < (mu.1 0 4) → jm_rg v2 ∧ (0 ≤ v2 ∧ v2 < (mu.1 0 4) → jm_rg v3 ∧ (0 ≤ v3 ∧ v3 < (mu.1 0 4) → jm_rg v4 ∧ (0 ≤ v4 ∧ v4 < (mu.1 0 4) → (¬ v1 = v2 ∧ ¬ v1 = v3 ∧ ¬ v1 = v4 ∧ ¬ v2 = v3 ∧ ¬ v2 = v4 ∧ ¬ v3 = v4 → Q (some (jm_i 1)) mu) ∧ (¬ (¬ v1 = v2 ∧ ¬ v1 = v3 ∧ ¬ v1 = v4 ∧ ¬ v2 = v3 ∧ ¬ v2 = v4 ∧ ¬ v3 = v4) → Q (some (jm_i 0)) mu)) ∧ (¬ (0 ≤ v4 ∧ v4 < (mu.1 0 4)) → Q (some (jm_i 0)) mu)) ∧ (¬ (0 ≤ v3 ∧ v3 < (mu.1 0 4)) → Q (some (jm_i 0)) mu)) ∧ (¬ (0 ≤ v2 ∧ v2 < (mu.1 0 4)) → Q (some (jm_i 0)) mu)) ∧ (¬ (0 ≤ v1 ∧ v1 < (mu.1 0 4)) → Q (some (jm_i 0)) mu)) : jm_R l g (d + 2) iX12_areWitnesses [.ref 0, jm_i v1, jm_i v2, jm_i v3, jm_i v4] mu Q := by
  refine jm_enter [(0, .ref 0), (1, jm_i v1), (2, jm_i v2), (3, jm_i v3), (4, jm_i v4)] (by decide) (Nat.le_of_ble_eq_true rfl) rfl ?_
  refine jm_mrI (fun hm0 => ?_)
  refine jm_aload_n (pc := 0) 0 dX12_areWitnesses_0 rfl ?_
  refine jm_iload_n (pc := 1) 1 dX12_areWitnesses_1 rfl ?_
  have hg1 := h.1
  have h := h.2
  refine jm_inlvi (pc := 2) (As := [_]) (st := []) iX12_isWitness dX12_areWitnesses_2 mX12_132 (cR0 hg) ⟨_, rfl, rfl⟩ rfl rfl (Nat.le_of_ble_eq_true rfl) (pX12_isWitness hg hg1 (fun q => jm_kIi ?_) (fun q => jm_kIi ?_))
  · have h := h.1 q
    refine jm_if_eq (pc := 5) 49 dX12_areWitnesses_5 rfl ⟨by decide, by decide⟩ (fun q => absurd q (by decide)) (fun q => ?_)
    refine jm_aload_n (pc := 8) 0 dX12_areWitnesses_8 rfl ?_
    refine jm_iload_n (pc := 9) 2 dX12_areWitnesses_9 rfl ?_
    have hg2 := h.1
    have h := h.2
    refine jm_inlvi (pc := 10) (As := [_]) (st := []) iX12_isWitness dX12_areWitnesses_10 mX12_132 (cR0 hg) ⟨_, rfl, rfl⟩ rfl rfl (Nat.le_of_ble_eq_true rfl) (pX12_isWitness hg hg2 (fun q => jm_kIi ?_) (fun q => jm_kIi ?_))
    · have h := h.1 q
      refine jm_if_eq (pc := 13) 49 dX12_areWitnesses_13 rfl ⟨by decide, by decide⟩ (fun q => absurd q (by decide)) (fun q => ?_)
      refine jm_aload_n (pc := 16) 0 dX12_areWitnesses_16 rfl ?_
      refine jm_iload_n (pc := 17) 3 dX12_areWitnesses_17 rfl ?_
      have hg3 := h.1
      have h := h.2
      refine jm_inlvi (pc := 18) (As := [_]) (st := []) iX12_isWitness dX12_areWitnesses_18 mX12_132 (cR0 hg) ⟨_, rfl, rfl⟩ rfl rfl (Nat.le_of_ble_eq_true rfl) (pX12_isWitness hg hg3 (fun q => jm_kIi ?_) (fun q => jm_kIi ?_))
      · have h := h.1 q
        refine jm_if_eq (pc := 21) 49 dX12_areWitnesses_21 rfl ⟨by decide, by decide⟩ (fun q => absurd q (by decide)) (fun q => ?_)
        refine jm_aload_n (pc := 24) 0 dX12_areWitnesses_24 rfl ?_
        refine jm_iload (pc := 25) 4 dX12_areWitnesses_25 rfl ?_
        have hg4 := h.1
        have h := h.2
        refine jm_inlvi (pc := 27) (As := [_]) (st := []) iX12_isWitness dX12_areWitnesses_27 mX12_132 (cR0 hg) ⟨_, rfl, rfl⟩ rfl rfl (Nat.le_of_ble_eq_true rfl) (pX12_isWitness hg hg4 (fun q => jm_kIi ?_) (fun q => jm_kIi ?_))
        · have h := h.1 q
          refine jm_if_eq (pc := 30) 49 dX12_areWitnesses_30 rfl ⟨by decide, by decide⟩ (fun q => absurd q (by decide)) (fun q => ?_)
          refine jm_aload_n (pc := 33) 0 dX12_areWitnesses_33 rfl ?_
          refine jm_iload_n (pc := 34) 1 dX12_areWitnesses_34 rfl ?_
          refine jm_iload_n (pc := 35) 2 dX12_areWitnesses_35 rfl ?_
          refine jm_iload_n (pc := 36) 3 dX12_areWitnesses_36 rfl ?_
          refine jm_iload (pc := 37) 4 dX12_areWitnesses_37 rfl ?_
          refine jm_inlvi (pc := 39) (As := [_, _, _, _]) (st := []) iX12_isUnlike dX12_areWitnesses_39 mX12_486 (cR0 hg) ⟨_, rfl, rfl⟩ rfl rfl (Nat.le_of_ble_eq_true rfl) (pX12_isUnlike hg hg1 hg2 hg3 hg4 (fun q => jm_kIi ?_) (fun q => jm_kIi ?_))
          · have h := h.1 q
            refine jm_if_eq (pc := 42) 49 dX12_areWitnesses_42 rfl ⟨by decide, by decide⟩ (fun q => absurd q (by decide)) (fun q => ?_)
            refine jm_iconst (pc := 45) dX12_areWitnesses_45 ?_
            refine jm_goto (pc := 46) 50 dX12_areWitnesses_46 rfl ?_
            exact jm_zret (pc := 50) dX12_areWitnesses_50 rfl (Or.inr rfl) h
          · have h := h.2 q
            refine jm_if_eq (pc := 42) 49 dX12_areWitnesses_42 rfl ⟨by decide, by decide⟩ (fun q => ?_) (fun q => absurd q (by decide))
            refine jm_iconst (pc := 49) dX12_areWitnesses_49 ?_
            exact jm_zret (pc := 50) dX12_areWitnesses_50 rfl (Or.inl rfl) h
        · have h := h.2 q
          refine jm_if_eq (pc := 30) 49 dX12_areWitnesses_30 rfl ⟨by decide, by decide⟩ (fun q => ?_) (fun q => absurd q (by decide))
          refine jm_iconst (pc := 49) dX12_areWitnesses_49 ?_
          exact jm_zret (pc := 50) dX12_areWitnesses_50 rfl (Or.inl rfl) h
      · have h := h.2 q
        refine jm_if_eq (pc := 21) 49 dX12_areWitnesses_21 rfl ⟨by decide, by decide⟩ (fun q => ?_) (fun q => absurd q (by decide))
        refine jm_iconst (pc := 49) dX12_areWitnesses_49 ?_
        exact jm_zret (pc := 50) dX12_areWitnesses_50 rfl (Or.inl rfl) h
    · have h := h.2 q
      refine jm_if_eq (pc := 13) 49 dX12_areWitnesses_13 rfl ⟨by decide, by decide⟩ (fun q => ?_) (fun q => absurd q (by decide))
      refine jm_iconst (pc := 49) dX12_areWitnesses_49 ?_
      exact jm_zret (pc := 50) dX12_areWitnesses_50 rfl (Or.inl rfl) h
  · have h := h.2 q
    refine jm_if_eq (pc := 5) 49 dX12_areWitnesses_5 rfl ⟨by decide, by decide⟩ (fun q => ?_) (fun q => absurd q (by decide))
    refine jm_iconst (pc := 49) dX12_areWitnesses_49 ?_
    exact jm_zret (pc := 50) dX12_areWitnesses_50 rfl (Or.inl rfl) h
theorem pX12_areWitnesses {l : Launch} {g : jm_G} {d : Nat} {v1 v2 v3 v4 : Int} (hg : jm_HR g) {mu : jm_M} {Q : Option Value → jm_M → Prop} (o0 : jm_rg v1) (o1 : jm_rg v2) (o2 : jm_rg v3) (o3 : jm_rg v4) (h1 : (0 ≤ v1 ∧ v1 < (mu.1 0 4)) ∧ (0 ≤ v2 ∧ v2 < (mu.1 0 4)) ∧ (0 ≤ v3 ∧ v3 < (mu.1 0 4)) ∧ (0 ≤ v4 ∧ v4 < (mu.1 0 4)) ∧ (¬ v1 = v2 ∧ ¬ v1 = v3 ∧ ¬ v1 = v4 ∧ ¬ v2 = v3 ∧ ¬ v2 = v4 ∧ ¬ v3 = v4) → Q (some (jm_i 1)) mu) (h0 : ¬ ((0 ≤ v1 ∧ v1 < (mu.1 0 4)) ∧ (0 ≤ v2 ∧ v2 < (mu.1 0 4)) ∧ (0 ≤ v3 ∧ v3 < (mu.1 0 4)) ∧ (0 ≤ v4 ∧ v4 < (mu.1 0 4)) ∧ (¬ v1 = v2 ∧ ¬ v1 = v3 ∧ ¬ v1 = v4 ∧ ¬ v2 = v3 ∧ ¬ v2 = v4 ∧ ¬ v3 = v4)) → Q (some (jm_i 0)) mu) : jm_R l g (d + 2) iX12_areWitnesses [.ref 0, jm_i v1, jm_i v2, jm_i v3, jm_i v4] mu Q := by
  refine eX12_areWitnesses hg ?_
  refine ⟨o0, ?_⟩
  refine ⟨fun q0 => ?_, fun q0 => ?_⟩
  · refine ⟨o1, ?_⟩
    refine ⟨fun q1 => ?_, fun q1 => ?_⟩
    · refine ⟨o2, ?_⟩
      refine ⟨fun q2 => ?_, fun q2 => ?_⟩
      · refine ⟨o3, ?_⟩
        refine ⟨fun q3 => ?_, fun q3 => ?_⟩
        · refine ⟨fun q4 => ?_, fun q4 => ?_⟩
          · exact h1 (⟨q0, q1, q2, q3, q4⟩)
          · exact h0 (by omega)
        · exact h0 (by omega)
      · exact h0 (by omega)
    · exact h0 (by omega)
  · exact h0 (by omega)
