theorem dX11_trial_0 : decode cX11_trial 0 = .ok (.aload_n 0, 1) := by decide +kernel
theorem dX11_trial_1 : decode cX11_trial 1 = .ok (.getfield 26, 3) := by decide +kernel
theorem dX11_trial_4 : decode cX11_trial 4 = .ok (.getfield 222, 3) := by decide +kernel
theorem dX11_trial_7 : decode cX11_trial 7 = .ok (.aload_n 0, 1) := by decide +kernel
theorem dX11_trial_8 : decode cX11_trial 8 = .ok (.getfield 19, 3) := by decide +kernel
theorem dX11_trial_11 : decode cX11_trial 11 = .ok (.getfield 232, 3) := by decide +kernel
theorem dX11_trial_14 : decode cX11_trial 14 = .ok (.invokevirtual 235, 3) := by decide +kernel
theorem dX11_trial_17 : decode cX11_trial 17 = .ok (.iadd, 1) := by decide +kernel
theorem dX11_trial_18 : decode cX11_trial 18 = .ok (.sipush 999, 3) := by decide +kernel
theorem dX11_trial_21 : decode cX11_trial 21 = .ok (.if_icmp .le 5, 3) := by decide +kernel
theorem dX11_trial_24 : decode cX11_trial 24 = .ok (.iconst (-1), 1) := by decide +kernel
theorem dX11_trial_25 : decode cX11_trial 25 = .ok (.ireturn, 1) := by decide +kernel
theorem dX11_trial_26 : decode cX11_trial 26 = .ok (.aload_n 0, 1) := by decide +kernel
theorem dX11_trial_27 : decode cX11_trial 27 = .ok (.invokevirtual 203, 3) := by decide +kernel
theorem dX11_trial_30 : decode cX11_trial 30 = .ok (.aload_n 0, 1) := by decide +kernel
theorem dX11_trial_31 : decode cX11_trial 31 = .ok (.getfield 44, 3) := by decide +kernel
theorem dX11_trial_34 : decode cX11_trial 34 = .ok (.aload_n 0, 1) := by decide +kernel
theorem dX11_trial_35 : decode cX11_trial 35 = .ok (.getfield 19, 3) := by decide +kernel
theorem dX11_trial_38 : decode cX11_trial 38 = .ok (.getfield 232, 3) := by decide +kernel
theorem dX11_trial_41 : decode cX11_trial 41 = .ok (.invokevirtual 238, 3) := by decide +kernel
theorem dX11_trial_44 : decode cX11_trial 44 = .ok (.ireturn, 1) := by decide +kernel
theorem eX11_trial {l : Launch} {g : jm_G} {d : Nat} (hg : jm_HC g) {mu : jm_M} {Q : Option Value → jm_M → Prop} (h : jm_R l g d iX6_rests [.ref 22] mu (jm_qi fun z2 m1 => jm_rg ((mu.1 29 1) + z2) ∧ (((mu.1 29 1) + z2) ≤ 999 → jm_R l g d iX11_keepCourt [.ref 0] m1 (jm_qv fun m6 => jm_R l g d iX2_goThrough [.ref 37, .ref 22] m6 (jm_qi fun z11 m10 => Q (some (jm_i z11)) m10))) ∧ (999 < ((mu.1 29 1) + z2) → Q (some (jm_i (-1))) m1))) : jm_R l g (d + 1) iX11_trial [.ref 0] mu Q := by
  refine jm_enter [(0, .ref 0)] (by decide) (Nat.le_of_ble_eq_true rfl) rfl ?_
  refine jm_mrI (fun hm0 => ?_)
  refine jm_aload_n (pc := 0) 0 dX11_trial_0 rfl ?_
  refine jm_getr (pc := 1) 2 dX11_trial_1 fX11_26 (cC0 hg) rfl ?_
  refine jm_geti (pc := 4) 1 dX11_trial_4 fX11_222 (cC29 hg) rfl ?_
  refine jm_aload_n (pc := 7) 0 dX11_trial_7 rfl ?_
  refine jm_getr (pc := 8) 1 dX11_trial_8 fX11_19 (cC0 hg) rfl ?_
  refine jm_getr (pc := 11) 12 dX11_trial_11 fX11_232 (cC6 hg) rfl ?_
  refine jm_callvi (pc := 14) (As := []) (st := [_]) iX6_rests dX11_trial_14 mX11_235 (cC22 hg) ⟨_, rfl, rfl⟩ rfl rfl (Nat.le_of_ble_eq_true rfl) h (fun z2 m1 hz3 h hm4 => ?_)
  refine jm_iadd (pc := 17) dX11_trial_17 ?_
  refine jm_sipush (pc := 18) dX11_trial_18 (by decide) ?_
  have hg5 := h.1
  have h := h.2
  refine jm_icmp_le (pc := 21) 26 dX11_trial_21 rfl hg5 ⟨by decide, by decide⟩ (fun q => ?_) (fun q => ?_)
  · have h := h.1 q
    refine jm_aload_n (pc := 26) 0 dX11_trial_26 rfl ?_
    refine jm_callvv (pc := 27) (As := []) (st := []) iX11_keepCourt dX11_trial_27 mX11_203 (cC0 hg) ⟨_, rfl, rfl⟩ rfl rfl (Nat.le_of_ble_eq_true rfl) h (fun m6 h hm9 => ?_)
    refine jm_aload_n (pc := 30) 0 dX11_trial_30 rfl ?_
    refine jm_getr (pc := 31) 4 dX11_trial_31 fX11_44 (cC0 hg) rfl ?_
    refine jm_aload_n (pc := 34) 0 dX11_trial_34 rfl ?_
    refine jm_getr (pc := 35) 1 dX11_trial_35 fX11_19 (cC0 hg) rfl ?_
    refine jm_getr (pc := 38) 12 dX11_trial_38 fX11_232 (cC6 hg) rfl ?_
    refine jm_callvi (pc := 41) (As := [_]) (st := []) iX2_goThrough dX11_trial_41 mX11_238 (cC37 hg) ⟨_, rfl, rfl⟩ rfl rfl (Nat.le_of_ble_eq_true rfl) h (fun z11 m10 hz12 h hm13 => ?_)
    exact jm_iret (pc := 44) dX11_trial_44 rfl h
  · have h := h.2 q
    refine jm_iconst (pc := 24) dX11_trial_24 ?_
    exact jm_iret (pc := 25) dX11_trial_25 rfl h
theorem dX11_of_0 : decode cX11_of 0 = .ok (.aload_n 0, 1) := by decide +kernel
theorem dX11_of_1 : decode cX11_of 1 = .ok (.getfield 19, 3) := by decide +kernel
theorem dX11_of_4 : decode cX11_of 4 = .ok (.iload_n 1, 1) := by decide +kernel
theorem dX11_of_5 : decode cX11_of 5 = .ok (.invokevirtual 141, 3) := by decide +kernel
theorem dX11_of_8 : decode cX11_of 8 = .ok (.ifCond .ne 6, 3) := by decide +kernel
theorem dX11_of_11 : decode cX11_of 11 = .ok (.bipush (-2), 2) := by decide +kernel
theorem dX11_of_13 : decode cX11_of 13 = .ok (.ireturn, 1) := by decide +kernel
theorem dX11_of_14 : decode cX11_of 14 = .ok (.iload_n 2, 1) := by decide +kernel
theorem dX11_of_15 : decode cX11_of 15 = .ok (.bipush 10, 2) := by decide +kernel
theorem dX11_of_17 : decode cX11_of 17 = .ok (.isub, 1) := by decide +kernel
theorem dX11_of_18 : decode cX11_of 18 = .ok (.invokestatic 144, 3) := by decide +kernel
theorem dX11_of_21 : decode cX11_of 21 = .ok (.ifCond .eq 16, 3) := by decide +kernel
theorem dX11_of_24 : decode cX11_of 24 = .ok (.aload_n 0, 1) := by decide +kernel
theorem dX11_of_25 : decode cX11_of 25 = .ok (.getfield 19, 3) := by decide +kernel
theorem dX11_of_28 : decode cX11_of 28 = .ok (.iload_n 1, 1) := by decide +kernel
theorem dX11_of_29 : decode cX11_of 29 = .ok (.iload_n 2, 1) := by decide +kernel
theorem dX11_of_30 : decode cX11_of 30 = .ok (.bipush 10, 2) := by decide +kernel
theorem dX11_of_32 : decode cX11_of 32 = .ok (.isub, 1) := by decide +kernel
theorem dX11_of_33 : decode cX11_of 33 = .ok (.invokevirtual 242, 3) := by decide +kernel
theorem dX11_of_36 : decode cX11_of 36 = .ok (.ireturn, 1) := by decide +kernel
theorem dX11_of_37 : decode cX11_of 37 = .ok (.iload_n 2, 1) := by decide +kernel
theorem dX11_of_38 : decode cX11_of 38 = .ok (.tableswitch 111 0 6 #[42, 52, 62, 72, 82, 92, 101], 42) := by decide +kernel
theorem dX11_of_80 : decode cX11_of 80 = .ok (.aload_n 0, 1) := by decide +kernel
theorem dX11_of_81 : decode cX11_of 81 = .ok (.getfield 19, 3) := by decide +kernel
theorem dX11_of_84 : decode cX11_of 84 = .ok (.getfield 245, 3) := by decide +kernel
theorem dX11_of_87 : decode cX11_of 87 = .ok (.iload_n 1, 1) := by decide +kernel
theorem dX11_of_88 : decode cX11_of 88 = .ok (.iaload, 1) := by decide +kernel
theorem dX11_of_89 : decode cX11_of 89 = .ok (.ireturn, 1) := by decide +kernel
theorem dX11_of_90 : decode cX11_of 90 = .ok (.aload_n 0, 1) := by decide +kernel
theorem dX11_of_91 : decode cX11_of 91 = .ok (.getfield 19, 3) := by decide +kernel
theorem dX11_of_94 : decode cX11_of 94 = .ok (.getfield 248, 3) := by decide +kernel
theorem dX11_of_97 : decode cX11_of 97 = .ok (.iload_n 1, 1) := by decide +kernel
theorem dX11_of_98 : decode cX11_of 98 = .ok (.iaload, 1) := by decide +kernel
theorem dX11_of_99 : decode cX11_of 99 = .ok (.ireturn, 1) := by decide +kernel
theorem dX11_of_100 : decode cX11_of 100 = .ok (.aload_n 0, 1) := by decide +kernel
theorem dX11_of_101 : decode cX11_of 101 = .ok (.getfield 19, 3) := by decide +kernel
theorem dX11_of_104 : decode cX11_of 104 = .ok (.getfield 251, 3) := by decide +kernel
theorem dX11_of_107 : decode cX11_of 107 = .ok (.iload_n 1, 1) := by decide +kernel
theorem dX11_of_108 : decode cX11_of 108 = .ok (.iaload, 1) := by decide +kernel
theorem dX11_of_109 : decode cX11_of 109 = .ok (.ireturn, 1) := by decide +kernel
theorem dX11_of_110 : decode cX11_of 110 = .ok (.aload_n 0, 1) := by decide +kernel
theorem dX11_of_111 : decode cX11_of 111 = .ok (.getfield 26, 3) := by decide +kernel
theorem dX11_of_114 : decode cX11_of 114 = .ok (.getfield 134, 3) := by decide +kernel
theorem dX11_of_117 : decode cX11_of 117 = .ok (.iload_n 1, 1) := by decide +kernel
theorem dX11_of_118 : decode cX11_of 118 = .ok (.iaload, 1) := by decide +kernel
theorem dX11_of_119 : decode cX11_of 119 = .ok (.ireturn, 1) := by decide +kernel
theorem dX11_of_120 : decode cX11_of 120 = .ok (.aload_n 0, 1) := by decide +kernel
theorem dX11_of_121 : decode cX11_of 121 = .ok (.getfield 26, 3) := by decide +kernel
theorem dX11_of_124 : decode cX11_of 124 = .ok (.getfield 138, 3) := by decide +kernel
theorem dX11_of_127 : decode cX11_of 127 = .ok (.iload_n 1, 1) := by decide +kernel
theorem dX11_of_128 : decode cX11_of 128 = .ok (.iaload, 1) := by decide +kernel
theorem dX11_of_129 : decode cX11_of 129 = .ok (.ireturn, 1) := by decide +kernel
theorem dX11_of_130 : decode cX11_of 130 = .ok (.aload_n 0, 1) := by decide +kernel
theorem dX11_of_131 : decode cX11_of 131 = .ok (.getfield 26, 3) := by decide +kernel
theorem dX11_of_134 : decode cX11_of 134 = .ok (.iload_n 1, 1) := by decide +kernel
theorem dX11_of_135 : decode cX11_of 135 = .ok (.invokevirtual 254, 3) := by decide +kernel
theorem dX11_of_138 : decode cX11_of 138 = .ok (.ireturn, 1) := by decide +kernel
theorem dX11_of_139 : decode cX11_of 139 = .ok (.aload_n 0, 1) := by decide +kernel
theorem dX11_of_140 : decode cX11_of 140 = .ok (.getfield 35, 3) := by decide +kernel
theorem dX11_of_143 : decode cX11_of 143 = .ok (.iload_n 1, 1) := by decide +kernel
theorem dX11_of_144 : decode cX11_of 144 = .ok (.iconst 0, 1) := by decide +kernel
theorem dX11_of_145 : decode cX11_of 145 = .ok (.invokevirtual 257, 3) := by decide +kernel
theorem dX11_of_148 : decode cX11_of 148 = .ok (.ireturn, 1) := by decide +kernel
theorem dX11_of_149 : decode cX11_of 149 = .ok (.bipush (-2), 2) := by decide +kernel
theorem dX11_of_151 : decode cX11_of 151 = .ok (.ireturn, 1) := by decide +kernel
theorem eX11_of {l : Launch} {g : jm_G} {d : Nat} {v1 v2 : Int} (hg : jm_HC g) {mu : jm_M} {Q : Option Value → jm_M → Prop} (h : jm_rg v1 ∧ (0 ≤ v1 ∧ v1 < (mu.1 6 0) → ((0 ≤ (jm_nm (v2 - 10)) ∧ (jm_nm (v2 - 10)) ≤ 5) → jm_R l g (d + 2) iX8_claimOf [.ref 6, jm_i v1, jm_i (v2 - 10)] mu (jm_qi fun z3 m2 => Q (some (jm_i z3)) m2)) ∧ (¬ ((0 ≤ (jm_nm (v2 - 10)) ∧ (jm_nm (v2 - 10)) ≤ 5)) → jm_rg v2 ∧ (v2 = 0 → (0 ≤ v1 ∧ v1 < 8) ∧ Q (some (jm_i (mu.1 7 v1))) mu) ∧ (v2 = 1 → (0 ≤ v1 ∧ v1 < 8) ∧ Q (some (jm_i (mu.1 8 v1))) mu) ∧ (v2 = 2 → (0 ≤ v1 ∧ v1 < 8) ∧ Q (some (jm_i (mu.1 9 v1))) mu) ∧ (v2 = 3 → (0 ≤ v1 ∧ v1 < 8) ∧ Q (some (jm_i (mu.1 30 v1))) mu) ∧ (v2 = 4 → (0 ≤ v1 ∧ v1 < 8) ∧ Q (some (jm_i (mu.1 31 v1))) mu) ∧ (v2 = 5 → jm_R l g (d + 2) iX1_sungBy [.ref 29, jm_i v1] mu (jm_qi fun z13 m12 => Q (some (jm_i z13)) m12)) ∧ (v2 = 6 → jm_R l g (d + 2) iX0_shakeOf [.ref 35, jm_i v1, jm_i 0] mu (jm_qi fun z17 m16 => Q (some (jm_i z17)) m16)) ∧ (v2 < 0 ∨ 6 < v2 → Q (some (jm_i (-2))) mu))) ∧ (¬ (0 ≤ v1 ∧ v1 < (mu.1 6 0)) → Q (some (jm_i (-2))) mu)) : jm_R l g (d + 3) iX11_of [.ref 0, jm_i v1, jm_i v2] mu Q := by
  refine jm_enter [(0, .ref 0), (1, jm_i v1), (2, jm_i v2)] (by decide) (Nat.le_of_ble_eq_true rfl) rfl ?_
  refine jm_mrI (fun hm0 => ?_)
  refine jm_aload_n (pc := 0) 0 dX11_of_0 rfl ?_
  refine jm_getr (pc := 1) 1 dX11_of_1 fX11_19 (cC0 hg) rfl ?_
  refine jm_iload_n (pc := 4) 1 dX11_of_4 rfl ?_
  have hg1 := h.1
  have h := h.2
  refine jm_inlvi (pc := 5) (As := [_]) (st := []) iX8_isWitness dX11_of_5 mX11_141 (cC6 hg) ⟨_, rfl, rfl⟩ rfl rfl (Nat.le_of_ble_eq_true rfl) (pX8_isWitness hg hg1 (fun q => jm_kIi ?_) (fun q => jm_kIi ?_))
  · have h := h.1 q
    refine jm_if_ne (pc := 8) 14 dX11_of_8 rfl ⟨by decide, by decide⟩ (fun q => ?_) (fun q => absurd q (by decide))
    refine jm_iload_n (pc := 14) 2 dX11_of_14 rfl ?_
    refine jm_bipush (pc := 15) dX11_of_15 (by decide) ?_
    refine jm_isub (pc := 17) dX11_of_17 ?_
    refine jm_n0 ?_
    refine jm_inlsi (pc := 18) (As := [_]) (st := []) iX11_isFact dX11_of_18 mX11_144 rfl rfl (Nat.le_of_ble_eq_true rfl) (pX11_isFact hg (jm_rgT _) (fun q => jm_kIi ?_) (fun q => jm_kIi ?_))
    · have h := h.1 q
      refine jm_if_eq (pc := 21) 37 dX11_of_21 rfl ⟨by decide, by decide⟩ (fun q => absurd q (by decide)) (fun q => ?_)
      refine jm_aload_n (pc := 24) 0 dX11_of_24 rfl ?_
      refine jm_getr (pc := 25) 1 dX11_of_25 fX11_19 (cC0 hg) rfl ?_
      refine jm_iload_n (pc := 28) 1 dX11_of_28 rfl ?_
      refine jm_iload_n (pc := 29) 2 dX11_of_29 rfl ?_
      refine jm_bipush (pc := 30) dX11_of_30 (by decide) ?_
      refine jm_isub (pc := 32) dX11_of_32 ?_
      refine jm_callvi (pc := 33) (As := [_, _]) (st := []) iX8_claimOf dX11_of_33 mX11_242 (cC6 hg) ⟨_, rfl, rfl⟩ rfl rfl (Nat.le_of_ble_eq_true rfl) h (fun z3 m2 hz4 h hm5 => ?_)
      exact jm_iret (pc := 36) dX11_of_36 rfl h
    · have h := h.2 q
      refine jm_if_eq (pc := 21) 37 dX11_of_21 rfl ⟨by decide, by decide⟩ (fun q => ?_) (fun q => absurd q (by decide))
      refine jm_iload_n (pc := 37) 2 dX11_of_37 rfl ?_
      have hg6 := h.1
      have h := h.2
      by_cases q0 : v2 = 0
      · have h := h.1 q0
        refine jm_tin (pc := 38) 80 dX11_of_38 hg6 (by omega) (by omega) (by rw [q0] <;> rfl) rfl ?_
        refine jm_aload_n (pc := 80) 0 dX11_of_80 rfl ?_
        refine jm_getr (pc := 81) 1 dX11_of_81 fX11_19 (cC0 hg) rfl ?_
        refine jm_getr (pc := 84) 1 dX11_of_84 fX11_245 (cC6 hg) rfl ?_
        refine jm_iload_n (pc := 87) 1 dX11_of_87 rfl ?_
        have hg7 := h.1
        have h := h.2
        refine jm_iald (pc := 88) dX11_of_88 (cC7 hg) (by decide) hg7.1 hg7.2 ?_
        exact jm_iret (pc := 89) dX11_of_89 rfl h
      · by_cases q1 : v2 = 1
        · have h := h.2.1 q1
          refine jm_tin (pc := 38) 90 dX11_of_38 hg6 (by omega) (by omega) (by rw [q1] <;> rfl) rfl ?_
          refine jm_aload_n (pc := 90) 0 dX11_of_90 rfl ?_
          refine jm_getr (pc := 91) 1 dX11_of_91 fX11_19 (cC0 hg) rfl ?_
          refine jm_getr (pc := 94) 2 dX11_of_94 fX11_248 (cC6 hg) rfl ?_
          refine jm_iload_n (pc := 97) 1 dX11_of_97 rfl ?_
          have hg8 := h.1
          have h := h.2
          refine jm_iald (pc := 98) dX11_of_98 (cC8 hg) (by decide) hg8.1 hg8.2 ?_
          exact jm_iret (pc := 99) dX11_of_99 rfl h
        · by_cases q2 : v2 = 2
          · have h := h.2.2.1 q2
            refine jm_tin (pc := 38) 100 dX11_of_38 hg6 (by omega) (by omega) (by rw [q2] <;> rfl) rfl ?_
            refine jm_aload_n (pc := 100) 0 dX11_of_100 rfl ?_
            refine jm_getr (pc := 101) 1 dX11_of_101 fX11_19 (cC0 hg) rfl ?_
            refine jm_getr (pc := 104) 3 dX11_of_104 fX11_251 (cC6 hg) rfl ?_
            refine jm_iload_n (pc := 107) 1 dX11_of_107 rfl ?_
            have hg9 := h.1
            have h := h.2
            refine jm_iald (pc := 108) dX11_of_108 (cC9 hg) (by decide) hg9.1 hg9.2 ?_
            exact jm_iret (pc := 109) dX11_of_109 rfl h
          · by_cases q3 : v2 = 3
            · have h := h.2.2.2.1 q3
              refine jm_tin (pc := 38) 110 dX11_of_38 hg6 (by omega) (by omega) (by rw [q3] <;> rfl) rfl ?_
              refine jm_aload_n (pc := 110) 0 dX11_of_110 rfl ?_
              refine jm_getr (pc := 111) 2 dX11_of_111 fX11_26 (cC0 hg) rfl ?_
              refine jm_getr (pc := 114) 2 dX11_of_114 fX11_134 (cC29 hg) rfl ?_
              refine jm_iload_n (pc := 117) 1 dX11_of_117 rfl ?_
              have hg10 := h.1
              have h := h.2
              refine jm_iald (pc := 118) dX11_of_118 (cC30 hg) (by decide) hg10.1 hg10.2 ?_
              exact jm_iret (pc := 119) dX11_of_119 rfl h
            · by_cases q4 : v2 = 4
              · have h := h.2.2.2.2.1 q4
                refine jm_tin (pc := 38) 120 dX11_of_38 hg6 (by omega) (by omega) (by rw [q4] <;> rfl) rfl ?_
                refine jm_aload_n (pc := 120) 0 dX11_of_120 rfl ?_
                refine jm_getr (pc := 121) 2 dX11_of_121 fX11_26 (cC0 hg) rfl ?_
                refine jm_getr (pc := 124) 3 dX11_of_124 fX11_138 (cC29 hg) rfl ?_
                refine jm_iload_n (pc := 127) 1 dX11_of_127 rfl ?_
                have hg11 := h.1
                have h := h.2
                refine jm_iald (pc := 128) dX11_of_128 (cC31 hg) (by decide) hg11.1 hg11.2 ?_
                exact jm_iret (pc := 129) dX11_of_129 rfl h
              · by_cases q5 : v2 = 5
                · have h := h.2.2.2.2.2.1 q5
                  refine jm_tin (pc := 38) 130 dX11_of_38 hg6 (by omega) (by omega) (by rw [q5] <;> rfl) rfl ?_
                  refine jm_aload_n (pc := 130) 0 dX11_of_130 rfl ?_
                  refine jm_getr (pc := 131) 2 dX11_of_131 fX11_26 (cC0 hg) rfl ?_
                  refine jm_iload_n (pc := 134) 1 dX11_of_134 rfl ?_
                  refine jm_callvi (pc := 135) (As := [_]) (st := []) iX1_sungBy dX11_of_135 mX11_254 (cC29 hg) ⟨_, rfl, rfl⟩ rfl rfl (Nat.le_of_ble_eq_true rfl) h (fun z13 m12 hz14 h hm15 => ?_)
                  exact jm_iret (pc := 138) dX11_of_138 rfl h
                · by_cases q6 : v2 = 6
                  · have h := h.2.2.2.2.2.2.1 q6
                    refine jm_tin (pc := 38) 139 dX11_of_38 hg6 (by omega) (by omega) (by rw [q6] <;> rfl) rfl ?_
                    refine jm_aload_n (pc := 139) 0 dX11_of_139 rfl ?_
                    refine jm_getr (pc := 140) 3 dX11_of_140 fX11_35 (cC0 hg) rfl ?_
                    refine jm_iload_n (pc := 143) 1 dX11_of_143 rfl ?_
                    refine jm_iconst (pc := 144) dX11_of_144 ?_
                    refine jm_callvi (pc := 145) (As := [_, _]) (st := []) iX0_shakeOf dX11_of_145 mX11_257 (cC35 hg) ⟨_, rfl, rfl⟩ rfl rfl (Nat.le_of_ble_eq_true rfl) h (fun z17 m16 hz18 h hm19 => ?_)
                    exact jm_iret (pc := 148) dX11_of_148 rfl h
                  · have h := h.2.2.2.2.2.2.2 (by omega)
                    refine jm_tout (pc := 38) 149 dX11_of_38 hg6 (by omega) rfl ?_
                    refine jm_bipush (pc := 149) dX11_of_149 (by decide) ?_
                    exact jm_iret (pc := 151) dX11_of_151 rfl h
  · have h := h.2 q
    refine jm_if_ne (pc := 8) 14 dX11_of_8 rfl ⟨by decide, by decide⟩ (fun q => absurd q (by decide)) (fun q => ?_)
    refine jm_bipush (pc := 11) dX11_of_11 (by decide) ?_
    exact jm_iret (pc := 13) dX11_of_13 rfl h
theorem dX0_weightOf_0 : decode cX0_weightOf 0 = .ok (.aload_n 0, 1) := by decide +kernel
theorem dX0_weightOf_1 : decode cX0_weightOf 1 = .ok (.iload_n 1, 1) := by decide +kernel
theorem dX0_weightOf_2 : decode cX0_weightOf 2 = .ok (.iload_n 2, 1) := by decide +kernel
theorem dX0_weightOf_3 : decode cX0_weightOf 3 = .ok (.invokevirtual 66, 3) := by decide +kernel
theorem dX0_weightOf_6 : decode cX0_weightOf 6 = .ok (.aload_n 0, 1) := by decide +kernel
theorem dX0_weightOf_7 : decode cX0_weightOf 7 = .ok (.getfield 11, 3) := by decide +kernel
theorem dX0_weightOf_10 : decode cX0_weightOf 10 = .ok (.bipush 10, 2) := by decide +kernel
theorem dX0_weightOf_12 : decode cX0_weightOf 12 = .ok (.iload_n 3, 1) := by decide +kernel
theorem dX0_weightOf_13 : decode cX0_weightOf 13 = .ok (.iastore, 1) := by decide +kernel
theorem dX0_weightOf_14 : decode cX0_weightOf 14 = .ok (.aload_n 0, 1) := by decide +kernel
theorem dX0_weightOf_15 : decode cX0_weightOf 15 = .ok (.getfield 15, 3) := by decide +kernel
theorem dX0_weightOf_18 : decode cX0_weightOf 18 = .ok (.getfield 70, 3) := by decide +kernel
theorem dX0_weightOf_21 : decode cX0_weightOf 21 = .ok (.iconst 2, 1) := by decide +kernel
theorem dX0_weightOf_22 : decode cX0_weightOf 22 = .ok (.aload_n 0, 1) := by decide +kernel
theorem dX0_weightOf_23 : decode cX0_weightOf 23 = .ok (.getfield 11, 3) := by decide +kernel
theorem dX0_weightOf_26 : decode cX0_weightOf 26 = .ok (.iconst 4, 1) := by decide +kernel
theorem dX0_weightOf_27 : decode cX0_weightOf 27 = .ok (.iload_n 3, 1) := by decide +kernel
theorem dX0_weightOf_28 : decode cX0_weightOf 28 = .ok (.isub, 1) := by decide +kernel
theorem dX0_weightOf_29 : decode cX0_weightOf 29 = .ok (.invokevirtual 76, 3) := by decide +kernel
theorem dX0_weightOf_32 : decode cX0_weightOf 32 = .ok (.bipush 99, 2) := by decide +kernel
theorem dX0_weightOf_34 : decode cX0_weightOf 34 = .ok (.invokestatic 80, 3) := by decide +kernel
theorem dX0_weightOf_37 : decode cX0_weightOf 37 = .ok (.istore 4, 2) := by decide +kernel
theorem dX0_weightOf_39 : decode cX0_weightOf 39 = .ok (.aload_n 0, 1) := by decide +kernel
theorem dX0_weightOf_40 : decode cX0_weightOf 40 = .ok (.getfield 19, 3) := by decide +kernel
theorem dX0_weightOf_43 : decode cX0_weightOf 43 = .ok (.getfield 83, 3) := by decide +kernel
theorem dX0_weightOf_46 : decode cX0_weightOf 46 = .ok (.iload_n 1, 1) := by decide +kernel
theorem dX0_weightOf_47 : decode cX0_weightOf 47 = .ok (.iaload, 1) := by decide +kernel
theorem dX0_weightOf_48 : decode cX0_weightOf 48 = .ok (.iconst 1, 1) := by decide +kernel
theorem dX0_weightOf_49 : decode cX0_weightOf 49 = .ok (.if_icmp .ne 10, 3) := by decide +kernel
theorem dX0_weightOf_52 : decode cX0_weightOf 52 = .ok (.iload 4, 2) := by decide +kernel
theorem dX0_weightOf_54 : decode cX0_weightOf 54 = .ok (.iconst 2, 1) := by decide +kernel
theorem dX0_weightOf_55 : decode cX0_weightOf 55 = .ok (.idiv, 1) := by decide +kernel
theorem dX0_weightOf_56 : decode cX0_weightOf 56 = .ok (.goto 5, 3) := by decide +kernel
theorem dX0_weightOf_59 : decode cX0_weightOf 59 = .ok (.iload 4, 2) := by decide +kernel
theorem dX0_weightOf_61 : decode cX0_weightOf 61 = .ok (.ireturn, 1) := by decide +kernel
theorem eX0_weightOf {l : Launch} {g : jm_G} {d : Nat} {v1 v2 v3 : Int} (hg : jm_HC g) {mu : jm_M} {Q : Option Value → jm_M → Prop} (h : jm_R l g (d + 1) iX0_setTerms [.ref 35, jm_i v1, jm_i v2] mu (jm_qv fun m1 => jm_rg v3 ∧ ∀ m6, m6 = jm_wr m1 36 10 v3 → jm_R l g (d + 1) iX3_tell [.ref 15, jm_i 2, .ref 36, jm_i (4 - v3)] m6 (jm_qi fun z9 m8 => ∀ x12, x12 = (max 0 (min 99 z9)) → (0 ≤ v1 ∧ v1 < 8) ∧ (¬ (m8.1 31 v1) = 1 → Q (some (jm_i x12)) m8) ∧ ((m8.1 31 v1) = 1 → jm_rg x12 ∧ Q (some (jm_i (Int.tdiv x12 2))) m8)))) : jm_R l g (d + 2) iX0_weightOf [.ref 35, jm_i v1, jm_i v2, jm_i v3] mu Q := by
  refine jm_enter [(0, .ref 35), (1, jm_i v1), (2, jm_i v2), (3, jm_i v3)] (by decide) (Nat.le_of_ble_eq_true rfl) rfl ?_
  refine jm_mrI (fun hm0 => ?_)
  refine jm_aload_n (pc := 0) 0 dX0_weightOf_0 rfl ?_
  refine jm_iload_n (pc := 1) 1 dX0_weightOf_1 rfl ?_
  refine jm_iload_n (pc := 2) 2 dX0_weightOf_2 rfl ?_
  refine jm_callvv (pc := 3) (As := [_, _]) (st := []) iX0_setTerms dX0_weightOf_3 mX0_66 (cC35 hg) ⟨_, rfl, rfl⟩ rfl rfl (Nat.le_of_ble_eq_true rfl) h (fun m1 h hm4 => ?_)
  refine jm_aload_n (pc := 6) 0 dX0_weightOf_6 rfl ?_
  refine jm_getr (pc := 7) 2 dX0_weightOf_7 fX0_11 (cC35 hg) rfl ?_
  refine jm_bipush (pc := 10) dX0_weightOf_10 (by decide) ?_
  refine jm_iload_n (pc := 12) 3 dX0_weightOf_12 rfl ?_
  have hg5 := h.1
  have h := h.2
  refine jm_iast (pc := 13) dX0_weightOf_13 (cC36 hg) (by decide) (by decide) (by decide) hg5 ?_
  have h := h _ rfl
  refine jm_mrI (fun hm7 => ?_)
  refine jm_aload_n (pc := 14) 0 dX0_weightOf_14 rfl ?_
  refine jm_getr (pc := 15) 0 dX0_weightOf_15 fX0_15 (cC35 hg) rfl ?_
  refine jm_getr (pc := 18) 11 dX0_weightOf_18 fX0_70 (cC6 hg) rfl ?_
  refine jm_iconst (pc := 21) dX0_weightOf_21 ?_
  refine jm_aload_n (pc := 22) 0 dX0_weightOf_22 rfl ?_
  refine jm_getr (pc := 23) 2 dX0_weightOf_23 fX0_11 (cC35 hg) rfl ?_
  refine jm_iconst (pc := 26) dX0_weightOf_26 ?_
  refine jm_iload_n (pc := 27) 3 dX0_weightOf_27 rfl ?_
  refine jm_isub (pc := 28) dX0_weightOf_28 ?_
  refine jm_callvi (pc := 29) (As := [_, _, _]) (st := []) iX3_tell dX0_weightOf_29 mX0_76 (cC15 hg) ⟨_, rfl, rfl⟩ rfl rfl (Nat.le_of_ble_eq_true rfl) h (fun z9 m8 hz10 h hm11 => ?_)
  refine jm_bipush (pc := 32) dX0_weightOf_32 (by decide) ?_
  refine jm_inlni (pc := 34) (As := [_, _]) (st := []) iX11_held dX0_weightOf_34 (mX0_80 hg) rfl rfl (Nat.le_of_ble_eq_true rfl) (pX11_held hg ⟨by decide, by decide⟩ hz10 (jm_kIi ?_))
  have h := h _ rfl
  refine jm_istore (pc := 37) (lv' := [(4, _), (0, _), (1, _), (2, _), (3, _)]) dX0_weightOf_37 (by decide) rfl ?_
  refine jm_aload_n (pc := 39) 1 dX0_weightOf_39 rfl ?_
  refine jm_getr (pc := 40) 1 dX0_weightOf_40 fX0_19 (cC35 hg) rfl ?_
  refine jm_getr (pc := 43) 3 dX0_weightOf_43 fX0_83 (cC29 hg) rfl ?_
  refine jm_iload_n (pc := 46) 2 dX0_weightOf_46 rfl ?_
  have hg13 := h.1
  have h := h.2
  refine jm_iald (pc := 47) dX0_weightOf_47 (cC31 hg) (by decide) hg13.1 hg13.2 ?_
  refine jm_iconst (pc := 48) dX0_weightOf_48 ?_
  refine jm_icmp_ne (pc := 49) 59 dX0_weightOf_49 rfl (hm11 _ _) ⟨by decide, by decide⟩ (fun q => ?_) (fun q => ?_)
  · have h := h.1 q
    refine jm_iload (pc := 59) 0 dX0_weightOf_59 rfl ?_
    exact jm_iret (pc := 61) dX0_weightOf_61 rfl h
  · have h := h.2 q
    refine jm_iload (pc := 52) 0 dX0_weightOf_52 rfl ?_
    refine jm_iconst (pc := 54) dX0_weightOf_54 ?_
    have hg14 := h.1
    have h := h.2
    refine jm_idiv (pc := 55) hg14 ⟨by decide, by decide⟩ (by decide) dX0_weightOf_55 ?_
    refine jm_goto (pc := 56) 61 dX0_weightOf_56 rfl ?_
    exact jm_iret (pc := 61) dX0_weightOf_61 rfl h
theorem dX0_weightOfTestimony_0 : decode cX0_weightOfTestimony 0 = .ok (.aload_n 0, 1) := by decide +kernel
theorem dX0_weightOfTestimony_1 : decode cX0_weightOfTestimony 1 = .ok (.getfield 19, 3) := by decide +kernel
theorem dX0_weightOfTestimony_4 : decode cX0_weightOfTestimony 4 = .ok (.iload_n 1, 1) := by decide +kernel
theorem dX0_weightOfTestimony_5 : decode cX0_weightOfTestimony 5 = .ok (.iconst 1, 1) := by decide +kernel
theorem dX0_weightOfTestimony_6 : decode cX0_weightOfTestimony 6 = .ok (.invokevirtual 88, 3) := by decide +kernel
theorem dX0_weightOfTestimony_9 : decode cX0_weightOfTestimony 9 = .ok (.iconst 4, 1) := by decide +kernel
theorem dX0_weightOfTestimony_10 : decode cX0_weightOfTestimony 10 = .ok (.imul, 1) := by decide +kernel
theorem dX0_weightOfTestimony_11 : decode cX0_weightOfTestimony 11 = .ok (.aload_n 0, 1) := by decide +kernel
theorem dX0_weightOfTestimony_12 : decode cX0_weightOfTestimony 12 = .ok (.getfield 19, 3) := by decide +kernel
theorem dX0_weightOfTestimony_15 : decode cX0_weightOfTestimony 15 = .ok (.iload_n 1, 1) := by decide +kernel
theorem dX0_weightOfTestimony_16 : decode cX0_weightOfTestimony 16 = .ok (.iconst 2, 1) := by decide +kernel
theorem dX0_weightOfTestimony_17 : decode cX0_weightOfTestimony 17 = .ok (.invokevirtual 88, 3) := by decide +kernel
theorem dX0_weightOfTestimony_20 : decode cX0_weightOfTestimony 20 = .ok (.iadd, 1) := by decide +kernel
theorem dX0_weightOfTestimony_21 : decode cX0_weightOfTestimony 21 = .ok (.istore_n 2, 1) := by decide +kernel
theorem dX0_weightOfTestimony_22 : decode cX0_weightOfTestimony 22 = .ok (.aload_n 0, 1) := by decide +kernel
theorem dX0_weightOfTestimony_23 : decode cX0_weightOfTestimony 23 = .ok (.aload_n 0, 1) := by decide +kernel
theorem dX0_weightOfTestimony_24 : decode cX0_weightOfTestimony 24 = .ok (.getfield 19, 3) := by decide +kernel
theorem dX0_weightOfTestimony_27 : decode cX0_weightOfTestimony 27 = .ok (.iload_n 1, 1) := by decide +kernel
theorem dX0_weightOfTestimony_28 : decode cX0_weightOfTestimony 28 = .ok (.iconst 0, 1) := by decide +kernel
theorem dX0_weightOfTestimony_29 : decode cX0_weightOfTestimony 29 = .ok (.invokevirtual 88, 3) := by decide +kernel
theorem dX0_weightOfTestimony_32 : decode cX0_weightOfTestimony 32 = .ok (.iload_n 2, 1) := by decide +kernel
theorem dX0_weightOfTestimony_33 : decode cX0_weightOfTestimony 33 = .ok (.aload_n 0, 1) := by decide +kernel
theorem dX0_weightOfTestimony_34 : decode cX0_weightOfTestimony 34 = .ok (.getfield 19, 3) := by decide +kernel
theorem dX0_weightOfTestimony_37 : decode cX0_weightOfTestimony 37 = .ok (.iload_n 1, 1) := by decide +kernel
theorem dX0_weightOfTestimony_38 : decode cX0_weightOfTestimony 38 = .ok (.iconst 3, 1) := by decide +kernel
theorem dX0_weightOfTestimony_39 : decode cX0_weightOfTestimony 39 = .ok (.invokevirtual 88, 3) := by decide +kernel
theorem dX0_weightOfTestimony_42 : decode cX0_weightOfTestimony 42 = .ok (.invokevirtual 91, 3) := by decide +kernel
theorem dX0_weightOfTestimony_45 : decode cX0_weightOfTestimony 45 = .ok (.ireturn, 1) := by decide +kernel
theorem eX0_weightOfTestimony {l : Launch} {g : jm_G} {d : Nat} {v1 : Int} (hg : jm_HC g) {mu : jm_M} {Q : Option Value → jm_M → Prop} (h : (0 ≤ ((v1 * 7) + 1) ∧ ((v1 * 7) + 1) < 140) ∧ (0 ≤ ((v1 * 7) + 2) ∧ ((v1 * 7) + 2) < 140) ∧ ∀ x3, x3 = (((mu.1 32 ((v1 * 7) + 1)) * 4) + (mu.1 32 ((v1 * 7) + 2))) → (0 ≤ ((v1 * 7) + 0) ∧ ((v1 * 7) + 0) < 140) ∧ (0 ≤ ((v1 * 7) + 3) ∧ ((v1 * 7) + 3) < 140) ∧ jm_R l g (d + 1) iX0_weightOf [.ref 35, jm_i (mu.1 32 ((v1 * 7) + 0)), jm_i x3, jm_i (mu.1 32 ((v1 * 7) + 3))] mu (jm_qi fun z7 m6 => Q (some (jm_i z7)) m6)) : jm_R l g (d + 2) iX0_weightOfTestimony [.ref 35, jm_i v1] mu Q := by
  refine jm_enter [(0, .ref 35), (1, jm_i v1)] (by decide) (Nat.le_of_ble_eq_true rfl) rfl ?_
  refine jm_mrI (fun hm0 => ?_)
  refine jm_aload_n (pc := 0) 0 dX0_weightOfTestimony_0 rfl ?_
  refine jm_getr (pc := 1) 1 dX0_weightOfTestimony_1 fX0_19 (cC35 hg) rfl ?_
  refine jm_iload_n (pc := 4) 1 dX0_weightOfTestimony_4 rfl ?_
  refine jm_iconst (pc := 5) dX0_weightOfTestimony_5 ?_
  have hg1 := h.1
  have h := h.2
  refine jm_inlvi (pc := 6) (As := [_, _]) (st := []) iX1_ofTestimony dX0_weightOfTestimony_6 mX0_88 (cC29 hg) ⟨_, rfl, rfl⟩ rfl rfl (Nat.le_of_ble_eq_true rfl) (pX1_ofTestimony hg hg1 (jm_kIi ?_))
  refine jm_iconst (pc := 9) dX0_weightOfTestimony_9 ?_
  refine jm_imul (pc := 10) dX0_weightOfTestimony_10 ?_
  refine jm_aload_n (pc := 11) 0 dX0_weightOfTestimony_11 rfl ?_
  refine jm_getr (pc := 12) 1 dX0_weightOfTestimony_12 fX0_19 (cC35 hg) rfl ?_
  refine jm_iload_n (pc := 15) 1 dX0_weightOfTestimony_15 rfl ?_
  refine jm_iconst (pc := 16) dX0_weightOfTestimony_16 ?_
  have hg2 := h.1
  have h := h.2
  refine jm_inlvi (pc := 17) (As := [_, _]) (st := [_]) iX1_ofTestimony dX0_weightOfTestimony_17 mX0_88 (cC29 hg) ⟨_, rfl, rfl⟩ rfl rfl (Nat.le_of_ble_eq_true rfl) (pX1_ofTestimony hg hg2 (jm_kIi ?_))
  refine jm_iadd (pc := 20) dX0_weightOfTestimony_20 ?_
  have h := h _ rfl
  refine jm_istore_n (pc := 21) (lv' := [(2, _), (0, _), (1, _)]) dX0_weightOfTestimony_21 (by decide) rfl ?_
  refine jm_aload_n (pc := 22) 1 dX0_weightOfTestimony_22 rfl ?_
  refine jm_aload_n (pc := 23) 1 dX0_weightOfTestimony_23 rfl ?_
  refine jm_getr (pc := 24) 1 dX0_weightOfTestimony_24 fX0_19 (cC35 hg) rfl ?_
  refine jm_iload_n (pc := 27) 2 dX0_weightOfTestimony_27 rfl ?_
  refine jm_iconst (pc := 28) dX0_weightOfTestimony_28 ?_
  have hg4 := h.1
  have h := h.2
  refine jm_inlvi (pc := 29) (As := [_, _]) (st := [_]) iX1_ofTestimony dX0_weightOfTestimony_29 mX0_88 (cC29 hg) ⟨_, rfl, rfl⟩ rfl rfl (Nat.le_of_ble_eq_true rfl) (pX1_ofTestimony hg hg4 (jm_kIi ?_))
  refine jm_iload_n (pc := 32) 0 dX0_weightOfTestimony_32 rfl ?_
  refine jm_aload_n (pc := 33) 1 dX0_weightOfTestimony_33 rfl ?_
  refine jm_getr (pc := 34) 1 dX0_weightOfTestimony_34 fX0_19 (cC35 hg) rfl ?_
  refine jm_iload_n (pc := 37) 2 dX0_weightOfTestimony_37 rfl ?_
  refine jm_iconst (pc := 38) dX0_weightOfTestimony_38 ?_
  have hg5 := h.1
  have h := h.2
  refine jm_inlvi (pc := 39) (As := [_, _]) (st := [_, _, _]) iX1_ofTestimony dX0_weightOfTestimony_39 mX0_88 (cC29 hg) ⟨_, rfl, rfl⟩ rfl rfl (Nat.le_of_ble_eq_true rfl) (pX1_ofTestimony hg hg5 (jm_kIi ?_))
  refine jm_callvi (pc := 42) (As := [_, _, _]) (st := []) iX0_weightOf dX0_weightOfTestimony_42 mX0_91 (cC35 hg) ⟨_, rfl, rfl⟩ rfl rfl (Nat.le_of_ble_eq_true rfl) h (fun z7 m6 hz8 h hm9 => ?_)
  exact jm_iret (pc := 45) dX0_weightOfTestimony_45 rfl h
theorem dX11_testimony_0 : decode cX11_testimony 0 = .ok (.aload_n 0, 1) := by decide +kernel
theorem dX11_testimony_1 : decode cX11_testimony 1 = .ok (.getfield 26, 3) := by decide +kernel
theorem dX11_testimony_4 : decode cX11_testimony 4 = .ok (.iload_n 1, 1) := by decide +kernel
theorem dX11_testimony_5 : decode cX11_testimony 5 = .ok (.invokevirtual 212, 3) := by decide +kernel
theorem dX11_testimony_8 : decode cX11_testimony 8 = .ok (.ifCond .ne 5, 3) := by decide +kernel
theorem dX11_testimony_11 : decode cX11_testimony 11 = .ok (.iconst (-1), 1) := by decide +kernel
theorem dX11_testimony_12 : decode cX11_testimony 12 = .ok (.ireturn, 1) := by decide +kernel
theorem dX11_testimony_13 : decode cX11_testimony 13 = .ok (.iload_n 2, 1) := by decide +kernel
theorem dX11_testimony_14 : decode cX11_testimony 14 = .ok (.bipush 7, 2) := by decide +kernel
theorem dX11_testimony_16 : decode cX11_testimony 16 = .ok (.if_icmp .ne 12, 3) := by decide +kernel
theorem dX11_testimony_19 : decode cX11_testimony 19 = .ok (.aload_n 0, 1) := by decide +kernel
theorem dX11_testimony_20 : decode cX11_testimony 20 = .ok (.getfield 35, 3) := by decide +kernel
theorem dX11_testimony_23 : decode cX11_testimony 23 = .ok (.iload_n 1, 1) := by decide +kernel
theorem dX11_testimony_24 : decode cX11_testimony 24 = .ok (.invokevirtual 260, 3) := by decide +kernel
theorem dX11_testimony_27 : decode cX11_testimony 27 = .ok (.ireturn, 1) := by decide +kernel
theorem dX11_testimony_28 : decode cX11_testimony 28 = .ok (.iload_n 2, 1) := by decide +kernel
theorem dX11_testimony_29 : decode cX11_testimony 29 = .ok (.iconst 0, 1) := by decide +kernel
theorem dX11_testimony_30 : decode cX11_testimony 30 = .ok (.bipush 6, 2) := by decide +kernel
theorem dX11_testimony_32 : decode cX11_testimony 32 = .ok (.invokestatic 123, 3) := by decide +kernel
theorem dX11_testimony_35 : decode cX11_testimony 35 = .ok (.ifCond .eq 15, 3) := by decide +kernel
theorem dX11_testimony_38 : decode cX11_testimony 38 = .ok (.aload_n 0, 1) := by decide +kernel
theorem dX11_testimony_39 : decode cX11_testimony 39 = .ok (.getfield 26, 3) := by decide +kernel
theorem dX11_testimony_42 : decode cX11_testimony 42 = .ok (.iload_n 1, 1) := by decide +kernel
theorem dX11_testimony_43 : decode cX11_testimony 43 = .ok (.iload_n 2, 1) := by decide +kernel
theorem dX11_testimony_44 : decode cX11_testimony 44 = .ok (.invokevirtual 215, 3) := by decide +kernel
theorem dX11_testimony_47 : decode cX11_testimony 47 = .ok (.goto 4, 3) := by decide +kernel
theorem dX11_testimony_50 : decode cX11_testimony 50 = .ok (.iconst (-1), 1) := by decide +kernel
theorem dX11_testimony_51 : decode cX11_testimony 51 = .ok (.ireturn, 1) := by decide +kernel
theorem eX11_testimony {l : Launch} {g : jm_G} {d : Nat} {v1 v2 : Int} (hg : jm_HC g) {mu : jm_M} {Q : Option Value → jm_M → Prop} (h : jm_rg v1 ∧ (0 ≤ v1 ∧ v1 < (mu.1 29 4) → jm_rg v2 ∧ (¬ v2 = 7 → (0 ≤ v2 ∧ v2 ≤ 6 → (0 ≤ ((v1 * 7) + v2) ∧ ((v1 * 7) + v2) < 140) ∧ Q (some (jm_i (mu.1 32 ((v1 * 7) + v2)))) mu) ∧ (¬ (0 ≤ v2 ∧ v2 ≤ 6) → Q (some (jm_i (-1))) mu)) ∧ (v2 = 7 → jm_R l g (d + 1) iX0_weightOfTestimony [.ref 35, jm_i v1] mu (jm_qi fun z5 m4 => Q (some (jm_i z5)) m4))) ∧ (¬ (0 ≤ v1 ∧ v1 < (mu.1 29 4)) → Q (some (jm_i (-1))) mu)) : jm_R l g (d + 2) iX11_testimony [.ref 0, jm_i v1, jm_i v2] mu Q := by
  refine jm_enter [(0, .ref 0), (1, jm_i v1), (2, jm_i v2)] (by decide) (Nat.le_of_ble_eq_true rfl) rfl ?_
  refine jm_mrI (fun hm0 => ?_)
  refine jm_aload_n (pc := 0) 0 dX11_testimony_0 rfl ?_
  refine jm_getr (pc := 1) 2 dX11_testimony_1 fX11_26 (cC0 hg) rfl ?_
  refine jm_iload_n (pc := 4) 1 dX11_testimony_4 rfl ?_
  have hg1 := h.1
  have h := h.2
  refine jm_inlvi (pc := 5) (As := [_]) (st := []) iX1_isTestimony dX11_testimony_5 mX11_212 (cC29 hg) ⟨_, rfl, rfl⟩ rfl rfl (Nat.le_of_ble_eq_true rfl) (pX1_isTestimony hg hg1 (fun q => jm_kIi ?_) (fun q => jm_kIi ?_))
  · have h := h.1 q
    refine jm_if_ne (pc := 8) 13 dX11_testimony_8 rfl ⟨by decide, by decide⟩ (fun q => ?_) (fun q => absurd q (by decide))
    refine jm_iload_n (pc := 13) 2 dX11_testimony_13 rfl ?_
    refine jm_bipush (pc := 14) dX11_testimony_14 (by decide) ?_
    have hg2 := h.1
    have h := h.2
    refine jm_icmp_ne (pc := 16) 28 dX11_testimony_16 rfl hg2 ⟨by decide, by decide⟩ (fun q => ?_) (fun q => ?_)
    · have h := h.1 q
      refine jm_iload_n (pc := 28) 2 dX11_testimony_28 rfl ?_
      refine jm_iconst (pc := 29) dX11_testimony_29 ?_
      refine jm_bipush (pc := 30) dX11_testimony_30 (by decide) ?_
      refine jm_inlsi (pc := 32) (As := [_, _, _]) (st := []) iX11_isWithin dX11_testimony_32 mX11_123 rfl rfl (Nat.le_of_ble_eq_true rfl) (pX11_isWithin hg hg2 ⟨by decide, by decide⟩ ⟨by decide, by decide⟩ (fun q => jm_kIi ?_) (fun q => jm_kIi ?_))
      · have h := h.1 q
        refine jm_if_eq (pc := 35) 50 dX11_testimony_35 rfl ⟨by decide, by decide⟩ (fun q => absurd q (by decide)) (fun q => ?_)
        refine jm_aload_n (pc := 38) 0 dX11_testimony_38 rfl ?_
        refine jm_getr (pc := 39) 2 dX11_testimony_39 fX11_26 (cC0 hg) rfl ?_
        refine jm_iload_n (pc := 42) 1 dX11_testimony_42 rfl ?_
        refine jm_iload_n (pc := 43) 2 dX11_testimony_43 rfl ?_
        have hg3 := h.1
        have h := h.2
        refine jm_inlvi (pc := 44) (As := [_, _]) (st := []) iX1_ofTestimony dX11_testimony_44 mX11_215 (cC29 hg) ⟨_, rfl, rfl⟩ rfl rfl (Nat.le_of_ble_eq_true rfl) (pX1_ofTestimony hg hg3 (jm_kIi ?_))
        refine jm_goto (pc := 47) 51 dX11_testimony_47 rfl ?_
        exact jm_iret (pc := 51) dX11_testimony_51 rfl h
      · have h := h.2 q
        refine jm_if_eq (pc := 35) 50 dX11_testimony_35 rfl ⟨by decide, by decide⟩ (fun q => ?_) (fun q => absurd q (by decide))
        refine jm_iconst (pc := 50) dX11_testimony_50 ?_
        exact jm_iret (pc := 51) dX11_testimony_51 rfl h
    · have h := h.2 q
      refine jm_aload_n (pc := 19) 0 dX11_testimony_19 rfl ?_
      refine jm_getr (pc := 20) 3 dX11_testimony_20 fX11_35 (cC0 hg) rfl ?_
      refine jm_iload_n (pc := 23) 1 dX11_testimony_23 rfl ?_
      refine jm_callvi (pc := 24) (As := [_]) (st := []) iX0_weightOfTestimony dX11_testimony_24 mX11_260 (cC35 hg) ⟨_, rfl, rfl⟩ rfl rfl (Nat.le_of_ble_eq_true rfl) h (fun z5 m4 hz6 h hm7 => ?_)
      exact jm_iret (pc := 27) dX11_testimony_27 rfl h
  · have h := h.2 q
    refine jm_if_ne (pc := 8) 13 dX11_testimony_8 rfl ⟨by decide, by decide⟩ (fun q => absurd q (by decide)) (fun q => ?_)
    refine jm_iconst (pc := 11) dX11_testimony_11 ?_
    exact jm_iret (pc := 12) dX11_testimony_12 rfl h
theorem dX11_bar_0 : decode cX11_bar 0 = .ok (.iload_n 1, 1) := by decide +kernel
theorem dX11_bar_1 : decode cX11_bar 1 = .ok (.ifCond .lt 26, 3) := by decide +kernel
theorem dX11_bar_4 : decode cX11_bar 4 = .ok (.iload_n 1, 1) := by decide +kernel
theorem dX11_bar_5 : decode cX11_bar 5 = .ok (.aload_n 0, 1) := by decide +kernel
theorem dX11_bar_6 : decode cX11_bar 6 = .ok (.getfield 26, 3) := by decide +kernel
theorem dX11_bar_9 : decode cX11_bar 9 = .ok (.getfield 263, 3) := by decide +kernel
theorem dX11_bar_12 : decode cX11_bar 12 = .ok (.if_icmp .ge 15, 3) := by decide +kernel
theorem dX11_bar_15 : decode cX11_bar 15 = .ok (.aload_n 0, 1) := by decide +kernel
theorem dX11_bar_16 : decode cX11_bar 16 = .ok (.getfield 26, 3) := by decide +kernel
theorem dX11_bar_19 : decode cX11_bar 19 = .ok (.getfield 266, 3) := by decide +kernel
theorem dX11_bar_22 : decode cX11_bar 22 = .ok (.iload_n 1, 1) := by decide +kernel
theorem dX11_bar_23 : decode cX11_bar 23 = .ok (.iaload, 1) := by decide +kernel
theorem dX11_bar_24 : decode cX11_bar 24 = .ok (.goto 4, 3) := by decide +kernel
theorem dX11_bar_27 : decode cX11_bar 27 = .ok (.iconst (-1), 1) := by decide +kernel
theorem dX11_bar_28 : decode cX11_bar 28 = .ok (.ireturn, 1) := by decide +kernel
theorem eX11_bar {l : Launch} {g : jm_G} {d : Nat} {v1 : Int} (hg : jm_HC g) {mu : jm_M} {Q : Option Value → jm_M → Prop} (h : jm_rg v1 ∧ (v1 < 0 → Q (some (jm_i (-1))) mu) ∧ (0 ≤ v1 → ((mu.1 29 6) ≤ v1 → Q (some (jm_i (-1))) mu) ∧ (v1 < (mu.1 29 6) → (0 ≤ v1 ∧ v1 < 200) ∧ Q (some (jm_i (mu.1 33 v1))) mu))) : jm_R l g (d + 1) iX11_bar [.ref 0, jm_i v1] mu Q := by
  refine jm_enter [(0, .ref 0), (1, jm_i v1)] (by decide) (Nat.le_of_ble_eq_true rfl) rfl ?_
  refine jm_mrI (fun hm0 => ?_)
  refine jm_iload_n (pc := 0) 1 dX11_bar_0 rfl ?_
  have hg1 := h.1
  have h := h.2
  refine jm_if_lt (pc := 1) 27 dX11_bar_1 rfl hg1 (fun q => ?_) (fun q => ?_)
  · have h := h.1 q
    refine jm_iconst (pc := 27) dX11_bar_27 ?_
    exact jm_iret (pc := 28) dX11_bar_28 rfl h
  · have h := h.2 q
    refine jm_iload_n (pc := 4) 1 dX11_bar_4 rfl ?_
    refine jm_aload_n (pc := 5) 0 dX11_bar_5 rfl ?_
    refine jm_getr (pc := 6) 2 dX11_bar_6 fX11_26 (cC0 hg) rfl ?_
    refine jm_geti (pc := 9) 6 dX11_bar_9 fX11_263 (cC29 hg) rfl ?_
    refine jm_icmp_ge (pc := 12) 27 dX11_bar_12 rfl hg1 (hm0 _ _) (fun q => ?_) (fun q => ?_)
    · have h := h.1 q
      refine jm_iconst (pc := 27) dX11_bar_27 ?_
      exact jm_iret (pc := 28) dX11_bar_28 rfl h
    · have h := h.2 q
      refine jm_aload_n (pc := 15) 0 dX11_bar_15 rfl ?_
      refine jm_getr (pc := 16) 2 dX11_bar_16 fX11_26 (cC0 hg) rfl ?_
      refine jm_getr (pc := 19) 7 dX11_bar_19 fX11_266 (cC29 hg) rfl ?_
      refine jm_iload_n (pc := 22) 1 dX11_bar_22 rfl ?_
      have hg2 := h.1
      have h := h.2
      refine jm_iald (pc := 23) dX11_bar_23 (cC33 hg) (by decide) hg2.1 hg2.2 ?_
      refine jm_goto (pc := 24) 28 dX11_bar_24 rfl ?_
      exact jm_iret (pc := 28) dX11_bar_28 rfl h
theorem dX11_motive_0 : decode cX11_motive 0 = .ok (.iload_n 1, 1) := by decide +kernel
theorem dX11_motive_1 : decode cX11_motive 1 = .ok (.iconst 0, 1) := by decide +kernel
theorem dX11_motive_2 : decode cX11_motive 2 = .ok (.bipush 23, 2) := by decide +kernel
theorem dX11_motive_4 : decode cX11_motive 4 = .ok (.invokestatic 123, 3) := by decide +kernel
theorem dX11_motive_7 : decode cX11_motive 7 = .ok (.ifCond .ne 6, 3) := by decide +kernel
theorem dX11_motive_10 : decode cX11_motive 10 = .ok (.bipush (-100), 2) := by decide +kernel
theorem dX11_motive_12 : decode cX11_motive 12 = .ok (.ireturn, 1) := by decide +kernel
theorem dX11_motive_13 : decode cX11_motive 13 = .ok (.aload_n 0, 1) := by decide +kernel
theorem dX11_motive_14 : decode cX11_motive 14 = .ok (.getfield 19, 3) := by decide +kernel
theorem dX11_motive_17 : decode cX11_motive 17 = .ok (.getfield 269, 3) := by decide +kernel
theorem dX11_motive_20 : decode cX11_motive 20 = .ok (.getfield 272, 3) := by decide +kernel
theorem dX11_motive_23 : decode cX11_motive 23 = .ok (.iload_n 1, 1) := by decide +kernel
theorem dX11_motive_24 : decode cX11_motive 24 = .ok (.iaload, 1) := by decide +kernel
theorem dX11_motive_25 : decode cX11_motive 25 = .ok (.istore_n 3, 1) := by decide +kernel
theorem dX11_motive_26 : decode cX11_motive 26 = .ok (.iload_n 2, 1) := by decide +kernel
theorem dX11_motive_27 : decode cX11_motive 27 = .ok (.ifCond .ne 5, 3) := by decide +kernel
theorem dX11_motive_30 : decode cX11_motive 30 = .ok (.iload_n 3, 1) := by decide +kernel
theorem dX11_motive_31 : decode cX11_motive 31 = .ok (.ireturn, 1) := by decide +kernel
theorem dX11_motive_32 : decode cX11_motive 32 = .ok (.iload_n 2, 1) := by decide +kernel
theorem dX11_motive_33 : decode cX11_motive 33 = .ok (.iconst 1, 1) := by decide +kernel
theorem dX11_motive_34 : decode cX11_motive 34 = .ok (.iload_n 3, 1) := by decide +kernel
theorem dX11_motive_35 : decode cX11_motive 35 = .ok (.iconst 1, 1) := by decide +kernel
theorem dX11_motive_36 : decode cX11_motive 36 = .ok (.isub, 1) := by decide +kernel
theorem dX11_motive_37 : decode cX11_motive 37 = .ok (.invokestatic 123, 3) := by decide +kernel
theorem dX11_motive_40 : decode cX11_motive 40 = .ok (.ifCond .eq 20, 3) := by decide +kernel
theorem dX11_motive_43 : decode cX11_motive 43 = .ok (.aload_n 0, 1) := by decide +kernel
theorem dX11_motive_44 : decode cX11_motive 44 = .ok (.getfield 19, 3) := by decide +kernel
theorem dX11_motive_47 : decode cX11_motive 47 = .ok (.getfield 269, 3) := by decide +kernel
theorem dX11_motive_50 : decode cX11_motive 50 = .ok (.iload_n 1, 1) := by decide +kernel
theorem dX11_motive_51 : decode cX11_motive 51 = .ok (.iload_n 2, 1) := by decide +kernel
theorem dX11_motive_52 : decode cX11_motive 52 = .ok (.iconst 1, 1) := by decide +kernel
theorem dX11_motive_53 : decode cX11_motive 53 = .ok (.isub, 1) := by decide +kernel
theorem dX11_motive_54 : decode cX11_motive 54 = .ok (.invokevirtual 275, 3) := by decide +kernel
theorem dX11_motive_57 : decode cX11_motive 57 = .ok (.goto 5, 3) := by decide +kernel
theorem dX11_motive_60 : decode cX11_motive 60 = .ok (.bipush (-100), 2) := by decide +kernel
theorem dX11_motive_62 : decode cX11_motive 62 = .ok (.ireturn, 1) := by decide +kernel
theorem eX11_motive {l : Launch} {g : jm_G} {d : Nat} {v1 v2 : Int} (hg : jm_HC g) {mu : jm_M} {Q : Option Value → jm_M → Prop} (h : jm_rg v1 ∧ (0 ≤ v1 ∧ v1 ≤ 23 → (0 ≤ v1 ∧ v1 < 24) ∧ ∀ x3, x3 = (mu.1 13 v1) → jm_rg v2 ∧ (¬ v2 = 0 → jm_rg (x3 - 1) ∧ (1 ≤ v2 ∧ v2 ≤ (x3 - 1) → jm_R l g (d + 1) iX5_stepOf [.ref 12, jm_i v1, jm_i (v2 - 1)] mu (jm_qi fun z7 m6 => Q (some (jm_i z7)) m6)) ∧ (¬ (1 ≤ v2 ∧ v2 ≤ (x3 - 1)) → Q (some (jm_i (-100))) mu)) ∧ (v2 = 0 → Q (some (jm_i x3)) mu)) ∧ (¬ (0 ≤ v1 ∧ v1 ≤ 23) → Q (some (jm_i (-100))) mu)) : jm_R l g (d + 2) iX11_motive [.ref 0, jm_i v1, jm_i v2] mu Q := by
  refine jm_enter [(0, .ref 0), (1, jm_i v1), (2, jm_i v2)] (by decide) (Nat.le_of_ble_eq_true rfl) rfl ?_
  refine jm_mrI (fun hm0 => ?_)
  refine jm_iload_n (pc := 0) 1 dX11_motive_0 rfl ?_
  refine jm_iconst (pc := 1) dX11_motive_1 ?_
  refine jm_bipush (pc := 2) dX11_motive_2 (by decide) ?_
  have hg1 := h.1
  have h := h.2
  refine jm_inlsi (pc := 4) (As := [_, _, _]) (st := []) iX11_isWithin dX11_motive_4 mX11_123 rfl rfl (Nat.le_of_ble_eq_true rfl) (pX11_isWithin hg hg1 ⟨by decide, by decide⟩ ⟨by decide, by decide⟩ (fun q => jm_kIi ?_) (fun q => jm_kIi ?_))
  · have h := h.1 q
    refine jm_if_ne (pc := 7) 13 dX11_motive_7 rfl ⟨by decide, by decide⟩ (fun q => ?_) (fun q => absurd q (by decide))
    refine jm_aload_n (pc := 13) 0 dX11_motive_13 rfl ?_
    refine jm_getr (pc := 14) 1 dX11_motive_14 fX11_19 (cC0 hg) rfl ?_
    refine jm_getr (pc := 17) 10 dX11_motive_17 fX11_269 (cC6 hg) rfl ?_
    refine jm_getr (pc := 20) 1 dX11_motive_20 fX11_272 (cC12 hg) rfl ?_
    refine jm_iload_n (pc := 23) 1 dX11_motive_23 rfl ?_
    have hg2 := h.1
    have h := h.2
    refine jm_iald (pc := 24) dX11_motive_24 (cC13 hg) (by decide) hg2.1 hg2.2 ?_
    have h := h _ rfl
    refine jm_istore_n (pc := 25) (lv' := [(3, _), (0, _), (1, _), (2, _)]) dX11_motive_25 (by decide) rfl ?_
    refine jm_iload_n (pc := 26) 3 dX11_motive_26 rfl ?_
    have hg4 := h.1
    have h := h.2
    refine jm_if_ne (pc := 27) 32 dX11_motive_27 rfl hg4 (fun q => ?_) (fun q => ?_)
    · have h := h.1 q
      refine jm_iload_n (pc := 32) 3 dX11_motive_32 rfl ?_
      refine jm_iconst (pc := 33) dX11_motive_33 ?_
      refine jm_iload_n (pc := 34) 0 dX11_motive_34 rfl ?_
      refine jm_iconst (pc := 35) dX11_motive_35 ?_
      refine jm_isub (pc := 36) dX11_motive_36 ?_
      have hg5 := h.1
      have h := h.2
      refine jm_inlsi (pc := 37) (As := [_, _, _]) (st := []) iX11_isWithin dX11_motive_37 mX11_123 rfl rfl (Nat.le_of_ble_eq_true rfl) (pX11_isWithin hg hg4 ⟨by decide, by decide⟩ hg5 (fun q => jm_kIi ?_) (fun q => jm_kIi ?_))
      · have h := h.1 q
        refine jm_if_eq (pc := 40) 60 dX11_motive_40 rfl ⟨by decide, by decide⟩ (fun q => absurd q (by decide)) (fun q => ?_)
        refine jm_aload_n (pc := 43) 1 dX11_motive_43 rfl ?_
        refine jm_getr (pc := 44) 1 dX11_motive_44 fX11_19 (cC0 hg) rfl ?_
        refine jm_getr (pc := 47) 10 dX11_motive_47 fX11_269 (cC6 hg) rfl ?_
        refine jm_iload_n (pc := 50) 2 dX11_motive_50 rfl ?_
        refine jm_iload_n (pc := 51) 3 dX11_motive_51 rfl ?_
        refine jm_iconst (pc := 52) dX11_motive_52 ?_
        refine jm_isub (pc := 53) dX11_motive_53 ?_
        refine jm_callvi (pc := 54) (As := [_, _]) (st := []) iX5_stepOf dX11_motive_54 mX11_275 (cC12 hg) ⟨_, rfl, rfl⟩ rfl rfl (Nat.le_of_ble_eq_true rfl) h (fun z7 m6 hz8 h hm9 => ?_)
        refine jm_goto (pc := 57) 62 dX11_motive_57 rfl ?_
        exact jm_iret (pc := 62) dX11_motive_62 rfl h
      · have h := h.2 q
        refine jm_if_eq (pc := 40) 60 dX11_motive_40 rfl ⟨by decide, by decide⟩ (fun q => ?_) (fun q => absurd q (by decide))
        refine jm_bipush (pc := 60) dX11_motive_60 (by decide) ?_
        exact jm_iret (pc := 62) dX11_motive_62 rfl h
    · have h := h.2 q
      refine jm_iload_n (pc := 30) 0 dX11_motive_30 rfl ?_
      exact jm_iret (pc := 31) dX11_motive_31 rfl h
  · have h := h.2 q
    refine jm_if_ne (pc := 7) 13 dX11_motive_7 rfl ⟨by decide, by decide⟩ (fun q => absurd q (by decide)) (fun q => ?_)
    refine jm_bipush (pc := 10) dX11_motive_10 (by decide) ?_
    exact jm_iret (pc := 12) dX11_motive_12 rfl h
theorem dX11_book_0 : decode cX11_book 0 = .ok (.iload_n 1, 1) := by decide +kernel
theorem dX11_book_1 : decode cX11_book 1 = .ok (.ifCond .lt 23, 3) := by decide +kernel
theorem dX11_book_4 : decode cX11_book 4 = .ok (.iload_n 1, 1) := by decide +kernel
theorem dX11_book_5 : decode cX11_book 5 = .ok (.aload_n 0, 1) := by decide +kernel
theorem dX11_book_6 : decode cX11_book 6 = .ok (.getfield 26, 3) := by decide +kernel
theorem dX11_book_9 : decode cX11_book 9 = .ok (.getfield 278, 3) := by decide +kernel
theorem dX11_book_12 : decode cX11_book 12 = .ok (.if_icmp .ge 12, 3) := by decide +kernel
theorem dX11_book_15 : decode cX11_book 15 = .ok (.iload_n 2, 1) := by decide +kernel
theorem dX11_book_16 : decode cX11_book 16 = .ok (.iconst 0, 1) := by decide +kernel
theorem dX11_book_17 : decode cX11_book 17 = .ok (.iconst 4, 1) := by decide +kernel
theorem dX11_book_18 : decode cX11_book 18 = .ok (.invokestatic 123, 3) := by decide +kernel
theorem dX11_book_21 : decode cX11_book 21 = .ok (.ifCond .ne 6, 3) := by decide +kernel
theorem dX11_book_24 : decode cX11_book 24 = .ok (.bipush (-2), 2) := by decide +kernel
theorem dX11_book_26 : decode cX11_book 26 = .ok (.ireturn, 1) := by decide +kernel
theorem dX11_book_27 : decode cX11_book 27 = .ok (.aload_n 0, 1) := by decide +kernel
theorem dX11_book_28 : decode cX11_book 28 = .ok (.getfield 26, 3) := by decide +kernel
theorem dX11_book_31 : decode cX11_book 31 = .ok (.getfield 281, 3) := by decide +kernel
theorem dX11_book_34 : decode cX11_book 34 = .ok (.iload_n 1, 1) := by decide +kernel
theorem dX11_book_35 : decode cX11_book 35 = .ok (.iconst 5, 1) := by decide +kernel
theorem dX11_book_36 : decode cX11_book 36 = .ok (.imul, 1) := by decide +kernel
theorem dX11_book_37 : decode cX11_book 37 = .ok (.iload_n 2, 1) := by decide +kernel
theorem dX11_book_38 : decode cX11_book 38 = .ok (.iadd, 1) := by decide +kernel
theorem dX11_book_39 : decode cX11_book 39 = .ok (.iaload, 1) := by decide +kernel
theorem dX11_book_40 : decode cX11_book 40 = .ok (.ireturn, 1) := by decide +kernel
theorem eX11_book {l : Launch} {g : jm_G} {d : Nat} {v1 v2 : Int} (hg : jm_HC g) {mu : jm_M} {Q : Option Value → jm_M → Prop} (h : jm_rg v1 ∧ (v1 < 0 → Q (some (jm_i (-2))) mu) ∧ (0 ≤ v1 → ((mu.1 29 8) ≤ v1 → Q (some (jm_i (-2))) mu) ∧ (v1 < (mu.1 29 8) → jm_rg v2 ∧ (0 ≤ v2 ∧ v2 ≤ 4 → (0 ≤ ((v1 * 5) + v2) ∧ ((v1 * 5) + v2) < 600) ∧ Q (some (jm_i (mu.1 34 ((v1 * 5) + v2)))) mu) ∧ (¬ (0 ≤ v2 ∧ v2 ≤ 4) → Q (some (jm_i (-2))) mu)))) : jm_R l g (d + 2) iX11_book [.ref 0, jm_i v1, jm_i v2] mu Q := by
  refine jm_enter [(0, .ref 0), (1, jm_i v1), (2, jm_i v2)] (by decide) (Nat.le_of_ble_eq_true rfl) rfl ?_
  refine jm_mrI (fun hm0 => ?_)
  refine jm_iload_n (pc := 0) 1 dX11_book_0 rfl ?_
  have hg1 := h.1
  have h := h.2
  refine jm_if_lt (pc := 1) 24 dX11_book_1 rfl hg1 (fun q => ?_) (fun q => ?_)
  · have h := h.1 q
    refine jm_bipush (pc := 24) dX11_book_24 (by decide) ?_
    exact jm_iret (pc := 26) dX11_book_26 rfl h
  · have h := h.2 q
    refine jm_iload_n (pc := 4) 1 dX11_book_4 rfl ?_
    refine jm_aload_n (pc := 5) 0 dX11_book_5 rfl ?_
    refine jm_getr (pc := 6) 2 dX11_book_6 fX11_26 (cC0 hg) rfl ?_
    refine jm_geti (pc := 9) 8 dX11_book_9 fX11_278 (cC29 hg) rfl ?_
    refine jm_icmp_ge (pc := 12) 24 dX11_book_12 rfl hg1 (hm0 _ _) (fun q => ?_) (fun q => ?_)
    · have h := h.1 q
      refine jm_bipush (pc := 24) dX11_book_24 (by decide) ?_
      exact jm_iret (pc := 26) dX11_book_26 rfl h
    · have h := h.2 q
      refine jm_iload_n (pc := 15) 2 dX11_book_15 rfl ?_
      refine jm_iconst (pc := 16) dX11_book_16 ?_
      refine jm_iconst (pc := 17) dX11_book_17 ?_
      have hg2 := h.1
      have h := h.2
      refine jm_inlsi (pc := 18) (As := [_, _, _]) (st := []) iX11_isWithin dX11_book_18 mX11_123 rfl rfl (Nat.le_of_ble_eq_true rfl) (pX11_isWithin hg hg2 ⟨by decide, by decide⟩ ⟨by decide, by decide⟩ (fun q => jm_kIi ?_) (fun q => jm_kIi ?_))
      · have h := h.1 q
        refine jm_if_ne (pc := 21) 27 dX11_book_21 rfl ⟨by decide, by decide⟩ (fun q => ?_) (fun q => absurd q (by decide))
        refine jm_aload_n (pc := 27) 0 dX11_book_27 rfl ?_
        refine jm_getr (pc := 28) 2 dX11_book_28 fX11_26 (cC0 hg) rfl ?_
        refine jm_getr (pc := 31) 9 dX11_book_31 fX11_281 (cC29 hg) rfl ?_
        refine jm_iload_n (pc := 34) 1 dX11_book_34 rfl ?_
        refine jm_iconst (pc := 35) dX11_book_35 ?_
        refine jm_imul (pc := 36) dX11_book_36 ?_
        refine jm_iload_n (pc := 37) 2 dX11_book_37 rfl ?_
        refine jm_iadd (pc := 38) dX11_book_38 ?_
        have hg3 := h.1
        have h := h.2
        refine jm_iald (pc := 39) dX11_book_39 (cC34 hg) (by decide) hg3.1 hg3.2 ?_
        exact jm_iret (pc := 40) dX11_book_40 rfl h
      · have h := h.2 q
        refine jm_if_ne (pc := 21) 27 dX11_book_21 rfl ⟨by decide, by decide⟩ (fun q => absurd q (by decide)) (fun q => ?_)
        refine jm_bipush (pc := 24) dX11_book_24 (by decide) ?_
        exact jm_iret (pc := 26) dX11_book_26 rfl h
theorem dX0_howManyKeys_0 : decode cX0_howManyKeys 0 = .ok (.iconst 0, 1) := by decide +kernel
theorem dX0_howManyKeys_1 : decode cX0_howManyKeys 1 = .ok (.aload_n 0, 1) := by decide +kernel
theorem dX0_howManyKeys_2 : decode cX0_howManyKeys 2 = .ok (.iload_n 1, 1) := by decide +kernel
theorem dX0_howManyKeys_3 : decode cX0_howManyKeys 3 = .ok (.iload_n 2, 1) := by decide +kernel
theorem dX0_howManyKeys_4 : decode cX0_howManyKeys 4 = .ok (.invokevirtual 51, 3) := by decide +kernel
theorem dX0_howManyKeys_7 : decode cX0_howManyKeys 7 = .ok (.aload_n 0, 1) := by decide +kernel
theorem dX0_howManyKeys_8 : decode cX0_howManyKeys 8 = .ok (.iload_n 1, 1) := by decide +kernel
theorem dX0_howManyKeys_9 : decode cX0_howManyKeys 9 = .ok (.iload_n 2, 1) := by decide +kernel
theorem dX0_howManyKeys_10 : decode cX0_howManyKeys 10 = .ok (.invokevirtual 54, 3) := by decide +kernel
theorem dX0_howManyKeys_13 : decode cX0_howManyKeys 13 = .ok (.isub, 1) := by decide +kernel
theorem dX0_howManyKeys_14 : decode cX0_howManyKeys 14 = .ok (.iconst 1, 1) := by decide +kernel
theorem dX0_howManyKeys_15 : decode cX0_howManyKeys 15 = .ok (.iadd, 1) := by decide +kernel
theorem dX0_howManyKeys_16 : decode cX0_howManyKeys 16 = .ok (.invokestatic 57, 3) := by decide +kernel
theorem dX0_howManyKeys_19 : decode cX0_howManyKeys 19 = .ok (.ireturn, 1) := by decide +kernel
theorem eX0_howManyKeys {l : Launch} {g : jm_G} {d : Nat} {v1 v2 : Int} (hg : jm_HC g) {mu : jm_M} {Q : Option Value → jm_M → Prop} (h : jm_R l g d iX0_highestKey [.ref 35, jm_i v1, jm_i v2] mu (jm_qi fun z2 m1 => jm_R l g d iX0_lowestKey [.ref 35, jm_i v1, jm_i v2] m1 (jm_qi fun z6 m5 => jm_rg ((z2 - z6) + 1) ∧ Q (some (jm_i (max 0 ((z2 - z6) + 1)))) m5))) : jm_R l g (d + 1) iX0_howManyKeys [.ref 35, jm_i v1, jm_i v2] mu Q := by
  refine jm_enter [(0, .ref 35), (1, jm_i v1), (2, jm_i v2)] (by decide) (Nat.le_of_ble_eq_true rfl) rfl ?_
  refine jm_mrI (fun hm0 => ?_)
  refine jm_iconst (pc := 0) dX0_howManyKeys_0 ?_
  refine jm_aload_n (pc := 1) 0 dX0_howManyKeys_1 rfl ?_
  refine jm_iload_n (pc := 2) 1 dX0_howManyKeys_2 rfl ?_
  refine jm_iload_n (pc := 3) 2 dX0_howManyKeys_3 rfl ?_
  refine jm_callvi (pc := 4) (As := [_, _]) (st := [_]) iX0_highestKey dX0_howManyKeys_4 mX0_51 (cC35 hg) ⟨_, rfl, rfl⟩ rfl rfl (Nat.le_of_ble_eq_true rfl) h (fun z2 m1 hz3 h hm4 => ?_)
  refine jm_aload_n (pc := 7) 0 dX0_howManyKeys_7 rfl ?_
  refine jm_iload_n (pc := 8) 1 dX0_howManyKeys_8 rfl ?_
  refine jm_iload_n (pc := 9) 2 dX0_howManyKeys_9 rfl ?_
  refine jm_callvi (pc := 10) (As := [_, _]) (st := [_, _]) iX0_lowestKey dX0_howManyKeys_10 mX0_54 (cC35 hg) ⟨_, rfl, rfl⟩ rfl rfl (Nat.le_of_ble_eq_true rfl) h (fun z6 m5 hz7 h hm8 => ?_)
  refine jm_isub (pc := 13) dX0_howManyKeys_13 ?_
  refine jm_iconst (pc := 14) dX0_howManyKeys_14 ?_
  refine jm_iadd (pc := 15) dX0_howManyKeys_15 ?_
  have hg9 := h.1
  have h := h.2
  refine jm_mmax (pc := 16) dX0_howManyKeys_16 mX0_57 ⟨by decide, by decide⟩ hg9 (Nat.le_of_ble_eq_true rfl) ?_
  exact jm_iret (pc := 19) dX0_howManyKeys_19 rfl h
theorem dX11_keys_0 : decode cX11_keys 0 = .ok (.aload_n 0, 1) := by decide +kernel
theorem dX11_keys_1 : decode cX11_keys 1 = .ok (.getfield 35, 3) := by decide +kernel
theorem dX11_keys_4 : decode cX11_keys 4 = .ok (.iload_n 1, 1) := by decide +kernel
theorem dX11_keys_5 : decode cX11_keys 5 = .ok (.iload_n 2, 1) := by decide +kernel
theorem dX11_keys_6 : decode cX11_keys 6 = .ok (.invokevirtual 284, 3) := by decide +kernel
theorem dX11_keys_9 : decode cX11_keys 9 = .ok (.istore 4, 2) := by decide +kernel
theorem dX11_keys_11 : decode cX11_keys 11 = .ok (.iload 4, 2) := by decide +kernel
theorem dX11_keys_13 : decode cX11_keys 13 = .ok (.iconst (-1), 1) := by decide +kernel
theorem dX11_keys_14 : decode cX11_keys 14 = .ok (.if_icmp .eq 12, 3) := by decide +kernel
theorem dX11_keys_17 : decode cX11_keys 17 = .ok (.iload_n 3, 1) := by decide +kernel
theorem dX11_keys_18 : decode cX11_keys 18 = .ok (.iconst 0, 1) := by decide +kernel
theorem dX11_keys_19 : decode cX11_keys 19 = .ok (.iconst 2, 1) := by decide +kernel
theorem dX11_keys_20 : decode cX11_keys 20 = .ok (.invokestatic 123, 3) := by decide +kernel
theorem dX11_keys_23 : decode cX11_keys 23 = .ok (.ifCond .ne 5, 3) := by decide +kernel
theorem dX11_keys_26 : decode cX11_keys 26 = .ok (.iconst (-1), 1) := by decide +kernel
theorem dX11_keys_27 : decode cX11_keys 27 = .ok (.ireturn, 1) := by decide +kernel
theorem dX11_keys_28 : decode cX11_keys 28 = .ok (.aload_n 0, 1) := by decide +kernel
theorem dX11_keys_29 : decode cX11_keys 29 = .ok (.getfield 35, 3) := by decide +kernel
theorem dX11_keys_32 : decode cX11_keys 32 = .ok (.iload_n 1, 1) := by decide +kernel
theorem dX11_keys_33 : decode cX11_keys 33 = .ok (.iload 4, 2) := by decide +kernel
theorem dX11_keys_35 : decode cX11_keys 35 = .ok (.invokevirtual 287, 3) := by decide +kernel
theorem dX11_keys_38 : decode cX11_keys 38 = .ok (.istore 5, 2) := by decide +kernel
theorem dX11_keys_40 : decode cX11_keys 40 = .ok (.iload_n 3, 1) := by decide +kernel
theorem dX11_keys_41 : decode cX11_keys 41 = .ok (.ifCond .ne 6, 3) := by decide +kernel
theorem dX11_keys_44 : decode cX11_keys 44 = .ok (.iload 5, 2) := by decide +kernel
theorem dX11_keys_46 : decode cX11_keys 46 = .ok (.ireturn, 1) := by decide +kernel
theorem dX11_keys_47 : decode cX11_keys 47 = .ok (.iload 5, 2) := by decide +kernel
theorem dX11_keys_49 : decode cX11_keys 49 = .ok (.ifCond .ne 5, 3) := by decide +kernel
theorem dX11_keys_52 : decode cX11_keys 52 = .ok (.iconst (-1), 1) := by decide +kernel
theorem dX11_keys_53 : decode cX11_keys 53 = .ok (.ireturn, 1) := by decide +kernel
theorem dX11_keys_54 : decode cX11_keys 54 = .ok (.iload_n 3, 1) := by decide +kernel
theorem dX11_keys_55 : decode cX11_keys 55 = .ok (.iconst 1, 1) := by decide +kernel
theorem dX11_keys_56 : decode cX11_keys 56 = .ok (.if_icmp .ne 16, 3) := by decide +kernel
theorem dX11_keys_59 : decode cX11_keys 59 = .ok (.aload_n 0, 1) := by decide +kernel
theorem dX11_keys_60 : decode cX11_keys 60 = .ok (.getfield 35, 3) := by decide +kernel
theorem dX11_keys_63 : decode cX11_keys 63 = .ok (.iload_n 1, 1) := by decide +kernel
theorem dX11_keys_64 : decode cX11_keys 64 = .ok (.iload 4, 2) := by decide +kernel
theorem dX11_keys_66 : decode cX11_keys 66 = .ok (.invokevirtual 290, 3) := by decide +kernel
theorem dX11_keys_69 : decode cX11_keys 69 = .ok (.goto 13, 3) := by decide +kernel
theorem dX11_keys_72 : decode cX11_keys 72 = .ok (.aload_n 0, 1) := by decide +kernel
theorem dX11_keys_73 : decode cX11_keys 73 = .ok (.getfield 35, 3) := by decide +kernel
theorem dX11_keys_76 : decode cX11_keys 76 = .ok (.iload_n 1, 1) := by decide +kernel
theorem dX11_keys_77 : decode cX11_keys 77 = .ok (.iload 4, 2) := by decide +kernel
theorem dX11_keys_79 : decode cX11_keys 79 = .ok (.invokevirtual 293, 3) := by decide +kernel
theorem dX11_keys_82 : decode cX11_keys 82 = .ok (.ireturn, 1) := by decide +kernel
theorem eX11_keys {l : Launch} {g : jm_G} {d : Nat} {v1 v2 v3 : Int} (hg : jm_HC g) {mu : jm_M} {Q : Option Value → jm_M → Prop} (h : jm_R l g (d + 1) iX0_motiveOf [.ref 35, jm_i v1, jm_i v2] mu (jm_qi fun z2 m1 => (z2 = (-1) → Q (some (jm_i (-1))) m1) ∧ (¬ z2 = (-1) → jm_rg v3 ∧ (0 ≤ v3 ∧ v3 ≤ 2 → jm_R l g (d + 1) iX0_howManyKeys [.ref 35, jm_i v1, jm_i z2] m1 (jm_qi fun z7 m6 => (¬ v3 = 0 → (¬ z7 = 0 → (¬ v3 = 1 → jm_R l g (d + 1) iX0_highestKey [.ref 35, jm_i v1, jm_i z2] m6 (jm_qi fun z11 m10 => Q (some (jm_i z11)) m10)) ∧ (v3 = 1 → jm_R l g (d + 1) iX0_lowestKey [.ref 35, jm_i v1, jm_i z2] m6 (jm_qi fun z15 m14 => Q (some (jm_i z15)) m14))) ∧ (z7 = 0 → Q (some (jm_i (-1))) m6)) ∧ (v3 = 0 → Q (some (jm_i z7)) m6))) ∧ (¬ (0 ≤ v3 ∧ v3 ≤ 2) → Q (some (jm_i (-1))) m1)))) : jm_R l g (d + 2) iX11_keys [.ref 0, jm_i v1, jm_i v2, jm_i v3] mu Q := by
  refine jm_enter [(0, .ref 0), (1, jm_i v1), (2, jm_i v2), (3, jm_i v3)] (by decide) (Nat.le_of_ble_eq_true rfl) rfl ?_
  refine jm_mrI (fun hm0 => ?_)
  refine jm_aload_n (pc := 0) 0 dX11_keys_0 rfl ?_
  refine jm_getr (pc := 1) 3 dX11_keys_1 fX11_35 (cC0 hg) rfl ?_
  refine jm_iload_n (pc := 4) 1 dX11_keys_4 rfl ?_
  refine jm_iload_n (pc := 5) 2 dX11_keys_5 rfl ?_
  refine jm_callvi (pc := 6) (As := [_, _]) (st := []) iX0_motiveOf dX11_keys_6 mX11_284 (cC35 hg) ⟨_, rfl, rfl⟩ rfl rfl (Nat.le_of_ble_eq_true rfl) h (fun z2 m1 hz3 h hm4 => ?_)
  refine jm_istore (pc := 9) (lv' := [(4, _), (0, _), (1, _), (2, _), (3, _)]) dX11_keys_9 (by decide) rfl ?_
  refine jm_iload (pc := 11) 0 dX11_keys_11 rfl ?_
  refine jm_iconst (pc := 13) dX11_keys_13 ?_
  refine jm_icmp_eq (pc := 14) 26 dX11_keys_14 rfl hz3 ⟨by decide, by decide⟩ (fun q => ?_) (fun q => ?_)
  · have h := h.1 q
    refine jm_iconst (pc := 26) dX11_keys_26 ?_
    exact jm_iret (pc := 27) dX11_keys_27 rfl h
  · have h := h.2 q
    refine jm_iload_n (pc := 17) 4 dX11_keys_17 rfl ?_
    refine jm_iconst (pc := 18) dX11_keys_18 ?_
    refine jm_iconst (pc := 19) dX11_keys_19 ?_
    have hg5 := h.1
    have h := h.2
    refine jm_inlsi (pc := 20) (As := [_, _, _]) (st := []) iX11_isWithin dX11_keys_20 mX11_123 rfl rfl (Nat.le_of_ble_eq_true rfl) (pX11_isWithin hg hg5 ⟨by decide, by decide⟩ ⟨by decide, by decide⟩ (fun q => jm_kIi ?_) (fun q => jm_kIi ?_))
    · have h := h.1 q
      refine jm_if_ne (pc := 23) 28 dX11_keys_23 rfl ⟨by decide, by decide⟩ (fun q => ?_) (fun q => absurd q (by decide))
      refine jm_aload_n (pc := 28) 1 dX11_keys_28 rfl ?_
      refine jm_getr (pc := 29) 3 dX11_keys_29 fX11_35 (cC0 hg) rfl ?_
      refine jm_iload_n (pc := 32) 2 dX11_keys_32 rfl ?_
      refine jm_iload (pc := 33) 0 dX11_keys_33 rfl ?_
      refine jm_callvi (pc := 35) (As := [_, _]) (st := []) iX0_howManyKeys dX11_keys_35 mX11_287 (cC35 hg) ⟨_, rfl, rfl⟩ rfl rfl (Nat.le_of_ble_eq_true rfl) h (fun z7 m6 hz8 h hm9 => ?_)
      refine jm_istore (pc := 38) (lv' := [(5, _), (4, _), (0, _), (1, _), (2, _), (3, _)]) dX11_keys_38 (by decide) rfl ?_
      refine jm_iload_n (pc := 40) 5 dX11_keys_40 rfl ?_
      refine jm_if_ne (pc := 41) 47 dX11_keys_41 rfl hg5 (fun q => ?_) (fun q => ?_)
      · have h := h.1 q
        refine jm_iload (pc := 47) 0 dX11_keys_47 rfl ?_
        refine jm_if_ne (pc := 49) 54 dX11_keys_49 rfl hz8 (fun q => ?_) (fun q => ?_)
        · have h := h.1 q
          refine jm_iload_n (pc := 54) 5 dX11_keys_54 rfl ?_
          refine jm_iconst (pc := 55) dX11_keys_55 ?_
          refine jm_icmp_ne (pc := 56) 72 dX11_keys_56 rfl hg5 ⟨by decide, by decide⟩ (fun q => ?_) (fun q => ?_)
          · have h := h.1 q
            refine jm_aload_n (pc := 72) 2 dX11_keys_72 rfl ?_
            refine jm_getr (pc := 73) 3 dX11_keys_73 fX11_35 (cC0 hg) rfl ?_
            refine jm_iload_n (pc := 76) 3 dX11_keys_76 rfl ?_
            refine jm_iload (pc := 77) 1 dX11_keys_77 rfl ?_
            refine jm_callvi (pc := 79) (As := [_, _]) (st := []) iX0_highestKey dX11_keys_79 mX11_293 (cC35 hg) ⟨_, rfl, rfl⟩ rfl rfl (Nat.le_of_ble_eq_true rfl) h (fun z11 m10 hz12 h hm13 => ?_)
            exact jm_iret (pc := 82) dX11_keys_82 rfl h
          · have h := h.2 q
            refine jm_aload_n (pc := 59) 2 dX11_keys_59 rfl ?_
            refine jm_getr (pc := 60) 3 dX11_keys_60 fX11_35 (cC0 hg) rfl ?_
            refine jm_iload_n (pc := 63) 3 dX11_keys_63 rfl ?_
            refine jm_iload (pc := 64) 1 dX11_keys_64 rfl ?_
            refine jm_callvi (pc := 66) (As := [_, _]) (st := []) iX0_lowestKey dX11_keys_66 mX11_290 (cC35 hg) ⟨_, rfl, rfl⟩ rfl rfl (Nat.le_of_ble_eq_true rfl) h (fun z15 m14 hz16 h hm17 => ?_)
            refine jm_goto (pc := 69) 82 dX11_keys_69 rfl ?_
            exact jm_iret (pc := 82) dX11_keys_82 rfl h
        · have h := h.2 q
          refine jm_iconst (pc := 52) dX11_keys_52 ?_
          exact jm_iret (pc := 53) dX11_keys_53 rfl h
      · have h := h.2 q
        refine jm_iload (pc := 44) 0 dX11_keys_44 rfl ?_
        exact jm_iret (pc := 46) dX11_keys_46 rfl h
    · have h := h.2 q
      refine jm_if_ne (pc := 23) 28 dX11_keys_23 rfl ⟨by decide, by decide⟩ (fun q => absurd q (by decide)) (fun q => ?_)
      refine jm_iconst (pc := 26) dX11_keys_26 ?_
      exact jm_iret (pc := 27) dX11_keys_27 rfl h
theorem dX10_addChance_0 : decode cX10_addChance 0 = .ok (.bipush 9, 2) := by decide +kernel
theorem dX10_addChance_2 : decode cX10_addChance 2 = .ok (.istore_n 2, 1) := by decide +kernel
theorem dX10_addChance_3 : decode cX10_addChance 3 = .ok (.iload_n 2, 1) := by decide +kernel
theorem dX10_addChance_4 : decode cX10_addChance 4 = .ok (.ifCond .le 46, 3) := by decide +kernel
theorem dX10_addChance_7 : decode cX10_addChance 7 = .ok (.aload_n 0, 1) := by decide +kernel
theorem dX10_addChance_8 : decode cX10_addChance 8 = .ok (.getfield 9, 3) := by decide +kernel
theorem dX10_addChance_11 : decode cX10_addChance 11 = .ok (.iload_n 2, 1) := by decide +kernel
theorem dX10_addChance_12 : decode cX10_addChance 12 = .ok (.aload_n 0, 1) := by decide +kernel
theorem dX10_addChance_13 : decode cX10_addChance 13 = .ok (.getfield 9, 3) := by decide +kernel
theorem dX10_addChance_16 : decode cX10_addChance 16 = .ok (.iload_n 2, 1) := by decide +kernel
theorem dX10_addChance_17 : decode cX10_addChance 17 = .ok (.iaload, 1) := by decide +kernel
theorem dX10_addChance_18 : decode cX10_addChance 18 = .ok (.sipush 1000, 3) := by decide +kernel
theorem dX10_addChance_21 : decode cX10_addChance 21 = .ok (.iload_n 1, 1) := by decide +kernel
theorem dX10_addChance_22 : decode cX10_addChance 22 = .ok (.isub, 1) := by decide +kernel
theorem dX10_addChance_23 : decode cX10_addChance 23 = .ok (.imul, 1) := by decide +kernel
theorem dX10_addChance_24 : decode cX10_addChance 24 = .ok (.sipush 1000, 3) := by decide +kernel
theorem dX10_addChance_27 : decode cX10_addChance 27 = .ok (.idiv, 1) := by decide +kernel
theorem dX10_addChance_28 : decode cX10_addChance 28 = .ok (.aload_n 0, 1) := by decide +kernel
theorem dX10_addChance_29 : decode cX10_addChance 29 = .ok (.getfield 9, 3) := by decide +kernel
theorem dX10_addChance_32 : decode cX10_addChance 32 = .ok (.iload_n 2, 1) := by decide +kernel
theorem dX10_addChance_33 : decode cX10_addChance 33 = .ok (.iconst 1, 1) := by decide +kernel
theorem dX10_addChance_34 : decode cX10_addChance 34 = .ok (.isub, 1) := by decide +kernel
theorem dX10_addChance_35 : decode cX10_addChance 35 = .ok (.iaload, 1) := by decide +kernel
theorem dX10_addChance_36 : decode cX10_addChance 36 = .ok (.iload_n 1, 1) := by decide +kernel
theorem dX10_addChance_37 : decode cX10_addChance 37 = .ok (.imul, 1) := by decide +kernel
theorem dX10_addChance_38 : decode cX10_addChance 38 = .ok (.sipush 1000, 3) := by decide +kernel
theorem dX10_addChance_41 : decode cX10_addChance 41 = .ok (.idiv, 1) := by decide +kernel
theorem dX10_addChance_42 : decode cX10_addChance 42 = .ok (.iadd, 1) := by decide +kernel
theorem dX10_addChance_43 : decode cX10_addChance 43 = .ok (.iastore, 1) := by decide +kernel
theorem dX10_addChance_44 : decode cX10_addChance 44 = .ok (.iinc 2 (-1), 3) := by decide +kernel
theorem dX10_addChance_47 : decode cX10_addChance 47 = .ok (.goto (-44), 3) := by decide +kernel
theorem dX10_addChance_50 : decode cX10_addChance 50 = .ok (.aload_n 0, 1) := by decide +kernel
theorem dX10_addChance_51 : decode cX10_addChance 51 = .ok (.getfield 9, 3) := by decide +kernel
theorem dX10_addChance_54 : decode cX10_addChance 54 = .ok (.iconst 0, 1) := by decide +kernel
theorem dX10_addChance_55 : decode cX10_addChance 55 = .ok (.aload_n 0, 1) := by decide +kernel
theorem dX10_addChance_56 : decode cX10_addChance 56 = .ok (.getfield 9, 3) := by decide +kernel
theorem dX10_addChance_59 : decode cX10_addChance 59 = .ok (.iconst 0, 1) := by decide +kernel
theorem dX10_addChance_60 : decode cX10_addChance 60 = .ok (.iaload, 1) := by decide +kernel
theorem dX10_addChance_61 : decode cX10_addChance 61 = .ok (.sipush 1000, 3) := by decide +kernel
theorem dX10_addChance_64 : decode cX10_addChance 64 = .ok (.iload_n 1, 1) := by decide +kernel
theorem dX10_addChance_65 : decode cX10_addChance 65 = .ok (.isub, 1) := by decide +kernel
theorem dX10_addChance_66 : decode cX10_addChance 66 = .ok (.imul, 1) := by decide +kernel
theorem dX10_addChance_67 : decode cX10_addChance 67 = .ok (.sipush 1000, 3) := by decide +kernel
theorem dX10_addChance_70 : decode cX10_addChance 70 = .ok (.idiv, 1) := by decide +kernel
theorem dX10_addChance_71 : decode cX10_addChance 71 = .ok (.iastore, 1) := by decide +kernel
theorem dX10_addChance_72 : decode cX10_addChance 72 = .ok (.return_, 1) := by decide +kernel
theorem bX10_addChance_3 {l : Launch} {g : jm_G} {d : Nat} {v1 v2 : Int} (hg : jm_HC g) {mu : jm_M} {Q : Option Value → jm_M → Prop} (h : jm_rg v2 ∧ (v2 ≤ 0 → jm_rg ((mu.1 39 0) * (1000 - v1)) ∧ jm_rg (Int.tdiv ((mu.1 39 0) * (1000 - v1)) 1000) ∧ ∀ m4, m4 = jm_wr mu 39 0 (Int.tdiv ((mu.1 39 0) * (1000 - v1)) 1000) → Q none m4) ∧ (0 < v2 → (0 ≤ v2 ∧ v2 < 10) ∧ jm_rg ((mu.1 39 v2) * (1000 - v1)) ∧ (0 ≤ (v2 - 1) ∧ (v2 - 1) < 10) ∧ jm_rg ((mu.1 39 (v2 - 1)) * v1) ∧ jm_rg ((Int.tdiv ((mu.1 39 v2) * (1000 - v1)) 1000) + (Int.tdiv ((mu.1 39 (v2 - 1)) * v1) 1000)) ∧ ∀ m11, m11 = jm_wr mu 39 v2 ((Int.tdiv ((mu.1 39 v2) * (1000 - v1)) 1000) + (Int.tdiv ((mu.1 39 (v2 - 1)) * v1) 1000)) → jm_V l g (d + 1) iX10_addChance 3 [(0, .ref 38), (1, jm_i v1), (2, jm_i (v2 + (-1)))] [] m11 Q)) : jm_V l g (d + 1) iX10_addChance 3 [(0, .ref 38), (1, jm_i v1), (2, jm_i v2)] [] mu Q := by
  refine jm_mrI (fun hm0 => ?_)
  refine jm_iload_n (pc := 3) 2 dX10_addChance_3 rfl ?_
  have hg1 := h.1
  have h := h.2
  refine jm_if_le (pc := 4) 50 dX10_addChance_4 rfl hg1 (fun q => ?_) (fun q => ?_)
  · have h := h.1 q
    refine jm_aload_n (pc := 50) 0 dX10_addChance_50 rfl ?_
    refine jm_getr (pc := 51) 3 dX10_addChance_51 fX10_9 (cC38 hg) rfl ?_
    refine jm_iconst (pc := 54) dX10_addChance_54 ?_
    refine jm_aload_n (pc := 55) 0 dX10_addChance_55 rfl ?_
    refine jm_getr (pc := 56) 3 dX10_addChance_56 fX10_9 (cC38 hg) rfl ?_
    refine jm_iconst (pc := 59) dX10_addChance_59 ?_
    refine jm_iald (pc := 60) dX10_addChance_60 (cC39 hg) (by decide) (by decide) (by decide) ?_
    refine jm_sipush (pc := 61) dX10_addChance_61 (by decide) ?_
    refine jm_iload_n (pc := 64) 1 dX10_addChance_64 rfl ?_
    refine jm_isub (pc := 65) dX10_addChance_65 ?_
    refine jm_imul (pc := 66) dX10_addChance_66 ?_
    refine jm_sipush (pc := 67) dX10_addChance_67 (by decide) ?_
    have hg2 := h.1
    have h := h.2
    refine jm_idiv (pc := 70) hg2 ⟨by decide, by decide⟩ (by decide) dX10_addChance_70 ?_
    have hg3 := h.1
    have h := h.2
    refine jm_iast (pc := 71) dX10_addChance_71 (cC39 hg) (by decide) (by decide) (by decide) hg3 ?_
    have h := h _ rfl
    refine jm_mrI (fun hm5 => ?_)
    exact jm_vret (pc := 72) dX10_addChance_72 rfl h
  · have h := h.2 q
    refine jm_aload_n (pc := 7) 0 dX10_addChance_7 rfl ?_
    refine jm_getr (pc := 8) 3 dX10_addChance_8 fX10_9 (cC38 hg) rfl ?_
    refine jm_iload_n (pc := 11) 2 dX10_addChance_11 rfl ?_
    refine jm_aload_n (pc := 12) 0 dX10_addChance_12 rfl ?_
    refine jm_getr (pc := 13) 3 dX10_addChance_13 fX10_9 (cC38 hg) rfl ?_
    refine jm_iload_n (pc := 16) 2 dX10_addChance_16 rfl ?_
    have hg6 := h.1
    have h := h.2
    refine jm_iald (pc := 17) dX10_addChance_17 (cC39 hg) (by decide) hg6.1 hg6.2 ?_
    refine jm_sipush (pc := 18) dX10_addChance_18 (by decide) ?_
    refine jm_iload_n (pc := 21) 1 dX10_addChance_21 rfl ?_
    refine jm_isub (pc := 22) dX10_addChance_22 ?_
    refine jm_imul (pc := 23) dX10_addChance_23 ?_
    refine jm_sipush (pc := 24) dX10_addChance_24 (by decide) ?_
    have hg7 := h.1
    have h := h.2
    refine jm_idiv (pc := 27) hg7 ⟨by decide, by decide⟩ (by decide) dX10_addChance_27 ?_
    refine jm_aload_n (pc := 28) 0 dX10_addChance_28 rfl ?_
    refine jm_getr (pc := 29) 3 dX10_addChance_29 fX10_9 (cC38 hg) rfl ?_
    refine jm_iload_n (pc := 32) 2 dX10_addChance_32 rfl ?_
    refine jm_iconst (pc := 33) dX10_addChance_33 ?_
    refine jm_isub (pc := 34) dX10_addChance_34 ?_
    have hg8 := h.1
    have h := h.2
    refine jm_iald (pc := 35) dX10_addChance_35 (cC39 hg) (by decide) hg8.1 hg8.2 ?_
    refine jm_iload_n (pc := 36) 1 dX10_addChance_36 rfl ?_
    refine jm_imul (pc := 37) dX10_addChance_37 ?_
    refine jm_sipush (pc := 38) dX10_addChance_38 (by decide) ?_
    have hg9 := h.1
    have h := h.2
    refine jm_idiv (pc := 41) hg9 ⟨by decide, by decide⟩ (by decide) dX10_addChance_41 ?_
    refine jm_iadd (pc := 42) dX10_addChance_42 ?_
    have hg10 := h.1
    have h := h.2
    refine jm_iast (pc := 43) dX10_addChance_43 (cC39 hg) (by decide) hg6.1 hg6.2 hg10 ?_
    have h := h _ rfl
    refine jm_mrI (fun hm12 => ?_)
    refine jm_iinc (pc := 44) (lv' := [(2, _), (0, _), (1, _)]) 2 dX10_addChance_44 rfl (by decide) rfl ?_
    refine jm_goto (pc := 47) 3 dX10_addChance_47 rfl ?_
    exact jm_sub [1, 2, 0] rfl h
theorem eX10_addChance {l : Launch} {g : jm_G} {d : Nat} {v1 : Int} (hg : jm_HC g) {mu : jm_M} {Q : Option Value → jm_M → Prop} (h : jm_V l g (d + 1) iX10_addChance 3 [(0, .ref 38), (1, jm_i v1), (2, jm_i 9)] [] mu Q) : jm_R l g (d + 1) iX10_addChance [.ref 38, jm_i v1] mu Q := by
  refine jm_enter [(0, .ref 38), (1, jm_i v1)] (by decide) (Nat.le_of_ble_eq_true rfl) rfl ?_
  refine jm_mrI (fun hm0 => ?_)
  refine jm_bipush (pc := 0) dX10_addChance_0 (by decide) ?_
  refine jm_istore_n (pc := 2) (lv' := [(2, _), (0, _), (1, _)]) dX10_addChance_2 (by decide) rfl ?_
  exact jm_sub [1, 2, 0] rfl h
theorem dX10_likelyWithin_0 : decode cX10_likelyWithin 0 = .ok (.iconst 0, 1) := by decide +kernel
theorem dX10_likelyWithin_1 : decode cX10_likelyWithin 1 = .ok (.istore 5, 2) := by decide +kernel
theorem dX10_likelyWithin_3 : decode cX10_likelyWithin 3 = .ok (.iload 5, 2) := by decide +kernel
theorem dX10_likelyWithin_5 : decode cX10_likelyWithin 5 = .ok (.bipush 9, 2) := by decide +kernel
theorem dX10_likelyWithin_7 : decode cX10_likelyWithin 7 = .ok (.if_icmp .gt 17, 3) := by decide +kernel
theorem dX10_likelyWithin_10 : decode cX10_likelyWithin 10 = .ok (.aload_n 0, 1) := by decide +kernel
theorem dX10_likelyWithin_11 : decode cX10_likelyWithin 11 = .ok (.getfield 9, 3) := by decide +kernel
theorem dX10_likelyWithin_14 : decode cX10_likelyWithin 14 = .ok (.iload 5, 2) := by decide +kernel
theorem dX10_likelyWithin_16 : decode cX10_likelyWithin 16 = .ok (.iconst 0, 1) := by decide +kernel
theorem dX10_likelyWithin_17 : decode cX10_likelyWithin 17 = .ok (.iastore, 1) := by decide +kernel
theorem dX10_likelyWithin_18 : decode cX10_likelyWithin 18 = .ok (.iinc 5 1, 3) := by decide +kernel
theorem dX10_likelyWithin_21 : decode cX10_likelyWithin 21 = .ok (.goto (-18), 3) := by decide +kernel
theorem dX10_likelyWithin_24 : decode cX10_likelyWithin 24 = .ok (.aload_n 0, 1) := by decide +kernel
theorem dX10_likelyWithin_25 : decode cX10_likelyWithin 25 = .ok (.getfield 9, 3) := by decide +kernel
theorem dX10_likelyWithin_28 : decode cX10_likelyWithin 28 = .ok (.iconst 0, 1) := by decide +kernel
theorem dX10_likelyWithin_29 : decode cX10_likelyWithin 29 = .ok (.ldc 35, 2) := by decide +kernel
theorem dX10_likelyWithin_31 : decode cX10_likelyWithin 31 = .ok (.iastore, 1) := by decide +kernel
theorem dX10_likelyWithin_32 : decode cX10_likelyWithin 32 = .ok (.iload_n 3, 1) := by decide +kernel
theorem dX10_likelyWithin_33 : decode cX10_likelyWithin 33 = .ok (.iconst 1, 1) := by decide +kernel
theorem dX10_likelyWithin_34 : decode cX10_likelyWithin 34 = .ok (.iadd, 1) := by decide +kernel
theorem dX10_likelyWithin_35 : decode cX10_likelyWithin 35 = .ok (.istore 5, 2) := by decide +kernel
theorem dX10_likelyWithin_37 : decode cX10_likelyWithin 37 = .ok (.iconst 0, 1) := by decide +kernel
theorem dX10_likelyWithin_38 : decode cX10_likelyWithin 38 = .ok (.istore 6, 2) := by decide +kernel
theorem dX10_likelyWithin_40 : decode cX10_likelyWithin 40 = .ok (.iload 6, 2) := by decide +kernel
theorem dX10_likelyWithin_42 : decode cX10_likelyWithin 42 = .ok (.aload_n 0, 1) := by decide +kernel
theorem dX10_likelyWithin_43 : decode cX10_likelyWithin 43 = .ok (.getfield 29, 3) := by decide +kernel
theorem dX10_likelyWithin_46 : decode cX10_likelyWithin 46 = .ok (.getfield 36, 3) := by decide +kernel
theorem dX10_likelyWithin_49 : decode cX10_likelyWithin 49 = .ok (.getfield 42, 3) := by decide +kernel
theorem dX10_likelyWithin_52 : decode cX10_likelyWithin 52 = .ok (.iload_n 2, 1) := by decide +kernel
theorem dX10_likelyWithin_53 : decode cX10_likelyWithin 53 = .ok (.iaload, 1) := by decide +kernel
theorem dX10_likelyWithin_54 : decode cX10_likelyWithin 54 = .ok (.if_icmp .ge 44, 3) := by decide +kernel
theorem dX10_likelyWithin_57 : decode cX10_likelyWithin 57 = .ok (.aload_n 0, 1) := by decide +kernel
theorem dX10_likelyWithin_58 : decode cX10_likelyWithin 58 = .ok (.aload_n 0, 1) := by decide +kernel
theorem dX10_likelyWithin_59 : decode cX10_likelyWithin 59 = .ok (.getfield 19, 3) := by decide +kernel
theorem dX10_likelyWithin_62 : decode cX10_likelyWithin 62 = .ok (.iload_n 1, 1) := by decide +kernel
theorem dX10_likelyWithin_63 : decode cX10_likelyWithin 63 = .ok (.iload_n 2, 1) := by decide +kernel
theorem dX10_likelyWithin_64 : decode cX10_likelyWithin 64 = .ok (.iload 6, 2) := by decide +kernel
theorem dX10_likelyWithin_66 : decode cX10_likelyWithin 66 = .ok (.iload 5, 2) := by decide +kernel
theorem dX10_likelyWithin_68 : decode cX10_likelyWithin 68 = .ok (.invokevirtual 47, 3) := by decide +kernel
theorem dX10_likelyWithin_71 : decode cX10_likelyWithin 71 = .ok (.invokevirtual 51, 3) := by decide +kernel
theorem dX10_likelyWithin_74 : decode cX10_likelyWithin 74 = .ok (.iload 5, 2) := by decide +kernel
theorem dX10_likelyWithin_76 : decode cX10_likelyWithin 76 = .ok (.aload_n 0, 1) := by decide +kernel
theorem dX10_likelyWithin_77 : decode cX10_likelyWithin 77 = .ok (.getfield 29, 3) := by decide +kernel
theorem dX10_likelyWithin_80 : decode cX10_likelyWithin 80 = .ok (.getfield 36, 3) := by decide +kernel
theorem dX10_likelyWithin_83 : decode cX10_likelyWithin 83 = .ok (.iload_n 2, 1) := by decide +kernel
theorem dX10_likelyWithin_84 : decode cX10_likelyWithin 84 = .ok (.iload 6, 2) := by decide +kernel
theorem dX10_likelyWithin_86 : decode cX10_likelyWithin 86 = .ok (.invokevirtual 55, 3) := by decide +kernel
theorem dX10_likelyWithin_89 : decode cX10_likelyWithin 89 = .ok (.iadd, 1) := by decide +kernel
theorem dX10_likelyWithin_90 : decode cX10_likelyWithin 90 = .ok (.istore 5, 2) := by decide +kernel
theorem dX10_likelyWithin_92 : decode cX10_likelyWithin 92 = .ok (.iinc 6 1, 3) := by decide +kernel
theorem dX10_likelyWithin_95 : decode cX10_likelyWithin 95 = .ok (.goto (-55), 3) := by decide +kernel
theorem dX10_likelyWithin_98 : decode cX10_likelyWithin 98 = .ok (.iconst 0, 1) := by decide +kernel
theorem dX10_likelyWithin_99 : decode cX10_likelyWithin 99 = .ok (.istore 6, 2) := by decide +kernel
theorem dX10_likelyWithin_101 : decode cX10_likelyWithin 101 = .ok (.iconst 0, 1) := by decide +kernel
theorem dX10_likelyWithin_102 : decode cX10_likelyWithin 102 = .ok (.istore 7, 2) := by decide +kernel
theorem dX10_likelyWithin_104 : decode cX10_likelyWithin 104 = .ok (.iload 7, 2) := by decide +kernel
theorem dX10_likelyWithin_106 : decode cX10_likelyWithin 106 = .ok (.iload 4, 2) := by decide +kernel
theorem dX10_likelyWithin_108 : decode cX10_likelyWithin 108 = .ok (.if_icmp .gt 28, 3) := by decide +kernel
theorem dX10_likelyWithin_111 : decode cX10_likelyWithin 111 = .ok (.iload 7, 2) := by decide +kernel
theorem dX10_likelyWithin_113 : decode cX10_likelyWithin 113 = .ok (.bipush 9, 2) := by decide +kernel
theorem dX10_likelyWithin_115 : decode cX10_likelyWithin 115 = .ok (.if_icmp .gt 21, 3) := by decide +kernel
theorem dX10_likelyWithin_118 : decode cX10_likelyWithin 118 = .ok (.iload 6, 2) := by decide +kernel
theorem dX10_likelyWithin_120 : decode cX10_likelyWithin 120 = .ok (.aload_n 0, 1) := by decide +kernel
theorem dX10_likelyWithin_121 : decode cX10_likelyWithin 121 = .ok (.getfield 9, 3) := by decide +kernel
theorem dX10_likelyWithin_124 : decode cX10_likelyWithin 124 = .ok (.iload 7, 2) := by decide +kernel
theorem dX10_likelyWithin_126 : decode cX10_likelyWithin 126 = .ok (.iaload, 1) := by decide +kernel
theorem dX10_likelyWithin_127 : decode cX10_likelyWithin 127 = .ok (.iadd, 1) := by decide +kernel
theorem dX10_likelyWithin_128 : decode cX10_likelyWithin 128 = .ok (.istore 6, 2) := by decide +kernel
theorem dX10_likelyWithin_130 : decode cX10_likelyWithin 130 = .ok (.iinc 7 1, 3) := by decide +kernel
theorem dX10_likelyWithin_133 : decode cX10_likelyWithin 133 = .ok (.goto (-29), 3) := by decide +kernel
theorem dX10_likelyWithin_136 : decode cX10_likelyWithin 136 = .ok (.iload 6, 2) := by decide +kernel
theorem dX10_likelyWithin_138 : decode cX10_likelyWithin 138 = .ok (.ireturn, 1) := by decide +kernel
theorem bX10_likelyWithin_104 {l : Launch} {g : jm_G} {d : Nat} {v4 v6 v7 : Int} (hg : jm_HC g) {mu : jm_M} {Q : Option Value → jm_M → Prop} (h : jm_rg v7 ∧ jm_rg v4 ∧ (v4 < v7 → Q (some (jm_i v6)) mu) ∧ (v7 ≤ v4 → (9 < v7 → Q (some (jm_i v6)) mu) ∧ (v7 ≤ 9 → (0 ≤ v7 ∧ v7 < 10) ∧ ∀ x4, x4 = (v6 + (mu.1 39 v7)) → jm_V l g (d + 1) iX10_likelyWithin 104 [(0, .ref 38), (4, jm_i v4), (6, jm_i x4), (7, jm_i (v7 + 1))] [] mu Q))) : jm_V l g (d + 1) iX10_likelyWithin 104 [(0, .ref 38), (4, jm_i v4), (6, jm_i v6), (7, jm_i v7)] [] mu Q := by
  refine jm_mrI (fun hm0 => ?_)
  refine jm_iload (pc := 104) 3 dX10_likelyWithin_104 rfl ?_
  refine jm_iload (pc := 106) 1 dX10_likelyWithin_106 rfl ?_
  have hg1 := h.1
  have h := h.2
  have hg2 := h.1
  have h := h.2
  refine jm_icmp_gt (pc := 108) 136 dX10_likelyWithin_108 rfl hg1 hg2 (fun q => ?_) (fun q => ?_)
  · have h := h.1 q
    refine jm_iload (pc := 136) 2 dX10_likelyWithin_136 rfl ?_
    exact jm_iret (pc := 138) dX10_likelyWithin_138 rfl h
  · have h := h.2 q
    refine jm_iload (pc := 111) 3 dX10_likelyWithin_111 rfl ?_
    refine jm_bipush (pc := 113) dX10_likelyWithin_113 (by decide) ?_
    refine jm_icmp_gt (pc := 115) 136 dX10_likelyWithin_115 rfl hg1 ⟨by decide, by decide⟩ (fun q => ?_) (fun q => ?_)
    · have h := h.1 q
      refine jm_iload (pc := 136) 2 dX10_likelyWithin_136 rfl ?_
      exact jm_iret (pc := 138) dX10_likelyWithin_138 rfl h
    · have h := h.2 q
      refine jm_iload (pc := 118) 2 dX10_likelyWithin_118 rfl ?_
      refine jm_aload_n (pc := 120) 0 dX10_likelyWithin_120 rfl ?_
      refine jm_getr (pc := 121) 3 dX10_likelyWithin_121 fX10_9 (cC38 hg) rfl ?_
      refine jm_iload (pc := 124) 3 dX10_likelyWithin_124 rfl ?_
      have hg3 := h.1
      have h := h.2
      refine jm_iald (pc := 126) dX10_likelyWithin_126 (cC39 hg) (by decide) hg3.1 hg3.2 ?_
      refine jm_iadd (pc := 127) dX10_likelyWithin_127 ?_
      have h := h _ rfl
      refine jm_istore (pc := 128) (lv' := [(6, _), (0, _), (4, _), (7, _)]) dX10_likelyWithin_128 (by decide) rfl ?_
      refine jm_iinc (pc := 130) (lv' := [(7, _), (6, _), (0, _), (4, _)]) 3 dX10_likelyWithin_130 rfl (by decide) rfl ?_
      refine jm_goto (pc := 133) 104 dX10_likelyWithin_133 rfl ?_
      exact jm_sub [2, 3, 1, 0] rfl h
theorem bX10_likelyWithin_40 {l : Launch} {g : jm_G} {d : Nat} {v1 v2 v4 v5 v6 : Int} (hg : jm_HC g) {mu : jm_M} {Q : Option Value → jm_M → Prop} (h : (0 ≤ v2 ∧ v2 < 24) ∧ jm_rg v6 ∧ ((mu.1 13 v2) ≤ v6 → jm_V l g (d + 1) iX10_likelyWithin 104 [(0, .ref 38), (4, jm_i v4), (6, jm_i 0), (7, jm_i 0)] [] mu Q) ∧ (v6 < (mu.1 13 v2) → jm_R l g d iX0_slipOf [.ref 35, jm_i v1, jm_i v2, jm_i v6, jm_i v5] mu (jm_qi fun z4 m3 => jm_R l g d iX10_addChance [.ref 38, jm_i z4] m3 (jm_qv fun m7 => jm_R l g d iX5_stepOf [.ref 12, jm_i v2, jm_i v6] m7 (jm_qi fun z12 m11 => ∀ x15, x15 = (v5 + z12) → jm_V l g (d + 1) iX10_likelyWithin 40 [(0, .ref 38), (1, jm_i v1), (2, jm_i v2), (4, jm_i v4), (5, jm_i x15), (6, jm_i (v6 + 1))] [] m11 Q))))) : jm_V l g (d + 1) iX10_likelyWithin 40 [(0, .ref 38), (1, jm_i v1), (2, jm_i v2), (4, jm_i v4), (5, jm_i v5), (6, jm_i v6)] [] mu Q := by
  refine jm_mrI (fun hm0 => ?_)
  refine jm_iload (pc := 40) 5 dX10_likelyWithin_40 rfl ?_
  refine jm_aload_n (pc := 42) 0 dX10_likelyWithin_42 rfl ?_
  refine jm_getr (pc := 43) 1 dX10_likelyWithin_43 fX10_29 (cC38 hg) rfl ?_
  refine jm_getr (pc := 46) 10 dX10_likelyWithin_46 fX10_36 (cC6 hg) rfl ?_
  refine jm_getr (pc := 49) 1 dX10_likelyWithin_49 fX10_42 (cC12 hg) rfl ?_
  refine jm_iload_n (pc := 52) 2 dX10_likelyWithin_52 rfl ?_
  have hg1 := h.1
  have h := h.2
  refine jm_iald (pc := 53) dX10_likelyWithin_53 (cC13 hg) (by decide) hg1.1 hg1.2 ?_
  have hg2 := h.1
  have h := h.2
  refine jm_icmp_ge (pc := 54) 98 dX10_likelyWithin_54 rfl hg2 (hm0 _ _) (fun q => ?_) (fun q => ?_)
  · have h := h.1 q
    refine jm_iconst (pc := 98) dX10_likelyWithin_98 ?_
    refine jm_istore (pc := 99) (lv' := [(6, _), (0, _), (1, _), (2, _), (4, _), (5, _)]) dX10_likelyWithin_99 (by decide) rfl ?_
    refine jm_iconst (pc := 101) dX10_likelyWithin_101 ?_
    refine jm_istore (pc := 102) (lv' := [(7, _), (6, _), (0, _), (1, _), (2, _), (4, _), (5, _)]) dX10_likelyWithin_102 (by decide) rfl ?_
    exact jm_sub [2, 5, 1, 0] rfl h
  · have h := h.2 q
    refine jm_aload_n (pc := 57) 0 dX10_likelyWithin_57 rfl ?_
    refine jm_aload_n (pc := 58) 0 dX10_likelyWithin_58 rfl ?_
    refine jm_getr (pc := 59) 0 dX10_likelyWithin_59 fX10_19 (cC38 hg) rfl ?_
    refine jm_iload_n (pc := 62) 1 dX10_likelyWithin_62 rfl ?_
    refine jm_iload_n (pc := 63) 2 dX10_likelyWithin_63 rfl ?_
    refine jm_iload (pc := 64) 5 dX10_likelyWithin_64 rfl ?_
    refine jm_iload (pc := 66) 4 dX10_likelyWithin_66 rfl ?_
    refine jm_callvi (pc := 68) (As := [_, _, _, _]) (st := [_]) iX0_slipOf dX10_likelyWithin_68 mX10_47 (cC35 hg) ⟨_, rfl, rfl⟩ rfl rfl (Nat.le_of_ble_eq_true rfl) h (fun z4 m3 hz5 h hm6 => ?_)
    refine jm_callvv (pc := 71) (As := [_]) (st := []) iX10_addChance dX10_likelyWithin_71 mX10_51 (cC38 hg) ⟨_, rfl, rfl⟩ rfl rfl (Nat.le_of_ble_eq_true rfl) h (fun m7 h hm10 => ?_)
    refine jm_iload (pc := 74) 4 dX10_likelyWithin_74 rfl ?_
    refine jm_aload_n (pc := 76) 0 dX10_likelyWithin_76 rfl ?_
    refine jm_getr (pc := 77) 1 dX10_likelyWithin_77 fX10_29 (cC38 hg) rfl ?_
    refine jm_getr (pc := 80) 10 dX10_likelyWithin_80 fX10_36 (cC6 hg) rfl ?_
    refine jm_iload_n (pc := 83) 2 dX10_likelyWithin_83 rfl ?_
    refine jm_iload (pc := 84) 5 dX10_likelyWithin_84 rfl ?_
    refine jm_callvi (pc := 86) (As := [_, _]) (st := [_]) iX5_stepOf dX10_likelyWithin_86 mX10_55 (cC12 hg) ⟨_, rfl, rfl⟩ rfl rfl (Nat.le_of_ble_eq_true rfl) h (fun z12 m11 hz13 h hm14 => ?_)
    refine jm_iadd (pc := 89) dX10_likelyWithin_89 ?_
    have h := h _ rfl
    refine jm_istore (pc := 90) (lv' := [(5, _), (0, _), (1, _), (2, _), (4, _), (6, _)]) dX10_likelyWithin_90 (by decide) rfl ?_
    refine jm_iinc (pc := 92) (lv' := [(6, _), (5, _), (0, _), (1, _), (2, _), (4, _)]) 5 dX10_likelyWithin_92 rfl (by decide) rfl ?_
    refine jm_goto (pc := 95) 40 dX10_likelyWithin_95 rfl ?_
    exact jm_sub [2, 3, 4, 5, 1, 0] rfl h
theorem bX10_likelyWithin_3 {l : Launch} {g : jm_G} {d : Nat} {v1 v2 v3 v4 v5 : Int} (hg : jm_HC g) {mu : jm_M} {Q : Option Value → jm_M → Prop} (h : jm_rg v5 ∧ (9 < v5 → ∀ m2, m2 = jm_wr mu 39 0 1000000 → ∀ x4, x4 = (v3 + 1) → jm_V l g (d + 1) iX10_likelyWithin 40 [(0, .ref 38), (1, jm_i v1), (2, jm_i v2), (4, jm_i v4), (5, jm_i x4), (6, jm_i 0)] [] m2 Q) ∧ (v5 ≤ 9 → (0 ≤ v5 ∧ v5 < 10) ∧ ∀ m6, m6 = jm_wr mu 39 v5 0 → jm_V l g (d + 1) iX10_likelyWithin 3 [(0, .ref 38), (1, jm_i v1), (2, jm_i v2), (3, jm_i v3), (4, jm_i v4), (5, jm_i (v5 + 1))] [] m6 Q)) : jm_V l g (d + 1) iX10_likelyWithin 3 [(0, .ref 38), (1, jm_i v1), (2, jm_i v2), (3, jm_i v3), (4, jm_i v4), (5, jm_i v5)] [] mu Q := by
  refine jm_mrI (fun hm0 => ?_)
  refine jm_iload (pc := 3) 5 dX10_likelyWithin_3 rfl ?_
  refine jm_bipush (pc := 5) dX10_likelyWithin_5 (by decide) ?_
  have hg1 := h.1
  have h := h.2
  refine jm_icmp_gt (pc := 7) 24 dX10_likelyWithin_7 rfl hg1 ⟨by decide, by decide⟩ (fun q => ?_) (fun q => ?_)
  · have h := h.1 q
    refine jm_aload_n (pc := 24) 0 dX10_likelyWithin_24 rfl ?_
    refine jm_getr (pc := 25) 3 dX10_likelyWithin_25 fX10_9 (cC38 hg) rfl ?_
    refine jm_iconst (pc := 28) dX10_likelyWithin_28 ?_
    refine jm_ldc (pc := 29) 1000000 dX10_likelyWithin_29 kX10_35 (by decide) ?_
    refine jm_iast (pc := 31) dX10_likelyWithin_31 (cC39 hg) (by decide) (by decide) (by decide) ⟨by decide, by decide⟩ ?_
    have h := h _ rfl
    refine jm_mrI (fun hm3 => ?_)
    refine jm_iload_n (pc := 32) 3 dX10_likelyWithin_32 rfl ?_
    refine jm_iconst (pc := 33) dX10_likelyWithin_33 ?_
    refine jm_iadd (pc := 34) dX10_likelyWithin_34 ?_
    have h := h _ rfl
    refine jm_istore (pc := 35) (lv' := [(5, _), (0, _), (1, _), (2, _), (3, _), (4, _)]) dX10_likelyWithin_35 (by decide) rfl ?_
    refine jm_iconst (pc := 37) dX10_likelyWithin_37 ?_
    refine jm_istore (pc := 38) (lv' := [(6, _), (5, _), (0, _), (1, _), (2, _), (3, _), (4, _)]) dX10_likelyWithin_38 (by decide) rfl ?_
    exact jm_sub [2, 3, 4, 6, 1, 0] rfl h
  · have h := h.2 q
    refine jm_aload_n (pc := 10) 0 dX10_likelyWithin_10 rfl ?_
    refine jm_getr (pc := 11) 3 dX10_likelyWithin_11 fX10_9 (cC38 hg) rfl ?_
    refine jm_iload (pc := 14) 5 dX10_likelyWithin_14 rfl ?_
    refine jm_iconst (pc := 16) dX10_likelyWithin_16 ?_
    have hg5 := h.1
    have h := h.2
    refine jm_iast (pc := 17) dX10_likelyWithin_17 (cC39 hg) (by decide) hg5.1 hg5.2 ⟨by decide, by decide⟩ ?_
    have h := h _ rfl
    refine jm_mrI (fun hm7 => ?_)
    refine jm_iinc (pc := 18) (lv' := [(5, _), (0, _), (1, _), (2, _), (3, _), (4, _)]) 5 dX10_likelyWithin_18 rfl (by decide) rfl ?_
    refine jm_goto (pc := 21) 3 dX10_likelyWithin_21 rfl ?_
    exact jm_sub [1, 2, 3, 4, 5, 0] rfl h
theorem eX10_likelyWithin {l : Launch} {g : jm_G} {d : Nat} {v1 v2 v3 v4 : Int} (hg : jm_HC g) {mu : jm_M} {Q : Option Value → jm_M → Prop} (h : jm_V l g (d + 1) iX10_likelyWithin 3 [(0, .ref 38), (1, jm_i v1), (2, jm_i v2), (3, jm_i v3), (4, jm_i v4), (5, jm_i 0)] [] mu Q) : jm_R l g (d + 1) iX10_likelyWithin [.ref 38, jm_i v1, jm_i v2, jm_i v3, jm_i v4] mu Q := by
  refine jm_enter [(0, .ref 38), (1, jm_i v1), (2, jm_i v2), (3, jm_i v3), (4, jm_i v4)] (by decide) (Nat.le_of_ble_eq_true rfl) rfl ?_
  refine jm_mrI (fun hm0 => ?_)
  refine jm_iconst (pc := 0) dX10_likelyWithin_0 ?_
  refine jm_istore (pc := 1) (lv' := [(5, _), (0, _), (1, _), (2, _), (3, _), (4, _)]) dX10_likelyWithin_1 (by decide) rfl ?_
  exact jm_sub [1, 2, 3, 4, 5, 0] rfl h
theorem dX11_fair_0 : decode cX11_fair 0 = .ok (.aload_n 0, 1) := by decide +kernel
theorem dX11_fair_1 : decode cX11_fair 1 = .ok (.getfield 35, 3) := by decide +kernel
theorem dX11_fair_4 : decode cX11_fair 4 = .ok (.iload_n 1, 1) := by decide +kernel
theorem dX11_fair_5 : decode cX11_fair 5 = .ok (.iload_n 2, 1) := by decide +kernel
theorem dX11_fair_6 : decode cX11_fair 6 = .ok (.invokevirtual 284, 3) := by decide +kernel
theorem dX11_fair_9 : decode cX11_fair 9 = .ok (.istore 5, 2) := by decide +kernel
theorem dX11_fair_11 : decode cX11_fair 11 = .ok (.iload 4, 2) := by decide +kernel
theorem dX11_fair_13 : decode cX11_fair 13 = .ok (.iconst 0, 1) := by decide +kernel
theorem dX11_fair_14 : decode cX11_fair 14 = .ok (.bipush 9, 2) := by decide +kernel
theorem dX11_fair_16 : decode cX11_fair 16 = .ok (.invokestatic 123, 3) := by decide +kernel
theorem dX11_fair_19 : decode cX11_fair 19 = .ok (.ifCond .eq 17, 3) := by decide +kernel
theorem dX11_fair_22 : decode cX11_fair 22 = .ok (.aload_n 0, 1) := by decide +kernel
theorem dX11_fair_23 : decode cX11_fair 23 = .ok (.getfield 35, 3) := by decide +kernel
theorem dX11_fair_26 : decode cX11_fair 26 = .ok (.iload_n 1, 1) := by decide +kernel
theorem dX11_fair_27 : decode cX11_fair 27 = .ok (.iload 5, 2) := by decide +kernel
theorem dX11_fair_29 : decode cX11_fair 29 = .ok (.iload_n 3, 1) := by decide +kernel
theorem dX11_fair_30 : decode cX11_fair 30 = .ok (.invokevirtual 296, 3) := by decide +kernel
theorem dX11_fair_33 : decode cX11_fair 33 = .ok (.ifCond .ne 5, 3) := by decide +kernel
theorem dX11_fair_36 : decode cX11_fair 36 = .ok (.iconst (-1), 1) := by decide +kernel
theorem dX11_fair_37 : decode cX11_fair 37 = .ok (.ireturn, 1) := by decide +kernel
theorem dX11_fair_38 : decode cX11_fair 38 = .ok (.aload_n 0, 1) := by decide +kernel
theorem dX11_fair_39 : decode cX11_fair 39 = .ok (.getfield 51, 3) := by decide +kernel
theorem dX11_fair_42 : decode cX11_fair 42 = .ok (.iload_n 1, 1) := by decide +kernel
theorem dX11_fair_43 : decode cX11_fair 43 = .ok (.iload 5, 2) := by decide +kernel
theorem dX11_fair_45 : decode cX11_fair 45 = .ok (.iload_n 3, 1) := by decide +kernel
theorem dX11_fair_46 : decode cX11_fair 46 = .ok (.iload 4, 2) := by decide +kernel
theorem dX11_fair_48 : decode cX11_fair 48 = .ok (.invokevirtual 299, 3) := by decide +kernel
theorem dX11_fair_51 : decode cX11_fair 51 = .ok (.ireturn, 1) := by decide +kernel
theorem eX11_fair {l : Launch} {g : jm_G} {d : Nat} {v1 v2 v3 v4 : Int} (hg : jm_HC g) {mu : jm_M} {Q : Option Value → jm_M → Prop} (h : jm_R l g (d + 1) iX0_motiveOf [.ref 35, jm_i v1, jm_i v2] mu (jm_qi fun z2 m1 => jm_rg v4 ∧ (0 ≤ v4 ∧ v4 ≤ 9 → jm_R l g (d + 1) iX0_canSing [.ref 35, jm_i v1, jm_i z2, jm_i v3] m1 (jm_qi fun z7 m6 => (¬ z7 = 0 → jm_R l g (d + 1) iX10_likelyWithin [.ref 38, jm_i v1, jm_i z2, jm_i v3, jm_i v4] m6 (jm_qi fun z11 m10 => Q (some (jm_i z11)) m10)) ∧ (z7 = 0 → Q (some (jm_i (-1))) m6))) ∧ (¬ (0 ≤ v4 ∧ v4 ≤ 9) → Q (some (jm_i (-1))) m1))) : jm_R l g (d + 2) iX11_fair [.ref 0, jm_i v1, jm_i v2, jm_i v3, jm_i v4] mu Q := by
  refine jm_enter [(0, .ref 0), (1, jm_i v1), (2, jm_i v2), (3, jm_i v3), (4, jm_i v4)] (by decide) (Nat.le_of_ble_eq_true rfl) rfl ?_
  refine jm_mrI (fun hm0 => ?_)
  refine jm_aload_n (pc := 0) 0 dX11_fair_0 rfl ?_
  refine jm_getr (pc := 1) 3 dX11_fair_1 fX11_35 (cC0 hg) rfl ?_
  refine jm_iload_n (pc := 4) 1 dX11_fair_4 rfl ?_
  refine jm_iload_n (pc := 5) 2 dX11_fair_5 rfl ?_
  refine jm_callvi (pc := 6) (As := [_, _]) (st := []) iX0_motiveOf dX11_fair_6 mX11_284 (cC35 hg) ⟨_, rfl, rfl⟩ rfl rfl (Nat.le_of_ble_eq_true rfl) h (fun z2 m1 hz3 h hm4 => ?_)
  refine jm_istore (pc := 9) (lv' := [(5, _), (0, _), (1, _), (2, _), (3, _), (4, _)]) dX11_fair_9 (by decide) rfl ?_
  refine jm_iload (pc := 11) 5 dX11_fair_11 rfl ?_
  refine jm_iconst (pc := 13) dX11_fair_13 ?_
  refine jm_bipush (pc := 14) dX11_fair_14 (by decide) ?_
  have hg5 := h.1
  have h := h.2
  refine jm_inlsi (pc := 16) (As := [_, _, _]) (st := []) iX11_isWithin dX11_fair_16 mX11_123 rfl rfl (Nat.le_of_ble_eq_true rfl) (pX11_isWithin hg hg5 ⟨by decide, by decide⟩ ⟨by decide, by decide⟩ (fun q => jm_kIi ?_) (fun q => jm_kIi ?_))
  · have h := h.1 q
    refine jm_if_eq (pc := 19) 36 dX11_fair_19 rfl ⟨by decide, by decide⟩ (fun q => absurd q (by decide)) (fun q => ?_)
    refine jm_aload_n (pc := 22) 1 dX11_fair_22 rfl ?_
    refine jm_getr (pc := 23) 3 dX11_fair_23 fX11_35 (cC0 hg) rfl ?_
    refine jm_iload_n (pc := 26) 2 dX11_fair_26 rfl ?_
    refine jm_iload (pc := 27) 0 dX11_fair_27 rfl ?_
    refine jm_iload_n (pc := 29) 4 dX11_fair_29 rfl ?_
    refine jm_callvi (pc := 30) (As := [_, _, _]) (st := []) iX0_canSing dX11_fair_30 mX11_296 (cC35 hg) ⟨_, rfl, rfl⟩ rfl rfl (Nat.le_of_ble_eq_true rfl) h (fun z7 m6 hz8 h hm9 => ?_)
    refine jm_if_ne (pc := 33) 38 dX11_fair_33 rfl hz8 (fun q => ?_) (fun q => ?_)
    · have h := h.1 q
      refine jm_aload_n (pc := 38) 1 dX11_fair_38 rfl ?_
      refine jm_getr (pc := 39) 5 dX11_fair_39 fX11_51 (cC0 hg) rfl ?_
      refine jm_iload_n (pc := 42) 2 dX11_fair_42 rfl ?_
      refine jm_iload (pc := 43) 0 dX11_fair_43 rfl ?_
      refine jm_iload_n (pc := 45) 4 dX11_fair_45 rfl ?_
      refine jm_iload (pc := 46) 5 dX11_fair_46 rfl ?_
      refine jm_callvi (pc := 48) (As := [_, _, _, _]) (st := []) iX10_likelyWithin dX11_fair_48 mX11_299 (cC38 hg) ⟨_, rfl, rfl⟩ rfl rfl (Nat.le_of_ble_eq_true rfl) h (fun z11 m10 hz12 h hm13 => ?_)
      exact jm_iret (pc := 51) dX11_fair_51 rfl h
    · have h := h.2 q
      refine jm_iconst (pc := 36) dX11_fair_36 ?_
      exact jm_iret (pc := 37) dX11_fair_37 rfl h
  · have h := h.2 q
    refine jm_if_eq (pc := 19) 36 dX11_fair_19 rfl ⟨by decide, by decide⟩ (fun q => ?_) (fun q => absurd q (by decide))
    refine jm_iconst (pc := 36) dX11_fair_36 ?_
    exact jm_iret (pc := 37) dX11_fair_37 rfl h
theorem dX11_heard_0 : decode cX11_heard 0 = .ok (.iload_n 1, 1) := by decide +kernel
theorem dX11_heard_1 : decode cX11_heard 1 = .ok (.ifCond .ne 13, 3) := by decide +kernel
theorem dX11_heard_4 : decode cX11_heard 4 = .ok (.aload_n 0, 1) := by decide +kernel
theorem dX11_heard_5 : decode cX11_heard 5 = .ok (.getfield 19, 3) := by decide +kernel
theorem dX11_heard_8 : decode cX11_heard 8 = .ok (.iconst 0, 1) := by decide +kernel
theorem dX11_heard_9 : decode cX11_heard 9 = .ok (.putfield 303, 3) := by decide +kernel
theorem dX11_heard_12 : decode cX11_heard 12 = .ok (.iconst 0, 1) := by decide +kernel
theorem dX11_heard_13 : decode cX11_heard 13 = .ok (.ireturn, 1) := by decide +kernel
theorem dX11_heard_14 : decode cX11_heard 14 = .ok (.iload_n 1, 1) := by decide +kernel
theorem dX11_heard_15 : decode cX11_heard 15 = .ok (.invokestatic 119, 3) := by decide +kernel
theorem dX11_heard_18 : decode cX11_heard 18 = .ok (.ifCond .eq 15, 3) := by decide +kernel
theorem dX11_heard_21 : decode cX11_heard 21 = .ok (.aload_n 0, 1) := by decide +kernel
theorem dX11_heard_22 : decode cX11_heard 22 = .ok (.getfield 19, 3) := by decide +kernel
theorem dX11_heard_25 : decode cX11_heard 25 = .ok (.getfield 303, 3) := by decide +kernel
theorem dX11_heard_28 : decode cX11_heard 28 = .ok (.bipush 12, 2) := by decide +kernel
theorem dX11_heard_30 : decode cX11_heard 30 = .ok (.if_icmp .lt 5, 3) := by decide +kernel
theorem dX11_heard_33 : decode cX11_heard 33 = .ok (.iconst (-1), 1) := by decide +kernel
theorem dX11_heard_34 : decode cX11_heard 34 = .ok (.ireturn, 1) := by decide +kernel
theorem dX11_heard_35 : decode cX11_heard 35 = .ok (.aload_n 0, 1) := by decide +kernel
theorem dX11_heard_36 : decode cX11_heard 36 = .ok (.getfield 19, 3) := by decide +kernel
theorem dX11_heard_39 : decode cX11_heard 39 = .ok (.getfield 306, 3) := by decide +kernel
theorem dX11_heard_42 : decode cX11_heard 42 = .ok (.aload_n 0, 1) := by decide +kernel
theorem dX11_heard_43 : decode cX11_heard 43 = .ok (.getfield 19, 3) := by decide +kernel
theorem dX11_heard_46 : decode cX11_heard 46 = .ok (.getfield 303, 3) := by decide +kernel
theorem dX11_heard_49 : decode cX11_heard 49 = .ok (.iload_n 1, 1) := by decide +kernel
theorem dX11_heard_50 : decode cX11_heard 50 = .ok (.iastore, 1) := by decide +kernel
theorem dX11_heard_51 : decode cX11_heard 51 = .ok (.aload_n 0, 1) := by decide +kernel
theorem dX11_heard_52 : decode cX11_heard 52 = .ok (.getfield 19, 3) := by decide +kernel
theorem dX11_heard_55 : decode cX11_heard 55 = .ok (.dup, 1) := by decide +kernel
theorem dX11_heard_56 : decode cX11_heard 56 = .ok (.getfield 303, 3) := by decide +kernel
theorem dX11_heard_59 : decode cX11_heard 59 = .ok (.iconst 1, 1) := by decide +kernel
theorem dX11_heard_60 : decode cX11_heard 60 = .ok (.iadd, 1) := by decide +kernel
theorem dX11_heard_61 : decode cX11_heard 61 = .ok (.putfield 303, 3) := by decide +kernel
theorem dX11_heard_64 : decode cX11_heard 64 = .ok (.aload_n 0, 1) := by decide +kernel
theorem dX11_heard_65 : decode cX11_heard 65 = .ok (.getfield 19, 3) := by decide +kernel
theorem dX11_heard_68 : decode cX11_heard 68 = .ok (.getfield 303, 3) := by decide +kernel
theorem dX11_heard_71 : decode cX11_heard 71 = .ok (.ireturn, 1) := by decide +kernel
theorem eX11_heard {l : Launch} {g : jm_G} {d : Nat} {v1 : Int} (hg : jm_HC g) {mu : jm_M} {Q : Option Value → jm_M → Prop} (h : jm_rg v1 ∧ (¬ v1 = 0 → ((1 ≤ v1 ∧ v1 ≤ 60) → ((mu.1 6 8) < 12 → (0 ≤ (mu.1 6 8) ∧ (mu.1 6 8) < 12) ∧ ∀ m3, m3 = jm_wr mu 11 (mu.1 6 8) v1 → jm_rg ((m3.1 6 8) + 1) ∧ ∀ m6, m6 = jm_wr m3 6 8 ((m3.1 6 8) + 1) → Q (some (jm_i (m6.1 6 8))) m6) ∧ (12 ≤ (mu.1 6 8) → Q (some (jm_i (-1))) mu)) ∧ (¬ ((1 ≤ v1 ∧ v1 ≤ 60)) → Q (some (jm_i (-1))) mu)) ∧ (v1 = 0 → ∀ m8, m8 = jm_wr mu 6 8 0 → Q (some (jm_i 0)) m8)) : jm_R l g (d + 3) iX11_heard [.ref 0, jm_i v1] mu Q := by
  refine jm_enter [(0, .ref 0), (1, jm_i v1)] (by decide) (Nat.le_of_ble_eq_true rfl) rfl ?_
  refine jm_mrI (fun hm0 => ?_)
  refine jm_iload_n (pc := 0) 1 dX11_heard_0 rfl ?_
  have hg1 := h.1
  have h := h.2
  refine jm_if_ne (pc := 1) 14 dX11_heard_1 rfl hg1 (fun q => ?_) (fun q => ?_)
  · have h := h.1 q
    refine jm_iload_n (pc := 14) 1 dX11_heard_14 rfl ?_
    refine jm_inlsi (pc := 15) (As := [_]) (st := []) iX11_isNote dX11_heard_15 mX11_119 rfl rfl (Nat.le_of_ble_eq_true rfl) (pX11_isNote hg hg1 (fun q => jm_kIi ?_) (fun q => jm_kIi ?_))
    · have h := h.1 q
      refine jm_if_eq (pc := 18) 33 dX11_heard_18 rfl ⟨by decide, by decide⟩ (fun q => absurd q (by decide)) (fun q => ?_)
      refine jm_aload_n (pc := 21) 0 dX11_heard_21 rfl ?_
      refine jm_getr (pc := 22) 1 dX11_heard_22 fX11_19 (cC0 hg) rfl ?_
      refine jm_geti (pc := 25) 8 dX11_heard_25 fX11_303 (cC6 hg) rfl ?_
      refine jm_bipush (pc := 28) dX11_heard_28 (by decide) ?_
      refine jm_icmp_lt (pc := 30) 35 dX11_heard_30 rfl (hm0 _ _) ⟨by decide, by decide⟩ (fun q => ?_) (fun q => ?_)
      · have h := h.1 q
        refine jm_aload_n (pc := 35) 0 dX11_heard_35 rfl ?_
        refine jm_getr (pc := 36) 1 dX11_heard_36 fX11_19 (cC0 hg) rfl ?_
        refine jm_getr (pc := 39) 9 dX11_heard_39 fX11_306 (cC6 hg) rfl ?_
        refine jm_aload_n (pc := 42) 0 dX11_heard_42 rfl ?_
        refine jm_getr (pc := 43) 1 dX11_heard_43 fX11_19 (cC0 hg) rfl ?_
        refine jm_geti (pc := 46) 8 dX11_heard_46 fX11_303 (cC6 hg) rfl ?_
        refine jm_iload_n (pc := 49) 1 dX11_heard_49 rfl ?_
        have hg2 := h.1
        have h := h.2
        refine jm_iast (pc := 50) dX11_heard_50 (cC11 hg) (by decide) hg2.1 hg2.2 hg1 ?_
        have h := h _ rfl
        refine jm_mrI (fun hm4 => ?_)
        refine jm_aload_n (pc := 51) 0 dX11_heard_51 rfl ?_
        refine jm_getr (pc := 52) 1 dX11_heard_52 fX11_19 (cC0 hg) rfl ?_
        refine jm_dup (pc := 55) _ dX11_heard_55 rfl ?_
        refine jm_geti (pc := 56) 8 dX11_heard_56 fX11_303 (cC6 hg) rfl ?_
        refine jm_iconst (pc := 59) dX11_heard_59 ?_
        refine jm_iadd (pc := 60) dX11_heard_60 ?_
        have hg5 := h.1
        have h := h.2
        refine jm_put (pc := 61) 8 dX11_heard_61 fX11_303 ftX8 (fun q h => by cases h; rfl) (jm_nI _) (jm_fI _) (cC6 hg) rfl hg5 ?_
        have h := h _ rfl
        refine jm_mrI (fun hm7 => ?_)
        refine jm_aload_n (pc := 64) 0 dX11_heard_64 rfl ?_
        refine jm_getr (pc := 65) 1 dX11_heard_65 fX11_19 (cC0 hg) rfl ?_
        refine jm_geti (pc := 68) 8 dX11_heard_68 fX11_303 (cC6 hg) rfl ?_
        exact jm_iret (pc := 71) dX11_heard_71 rfl h
      · have h := h.2 q
        refine jm_iconst (pc := 33) dX11_heard_33 ?_
        exact jm_iret (pc := 34) dX11_heard_34 rfl h
    · have h := h.2 q
      refine jm_if_eq (pc := 18) 33 dX11_heard_18 rfl ⟨by decide, by decide⟩ (fun q => ?_) (fun q => absurd q (by decide))
      refine jm_iconst (pc := 33) dX11_heard_33 ?_
      exact jm_iret (pc := 34) dX11_heard_34 rfl h
  · have h := h.2 q
    refine jm_aload_n (pc := 4) 0 dX11_heard_4 rfl ?_
    refine jm_getr (pc := 5) 1 dX11_heard_5 fX11_19 (cC0 hg) rfl ?_
    refine jm_iconst (pc := 8) dX11_heard_8 ?_
    refine jm_put (pc := 9) 8 dX11_heard_9 fX11_303 ftX8 (fun q h => by cases h; rfl) (jm_nI _) (jm_fI _) (cC6 hg) rfl ⟨by decide, by decide⟩ ?_
    have h := h _ rfl
    refine jm_mrI (fun hm9 => ?_)
    refine jm_iconst (pc := 12) dX11_heard_12 ?_
    exact jm_iret (pc := 13) dX11_heard_13 rfl h
theorem dX10_unlikeFrom_0 : decode cX10_unlikeFrom 0 = .ok (.iconst 0, 1) := by decide +kernel
theorem dX10_unlikeFrom_1 : decode cX10_unlikeFrom 1 = .ok (.istore_n 3, 1) := by decide +kernel
theorem dX10_unlikeFrom_2 : decode cX10_unlikeFrom 2 = .ok (.iload_n 2, 1) := by decide +kernel
theorem dX10_unlikeFrom_3 : decode cX10_unlikeFrom 3 = .ok (.iconst 1, 1) := by decide +kernel
theorem dX10_unlikeFrom_4 : decode cX10_unlikeFrom 4 = .ok (.iadd, 1) := by decide +kernel
theorem dX10_unlikeFrom_5 : decode cX10_unlikeFrom 5 = .ok (.istore 4, 2) := by decide +kernel
theorem dX10_unlikeFrom_7 : decode cX10_unlikeFrom 7 = .ok (.iconst 0, 1) := by decide +kernel
theorem dX10_unlikeFrom_8 : decode cX10_unlikeFrom 8 = .ok (.istore 5, 2) := by decide +kernel
theorem dX10_unlikeFrom_10 : decode cX10_unlikeFrom 10 = .ok (.iload 5, 2) := by decide +kernel
theorem dX10_unlikeFrom_12 : decode cX10_unlikeFrom 12 = .ok (.aload_n 0, 1) := by decide +kernel
theorem dX10_unlikeFrom_13 : decode cX10_unlikeFrom 13 = .ok (.getfield 29, 3) := by decide +kernel
theorem dX10_unlikeFrom_16 : decode cX10_unlikeFrom 16 = .ok (.getfield 59, 3) := by decide +kernel
theorem dX10_unlikeFrom_19 : decode cX10_unlikeFrom 19 = .ok (.if_icmp .ge 52, 3) := by decide +kernel
theorem dX10_unlikeFrom_22 : decode cX10_unlikeFrom 22 = .ok (.iload 5, 2) := by decide +kernel
theorem dX10_unlikeFrom_24 : decode cX10_unlikeFrom 24 = .ok (.bipush 12, 2) := by decide +kernel
theorem dX10_unlikeFrom_26 : decode cX10_unlikeFrom 26 = .ok (.if_icmp .ge 45, 3) := by decide +kernel
theorem dX10_unlikeFrom_29 : decode cX10_unlikeFrom 29 = .ok (.iload 4, 2) := by decide +kernel
theorem dX10_unlikeFrom_31 : decode cX10_unlikeFrom 31 = .ok (.aload_n 0, 1) := by decide +kernel
theorem dX10_unlikeFrom_32 : decode cX10_unlikeFrom 32 = .ok (.getfield 29, 3) := by decide +kernel
theorem dX10_unlikeFrom_35 : decode cX10_unlikeFrom 35 = .ok (.getfield 81, 3) := by decide +kernel
theorem dX10_unlikeFrom_38 : decode cX10_unlikeFrom 38 = .ok (.iload 5, 2) := by decide +kernel
theorem dX10_unlikeFrom_40 : decode cX10_unlikeFrom 40 = .ok (.iaload, 1) := by decide +kernel
theorem dX10_unlikeFrom_41 : decode cX10_unlikeFrom 41 = .ok (.if_icmp .eq 6, 3) := by decide +kernel
theorem dX10_unlikeFrom_44 : decode cX10_unlikeFrom 44 = .ok (.iinc 3 1, 3) := by decide +kernel
theorem dX10_unlikeFrom_47 : decode cX10_unlikeFrom 47 = .ok (.iload 4, 2) := by decide +kernel
theorem dX10_unlikeFrom_49 : decode cX10_unlikeFrom 49 = .ok (.aload_n 0, 1) := by decide +kernel
theorem dX10_unlikeFrom_50 : decode cX10_unlikeFrom 50 = .ok (.getfield 29, 3) := by decide +kernel
theorem dX10_unlikeFrom_53 : decode cX10_unlikeFrom 53 = .ok (.getfield 36, 3) := by decide +kernel
theorem dX10_unlikeFrom_56 : decode cX10_unlikeFrom 56 = .ok (.iload_n 1, 1) := by decide +kernel
theorem dX10_unlikeFrom_57 : decode cX10_unlikeFrom 57 = .ok (.iload 5, 2) := by decide +kernel
theorem dX10_unlikeFrom_59 : decode cX10_unlikeFrom 59 = .ok (.invokevirtual 55, 3) := by decide +kernel
theorem dX10_unlikeFrom_62 : decode cX10_unlikeFrom 62 = .ok (.iadd, 1) := by decide +kernel
theorem dX10_unlikeFrom_63 : decode cX10_unlikeFrom 63 = .ok (.istore 4, 2) := by decide +kernel
theorem dX10_unlikeFrom_65 : decode cX10_unlikeFrom 65 = .ok (.iinc 5 1, 3) := by decide +kernel
theorem dX10_unlikeFrom_68 : decode cX10_unlikeFrom 68 = .ok (.goto (-58), 3) := by decide +kernel
theorem dX10_unlikeFrom_71 : decode cX10_unlikeFrom 71 = .ok (.iload_n 3, 1) := by decide +kernel
theorem dX10_unlikeFrom_72 : decode cX10_unlikeFrom 72 = .ok (.ireturn, 1) := by decide +kernel
theorem bX10_unlikeFrom_47 {l : Launch} {g : jm_G} {d : Nat} {v1 v3 v4 v5 : Int} (hg : jm_HC g) {mu : jm_M} {Q : Option Value → jm_M → Prop} (h : jm_R l g d iX5_stepOf [.ref 12, jm_i v1, jm_i v5] mu (jm_qi fun z2 m1 => ∀ x5, x5 = (v4 + z2) → jm_V l g (d + 1) iX10_unlikeFrom 10 [(0, .ref 38), (1, jm_i v1), (3, jm_i v3), (4, jm_i x5), (5, jm_i (v5 + 1))] [] m1 Q)) : jm_V l g (d + 1) iX10_unlikeFrom 47 [(0, .ref 38), (1, jm_i v1), (3, jm_i v3), (4, jm_i v4), (5, jm_i v5)] [] mu Q := by
  refine jm_mrI (fun hm0 => ?_)
  refine jm_iload (pc := 47) 3 dX10_unlikeFrom_47 rfl ?_
  refine jm_aload_n (pc := 49) 0 dX10_unlikeFrom_49 rfl ?_
  refine jm_getr (pc := 50) 1 dX10_unlikeFrom_50 fX10_29 (cC38 hg) rfl ?_
  refine jm_getr (pc := 53) 10 dX10_unlikeFrom_53 fX10_36 (cC6 hg) rfl ?_
  refine jm_iload_n (pc := 56) 1 dX10_unlikeFrom_56 rfl ?_
  refine jm_iload (pc := 57) 4 dX10_unlikeFrom_57 rfl ?_
  refine jm_callvi (pc := 59) (As := [_, _]) (st := [_]) iX5_stepOf dX10_unlikeFrom_59 mX10_55 (cC12 hg) ⟨_, rfl, rfl⟩ rfl rfl (Nat.le_of_ble_eq_true rfl) h (fun z2 m1 hz3 h hm4 => ?_)
  refine jm_iadd (pc := 62) dX10_unlikeFrom_62 ?_
  have h := h _ rfl
  refine jm_istore (pc := 63) (lv' := [(4, _), (0, _), (1, _), (3, _), (5, _)]) dX10_unlikeFrom_63 (by decide) rfl ?_
  refine jm_iinc (pc := 65) (lv' := [(5, _), (4, _), (0, _), (1, _), (3, _)]) 4 dX10_unlikeFrom_65 rfl (by decide) rfl ?_
  refine jm_goto (pc := 68) 10 dX10_unlikeFrom_68 rfl ?_
  exact jm_sub [2, 3, 4, 1, 0] rfl h
theorem bX10_unlikeFrom_10 {l : Launch} {g : jm_G} {d : Nat} {v1 v3 v4 v5 : Int} (hg : jm_HC g) {mu : jm_M} {Q : Option Value → jm_M → Prop} (h : jm_rg v5 ∧ ((mu.1 6 8) ≤ v5 → Q (some (jm_i v3)) mu) ∧ (v5 < (mu.1 6 8) → (12 ≤ v5 → Q (some (jm_i v3)) mu) ∧ (v5 < 12 → (0 ≤ v5 ∧ v5 < 12) ∧ jm_rg v4 ∧ (v4 = (mu.1 11 v5) → jm_V l g (d + 1) iX10_unlikeFrom 47 [(0, .ref 38), (1, jm_i v1), (3, jm_i v3), (4, jm_i v4), (5, jm_i v5)] [] mu Q) ∧ (¬ v4 = (mu.1 11 v5) → jm_V l g (d + 1) iX10_unlikeFrom 47 [(0, .ref 38), (1, jm_i v1), (3, jm_i (v3 + 1)), (4, jm_i v4), (5, jm_i v5)] [] mu Q)))) : jm_V l g (d + 1) iX10_unlikeFrom 10 [(0, .ref 38), (1, jm_i v1), (3, jm_i v3), (4, jm_i v4), (5, jm_i v5)] [] mu Q := by
  refine jm_mrI (fun hm0 => ?_)
  refine jm_iload (pc := 10) 4 dX10_unlikeFrom_10 rfl ?_
  refine jm_aload_n (pc := 12) 0 dX10_unlikeFrom_12 rfl ?_
  refine jm_getr (pc := 13) 1 dX10_unlikeFrom_13 fX10_29 (cC38 hg) rfl ?_
  refine jm_geti (pc := 16) 8 dX10_unlikeFrom_16 fX10_59 (cC6 hg) rfl ?_
  have hg1 := h.1
  have h := h.2
  refine jm_icmp_ge (pc := 19) 71 dX10_unlikeFrom_19 rfl hg1 (hm0 _ _) (fun q => ?_) (fun q => ?_)
  · have h := h.1 q
    refine jm_iload_n (pc := 71) 2 dX10_unlikeFrom_71 rfl ?_
    exact jm_iret (pc := 72) dX10_unlikeFrom_72 rfl h
  · have h := h.2 q
    refine jm_iload (pc := 22) 4 dX10_unlikeFrom_22 rfl ?_
    refine jm_bipush (pc := 24) dX10_unlikeFrom_24 (by decide) ?_
    refine jm_icmp_ge (pc := 26) 71 dX10_unlikeFrom_26 rfl hg1 ⟨by decide, by decide⟩ (fun q => ?_) (fun q => ?_)
    · have h := h.1 q
      refine jm_iload_n (pc := 71) 2 dX10_unlikeFrom_71 rfl ?_
      exact jm_iret (pc := 72) dX10_unlikeFrom_72 rfl h
    · have h := h.2 q
      refine jm_iload (pc := 29) 3 dX10_unlikeFrom_29 rfl ?_
      refine jm_aload_n (pc := 31) 0 dX10_unlikeFrom_31 rfl ?_
      refine jm_getr (pc := 32) 1 dX10_unlikeFrom_32 fX10_29 (cC38 hg) rfl ?_
      refine jm_getr (pc := 35) 9 dX10_unlikeFrom_35 fX10_81 (cC6 hg) rfl ?_
      refine jm_iload (pc := 38) 4 dX10_unlikeFrom_38 rfl ?_
      have hg2 := h.1
      have h := h.2
      refine jm_iald (pc := 40) dX10_unlikeFrom_40 (cC11 hg) (by decide) hg2.1 hg2.2 ?_
      have hg3 := h.1
      have h := h.2
      refine jm_icmp_eq (pc := 41) 47 dX10_unlikeFrom_41 rfl hg3 (hm0 _ _) (fun q => ?_) (fun q => ?_)
      · have h := h.1 q
        exact jm_sub [0, 1, 2, 3, 4] rfl h
      · have h := h.2 q
        refine jm_iinc (pc := 44) (lv' := [(3, _), (0, _), (1, _), (4, _), (5, _)]) 2 dX10_unlikeFrom_44 rfl (by decide) rfl ?_
        exact jm_sub [1, 2, 0, 3, 4] rfl h
theorem eX10_unlikeFrom {l : Launch} {g : jm_G} {d : Nat} {v1 v2 : Int} (hg : jm_HC g) {mu : jm_M} {Q : Option Value → jm_M → Prop} (h : ∀ x1, x1 = (v2 + 1) → jm_V l g (d + 1) iX10_unlikeFrom 10 [(0, .ref 38), (1, jm_i v1), (3, jm_i 0), (4, jm_i x1), (5, jm_i 0)] [] mu Q) : jm_R l g (d + 1) iX10_unlikeFrom [.ref 38, jm_i v1, jm_i v2] mu Q := by
  refine jm_enter [(0, .ref 38), (1, jm_i v1), (2, jm_i v2)] (by decide) (Nat.le_of_ble_eq_true rfl) rfl ?_
  refine jm_mrI (fun hm0 => ?_)
  refine jm_iconst (pc := 0) dX10_unlikeFrom_0 ?_
  refine jm_istore_n (pc := 1) (lv' := [(3, _), (0, _), (1, _), (2, _)]) dX10_unlikeFrom_1 (by decide) rfl ?_
  refine jm_iload_n (pc := 2) 3 dX10_unlikeFrom_2 rfl ?_
  refine jm_iconst (pc := 3) dX10_unlikeFrom_3 ?_
  refine jm_iadd (pc := 4) dX10_unlikeFrom_4 ?_
  have h := h _ rfl
  refine jm_istore (pc := 5) (lv' := [(4, _), (3, _), (0, _), (1, _), (2, _)]) dX10_unlikeFrom_5 (by decide) rfl ?_
  refine jm_iconst (pc := 7) dX10_unlikeFrom_7 ?_
  refine jm_istore (pc := 8) (lv' := [(5, _), (4, _), (3, _), (0, _), (1, _), (2, _)]) dX10_unlikeFrom_8 (by decide) rfl ?_
  exact jm_sub [3, 4, 2, 1, 0] rfl h
theorem dX10_fewestUnlike_0 : decode cX10_fewestUnlike 0 = .ok (.bipush 10, 2) := by decide +kernel
theorem dX10_fewestUnlike_2 : decode cX10_fewestUnlike 2 = .ok (.istore_n 2, 1) := by decide +kernel
theorem dX10_fewestUnlike_3 : decode cX10_fewestUnlike 3 = .ok (.bipush 59, 2) := by decide +kernel
theorem dX10_fewestUnlike_5 : decode cX10_fewestUnlike 5 = .ok (.aload_n 0, 1) := by decide +kernel
theorem dX10_fewestUnlike_6 : decode cX10_fewestUnlike 6 = .ok (.getfield 29, 3) := by decide +kernel
theorem dX10_fewestUnlike_9 : decode cX10_fewestUnlike 9 = .ok (.getfield 36, 3) := by decide +kernel
theorem dX10_fewestUnlike_12 : decode cX10_fewestUnlike 12 = .ok (.iload_n 1, 1) := by decide +kernel
theorem dX10_fewestUnlike_13 : decode cX10_fewestUnlike 13 = .ok (.invokevirtual 67, 3) := by decide +kernel
theorem dX10_fewestUnlike_16 : decode cX10_fewestUnlike 16 = .ok (.isub, 1) := by decide +kernel
theorem dX10_fewestUnlike_17 : decode cX10_fewestUnlike 17 = .ok (.istore_n 3, 1) := by decide +kernel
theorem dX10_fewestUnlike_18 : decode cX10_fewestUnlike 18 = .ok (.aload_n 0, 1) := by decide +kernel
theorem dX10_fewestUnlike_19 : decode cX10_fewestUnlike 19 = .ok (.getfield 29, 3) := by decide +kernel
theorem dX10_fewestUnlike_22 : decode cX10_fewestUnlike 22 = .ok (.getfield 36, 3) := by decide +kernel
theorem dX10_fewestUnlike_25 : decode cX10_fewestUnlike 25 = .ok (.iload_n 1, 1) := by decide +kernel
theorem dX10_fewestUnlike_26 : decode cX10_fewestUnlike 26 = .ok (.invokevirtual 70, 3) := by decide +kernel
theorem dX10_fewestUnlike_29 : decode cX10_fewestUnlike 29 = .ok (.istore 4, 2) := by decide +kernel
theorem dX10_fewestUnlike_31 : decode cX10_fewestUnlike 31 = .ok (.iload 4, 2) := by decide +kernel
theorem dX10_fewestUnlike_33 : decode cX10_fewestUnlike 33 = .ok (.iload_n 3, 1) := by decide +kernel
theorem dX10_fewestUnlike_34 : decode cX10_fewestUnlike 34 = .ok (.if_icmp .gt 21, 3) := by decide +kernel
theorem dX10_fewestUnlike_37 : decode cX10_fewestUnlike 37 = .ok (.iload_n 2, 1) := by decide +kernel
theorem dX10_fewestUnlike_38 : decode cX10_fewestUnlike 38 = .ok (.aload_n 0, 1) := by decide +kernel
theorem dX10_fewestUnlike_39 : decode cX10_fewestUnlike 39 = .ok (.iload_n 1, 1) := by decide +kernel
theorem dX10_fewestUnlike_40 : decode cX10_fewestUnlike 40 = .ok (.iload 4, 2) := by decide +kernel
theorem dX10_fewestUnlike_42 : decode cX10_fewestUnlike 42 = .ok (.invokevirtual 73, 3) := by decide +kernel
theorem dX10_fewestUnlike_45 : decode cX10_fewestUnlike 45 = .ok (.invokestatic 76, 3) := by decide +kernel
theorem dX10_fewestUnlike_48 : decode cX10_fewestUnlike 48 = .ok (.istore_n 2, 1) := by decide +kernel
theorem dX10_fewestUnlike_49 : decode cX10_fewestUnlike 49 = .ok (.iinc 4 1, 3) := by decide +kernel
theorem dX10_fewestUnlike_52 : decode cX10_fewestUnlike 52 = .ok (.goto (-21), 3) := by decide +kernel
theorem dX10_fewestUnlike_55 : decode cX10_fewestUnlike 55 = .ok (.iload_n 2, 1) := by decide +kernel
theorem dX10_fewestUnlike_56 : decode cX10_fewestUnlike 56 = .ok (.ireturn, 1) := by decide +kernel
theorem bX10_fewestUnlike_31 {l : Launch} {g : jm_G} {d : Nat} {v1 v2 v3 v4 : Int} (hg : jm_HC g) {mu : jm_M} {Q : Option Value → jm_M → Prop} (h : jm_rg v4 ∧ jm_rg v3 ∧ (v3 < v4 → Q (some (jm_i v2)) mu) ∧ (v4 ≤ v3 → jm_R l g d iX10_unlikeFrom [.ref 38, jm_i v1, jm_i v4] mu (jm_qi fun z4 m3 => jm_rg v2 ∧ ∀ x8, x8 = (min v2 z4) → jm_V l g (d + 1) iX10_fewestUnlike 31 [(0, .ref 38), (1, jm_i v1), (2, jm_i x8), (3, jm_i v3), (4, jm_i (v4 + 1))] [] m3 Q))) : jm_V l g (d + 1) iX10_fewestUnlike 31 [(0, .ref 38), (1, jm_i v1), (2, jm_i v2), (3, jm_i v3), (4, jm_i v4)] [] mu Q := by
  refine jm_mrI (fun hm0 => ?_)
  refine jm_iload (pc := 31) 4 dX10_fewestUnlike_31 rfl ?_
  refine jm_iload_n (pc := 33) 3 dX10_fewestUnlike_33 rfl ?_
  have hg1 := h.1
  have h := h.2
  have hg2 := h.1
  have h := h.2
  refine jm_icmp_gt (pc := 34) 55 dX10_fewestUnlike_34 rfl hg1 hg2 (fun q => ?_) (fun q => ?_)
  · have h := h.1 q
    refine jm_iload_n (pc := 55) 2 dX10_fewestUnlike_55 rfl ?_
    exact jm_iret (pc := 56) dX10_fewestUnlike_56 rfl h
  · have h := h.2 q
    refine jm_iload_n (pc := 37) 2 dX10_fewestUnlike_37 rfl ?_
    refine jm_aload_n (pc := 38) 0 dX10_fewestUnlike_38 rfl ?_
    refine jm_iload_n (pc := 39) 1 dX10_fewestUnlike_39 rfl ?_
    refine jm_iload (pc := 40) 4 dX10_fewestUnlike_40 rfl ?_
    refine jm_callvi (pc := 42) (As := [_, _]) (st := [_]) iX10_unlikeFrom dX10_fewestUnlike_42 mX10_73 (cC38 hg) ⟨_, rfl, rfl⟩ rfl rfl (Nat.le_of_ble_eq_true rfl) h (fun z4 m3 hz5 h hm6 => ?_)
    have hg7 := h.1
    have h := h.2
    refine jm_mmin (pc := 45) dX10_fewestUnlike_45 mX10_76 hg7 hz5 (Nat.le_of_ble_eq_true rfl) ?_
    have h := h _ rfl
    refine jm_istore_n (pc := 48) (lv' := [(2, _), (0, _), (1, _), (3, _), (4, _)]) dX10_fewestUnlike_48 (by decide) rfl ?_
    refine jm_iinc (pc := 49) (lv' := [(4, _), (2, _), (0, _), (1, _), (3, _)]) 4 dX10_fewestUnlike_49 rfl (by decide) rfl ?_
    refine jm_goto (pc := 52) 31 dX10_fewestUnlike_52 rfl ?_
    exact jm_sub [2, 3, 1, 4, 0] rfl h
theorem eX10_fewestUnlike {l : Launch} {g : jm_G} {d : Nat} {v1 : Int} (hg : jm_HC g) {mu : jm_M} {Q : Option Value → jm_M → Prop} (h : jm_R l g d iX5_rise [.ref 12, jm_i v1] mu (jm_qi fun z2 m1 => ∀ x5, x5 = (59 - z2) → jm_R l g d iX5_fall [.ref 12, jm_i v1] m1 (jm_qi fun z7 m6 => jm_V l g (d + 1) iX10_fewestUnlike 31 [(0, .ref 38), (1, jm_i v1), (2, jm_i 10), (3, jm_i x5), (4, jm_i z7)] [] m6 Q))) : jm_R l g (d + 1) iX10_fewestUnlike [.ref 38, jm_i v1] mu Q := by
  refine jm_enter [(0, .ref 38), (1, jm_i v1)] (by decide) (Nat.le_of_ble_eq_true rfl) rfl ?_
  refine jm_mrI (fun hm0 => ?_)
  refine jm_bipush (pc := 0) dX10_fewestUnlike_0 (by decide) ?_
  refine jm_istore_n (pc := 2) (lv' := [(2, _), (0, _), (1, _)]) dX10_fewestUnlike_2 (by decide) rfl ?_
  refine jm_bipush (pc := 3) dX10_fewestUnlike_3 (by decide) ?_
  refine jm_aload_n (pc := 5) 1 dX10_fewestUnlike_5 rfl ?_
  refine jm_getr (pc := 6) 1 dX10_fewestUnlike_6 fX10_29 (cC38 hg) rfl ?_
  refine jm_getr (pc := 9) 10 dX10_fewestUnlike_9 fX10_36 (cC6 hg) rfl ?_
  refine jm_iload_n (pc := 12) 2 dX10_fewestUnlike_12 rfl ?_
  refine jm_callvi (pc := 13) (As := [_]) (st := [_]) iX5_rise dX10_fewestUnlike_13 mX10_67 (cC12 hg) ⟨_, rfl, rfl⟩ rfl rfl (Nat.le_of_ble_eq_true rfl) h (fun z2 m1 hz3 h hm4 => ?_)
  refine jm_isub (pc := 16) dX10_fewestUnlike_16 ?_
  have h := h _ rfl
  refine jm_istore_n (pc := 17) (lv' := [(3, _), (2, _), (0, _), (1, _)]) dX10_fewestUnlike_17 (by decide) rfl ?_
  refine jm_aload_n (pc := 18) 2 dX10_fewestUnlike_18 rfl ?_
  refine jm_getr (pc := 19) 1 dX10_fewestUnlike_19 fX10_29 (cC38 hg) rfl ?_
  refine jm_getr (pc := 22) 10 dX10_fewestUnlike_22 fX10_36 (cC6 hg) rfl ?_
  refine jm_iload_n (pc := 25) 3 dX10_fewestUnlike_25 rfl ?_
  refine jm_callvi (pc := 26) (As := [_]) (st := []) iX5_fall dX10_fewestUnlike_26 mX10_70 (cC12 hg) ⟨_, rfl, rfl⟩ rfl rfl (Nat.le_of_ble_eq_true rfl) h (fun z7 m6 hz8 h hm9 => ?_)
  refine jm_istore (pc := 29) (lv' := [(4, _), (3, _), (2, _), (0, _), (1, _)]) dX10_fewestUnlike_29 (by decide) rfl ?_
  exact jm_sub [3, 4, 2, 1, 0] rfl h
theorem dX10_motivesHeard_0 : decode cX10_motivesHeard 0 = .ok (.iconst 0, 1) := by decide +kernel
theorem dX10_motivesHeard_1 : decode cX10_motivesHeard 1 = .ok (.istore_n 3, 1) := by decide +kernel
theorem dX10_motivesHeard_2 : decode cX10_motivesHeard 2 = .ok (.iconst (-1), 1) := by decide +kernel
theorem dX10_motivesHeard_3 : decode cX10_motivesHeard 3 = .ok (.istore 4, 2) := by decide +kernel
theorem dX10_motivesHeard_5 : decode cX10_motivesHeard 5 = .ok (.iconst (-1), 1) := by decide +kernel
theorem dX10_motivesHeard_6 : decode cX10_motivesHeard 6 = .ok (.istore 5, 2) := by decide +kernel
theorem dX10_motivesHeard_8 : decode cX10_motivesHeard 8 = .ok (.iconst 0, 1) := by decide +kernel
theorem dX10_motivesHeard_9 : decode cX10_motivesHeard 9 = .ok (.istore 6, 2) := by decide +kernel
theorem dX10_motivesHeard_11 : decode cX10_motivesHeard 11 = .ok (.iload 6, 2) := by decide +kernel
theorem dX10_motivesHeard_13 : decode cX10_motivesHeard 13 = .ok (.bipush 24, 2) := by decide +kernel
theorem dX10_motivesHeard_15 : decode cX10_motivesHeard 15 = .ok (.if_icmp .ge 90, 3) := by decide +kernel
theorem dX10_motivesHeard_18 : decode cX10_motivesHeard 18 = .ok (.aload_n 0, 1) := by decide +kernel
theorem dX10_motivesHeard_19 : decode cX10_motivesHeard 19 = .ok (.getfield 29, 3) := by decide +kernel
theorem dX10_motivesHeard_22 : decode cX10_motivesHeard 22 = .ok (.getfield 59, 3) := by decide +kernel
theorem dX10_motivesHeard_25 : decode cX10_motivesHeard 25 = .ok (.ifCond .le 30, 3) := by decide +kernel
theorem dX10_motivesHeard_28 : decode cX10_motivesHeard 28 = .ok (.aload_n 0, 1) := by decide +kernel
theorem dX10_motivesHeard_29 : decode cX10_motivesHeard 29 = .ok (.getfield 29, 3) := by decide +kernel
theorem dX10_motivesHeard_32 : decode cX10_motivesHeard 32 = .ok (.getfield 36, 3) := by decide +kernel
theorem dX10_motivesHeard_35 : decode cX10_motivesHeard 35 = .ok (.getfield 42, 3) := by decide +kernel
theorem dX10_motivesHeard_38 : decode cX10_motivesHeard 38 = .ok (.iload 6, 2) := by decide +kernel
theorem dX10_motivesHeard_40 : decode cX10_motivesHeard 40 = .ok (.iaload, 1) := by decide +kernel
theorem dX10_motivesHeard_41 : decode cX10_motivesHeard 41 = .ok (.aload_n 0, 1) := by decide +kernel
theorem dX10_motivesHeard_42 : decode cX10_motivesHeard 42 = .ok (.getfield 29, 3) := by decide +kernel
theorem dX10_motivesHeard_45 : decode cX10_motivesHeard 45 = .ok (.getfield 59, 3) := by decide +kernel
theorem dX10_motivesHeard_48 : decode cX10_motivesHeard 48 = .ok (.if_icmp .ne 7, 3) := by decide +kernel
theorem dX10_motivesHeard_51 : decode cX10_motivesHeard 51 = .ok (.iconst 1, 1) := by decide +kernel
theorem dX10_motivesHeard_52 : decode cX10_motivesHeard 52 = .ok (.goto 4, 3) := by decide +kernel
theorem dX10_motivesHeard_55 : decode cX10_motivesHeard 55 = .ok (.iconst 0, 1) := by decide +kernel
theorem dX10_motivesHeard_56 : decode cX10_motivesHeard 56 = .ok (.istore 7, 2) := by decide +kernel
theorem dX10_motivesHeard_58 : decode cX10_motivesHeard 58 = .ok (.iload 7, 2) := by decide +kernel
theorem dX10_motivesHeard_60 : decode cX10_motivesHeard 60 = .ok (.ifCond .eq 12, 3) := by decide +kernel
theorem dX10_motivesHeard_63 : decode cX10_motivesHeard 63 = .ok (.aload_n 0, 1) := by decide +kernel
theorem dX10_motivesHeard_64 : decode cX10_motivesHeard 64 = .ok (.iload 6, 2) := by decide +kernel
theorem dX10_motivesHeard_66 : decode cX10_motivesHeard 66 = .ok (.invokevirtual 63, 3) := by decide +kernel
theorem dX10_motivesHeard_69 : decode cX10_motivesHeard 69 = .ok (.goto 5, 3) := by decide +kernel
theorem dX10_motivesHeard_72 : decode cX10_motivesHeard 72 = .ok (.bipush 10, 2) := by decide +kernel
theorem dX10_motivesHeard_74 : decode cX10_motivesHeard 74 = .ok (.istore 8, 2) := by decide +kernel
theorem dX10_motivesHeard_76 : decode cX10_motivesHeard 76 = .ok (.iload 8, 2) := by decide +kernel
theorem dX10_motivesHeard_78 : decode cX10_motivesHeard 78 = .ok (.iload_n 1, 1) := by decide +kernel
theorem dX10_motivesHeard_79 : decode cX10_motivesHeard 79 = .ok (.if_icmp .gt 20, 3) := by decide +kernel
theorem dX10_motivesHeard_82 : decode cX10_motivesHeard 82 = .ok (.iinc 3 1, 3) := by decide +kernel
theorem dX10_motivesHeard_85 : decode cX10_motivesHeard 85 = .ok (.iload 4, 2) := by decide +kernel
theorem dX10_motivesHeard_87 : decode cX10_motivesHeard 87 = .ok (.iconst (-1), 1) := by decide +kernel
theorem dX10_motivesHeard_88 : decode cX10_motivesHeard 88 = .ok (.if_icmp .ne 11, 3) := by decide +kernel
theorem dX10_motivesHeard_91 : decode cX10_motivesHeard 91 = .ok (.iload 6, 2) := by decide +kernel
theorem dX10_motivesHeard_93 : decode cX10_motivesHeard 93 = .ok (.istore 4, 2) := by decide +kernel
theorem dX10_motivesHeard_95 : decode cX10_motivesHeard 95 = .ok (.iload 8, 2) := by decide +kernel
theorem dX10_motivesHeard_97 : decode cX10_motivesHeard 97 = .ok (.istore 5, 2) := by decide +kernel
theorem dX10_motivesHeard_99 : decode cX10_motivesHeard 99 = .ok (.iinc 6 1, 3) := by decide +kernel
theorem dX10_motivesHeard_102 : decode cX10_motivesHeard 102 = .ok (.goto (-91), 3) := by decide +kernel
theorem dX10_motivesHeard_105 : decode cX10_motivesHeard 105 = .ok (.iload_n 2, 1) := by decide +kernel
theorem dX10_motivesHeard_106 : decode cX10_motivesHeard 106 = .ok (.ifCond .ne 5, 3) := by decide +kernel
theorem dX10_motivesHeard_109 : decode cX10_motivesHeard 109 = .ok (.iload_n 3, 1) := by decide +kernel
theorem dX10_motivesHeard_110 : decode cX10_motivesHeard 110 = .ok (.ireturn, 1) := by decide +kernel
theorem dX10_motivesHeard_111 : decode cX10_motivesHeard 111 = .ok (.iload_n 2, 1) := by decide +kernel
theorem dX10_motivesHeard_112 : decode cX10_motivesHeard 112 = .ok (.iconst 1, 1) := by decide +kernel
theorem dX10_motivesHeard_113 : decode cX10_motivesHeard 113 = .ok (.if_icmp .ne 8, 3) := by decide +kernel
theorem dX10_motivesHeard_116 : decode cX10_motivesHeard 116 = .ok (.iload 4, 2) := by decide +kernel
theorem dX10_motivesHeard_118 : decode cX10_motivesHeard 118 = .ok (.goto 5, 3) := by decide +kernel
theorem dX10_motivesHeard_121 : decode cX10_motivesHeard 121 = .ok (.iload 5, 2) := by decide +kernel
theorem dX10_motivesHeard_123 : decode cX10_motivesHeard 123 = .ok (.ireturn, 1) := by decide +kernel
theorem bX10_motivesHeard_74 {l : Launch} {g : jm_G} {d : Nat} {v1 v2 v3 v4 v5 v6 s0 : Int} (hg : jm_HC g) {mu : jm_M} {Q : Option Value → jm_M → Prop} (h : jm_rg s0 ∧ jm_rg v1 ∧ (v1 < s0 → jm_V l g (d + 1) iX10_motivesHeard 11 [(0, .ref 38), (1, jm_i v1), (2, jm_i v2), (3, jm_i v3), (4, jm_i v4), (5, jm_i v5), (6, jm_i (v6 + 1))] [] mu Q) ∧ (s0 ≤ v1 → jm_rg v4 ∧ (¬ v4 = (-1) → jm_V l g (d + 1) iX10_motivesHeard 11 [(0, .ref 38), (1, jm_i v1), (2, jm_i v2), (3, jm_i (v3 + 1)), (4, jm_i v4), (5, jm_i v5), (6, jm_i (v6 + 1))] [] mu Q) ∧ (v4 = (-1) → jm_V l g (d + 1) iX10_motivesHeard 11 [(0, .ref 38), (1, jm_i v1), (2, jm_i v2), (3, jm_i (v3 + 1)), (4, jm_i v6), (5, jm_i s0), (6, jm_i (v6 + 1))] [] mu Q))) : jm_V l g (d + 1) iX10_motivesHeard 74 [(0, .ref 38), (1, jm_i v1), (2, jm_i v2), (3, jm_i v3), (4, jm_i v4), (5, jm_i v5), (6, jm_i v6)] [jm_i s0] mu Q := by
  refine jm_mrI (fun hm0 => ?_)
  refine jm_istore (pc := 74) (lv' := [(8, _), (0, _), (1, _), (2, _), (3, _), (4, _), (5, _), (6, _)]) dX10_motivesHeard_74 (by decide) rfl ?_
  refine jm_iload (pc := 76) 0 dX10_motivesHeard_76 rfl ?_
  refine jm_iload_n (pc := 78) 2 dX10_motivesHeard_78 rfl ?_
  have hg1 := h.1
  have h := h.2
  have hg2 := h.1
  have h := h.2
  refine jm_icmp_gt (pc := 79) 99 dX10_motivesHeard_79 rfl hg1 hg2 (fun q => ?_) (fun q => ?_)
  · have h := h.1 q
    refine jm_iinc (pc := 99) (lv' := [(6, _), (8, _), (0, _), (1, _), (2, _), (3, _), (4, _), (5, _)]) 7 dX10_motivesHeard_99 rfl (by decide) rfl ?_
    refine jm_goto (pc := 102) 11 dX10_motivesHeard_102 rfl ?_
    exact jm_sub [2, 3, 4, 5, 6, 7, 0] rfl h
  · have h := h.2 q
    refine jm_iinc (pc := 82) (lv' := [(3, _), (8, _), (0, _), (1, _), (2, _), (4, _), (5, _), (6, _)]) 4 dX10_motivesHeard_82 rfl (by decide) rfl ?_
    refine jm_iload (pc := 85) 5 dX10_motivesHeard_85 rfl ?_
    refine jm_iconst (pc := 87) dX10_motivesHeard_87 ?_
    have hg3 := h.1
    have h := h.2
    refine jm_icmp_ne (pc := 88) 99 dX10_motivesHeard_88 rfl hg3 ⟨by decide, by decide⟩ (fun q => ?_) (fun q => ?_)
    · have h := h.1 q
      refine jm_iinc (pc := 99) (lv' := [(6, _), (3, _), (8, _), (0, _), (1, _), (2, _), (4, _), (5, _)]) 7 dX10_motivesHeard_99 rfl (by decide) rfl ?_
      refine jm_goto (pc := 102) 11 dX10_motivesHeard_102 rfl ?_
      exact jm_sub [3, 4, 5, 1, 6, 7, 0] rfl h
    · have h := h.2 q
      refine jm_iload (pc := 91) 7 dX10_motivesHeard_91 rfl ?_
      refine jm_istore (pc := 93) (lv' := [(4, _), (3, _), (8, _), (0, _), (1, _), (2, _), (5, _), (6, _)]) dX10_motivesHeard_93 (by decide) rfl ?_
      refine jm_iload (pc := 95) 2 dX10_motivesHeard_95 rfl ?_
      refine jm_istore (pc := 97) (lv' := [(5, _), (4, _), (3, _), (8, _), (0, _), (1, _), (2, _), (6, _)]) dX10_motivesHeard_97 (by decide) rfl ?_
      refine jm_iinc (pc := 99) (lv' := [(6, _), (5, _), (4, _), (3, _), (8, _), (0, _), (1, _), (2, _)]) 7 dX10_motivesHeard_99 rfl (by decide) rfl ?_
      refine jm_goto (pc := 102) 11 dX10_motivesHeard_102 rfl ?_
      exact jm_sub [5, 6, 7, 3, 2, 1, 0] rfl h
theorem bX10_motivesHeard_56 {l : Launch} {g : jm_G} {d : Nat} {v1 v2 v3 v4 v5 v6 s0 : Int} (hg : jm_HC g) {mu : jm_M} {Q : Option Value → jm_M → Prop} (h : jm_rg s0 ∧ (s0 = 0 → jm_V l g (d + 1) iX10_motivesHeard 74 [(0, .ref 38), (1, jm_i v1), (2, jm_i v2), (3, jm_i v3), (4, jm_i v4), (5, jm_i v5), (6, jm_i v6)] [jm_i 10] mu Q) ∧ (¬ s0 = 0 → jm_R l g d iX10_fewestUnlike [.ref 38, jm_i v6] mu (jm_qi fun z3 m2 => jm_V l g (d + 1) iX10_motivesHeard 74 [(0, .ref 38), (1, jm_i v1), (2, jm_i v2), (3, jm_i v3), (4, jm_i v4), (5, jm_i v5), (6, jm_i v6)] [jm_i z3] m2 Q))) : jm_V l g (d + 1) iX10_motivesHeard 56 [(0, .ref 38), (1, jm_i v1), (2, jm_i v2), (3, jm_i v3), (4, jm_i v4), (5, jm_i v5), (6, jm_i v6)] [jm_i s0] mu Q := by
  refine jm_mrI (fun hm0 => ?_)
  refine jm_istore (pc := 56) (lv' := [(7, _), (0, _), (1, _), (2, _), (3, _), (4, _), (5, _), (6, _)]) dX10_motivesHeard_56 (by decide) rfl ?_
  refine jm_iload (pc := 58) 0 dX10_motivesHeard_58 rfl ?_
  have hg1 := h.1
  have h := h.2
  refine jm_if_eq (pc := 60) 72 dX10_motivesHeard_60 rfl hg1 (fun q => ?_) (fun q => ?_)
  · have h := h.1 q
    refine jm_bipush (pc := 72) dX10_motivesHeard_72 (by decide) ?_
    exact jm_sub [1, 2, 3, 4, 5, 6, 7] rfl h
  · have h := h.2 q
    refine jm_aload_n (pc := 63) 1 dX10_motivesHeard_63 rfl ?_
    refine jm_iload (pc := 64) 7 dX10_motivesHeard_64 rfl ?_
    refine jm_callvi (pc := 66) (As := [_]) (st := []) iX10_fewestUnlike dX10_motivesHeard_66 mX10_63 (cC38 hg) ⟨_, rfl, rfl⟩ rfl rfl (Nat.le_of_ble_eq_true rfl) h (fun z3 m2 hz4 h hm5 => ?_)
    refine jm_goto (pc := 69) 74 dX10_motivesHeard_69 rfl ?_
    exact jm_sub [1, 2, 3, 4, 5, 6, 7] rfl h
theorem bX10_motivesHeard_11 {l : Launch} {g : jm_G} {d : Nat} {v1 v2 v3 v4 v5 v6 : Int} (hg : jm_HC g) {mu : jm_M} {Q : Option Value → jm_M → Prop} (h : jm_rg v6 ∧ (24 ≤ v6 → jm_rg v2 ∧ (¬ v2 = 0 → (¬ v2 = 1 → Q (some (jm_i v5)) mu) ∧ (v2 = 1 → Q (some (jm_i v4)) mu)) ∧ (v2 = 0 → Q (some (jm_i v3)) mu)) ∧ (v6 < 24 → ((mu.1 6 8) ≤ 0 → jm_V l g (d + 1) iX10_motivesHeard 56 [(0, .ref 38), (1, jm_i v1), (2, jm_i v2), (3, jm_i v3), (4, jm_i v4), (5, jm_i v5), (6, jm_i v6)] [jm_i 0] mu Q) ∧ (0 < (mu.1 6 8) → (0 ≤ v6 ∧ v6 < 24) ∧ (¬ (mu.1 13 v6) = (mu.1 6 8) → jm_V l g (d + 1) iX10_motivesHeard 56 [(0, .ref 38), (1, jm_i v1), (2, jm_i v2), (3, jm_i v3), (4, jm_i v4), (5, jm_i v5), (6, jm_i v6)] [jm_i 0] mu Q) ∧ ((mu.1 13 v6) = (mu.1 6 8) → jm_V l g (d + 1) iX10_motivesHeard 56 [(0, .ref 38), (1, jm_i v1), (2, jm_i v2), (3, jm_i v3), (4, jm_i v4), (5, jm_i v5), (6, jm_i v6)] [jm_i 1] mu Q)))) : jm_V l g (d + 1) iX10_motivesHeard 11 [(0, .ref 38), (1, jm_i v1), (2, jm_i v2), (3, jm_i v3), (4, jm_i v4), (5, jm_i v5), (6, jm_i v6)] [] mu Q := by
  refine jm_mrI (fun hm0 => ?_)
  refine jm_iload (pc := 11) 6 dX10_motivesHeard_11 rfl ?_
  refine jm_bipush (pc := 13) dX10_motivesHeard_13 (by decide) ?_
  have hg1 := h.1
  have h := h.2
  refine jm_icmp_ge (pc := 15) 105 dX10_motivesHeard_15 rfl hg1 ⟨by decide, by decide⟩ (fun q => ?_) (fun q => ?_)
  · have h := h.1 q
    refine jm_iload_n (pc := 105) 2 dX10_motivesHeard_105 rfl ?_
    have hg2 := h.1
    have h := h.2
    refine jm_if_ne (pc := 106) 111 dX10_motivesHeard_106 rfl hg2 (fun q => ?_) (fun q => ?_)
    · have h := h.1 q
      refine jm_iload_n (pc := 111) 2 dX10_motivesHeard_111 rfl ?_
      refine jm_iconst (pc := 112) dX10_motivesHeard_112 ?_
      refine jm_icmp_ne (pc := 113) 121 dX10_motivesHeard_113 rfl hg2 ⟨by decide, by decide⟩ (fun q => ?_) (fun q => ?_)
      · have h := h.1 q
        refine jm_iload (pc := 121) 5 dX10_motivesHeard_121 rfl ?_
        exact jm_iret (pc := 123) dX10_motivesHeard_123 rfl h
      · have h := h.2 q
        refine jm_iload (pc := 116) 4 dX10_motivesHeard_116 rfl ?_
        refine jm_goto (pc := 118) 123 dX10_motivesHeard_118 rfl ?_
        exact jm_iret (pc := 123) dX10_motivesHeard_123 rfl h
    · have h := h.2 q
      refine jm_iload_n (pc := 109) 3 dX10_motivesHeard_109 rfl ?_
      exact jm_iret (pc := 110) dX10_motivesHeard_110 rfl h
  · have h := h.2 q
    refine jm_aload_n (pc := 18) 0 dX10_motivesHeard_18 rfl ?_
    refine jm_getr (pc := 19) 1 dX10_motivesHeard_19 fX10_29 (cC38 hg) rfl ?_
    refine jm_geti (pc := 22) 8 dX10_motivesHeard_22 fX10_59 (cC6 hg) rfl ?_
    refine jm_if_le (pc := 25) 55 dX10_motivesHeard_25 rfl (hm0 _ _) (fun q => ?_) (fun q => ?_)
    · have h := h.1 q
      refine jm_iconst (pc := 55) dX10_motivesHeard_55 ?_
      exact jm_sub [0, 1, 2, 3, 4, 5, 6] rfl h
    · have h := h.2 q
      refine jm_aload_n (pc := 28) 0 dX10_motivesHeard_28 rfl ?_
      refine jm_getr (pc := 29) 1 dX10_motivesHeard_29 fX10_29 (cC38 hg) rfl ?_
      refine jm_getr (pc := 32) 10 dX10_motivesHeard_32 fX10_36 (cC6 hg) rfl ?_
      refine jm_getr (pc := 35) 1 dX10_motivesHeard_35 fX10_42 (cC12 hg) rfl ?_
      refine jm_iload (pc := 38) 6 dX10_motivesHeard_38 rfl ?_
      have hg3 := h.1
      have h := h.2
      refine jm_iald (pc := 40) dX10_motivesHeard_40 (cC13 hg) (by decide) hg3.1 hg3.2 ?_
      refine jm_aload_n (pc := 41) 0 dX10_motivesHeard_41 rfl ?_
      refine jm_getr (pc := 42) 1 dX10_motivesHeard_42 fX10_29 (cC38 hg) rfl ?_
      refine jm_geti (pc := 45) 8 dX10_motivesHeard_45 fX10_59 (cC6 hg) rfl ?_
      refine jm_icmp_ne (pc := 48) 55 dX10_motivesHeard_48 rfl (hm0 _ _) (hm0 _ _) (fun q => ?_) (fun q => ?_)
      · have h := h.1 q
        refine jm_iconst (pc := 55) dX10_motivesHeard_55 ?_
        exact jm_sub [0, 1, 2, 3, 4, 5, 6] rfl h
      · have h := h.2 q
        refine jm_iconst (pc := 51) dX10_motivesHeard_51 ?_
        refine jm_goto (pc := 52) 56 dX10_motivesHeard_52 rfl ?_
        exact jm_sub [0, 1, 2, 3, 4, 5, 6] rfl h
theorem eX10_motivesHeard {l : Launch} {g : jm_G} {d : Nat} {v1 v2 : Int} (hg : jm_HC g) {mu : jm_M} {Q : Option Value → jm_M → Prop} (h : jm_V l g (d + 1) iX10_motivesHeard 11 [(0, .ref 38), (1, jm_i v1), (2, jm_i v2), (3, jm_i 0), (4, jm_i (-1)), (5, jm_i (-1)), (6, jm_i 0)] [] mu Q) : jm_R l g (d + 1) iX10_motivesHeard [.ref 38, jm_i v1, jm_i v2] mu Q := by
  refine jm_enter [(0, .ref 38), (1, jm_i v1), (2, jm_i v2)] (by decide) (Nat.le_of_ble_eq_true rfl) rfl ?_
  refine jm_mrI (fun hm0 => ?_)
  refine jm_iconst (pc := 0) dX10_motivesHeard_0 ?_
  refine jm_istore_n (pc := 1) (lv' := [(3, _), (0, _), (1, _), (2, _)]) dX10_motivesHeard_1 (by decide) rfl ?_
  refine jm_iconst (pc := 2) dX10_motivesHeard_2 ?_
  refine jm_istore (pc := 3) (lv' := [(4, _), (3, _), (0, _), (1, _), (2, _)]) dX10_motivesHeard_3 (by decide) rfl ?_
  refine jm_iconst (pc := 5) dX10_motivesHeard_5 ?_
  refine jm_istore (pc := 6) (lv' := [(5, _), (4, _), (3, _), (0, _), (1, _), (2, _)]) dX10_motivesHeard_6 (by decide) rfl ?_
  refine jm_iconst (pc := 8) dX10_motivesHeard_8 ?_
  refine jm_istore (pc := 9) (lv' := [(6, _), (5, _), (4, _), (3, _), (0, _), (1, _), (2, _)]) dX10_motivesHeard_9 (by decide) rfl ?_
  exact jm_sub [4, 5, 6, 3, 2, 1, 0] rfl h
theorem dX11_read_0 : decode cX11_read 0 = .ok (.iload_n 1, 1) := by decide +kernel
theorem dX11_read_1 : decode cX11_read 1 = .ok (.iconst 0, 1) := by decide +kernel
theorem dX11_read_2 : decode cX11_read 2 = .ok (.bipush 9, 2) := by decide +kernel
theorem dX11_read_4 : decode cX11_read 4 = .ok (.invokestatic 123, 3) := by decide +kernel
theorem dX11_read_7 : decode cX11_read 7 = .ok (.ifCond .eq 12, 3) := by decide +kernel
theorem dX11_read_10 : decode cX11_read 10 = .ok (.iload_n 2, 1) := by decide +kernel
theorem dX11_read_11 : decode cX11_read 11 = .ok (.iconst 0, 1) := by decide +kernel
theorem dX11_read_12 : decode cX11_read 12 = .ok (.iconst 2, 1) := by decide +kernel
theorem dX11_read_13 : decode cX11_read 13 = .ok (.invokestatic 123, 3) := by decide +kernel
theorem dX11_read_16 : decode cX11_read 16 = .ok (.ifCond .ne 5, 3) := by decide +kernel
theorem dX11_read_19 : decode cX11_read 19 = .ok (.iconst (-1), 1) := by decide +kernel
theorem dX11_read_20 : decode cX11_read 20 = .ok (.ireturn, 1) := by decide +kernel
theorem dX11_read_21 : decode cX11_read 21 = .ok (.aload_n 0, 1) := by decide +kernel
theorem dX11_read_22 : decode cX11_read 22 = .ok (.getfield 51, 3) := by decide +kernel
theorem dX11_read_25 : decode cX11_read 25 = .ok (.iload_n 1, 1) := by decide +kernel
theorem dX11_read_26 : decode cX11_read 26 = .ok (.iload_n 2, 1) := by decide +kernel
theorem dX11_read_27 : decode cX11_read 27 = .ok (.invokevirtual 309, 3) := by decide +kernel
theorem dX11_read_30 : decode cX11_read 30 = .ok (.ireturn, 1) := by decide +kernel
theorem eX11_read {l : Launch} {g : jm_G} {d : Nat} {v1 v2 : Int} (hg : jm_HC g) {mu : jm_M} {Q : Option Value → jm_M → Prop} (h : jm_rg v1 ∧ (0 ≤ v1 ∧ v1 ≤ 9 → jm_rg v2 ∧ (0 ≤ v2 ∧ v2 ≤ 2 → jm_R l g (d + 1) iX10_motivesHeard [.ref 38, jm_i v1, jm_i v2] mu (jm_qi fun z4 m3 => Q (some (jm_i z4)) m3)) ∧ (¬ (0 ≤ v2 ∧ v2 ≤ 2) → Q (some (jm_i (-1))) mu)) ∧ (¬ (0 ≤ v1 ∧ v1 ≤ 9) → Q (some (jm_i (-1))) mu)) : jm_R l g (d + 2) iX11_read [.ref 0, jm_i v1, jm_i v2] mu Q := by
  refine jm_enter [(0, .ref 0), (1, jm_i v1), (2, jm_i v2)] (by decide) (Nat.le_of_ble_eq_true rfl) rfl ?_
  refine jm_mrI (fun hm0 => ?_)
  refine jm_iload_n (pc := 0) 1 dX11_read_0 rfl ?_
  refine jm_iconst (pc := 1) dX11_read_1 ?_
  refine jm_bipush (pc := 2) dX11_read_2 (by decide) ?_
  have hg1 := h.1
  have h := h.2
  refine jm_inlsi (pc := 4) (As := [_, _, _]) (st := []) iX11_isWithin dX11_read_4 mX11_123 rfl rfl (Nat.le_of_ble_eq_true rfl) (pX11_isWithin hg hg1 ⟨by decide, by decide⟩ ⟨by decide, by decide⟩ (fun q => jm_kIi ?_) (fun q => jm_kIi ?_))
  · have h := h.1 q
    refine jm_if_eq (pc := 7) 19 dX11_read_7 rfl ⟨by decide, by decide⟩ (fun q => absurd q (by decide)) (fun q => ?_)
    refine jm_iload_n (pc := 10) 2 dX11_read_10 rfl ?_
    refine jm_iconst (pc := 11) dX11_read_11 ?_
    refine jm_iconst (pc := 12) dX11_read_12 ?_
    have hg2 := h.1
    have h := h.2
    refine jm_inlsi (pc := 13) (As := [_, _, _]) (st := []) iX11_isWithin dX11_read_13 mX11_123 rfl rfl (Nat.le_of_ble_eq_true rfl) (pX11_isWithin hg hg2 ⟨by decide, by decide⟩ ⟨by decide, by decide⟩ (fun q => jm_kIi ?_) (fun q => jm_kIi ?_))
    · have h := h.1 q
      refine jm_if_ne (pc := 16) 21 dX11_read_16 rfl ⟨by decide, by decide⟩ (fun q => ?_) (fun q => absurd q (by decide))
      refine jm_aload_n (pc := 21) 0 dX11_read_21 rfl ?_
      refine jm_getr (pc := 22) 5 dX11_read_22 fX11_51 (cC0 hg) rfl ?_
      refine jm_iload_n (pc := 25) 1 dX11_read_25 rfl ?_
      refine jm_iload_n (pc := 26) 2 dX11_read_26 rfl ?_
      refine jm_callvi (pc := 27) (As := [_, _]) (st := []) iX10_motivesHeard dX11_read_27 mX11_309 (cC38 hg) ⟨_, rfl, rfl⟩ rfl rfl (Nat.le_of_ble_eq_true rfl) h (fun z4 m3 hz5 h hm6 => ?_)
      exact jm_iret (pc := 30) dX11_read_30 rfl h
    · have h := h.2 q
      refine jm_if_ne (pc := 16) 21 dX11_read_16 rfl ⟨by decide, by decide⟩ (fun q => absurd q (by decide)) (fun q => ?_)
      refine jm_iconst (pc := 19) dX11_read_19 ?_
      exact jm_iret (pc := 20) dX11_read_20 rfl h
  · have h := h.2 q
    refine jm_if_eq (pc := 7) 19 dX11_read_7 rfl ⟨by decide, by decide⟩ (fun q => ?_) (fun q => absurd q (by decide))
    refine jm_iconst (pc := 19) dX11_read_19 ?_
    exact jm_iret (pc := 20) dX11_read_20 rfl h
theorem dX1_barOf_0 : decode cX1_barOf 0 = .ok (.aload_n 0, 1) := by decide +kernel
theorem dX1_barOf_1 : decode cX1_barOf 1 = .ok (.iload_n 1, 1) := by decide +kernel
theorem dX1_barOf_2 : decode cX1_barOf 2 = .ok (.invokevirtual 51, 3) := by decide +kernel
theorem dX1_barOf_5 : decode cX1_barOf 5 = .ok (.ifCond .eq 23, 3) := by decide +kernel
theorem dX1_barOf_8 : decode cX1_barOf 8 = .ok (.iload_n 2, 1) := by decide +kernel
theorem dX1_barOf_9 : decode cX1_barOf 9 = .ok (.iconst 0, 1) := by decide +kernel
theorem dX1_barOf_10 : decode cX1_barOf 10 = .ok (.aload_n 0, 1) := by decide +kernel
theorem dX1_barOf_11 : decode cX1_barOf 11 = .ok (.iload_n 1, 1) := by decide +kernel
theorem dX1_barOf_12 : decode cX1_barOf 12 = .ok (.iconst 5, 1) := by decide +kernel
theorem dX1_barOf_13 : decode cX1_barOf 13 = .ok (.invokevirtual 55, 3) := by decide +kernel
theorem dX1_barOf_16 : decode cX1_barOf 16 = .ok (.iconst 1, 1) := by decide +kernel
theorem dX1_barOf_17 : decode cX1_barOf 17 = .ok (.isub, 1) := by decide +kernel
theorem dX1_barOf_18 : decode cX1_barOf 18 = .ok (.invokestatic 59, 3) := by decide +kernel
theorem dX1_barOf_21 : decode cX1_barOf 21 = .ok (.ifCond .eq 7, 3) := by decide +kernel
theorem dX1_barOf_24 : decode cX1_barOf 24 = .ok (.iconst 1, 1) := by decide +kernel
theorem dX1_barOf_25 : decode cX1_barOf 25 = .ok (.goto 4, 3) := by decide +kernel
theorem dX1_barOf_28 : decode cX1_barOf 28 = .ok (.iconst 0, 1) := by decide +kernel
theorem dX1_barOf_29 : decode cX1_barOf 29 = .ok (.istore_n 3, 1) := by decide +kernel
theorem dX1_barOf_30 : decode cX1_barOf 30 = .ok (.iload_n 3, 1) := by decide +kernel
theorem dX1_barOf_31 : decode cX1_barOf 31 = .ok (.ifCond .eq 19, 3) := by decide +kernel
theorem dX1_barOf_34 : decode cX1_barOf 34 = .ok (.aload_n 0, 1) := by decide +kernel
theorem dX1_barOf_35 : decode cX1_barOf 35 = .ok (.getfield 34, 3) := by decide +kernel
theorem dX1_barOf_38 : decode cX1_barOf 38 = .ok (.aload_n 0, 1) := by decide +kernel
theorem dX1_barOf_39 : decode cX1_barOf 39 = .ok (.iload_n 1, 1) := by decide +kernel
theorem dX1_barOf_40 : decode cX1_barOf 40 = .ok (.iconst 4, 1) := by decide +kernel
theorem dX1_barOf_41 : decode cX1_barOf 41 = .ok (.invokevirtual 55, 3) := by decide +kernel
theorem dX1_barOf_44 : decode cX1_barOf 44 = .ok (.iload_n 2, 1) := by decide +kernel
theorem dX1_barOf_45 : decode cX1_barOf 45 = .ok (.iadd, 1) := by decide +kernel
theorem dX1_barOf_46 : decode cX1_barOf 46 = .ok (.iaload, 1) := by decide +kernel
theorem dX1_barOf_47 : decode cX1_barOf 47 = .ok (.goto 4, 3) := by decide +kernel
theorem dX1_barOf_50 : decode cX1_barOf 50 = .ok (.iconst 0, 1) := by decide +kernel
theorem dX1_barOf_51 : decode cX1_barOf 51 = .ok (.ireturn, 1) := by decide +kernel
theorem bX1_barOf_29 {l : Launch} {g : jm_G} {d : Nat} {v1 v2 s0 : Int} (hg : jm_HC g) {mu : jm_M} {Q : Option Value → jm_M → Prop} (h : jm_rg s0 ∧ (s0 = 0 → Q (some (jm_i 0)) mu) ∧ (¬ s0 = 0 → (0 ≤ ((v1 * 7) + 4) ∧ ((v1 * 7) + 4) < 140) ∧ (0 ≤ ((mu.1 32 ((v1 * 7) + 4)) + v2) ∧ ((mu.1 32 ((v1 * 7) + 4)) + v2) < 200) ∧ Q (some (jm_i (mu.1 33 ((mu.1 32 ((v1 * 7) + 4)) + v2)))) mu)) : jm_V l g (d + 2) iX1_barOf 29 [(0, .ref 29), (1, jm_i v1), (2, jm_i v2)] [jm_i s0] mu Q := by
  refine jm_mrI (fun hm0 => ?_)
  refine jm_istore_n (pc := 29) (lv' := [(3, _), (0, _), (1, _), (2, _)]) dX1_barOf_29 (by decide) rfl ?_
  refine jm_iload_n (pc := 30) 0 dX1_barOf_30 rfl ?_
  have hg1 := h.1
  have h := h.2
  refine jm_if_eq (pc := 31) 50 dX1_barOf_31 rfl hg1 (fun q => ?_) (fun q => ?_)
  · have h := h.1 q
    refine jm_iconst (pc := 50) dX1_barOf_50 ?_
    exact jm_iret (pc := 51) dX1_barOf_51 rfl h
  · have h := h.2 q
    refine jm_aload_n (pc := 34) 1 dX1_barOf_34 rfl ?_
    refine jm_getr (pc := 35) 7 dX1_barOf_35 fX1_34 (cC29 hg) rfl ?_
    refine jm_aload_n (pc := 38) 1 dX1_barOf_38 rfl ?_
    refine jm_iload_n (pc := 39) 2 dX1_barOf_39 rfl ?_
    refine jm_iconst (pc := 40) dX1_barOf_40 ?_
    have hg2 := h.1
    have h := h.2
    refine jm_inlvi (pc := 41) (As := [_, _]) (st := [_]) iX1_ofTestimony dX1_barOf_41 mX1_55 (cC29 hg) ⟨_, rfl, rfl⟩ rfl rfl (Nat.le_of_ble_eq_true rfl) (pX1_ofTestimony hg hg2 (jm_kIi ?_))
    refine jm_iload_n (pc := 44) 3 dX1_barOf_44 rfl ?_
    refine jm_iadd (pc := 45) dX1_barOf_45 ?_
    have hg3 := h.1
    have h := h.2
    refine jm_iald (pc := 46) dX1_barOf_46 (cC33 hg) (by decide) hg3.1 hg3.2 ?_
    refine jm_goto (pc := 47) 51 dX1_barOf_47 rfl ?_
    exact jm_iret (pc := 51) dX1_barOf_51 rfl h
theorem eX1_barOf {l : Launch} {g : jm_G} {d : Nat} {v1 v2 : Int} (hg : jm_HC g) {mu : jm_M} {Q : Option Value → jm_M → Prop} (h : jm_rg v1 ∧ (0 ≤ v1 ∧ v1 < (mu.1 29 4) → (0 ≤ ((v1 * 7) + 5) ∧ ((v1 * 7) + 5) < 140) ∧ jm_rg v2 ∧ jm_rg ((mu.1 32 ((v1 * 7) + 5)) - 1) ∧ (0 ≤ v2 ∧ v2 ≤ ((mu.1 32 ((v1 * 7) + 5)) - 1) → jm_V l g (d + 2) iX1_barOf 29 [(0, .ref 29), (1, jm_i v1), (2, jm_i v2)] [jm_i 1] mu Q) ∧ (¬ (0 ≤ v2 ∧ v2 ≤ ((mu.1 32 ((v1 * 7) + 5)) - 1)) → jm_V l g (d + 2) iX1_barOf 29 [(0, .ref 29), (1, jm_i v1), (2, jm_i v2)] [jm_i 0] mu Q)) ∧ (¬ (0 ≤ v1 ∧ v1 < (mu.1 29 4)) → jm_V l g (d + 2) iX1_barOf 29 [(0, .ref 29), (1, jm_i v1), (2, jm_i v2)] [jm_i 0] mu Q)) : jm_R l g (d + 2) iX1_barOf [.ref 29, jm_i v1, jm_i v2] mu Q := by
  refine jm_enter [(0, .ref 29), (1, jm_i v1), (2, jm_i v2)] (by decide) (Nat.le_of_ble_eq_true rfl) rfl ?_
  refine jm_mrI (fun hm0 => ?_)
  refine jm_aload_n (pc := 0) 0 dX1_barOf_0 rfl ?_
  refine jm_iload_n (pc := 1) 1 dX1_barOf_1 rfl ?_
  have hg1 := h.1
  have h := h.2
  refine jm_inlvi (pc := 2) (As := [_]) (st := []) iX1_isTestimony dX1_barOf_2 mX1_51 (cC29 hg) ⟨_, rfl, rfl⟩ rfl rfl (Nat.le_of_ble_eq_true rfl) (pX1_isTestimony hg hg1 (fun q => jm_kIi ?_) (fun q => jm_kIi ?_))
  · have h := h.1 q
    refine jm_if_eq (pc := 5) 28 dX1_barOf_5 rfl ⟨by decide, by decide⟩ (fun q => absurd q (by decide)) (fun q => ?_)
    refine jm_iload_n (pc := 8) 2 dX1_barOf_8 rfl ?_
    refine jm_iconst (pc := 9) dX1_barOf_9 ?_
    refine jm_aload_n (pc := 10) 0 dX1_barOf_10 rfl ?_
    refine jm_iload_n (pc := 11) 1 dX1_barOf_11 rfl ?_
    refine jm_iconst (pc := 12) dX1_barOf_12 ?_
    have hg2 := h.1
    have h := h.2
    refine jm_inlvi (pc := 13) (As := [_, _]) (st := [_, _]) iX1_ofTestimony dX1_barOf_13 mX1_55 (cC29 hg) ⟨_, rfl, rfl⟩ rfl rfl (Nat.le_of_ble_eq_true rfl) (pX1_ofTestimony hg hg2 (jm_kIi ?_))
    refine jm_iconst (pc := 16) dX1_barOf_16 ?_
    refine jm_isub (pc := 17) dX1_barOf_17 ?_
    have hg3 := h.1
    have h := h.2
    have hg4 := h.1
    have h := h.2
    refine jm_inlni (pc := 18) (As := [_, _, _]) (st := []) iX11_isWithin dX1_barOf_18 (mX1_59 hg) rfl rfl (Nat.le_of_ble_eq_true rfl) (pX11_isWithin hg hg3 ⟨by decide, by decide⟩ hg4 (fun q => jm_kIi ?_) (fun q => jm_kIi ?_))
    · have h := h.1 q
      refine jm_if_eq (pc := 21) 28 dX1_barOf_21 rfl ⟨by decide, by decide⟩ (fun q => absurd q (by decide)) (fun q => ?_)
      refine jm_iconst (pc := 24) dX1_barOf_24 ?_
      refine jm_goto (pc := 25) 29 dX1_barOf_25 rfl ?_
      exact jm_sub [0, 1, 2] rfl h
    · have h := h.2 q
      refine jm_if_eq (pc := 21) 28 dX1_barOf_21 rfl ⟨by decide, by decide⟩ (fun q => ?_) (fun q => absurd q (by decide))
      refine jm_iconst (pc := 28) dX1_barOf_28 ?_
      exact jm_sub [0, 1, 2] rfl h
  · have h := h.2 q
    refine jm_if_eq (pc := 5) 28 dX1_barOf_5 rfl ⟨by decide, by decide⟩ (fun q => ?_) (fun q => absurd q (by decide))
    refine jm_iconst (pc := 28) dX1_barOf_28 ?_
    exact jm_sub [0, 1, 2] rfl h
theorem dX8_sounds_0 : decode cX8_sounds 0 = .ok (.aload_n 0, 1) := by decide +kernel
theorem dX8_sounds_1 : decode cX8_sounds 1 = .ok (.getfield 28, 3) := by decide +kernel
theorem dX8_sounds_4 : decode cX8_sounds 4 = .ok (.iload_n 1, 1) := by decide +kernel
theorem dX8_sounds_5 : decode cX8_sounds 5 = .ok (.iload_n 2, 1) := by decide +kernel
theorem dX8_sounds_6 : decode cX8_sounds 6 = .ok (.isub, 1) := by decide +kernel
theorem dX8_sounds_7 : decode cX8_sounds 7 = .ok (.invokestatic 87, 3) := by decide +kernel
theorem dX8_sounds_10 : decode cX8_sounds 10 = .ok (.bipush 12, 2) := by decide +kernel
theorem dX8_sounds_12 : decode cX8_sounds 12 = .ok (.irem, 1) := by decide +kernel
theorem dX8_sounds_13 : decode cX8_sounds 13 = .ok (.ishr, 1) := by decide +kernel
theorem dX8_sounds_14 : decode cX8_sounds 14 = .ok (.iconst 1, 1) := by decide +kernel
theorem dX8_sounds_15 : decode cX8_sounds 15 = .ok (.iand, 1) := by decide +kernel
theorem dX8_sounds_16 : decode cX8_sounds 16 = .ok (.ifCond .eq 7, 3) := by decide +kernel
theorem dX8_sounds_19 : decode cX8_sounds 19 = .ok (.iconst 1, 1) := by decide +kernel
theorem dX8_sounds_20 : decode cX8_sounds 20 = .ok (.goto 4, 3) := by decide +kernel
theorem dX8_sounds_23 : decode cX8_sounds 23 = .ok (.iconst 0, 1) := by decide +kernel
theorem dX8_sounds_24 : decode cX8_sounds 24 = .ok (.ireturn, 1) := by decide +kernel
theorem eX8_sounds {l : Launch} {g : jm_G} {d : Nat} {v1 v2 : Int} (hg : jm_HC g) {mu : jm_M} {Q : Option Value → jm_M → Prop} (h : jm_rg (v1 - v2) ∧ jm_rg (if 0 ≤ (v1 - v2) then (v1 - v2) else -(v1 - v2)) ∧ ((jm_and (jm_shr (mu.1 6 5) (Int.tmod (if 0 ≤ (v1 - v2) then (v1 - v2) else -(v1 - v2)) 12)) 1) = 0 → Q (some (jm_i 0)) mu) ∧ (¬ (jm_and (jm_shr (mu.1 6 5) (Int.tmod (if 0 ≤ (v1 - v2) then (v1 - v2) else -(v1 - v2)) 12)) 1) = 0 → Q (some (jm_i 1)) mu)) : jm_R l g (d + 1) iX8_sounds [.ref 6, jm_i v1, jm_i v2] mu Q := by
  refine jm_enter [(0, .ref 6), (1, jm_i v1), (2, jm_i v2)] (by decide) (Nat.le_of_ble_eq_true rfl) rfl ?_
  refine jm_mrI (fun hm0 => ?_)
  refine jm_aload_n (pc := 0) 0 dX8_sounds_0 rfl ?_
  refine jm_geti (pc := 1) 5 dX8_sounds_1 fX8_28 (cC6 hg) rfl ?_
  refine jm_iload_n (pc := 4) 1 dX8_sounds_4 rfl ?_
  refine jm_iload_n (pc := 5) 2 dX8_sounds_5 rfl ?_
  refine jm_isub (pc := 6) dX8_sounds_6 ?_
  have hg1 := h.1
  have h := h.2
  refine jm_mabs (pc := 7) dX8_sounds_7 mX8_87 hg1 (Nat.le_of_ble_eq_true rfl) ?_
  refine jm_bipush (pc := 10) dX8_sounds_10 (by decide) ?_
  have hg2 := h.1
  have h := h.2
  refine jm_irem (pc := 12) hg2 ⟨by decide, by decide⟩ (by decide) dX8_sounds_12 ?_
  refine jm_ishr (pc := 13) dX8_sounds_13 ?_
  refine jm_iconst (pc := 14) dX8_sounds_14 ?_
  refine jm_iand (pc := 15) dX8_sounds_15 ?_
  refine jm_if_eq (pc := 16) 23 dX8_sounds_16 rfl (jm_rgT _) (fun q => ?_) (fun q => ?_)
  · have h := h.1 q
    refine jm_iconst (pc := 23) dX8_sounds_23 ?_
    exact jm_zret (pc := 24) dX8_sounds_24 rfl (Or.inl rfl) h
  · have h := h.2 q
    refine jm_iconst (pc := 19) dX8_sounds_19 ?_
    refine jm_goto (pc := 20) 24 dX8_sounds_20 rfl ?_
    exact jm_zret (pc := 24) dX8_sounds_24 rfl (Or.inr rfl) h
theorem pX8_sounds {l : Launch} {g : jm_G} {d : Nat} {v1 v2 : Int} (hg : jm_HC g) {mu : jm_M} {Q : Option Value → jm_M → Prop} (o0 : jm_rg (v1 - v2)) (o1 : jm_rg (if 0 ≤ (v1 - v2) then (v1 - v2) else -(v1 - v2))) (h1 : ¬ (jm_and (jm_shr (mu.1 6 5) (Int.tmod (if 0 ≤ (v1 - v2) then (v1 - v2) else -(v1 - v2)) 12)) 1) = 0 → Q (some (jm_i 1)) mu) (h0 : ¬ (¬ (jm_and (jm_shr (mu.1 6 5) (Int.tmod (if 0 ≤ (v1 - v2) then (v1 - v2) else -(v1 - v2)) 12)) 1) = 0) → Q (some (jm_i 0)) mu) : jm_R l g (d + 1) iX8_sounds [.ref 6, jm_i v1, jm_i v2] mu Q := by
  refine eX8_sounds hg ?_
  refine ⟨o0, ?_⟩
  refine ⟨o1, ?_⟩
  refine ⟨fun q0 => ?_, fun q0 => ?_⟩
  · exact h0 (by omega)
  · exact h1 (q0)
theorem dX8_barsSound_0 : decode cX8_barsSound 0 = .ok (.iload_n 1, 1) := by decide +kernel
theorem dX8_barsSound_1 : decode cX8_barsSound 1 = .ok (.ifCond .eq 20, 3) := by decide +kernel
theorem dX8_barsSound_4 : decode cX8_barsSound 4 = .ok (.iload_n 2, 1) := by decide +kernel
theorem dX8_barsSound_5 : decode cX8_barsSound 5 = .ok (.ifCond .eq 16, 3) := by decide +kernel
theorem dX8_barsSound_8 : decode cX8_barsSound 8 = .ok (.aload_n 0, 1) := by decide +kernel
theorem dX8_barsSound_9 : decode cX8_barsSound 9 = .ok (.iload_n 1, 1) := by decide +kernel
theorem dX8_barsSound_10 : decode cX8_barsSound 10 = .ok (.iload_n 2, 1) := by decide +kernel
theorem dX8_barsSound_11 : decode cX8_barsSound 11 = .ok (.invokevirtual 93, 3) := by decide +kernel
theorem dX8_barsSound_14 : decode cX8_barsSound 14 = .ok (.ifCond .eq 7, 3) := by decide +kernel
theorem dX8_barsSound_17 : decode cX8_barsSound 17 = .ok (.iconst 1, 1) := by decide +kernel
theorem dX8_barsSound_18 : decode cX8_barsSound 18 = .ok (.goto 4, 3) := by decide +kernel
theorem dX8_barsSound_21 : decode cX8_barsSound 21 = .ok (.iconst 0, 1) := by decide +kernel
theorem dX8_barsSound_22 : decode cX8_barsSound 22 = .ok (.ireturn, 1) := by decide +kernel
theorem eX8_barsSound {l : Launch} {g : jm_G} {d : Nat} {v1 v2 : Int} (hg : jm_HC g) {mu : jm_M} {Q : Option Value → jm_M → Prop} (h : jm_rg v1 ∧ (v1 = 0 → Q (some (jm_i 0)) mu) ∧ (¬ v1 = 0 → jm_rg v2 ∧ (v2 = 0 → Q (some (jm_i 0)) mu) ∧ (¬ v2 = 0 → (jm_rg (v1 - v2)) ∧ (jm_rg (if 0 ≤ (v1 - v2) then (v1 - v2) else -(v1 - v2))) ∧ (¬ (jm_and (jm_shr (mu.1 6 5) (Int.tmod (if 0 ≤ (v1 - v2) then (v1 - v2) else -(v1 - v2)) 12)) 1) = 0 → Q (some (jm_i 1)) mu) ∧ (¬ (¬ (jm_and (jm_shr (mu.1 6 5) (Int.tmod (if 0 ≤ (v1 - v2) then (v1 - v2) else -(v1 - v2)) 12)) 1) = 0) → Q (some (jm_i 0)) mu)))) : jm_R l g (d + 2) iX8_barsSound [.ref 6, jm_i v1, jm_i v2] mu Q := by
  refine jm_enter [(0, .ref 6), (1, jm_i v1), (2, jm_i v2)] (by decide) (Nat.le_of_ble_eq_true rfl) rfl ?_
  refine jm_mrI (fun hm0 => ?_)
  refine jm_iload_n (pc := 0) 1 dX8_barsSound_0 rfl ?_
  have hg1 := h.1
  have h := h.2
  refine jm_if_eq (pc := 1) 21 dX8_barsSound_1 rfl hg1 (fun q => ?_) (fun q => ?_)
  · have h := h.1 q
    refine jm_iconst (pc := 21) dX8_barsSound_21 ?_
    exact jm_zret (pc := 22) dX8_barsSound_22 rfl (Or.inl rfl) h
  · have h := h.2 q
    refine jm_iload_n (pc := 4) 2 dX8_barsSound_4 rfl ?_
    have hg2 := h.1
    have h := h.2
    refine jm_if_eq (pc := 5) 21 dX8_barsSound_5 rfl hg2 (fun q => ?_) (fun q => ?_)
    · have h := h.1 q
      refine jm_iconst (pc := 21) dX8_barsSound_21 ?_
      exact jm_zret (pc := 22) dX8_barsSound_22 rfl (Or.inl rfl) h
    · have h := h.2 q
      refine jm_aload_n (pc := 8) 0 dX8_barsSound_8 rfl ?_
      refine jm_iload_n (pc := 9) 1 dX8_barsSound_9 rfl ?_
      refine jm_iload_n (pc := 10) 2 dX8_barsSound_10 rfl ?_
      have hg3 := h.1
      have h := h.2
      have hg4 := h.1
      have h := h.2
      refine jm_inlvi (pc := 11) (As := [_, _]) (st := []) iX8_sounds dX8_barsSound_11 mX8_93 (cC6 hg) ⟨_, rfl, rfl⟩ rfl rfl (Nat.le_of_ble_eq_true rfl) (pX8_sounds hg hg3 hg4 (fun q => jm_kIi ?_) (fun q => jm_kIi ?_))
      · have h := h.1 q
        refine jm_if_eq (pc := 14) 21 dX8_barsSound_14 rfl ⟨by decide, by decide⟩ (fun q => absurd q (by decide)) (fun q => ?_)
        refine jm_iconst (pc := 17) dX8_barsSound_17 ?_
        refine jm_goto (pc := 18) 22 dX8_barsSound_18 rfl ?_
        exact jm_zret (pc := 22) dX8_barsSound_22 rfl (Or.inr rfl) h
      · have h := h.2 q
        refine jm_if_eq (pc := 14) 21 dX8_barsSound_14 rfl ⟨by decide, by decide⟩ (fun q => ?_) (fun q => absurd q (by decide))
        refine jm_iconst (pc := 21) dX8_barsSound_21 ?_
        exact jm_zret (pc := 22) dX8_barsSound_22 rfl (Or.inl rfl) h
theorem dX10_soundingBars_0 : decode cX10_soundingBars 0 = .ok (.aload_n 0, 1) := by decide +kernel
theorem dX10_soundingBars_1 : decode cX10_soundingBars 1 = .ok (.getfield 34, 3) := by decide +kernel
theorem dX10_soundingBars_4 : decode cX10_soundingBars 4 = .ok (.iload_n 1, 1) := by decide +kernel
theorem dX10_soundingBars_5 : decode cX10_soundingBars 5 = .ok (.iconst 5, 1) := by decide +kernel
theorem dX10_soundingBars_6 : decode cX10_soundingBars 6 = .ok (.invokevirtual 86, 3) := by decide +kernel
theorem dX10_soundingBars_9 : decode cX10_soundingBars 9 = .ok (.aload_n 0, 1) := by decide +kernel
theorem dX10_soundingBars_10 : decode cX10_soundingBars 10 = .ok (.getfield 34, 3) := by decide +kernel
theorem dX10_soundingBars_13 : decode cX10_soundingBars 13 = .ok (.iload_n 2, 1) := by decide +kernel
theorem dX10_soundingBars_14 : decode cX10_soundingBars 14 = .ok (.iconst 5, 1) := by decide +kernel
theorem dX10_soundingBars_15 : decode cX10_soundingBars 15 = .ok (.invokevirtual 86, 3) := by decide +kernel
theorem dX10_soundingBars_18 : decode cX10_soundingBars 18 = .ok (.invokestatic 76, 3) := by decide +kernel
theorem dX10_soundingBars_21 : decode cX10_soundingBars 21 = .ok (.istore_n 3, 1) := by decide +kernel
theorem dX10_soundingBars_22 : decode cX10_soundingBars 22 = .ok (.iconst 0, 1) := by decide +kernel
theorem dX10_soundingBars_23 : decode cX10_soundingBars 23 = .ok (.istore 4, 2) := by decide +kernel
theorem dX10_soundingBars_25 : decode cX10_soundingBars 25 = .ok (.iconst 0, 1) := by decide +kernel
theorem dX10_soundingBars_26 : decode cX10_soundingBars 26 = .ok (.istore 5, 2) := by decide +kernel
theorem dX10_soundingBars_28 : decode cX10_soundingBars 28 = .ok (.iload 5, 2) := by decide +kernel
theorem dX10_soundingBars_30 : decode cX10_soundingBars 30 = .ok (.iload_n 3, 1) := by decide +kernel
theorem dX10_soundingBars_31 : decode cX10_soundingBars 31 = .ok (.if_icmp .ge 42, 3) := by decide +kernel
theorem dX10_soundingBars_34 : decode cX10_soundingBars 34 = .ok (.aload_n 0, 1) := by decide +kernel
theorem dX10_soundingBars_35 : decode cX10_soundingBars 35 = .ok (.getfield 29, 3) := by decide +kernel
theorem dX10_soundingBars_38 : decode cX10_soundingBars 38 = .ok (.aload_n 0, 1) := by decide +kernel
theorem dX10_soundingBars_39 : decode cX10_soundingBars 39 = .ok (.getfield 34, 3) := by decide +kernel
theorem dX10_soundingBars_42 : decode cX10_soundingBars 42 = .ok (.iload_n 1, 1) := by decide +kernel
theorem dX10_soundingBars_43 : decode cX10_soundingBars 43 = .ok (.iload 5, 2) := by decide +kernel
theorem dX10_soundingBars_45 : decode cX10_soundingBars 45 = .ok (.invokevirtual 89, 3) := by decide +kernel
theorem dX10_soundingBars_48 : decode cX10_soundingBars 48 = .ok (.aload_n 0, 1) := by decide +kernel
theorem dX10_soundingBars_49 : decode cX10_soundingBars 49 = .ok (.getfield 34, 3) := by decide +kernel
theorem dX10_soundingBars_52 : decode cX10_soundingBars 52 = .ok (.iload_n 2, 1) := by decide +kernel
theorem dX10_soundingBars_53 : decode cX10_soundingBars 53 = .ok (.iload 5, 2) := by decide +kernel
theorem dX10_soundingBars_55 : decode cX10_soundingBars 55 = .ok (.invokevirtual 89, 3) := by decide +kernel
theorem dX10_soundingBars_58 : decode cX10_soundingBars 58 = .ok (.invokevirtual 92, 3) := by decide +kernel
theorem dX10_soundingBars_61 : decode cX10_soundingBars 61 = .ok (.ifCond .eq 6, 3) := by decide +kernel
theorem dX10_soundingBars_64 : decode cX10_soundingBars 64 = .ok (.iinc 4 1, 3) := by decide +kernel
theorem dX10_soundingBars_67 : decode cX10_soundingBars 67 = .ok (.iinc 5 1, 3) := by decide +kernel
theorem dX10_soundingBars_70 : decode cX10_soundingBars 70 = .ok (.goto (-42), 3) := by decide +kernel
theorem dX10_soundingBars_73 : decode cX10_soundingBars 73 = .ok (.iload 4, 2) := by decide +kernel
theorem dX10_soundingBars_75 : decode cX10_soundingBars 75 = .ok (.ireturn, 1) := by decide +kernel
theorem bX10_soundingBars_28 {l : Launch} {g : jm_G} {d : Nat} {v1 v2 v3 v4 v5 : Int} (hg : jm_HC g) {mu : jm_M} {Q : Option Value → jm_M → Prop} (h : jm_rg v5 ∧ jm_rg v3 ∧ (v3 ≤ v5 → Q (some (jm_i v4)) mu) ∧ (v5 < v3 → jm_R l g (d + 1) iX1_barOf [.ref 29, jm_i v1, jm_i v5] mu (jm_qi fun z4 m3 => jm_R l g (d + 1) iX1_barOf [.ref 29, jm_i v2, jm_i v5] m3 (jm_qi fun z8 m7 => jm_R l g (d + 1) iX8_barsSound [.ref 6, jm_i z4, jm_i z8] m7 (jm_qi fun z12 m11 => (z12 = 0 → jm_V l g (d + 2) iX10_soundingBars 28 [(0, .ref 38), (1, jm_i v1), (2, jm_i v2), (3, jm_i v3), (4, jm_i v4), (5, jm_i (v5 + 1))] [] m11 Q) ∧ (¬ z12 = 0 → jm_V l g (d + 2) iX10_soundingBars 28 [(0, .ref 38), (1, jm_i v1), (2, jm_i v2), (3, jm_i v3), (4, jm_i (v4 + 1)), (5, jm_i (v5 + 1))] [] m11 Q)))))) : jm_V l g (d + 2) iX10_soundingBars 28 [(0, .ref 38), (1, jm_i v1), (2, jm_i v2), (3, jm_i v3), (4, jm_i v4), (5, jm_i v5)] [] mu Q := by
  refine jm_mrI (fun hm0 => ?_)
  refine jm_iload (pc := 28) 5 dX10_soundingBars_28 rfl ?_
  refine jm_iload_n (pc := 30) 3 dX10_soundingBars_30 rfl ?_
  have hg1 := h.1
  have h := h.2
  have hg2 := h.1
  have h := h.2
  refine jm_icmp_ge (pc := 31) 73 dX10_soundingBars_31 rfl hg1 hg2 (fun q => ?_) (fun q => ?_)
  · have h := h.1 q
    refine jm_iload (pc := 73) 4 dX10_soundingBars_73 rfl ?_
    exact jm_iret (pc := 75) dX10_soundingBars_75 rfl h
  · have h := h.2 q
    refine jm_aload_n (pc := 34) 0 dX10_soundingBars_34 rfl ?_
    refine jm_getr (pc := 35) 1 dX10_soundingBars_35 fX10_29 (cC38 hg) rfl ?_
    refine jm_aload_n (pc := 38) 0 dX10_soundingBars_38 rfl ?_
    refine jm_getr (pc := 39) 2 dX10_soundingBars_39 fX10_34 (cC38 hg) rfl ?_
    refine jm_iload_n (pc := 42) 1 dX10_soundingBars_42 rfl ?_
    refine jm_iload (pc := 43) 5 dX10_soundingBars_43 rfl ?_
    refine jm_callvi (pc := 45) (As := [_, _]) (st := [_]) iX1_barOf dX10_soundingBars_45 mX10_89 (cC29 hg) ⟨_, rfl, rfl⟩ rfl rfl (Nat.le_of_ble_eq_true rfl) h (fun z4 m3 hz5 h hm6 => ?_)
    refine jm_aload_n (pc := 48) 0 dX10_soundingBars_48 rfl ?_
    refine jm_getr (pc := 49) 2 dX10_soundingBars_49 fX10_34 (cC38 hg) rfl ?_
    refine jm_iload_n (pc := 52) 2 dX10_soundingBars_52 rfl ?_
    refine jm_iload (pc := 53) 5 dX10_soundingBars_53 rfl ?_
    refine jm_callvi (pc := 55) (As := [_, _]) (st := [_, _]) iX1_barOf dX10_soundingBars_55 mX10_89 (cC29 hg) ⟨_, rfl, rfl⟩ rfl rfl (Nat.le_of_ble_eq_true rfl) h (fun z8 m7 hz9 h hm10 => ?_)
    refine jm_callvi (pc := 58) (As := [_, _]) (st := []) iX8_barsSound dX10_soundingBars_58 mX10_92 (cC6 hg) ⟨_, rfl, rfl⟩ rfl rfl (Nat.le_of_ble_eq_true rfl) h (fun z12 m11 hz13 h hm14 => ?_)
    refine jm_if_eq (pc := 61) 67 dX10_soundingBars_61 rfl hz13 (fun q => ?_) (fun q => ?_)
    · have h := h.1 q
      refine jm_iinc (pc := 67) (lv' := [(5, _), (0, _), (1, _), (2, _), (3, _), (4, _)]) 5 dX10_soundingBars_67 rfl (by decide) rfl ?_
      refine jm_goto (pc := 70) 28 dX10_soundingBars_70 rfl ?_
      exact jm_sub [1, 2, 3, 4, 5, 0] rfl h
    · have h := h.2 q
      refine jm_iinc (pc := 64) (lv' := [(4, _), (0, _), (1, _), (2, _), (3, _), (5, _)]) 4 dX10_soundingBars_64 rfl (by decide) rfl ?_
      refine jm_iinc (pc := 67) (lv' := [(5, _), (4, _), (0, _), (1, _), (2, _), (3, _)]) 5 dX10_soundingBars_67 rfl (by decide) rfl ?_
      refine jm_goto (pc := 70) 28 dX10_soundingBars_70 rfl ?_
      exact jm_sub [2, 3, 4, 5, 1, 0] rfl h
theorem eX10_soundingBars {l : Launch} {g : jm_G} {d : Nat} {v1 v2 : Int} (hg : jm_HC g) {mu : jm_M} {Q : Option Value → jm_M → Prop} (h : (0 ≤ ((v1 * 7) + 5) ∧ ((v1 * 7) + 5) < 140) ∧ (0 ≤ ((v2 * 7) + 5) ∧ ((v2 * 7) + 5) < 140) ∧ ∀ x3, x3 = (min (mu.1 32 ((v1 * 7) + 5)) (mu.1 32 ((v2 * 7) + 5))) → jm_V l g (d + 2) iX10_soundingBars 28 [(0, .ref 38), (1, jm_i v1), (2, jm_i v2), (3, jm_i x3), (4, jm_i 0), (5, jm_i 0)] [] mu Q) : jm_R l g (d + 2) iX10_soundingBars [.ref 38, jm_i v1, jm_i v2] mu Q := by
  refine jm_enter [(0, .ref 38), (1, jm_i v1), (2, jm_i v2)] (by decide) (Nat.le_of_ble_eq_true rfl) rfl ?_
  refine jm_mrI (fun hm0 => ?_)
  refine jm_aload_n (pc := 0) 0 dX10_soundingBars_0 rfl ?_
  refine jm_getr (pc := 1) 2 dX10_soundingBars_1 fX10_34 (cC38 hg) rfl ?_
  refine jm_iload_n (pc := 4) 1 dX10_soundingBars_4 rfl ?_
  refine jm_iconst (pc := 5) dX10_soundingBars_5 ?_
  have hg1 := h.1
  have h := h.2
  refine jm_inlvi (pc := 6) (As := [_, _]) (st := []) iX1_ofTestimony dX10_soundingBars_6 mX10_86 (cC29 hg) ⟨_, rfl, rfl⟩ rfl rfl (Nat.le_of_ble_eq_true rfl) (pX1_ofTestimony hg hg1 (jm_kIi ?_))
  refine jm_aload_n (pc := 9) 0 dX10_soundingBars_9 rfl ?_
  refine jm_getr (pc := 10) 2 dX10_soundingBars_10 fX10_34 (cC38 hg) rfl ?_
  refine jm_iload_n (pc := 13) 2 dX10_soundingBars_13 rfl ?_
  refine jm_iconst (pc := 14) dX10_soundingBars_14 ?_
  have hg2 := h.1
  have h := h.2
  refine jm_inlvi (pc := 15) (As := [_, _]) (st := [_]) iX1_ofTestimony dX10_soundingBars_15 mX10_86 (cC29 hg) ⟨_, rfl, rfl⟩ rfl rfl (Nat.le_of_ble_eq_true rfl) (pX1_ofTestimony hg hg2 (jm_kIi ?_))
  refine jm_mmin (pc := 18) dX10_soundingBars_18 mX10_76 (hm0 _ _) (hm0 _ _) (Nat.le_of_ble_eq_true rfl) ?_
  have h := h _ rfl
  refine jm_istore_n (pc := 21) (lv' := [(3, _), (0, _), (1, _), (2, _)]) dX10_soundingBars_21 (by decide) rfl ?_
  refine jm_iconst (pc := 22) dX10_soundingBars_22 ?_
  refine jm_istore (pc := 23) (lv' := [(4, _), (3, _), (0, _), (1, _), (2, _)]) dX10_soundingBars_23 (by decide) rfl ?_
  refine jm_iconst (pc := 25) dX10_soundingBars_25 ?_
  refine jm_istore (pc := 26) (lv' := [(5, _), (4, _), (3, _), (0, _), (1, _), (2, _)]) dX10_soundingBars_26 (by decide) rfl ?_
  exact jm_sub [3, 4, 5, 2, 1, 0] rfl h
theorem dX11_duet_0 : decode cX11_duet 0 = .ok (.aload_n 0, 1) := by decide +kernel
theorem dX11_duet_1 : decode cX11_duet 1 = .ok (.getfield 26, 3) := by decide +kernel
theorem dX11_duet_4 : decode cX11_duet 4 = .ok (.iload_n 1, 1) := by decide +kernel
theorem dX11_duet_5 : decode cX11_duet 5 = .ok (.invokevirtual 212, 3) := by decide +kernel
theorem dX11_duet_8 : decode cX11_duet 8 = .ok (.ifCond .eq 14, 3) := by decide +kernel
theorem dX11_duet_11 : decode cX11_duet 11 = .ok (.aload_n 0, 1) := by decide +kernel
theorem dX11_duet_12 : decode cX11_duet 12 = .ok (.getfield 26, 3) := by decide +kernel
theorem dX11_duet_15 : decode cX11_duet 15 = .ok (.iload_n 2, 1) := by decide +kernel
theorem dX11_duet_16 : decode cX11_duet 16 = .ok (.invokevirtual 212, 3) := by decide +kernel
theorem dX11_duet_19 : decode cX11_duet 19 = .ok (.ifCond .ne 5, 3) := by decide +kernel
theorem dX11_duet_22 : decode cX11_duet 22 = .ok (.iconst (-1), 1) := by decide +kernel
theorem dX11_duet_23 : decode cX11_duet 23 = .ok (.ireturn, 1) := by decide +kernel
theorem dX11_duet_24 : decode cX11_duet 24 = .ok (.aload_n 0, 1) := by decide +kernel
theorem dX11_duet_25 : decode cX11_duet 25 = .ok (.getfield 51, 3) := by decide +kernel
theorem dX11_duet_28 : decode cX11_duet 28 = .ok (.iload_n 1, 1) := by decide +kernel
theorem dX11_duet_29 : decode cX11_duet 29 = .ok (.iload_n 2, 1) := by decide +kernel
theorem dX11_duet_30 : decode cX11_duet 30 = .ok (.invokevirtual 312, 3) := by decide +kernel
theorem dX11_duet_33 : decode cX11_duet 33 = .ok (.ireturn, 1) := by decide +kernel
theorem eX11_duet {l : Launch} {g : jm_G} {d : Nat} {v1 v2 : Int} (hg : jm_HC g) {mu : jm_M} {Q : Option Value → jm_M → Prop} (h : jm_rg v1 ∧ (0 ≤ v1 ∧ v1 < (mu.1 29 4) → jm_rg v2 ∧ (0 ≤ v2 ∧ v2 < (mu.1 29 4) → jm_R l g (d + 1) iX10_soundingBars [.ref 38, jm_i v1, jm_i v2] mu (jm_qi fun z4 m3 => Q (some (jm_i z4)) m3)) ∧ (¬ (0 ≤ v2 ∧ v2 < (mu.1 29 4)) → Q (some (jm_i (-1))) mu)) ∧ (¬ (0 ≤ v1 ∧ v1 < (mu.1 29 4)) → Q (some (jm_i (-1))) mu)) : jm_R l g (d + 2) iX11_duet [.ref 0, jm_i v1, jm_i v2] mu Q := by
  refine jm_enter [(0, .ref 0), (1, jm_i v1), (2, jm_i v2)] (by decide) (Nat.le_of_ble_eq_true rfl) rfl ?_
  refine jm_mrI (fun hm0 => ?_)
  refine jm_aload_n (pc := 0) 0 dX11_duet_0 rfl ?_
  refine jm_getr (pc := 1) 2 dX11_duet_1 fX11_26 (cC0 hg) rfl ?_
  refine jm_iload_n (pc := 4) 1 dX11_duet_4 rfl ?_
  have hg1 := h.1
  have h := h.2
  refine jm_inlvi (pc := 5) (As := [_]) (st := []) iX1_isTestimony dX11_duet_5 mX11_212 (cC29 hg) ⟨_, rfl, rfl⟩ rfl rfl (Nat.le_of_ble_eq_true rfl) (pX1_isTestimony hg hg1 (fun q => jm_kIi ?_) (fun q => jm_kIi ?_))
  · have h := h.1 q
    refine jm_if_eq (pc := 8) 22 dX11_duet_8 rfl ⟨by decide, by decide⟩ (fun q => absurd q (by decide)) (fun q => ?_)
    refine jm_aload_n (pc := 11) 0 dX11_duet_11 rfl ?_
    refine jm_getr (pc := 12) 2 dX11_duet_12 fX11_26 (cC0 hg) rfl ?_
    refine jm_iload_n (pc := 15) 2 dX11_duet_15 rfl ?_
    have hg2 := h.1
    have h := h.2
    refine jm_inlvi (pc := 16) (As := [_]) (st := []) iX1_isTestimony dX11_duet_16 mX11_212 (cC29 hg) ⟨_, rfl, rfl⟩ rfl rfl (Nat.le_of_ble_eq_true rfl) (pX1_isTestimony hg hg2 (fun q => jm_kIi ?_) (fun q => jm_kIi ?_))
    · have h := h.1 q
      refine jm_if_ne (pc := 19) 24 dX11_duet_19 rfl ⟨by decide, by decide⟩ (fun q => ?_) (fun q => absurd q (by decide))
      refine jm_aload_n (pc := 24) 0 dX11_duet_24 rfl ?_
      refine jm_getr (pc := 25) 5 dX11_duet_25 fX11_51 (cC0 hg) rfl ?_
      refine jm_iload_n (pc := 28) 1 dX11_duet_28 rfl ?_
      refine jm_iload_n (pc := 29) 2 dX11_duet_29 rfl ?_
      refine jm_callvi (pc := 30) (As := [_, _]) (st := []) iX10_soundingBars dX11_duet_30 mX11_312 (cC38 hg) ⟨_, rfl, rfl⟩ rfl rfl (Nat.le_of_ble_eq_true rfl) h (fun z4 m3 hz5 h hm6 => ?_)
      exact jm_iret (pc := 33) dX11_duet_33 rfl h
    · have h := h.2 q
      refine jm_if_ne (pc := 19) 24 dX11_duet_19 rfl ⟨by decide, by decide⟩ (fun q => absurd q (by decide)) (fun q => ?_)
      refine jm_iconst (pc := 22) dX11_duet_22 ?_
      exact jm_iret (pc := 23) dX11_duet_23 rfl h
  · have h := h.2 q
    refine jm_if_eq (pc := 8) 22 dX11_duet_8 rfl ⟨by decide, by decide⟩ (fun q => ?_) (fun q => absurd q (by decide))
    refine jm_iconst (pc := 22) dX11_duet_22 ?_
    exact jm_iret (pc := 23) dX11_duet_23 rfl h
theorem dX10_soundingFrom_0 : decode cX10_soundingFrom 0 = .ok (.iconst 0, 1) := by decide +kernel
theorem dX10_soundingFrom_1 : decode cX10_soundingFrom 1 = .ok (.istore 4, 2) := by decide +kernel
theorem dX10_soundingFrom_3 : decode cX10_soundingFrom 3 = .ok (.iload_n 2, 1) := by decide +kernel
theorem dX10_soundingFrom_4 : decode cX10_soundingFrom 4 = .ok (.iconst 1, 1) := by decide +kernel
theorem dX10_soundingFrom_5 : decode cX10_soundingFrom 5 = .ok (.iadd, 1) := by decide +kernel
theorem dX10_soundingFrom_6 : decode cX10_soundingFrom 6 = .ok (.istore 5, 2) := by decide +kernel
theorem dX10_soundingFrom_8 : decode cX10_soundingFrom 8 = .ok (.iconst 0, 1) := by decide +kernel
theorem dX10_soundingFrom_9 : decode cX10_soundingFrom 9 = .ok (.istore 6, 2) := by decide +kernel
theorem dX10_soundingFrom_11 : decode cX10_soundingFrom 11 = .ok (.iload 6, 2) := by decide +kernel
theorem dX10_soundingFrom_13 : decode cX10_soundingFrom 13 = .ok (.aload_n 0, 1) := by decide +kernel
theorem dX10_soundingFrom_14 : decode cX10_soundingFrom 14 = .ok (.getfield 29, 3) := by decide +kernel
theorem dX10_soundingFrom_17 : decode cX10_soundingFrom 17 = .ok (.getfield 36, 3) := by decide +kernel
theorem dX10_soundingFrom_20 : decode cX10_soundingFrom 20 = .ok (.getfield 42, 3) := by decide +kernel
theorem dX10_soundingFrom_23 : decode cX10_soundingFrom 23 = .ok (.iload_n 1, 1) := by decide +kernel
theorem dX10_soundingFrom_24 : decode cX10_soundingFrom 24 = .ok (.iaload, 1) := by decide +kernel
theorem dX10_soundingFrom_25 : decode cX10_soundingFrom 25 = .ok (.if_icmp .ge 52, 3) := by decide +kernel
theorem dX10_soundingFrom_28 : decode cX10_soundingFrom 28 = .ok (.aload_n 0, 1) := by decide +kernel
theorem dX10_soundingFrom_29 : decode cX10_soundingFrom 29 = .ok (.getfield 29, 3) := by decide +kernel
theorem dX10_soundingFrom_32 : decode cX10_soundingFrom 32 = .ok (.iload 5, 2) := by decide +kernel
theorem dX10_soundingFrom_34 : decode cX10_soundingFrom 34 = .ok (.aload_n 0, 1) := by decide +kernel
theorem dX10_soundingFrom_35 : decode cX10_soundingFrom 35 = .ok (.getfield 34, 3) := by decide +kernel
theorem dX10_soundingFrom_38 : decode cX10_soundingFrom 38 = .ok (.iload_n 3, 1) := by decide +kernel
theorem dX10_soundingFrom_39 : decode cX10_soundingFrom 39 = .ok (.iload 6, 2) := by decide +kernel
theorem dX10_soundingFrom_41 : decode cX10_soundingFrom 41 = .ok (.invokevirtual 89, 3) := by decide +kernel
theorem dX10_soundingFrom_44 : decode cX10_soundingFrom 44 = .ok (.invokevirtual 92, 3) := by decide +kernel
theorem dX10_soundingFrom_47 : decode cX10_soundingFrom 47 = .ok (.ifCond .eq 6, 3) := by decide +kernel
theorem dX10_soundingFrom_50 : decode cX10_soundingFrom 50 = .ok (.iinc 4 1, 3) := by decide +kernel
theorem dX10_soundingFrom_53 : decode cX10_soundingFrom 53 = .ok (.iload 5, 2) := by decide +kernel
theorem dX10_soundingFrom_55 : decode cX10_soundingFrom 55 = .ok (.aload_n 0, 1) := by decide +kernel
theorem dX10_soundingFrom_56 : decode cX10_soundingFrom 56 = .ok (.getfield 29, 3) := by decide +kernel
theorem dX10_soundingFrom_59 : decode cX10_soundingFrom 59 = .ok (.getfield 36, 3) := by decide +kernel
theorem dX10_soundingFrom_62 : decode cX10_soundingFrom 62 = .ok (.iload_n 1, 1) := by decide +kernel
theorem dX10_soundingFrom_63 : decode cX10_soundingFrom 63 = .ok (.iload 6, 2) := by decide +kernel
theorem dX10_soundingFrom_65 : decode cX10_soundingFrom 65 = .ok (.invokevirtual 55, 3) := by decide +kernel
theorem dX10_soundingFrom_68 : decode cX10_soundingFrom 68 = .ok (.iadd, 1) := by decide +kernel
theorem dX10_soundingFrom_69 : decode cX10_soundingFrom 69 = .ok (.istore 5, 2) := by decide +kernel
theorem dX10_soundingFrom_71 : decode cX10_soundingFrom 71 = .ok (.iinc 6 1, 3) := by decide +kernel
theorem dX10_soundingFrom_74 : decode cX10_soundingFrom 74 = .ok (.goto (-63), 3) := by decide +kernel
theorem dX10_soundingFrom_77 : decode cX10_soundingFrom 77 = .ok (.iload 4, 2) := by decide +kernel
theorem dX10_soundingFrom_79 : decode cX10_soundingFrom 79 = .ok (.ireturn, 1) := by decide +kernel
theorem bX10_soundingFrom_53 {l : Launch} {g : jm_G} {d : Nat} {v1 v3 v4 v5 v6 : Int} (hg : jm_HC g) {mu : jm_M} {Q : Option Value → jm_M → Prop} (h : jm_R l g d iX5_stepOf [.ref 12, jm_i v1, jm_i v6] mu (jm_qi fun z2 m1 => ∀ x5, x5 = (v5 + z2) → jm_V l g (d + 1) iX10_soundingFrom 11 [(0, .ref 38), (1, jm_i v1), (3, jm_i v3), (4, jm_i v4), (5, jm_i x5), (6, jm_i (v6 + 1))] [] m1 Q)) : jm_V l g (d + 1) iX10_soundingFrom 53 [(0, .ref 38), (1, jm_i v1), (3, jm_i v3), (4, jm_i v4), (5, jm_i v5), (6, jm_i v6)] [] mu Q := by
  refine jm_mrI (fun hm0 => ?_)
  refine jm_iload (pc := 53) 4 dX10_soundingFrom_53 rfl ?_
  refine jm_aload_n (pc := 55) 0 dX10_soundingFrom_55 rfl ?_
  refine jm_getr (pc := 56) 1 dX10_soundingFrom_56 fX10_29 (cC38 hg) rfl ?_
  refine jm_getr (pc := 59) 10 dX10_soundingFrom_59 fX10_36 (cC6 hg) rfl ?_
  refine jm_iload_n (pc := 62) 1 dX10_soundingFrom_62 rfl ?_
  refine jm_iload (pc := 63) 5 dX10_soundingFrom_63 rfl ?_
  refine jm_callvi (pc := 65) (As := [_, _]) (st := [_]) iX5_stepOf dX10_soundingFrom_65 mX10_55 (cC12 hg) ⟨_, rfl, rfl⟩ rfl rfl (Nat.le_of_ble_eq_true rfl) h (fun z2 m1 hz3 h hm4 => ?_)
  refine jm_iadd (pc := 68) dX10_soundingFrom_68 ?_
  have h := h _ rfl
  refine jm_istore (pc := 69) (lv' := [(5, _), (0, _), (1, _), (3, _), (4, _), (6, _)]) dX10_soundingFrom_69 (by decide) rfl ?_
  refine jm_iinc (pc := 71) (lv' := [(6, _), (5, _), (0, _), (1, _), (3, _), (4, _)]) 5 dX10_soundingFrom_71 rfl (by decide) rfl ?_
  refine jm_goto (pc := 74) 11 dX10_soundingFrom_74 rfl ?_
  exact jm_sub [2, 3, 4, 5, 1, 0] rfl h
theorem bX10_soundingFrom_11 {l : Launch} {g : jm_G} {d : Nat} {v1 v3 v4 v5 v6 : Int} (hg : jm_HC g) {mu : jm_M} {Q : Option Value → jm_M → Prop} (h : (0 ≤ v1 ∧ v1 < 24) ∧ jm_rg v6 ∧ ((mu.1 13 v1) ≤ v6 → Q (some (jm_i v4)) mu) ∧ (v6 < (mu.1 13 v1) → jm_R l g d iX1_barOf [.ref 29, jm_i v3, jm_i v6] mu (jm_qi fun z4 m3 => jm_R l g d iX8_barsSound [.ref 6, jm_i v5, jm_i z4] m3 (jm_qi fun z8 m7 => (z8 = 0 → jm_V l g (d + 1) iX10_soundingFrom 53 [(0, .ref 38), (1, jm_i v1), (3, jm_i v3), (4, jm_i v4), (5, jm_i v5), (6, jm_i v6)] [] m7 Q) ∧ (¬ z8 = 0 → jm_V l g (d + 1) iX10_soundingFrom 53 [(0, .ref 38), (1, jm_i v1), (3, jm_i v3), (4, jm_i (v4 + 1)), (5, jm_i v5), (6, jm_i v6)] [] m7 Q))))) : jm_V l g (d + 1) iX10_soundingFrom 11 [(0, .ref 38), (1, jm_i v1), (3, jm_i v3), (4, jm_i v4), (5, jm_i v5), (6, jm_i v6)] [] mu Q := by
  refine jm_mrI (fun hm0 => ?_)
  refine jm_iload (pc := 11) 5 dX10_soundingFrom_11 rfl ?_
  refine jm_aload_n (pc := 13) 0 dX10_soundingFrom_13 rfl ?_
  refine jm_getr (pc := 14) 1 dX10_soundingFrom_14 fX10_29 (cC38 hg) rfl ?_
  refine jm_getr (pc := 17) 10 dX10_soundingFrom_17 fX10_36 (cC6 hg) rfl ?_
  refine jm_getr (pc := 20) 1 dX10_soundingFrom_20 fX10_42 (cC12 hg) rfl ?_
  refine jm_iload_n (pc := 23) 1 dX10_soundingFrom_23 rfl ?_
  have hg1 := h.1
  have h := h.2
  refine jm_iald (pc := 24) dX10_soundingFrom_24 (cC13 hg) (by decide) hg1.1 hg1.2 ?_
  have hg2 := h.1
  have h := h.2
  refine jm_icmp_ge (pc := 25) 77 dX10_soundingFrom_25 rfl hg2 (hm0 _ _) (fun q => ?_) (fun q => ?_)
  · have h := h.1 q
    refine jm_iload (pc := 77) 3 dX10_soundingFrom_77 rfl ?_
    exact jm_iret (pc := 79) dX10_soundingFrom_79 rfl h
  · have h := h.2 q
    refine jm_aload_n (pc := 28) 0 dX10_soundingFrom_28 rfl ?_
    refine jm_getr (pc := 29) 1 dX10_soundingFrom_29 fX10_29 (cC38 hg) rfl ?_
    refine jm_iload (pc := 32) 4 dX10_soundingFrom_32 rfl ?_
    refine jm_aload_n (pc := 34) 0 dX10_soundingFrom_34 rfl ?_
    refine jm_getr (pc := 35) 2 dX10_soundingFrom_35 fX10_34 (cC38 hg) rfl ?_
    refine jm_iload_n (pc := 38) 2 dX10_soundingFrom_38 rfl ?_
    refine jm_iload (pc := 39) 5 dX10_soundingFrom_39 rfl ?_
    refine jm_callvi (pc := 41) (As := [_, _]) (st := [_, _]) iX1_barOf dX10_soundingFrom_41 mX10_89 (cC29 hg) ⟨_, rfl, rfl⟩ rfl rfl (Nat.le_of_ble_eq_true rfl) h (fun z4 m3 hz5 h hm6 => ?_)
    refine jm_callvi (pc := 44) (As := [_, _]) (st := []) iX8_barsSound dX10_soundingFrom_44 mX10_92 (cC6 hg) ⟨_, rfl, rfl⟩ rfl rfl (Nat.le_of_ble_eq_true rfl) h (fun z8 m7 hz9 h hm10 => ?_)
    refine jm_if_eq (pc := 47) 53 dX10_soundingFrom_47 rfl hz9 (fun q => ?_) (fun q => ?_)
    · have h := h.1 q
      exact jm_sub [0, 1, 2, 3, 4, 5] rfl h
    · have h := h.2 q
      refine jm_iinc (pc := 50) (lv' := [(4, _), (0, _), (1, _), (3, _), (5, _), (6, _)]) 3 dX10_soundingFrom_50 rfl (by decide) rfl ?_
      exact jm_sub [1, 2, 3, 0, 4, 5] rfl h
theorem eX10_soundingFrom {l : Launch} {g : jm_G} {d : Nat} {v1 v2 v3 : Int} (hg : jm_HC g) {mu : jm_M} {Q : Option Value → jm_M → Prop} (h : ∀ x1, x1 = (v2 + 1) → jm_V l g (d + 1) iX10_soundingFrom 11 [(0, .ref 38), (1, jm_i v1), (3, jm_i v3), (4, jm_i 0), (5, jm_i x1), (6, jm_i 0)] [] mu Q) : jm_R l g (d + 1) iX10_soundingFrom [.ref 38, jm_i v1, jm_i v2, jm_i v3] mu Q := by
  refine jm_enter [(0, .ref 38), (1, jm_i v1), (2, jm_i v2), (3, jm_i v3)] (by decide) (Nat.le_of_ble_eq_true rfl) rfl ?_
  refine jm_mrI (fun hm0 => ?_)
  refine jm_iconst (pc := 0) dX10_soundingFrom_0 ?_
  refine jm_istore (pc := 1) (lv' := [(4, _), (0, _), (1, _), (2, _), (3, _)]) dX10_soundingFrom_1 (by decide) rfl ?_
  refine jm_iload_n (pc := 3) 3 dX10_soundingFrom_3 rfl ?_
  refine jm_iconst (pc := 4) dX10_soundingFrom_4 ?_
  refine jm_iadd (pc := 5) dX10_soundingFrom_5 ?_
  have h := h _ rfl
  refine jm_istore (pc := 6) (lv' := [(5, _), (4, _), (0, _), (1, _), (2, _), (3, _)]) dX10_soundingFrom_6 (by decide) rfl ?_
  refine jm_iconst (pc := 8) dX10_soundingFrom_8 ?_
  refine jm_istore (pc := 9) (lv' := [(6, _), (5, _), (4, _), (0, _), (1, _), (2, _), (3, _)]) dX10_soundingFrom_9 (by decide) rfl ?_
  exact jm_sub [3, 4, 6, 2, 1, 0] rfl h
theorem dX10_bestKey_0 : decode cX10_bestKey 0 = .ok (.iconst (-1), 1) := by decide +kernel
theorem dX10_bestKey_1 : decode cX10_bestKey 1 = .ok (.istore 5, 2) := by decide +kernel
theorem dX10_bestKey_3 : decode cX10_bestKey 3 = .ok (.iconst (-1), 1) := by decide +kernel
theorem dX10_bestKey_4 : decode cX10_bestKey 4 = .ok (.istore 6, 2) := by decide +kernel
theorem dX10_bestKey_6 : decode cX10_bestKey 6 = .ok (.aload_n 0, 1) := by decide +kernel
theorem dX10_bestKey_7 : decode cX10_bestKey 7 = .ok (.getfield 19, 3) := by decide +kernel
theorem dX10_bestKey_10 : decode cX10_bestKey 10 = .ok (.iload_n 1, 1) := by decide +kernel
theorem dX10_bestKey_11 : decode cX10_bestKey 11 = .ok (.iload_n 2, 1) := by decide +kernel
theorem dX10_bestKey_12 : decode cX10_bestKey 12 = .ok (.invokevirtual 96, 3) := by decide +kernel
theorem dX10_bestKey_15 : decode cX10_bestKey 15 = .ok (.istore 7, 2) := by decide +kernel
theorem dX10_bestKey_17 : decode cX10_bestKey 17 = .ok (.aload_n 0, 1) := by decide +kernel
theorem dX10_bestKey_18 : decode cX10_bestKey 18 = .ok (.getfield 19, 3) := by decide +kernel
theorem dX10_bestKey_21 : decode cX10_bestKey 21 = .ok (.iload_n 1, 1) := by decide +kernel
theorem dX10_bestKey_22 : decode cX10_bestKey 22 = .ok (.iload_n 2, 1) := by decide +kernel
theorem dX10_bestKey_23 : decode cX10_bestKey 23 = .ok (.invokevirtual 99, 3) := by decide +kernel
theorem dX10_bestKey_26 : decode cX10_bestKey 26 = .ok (.istore 8, 2) := by decide +kernel
theorem dX10_bestKey_28 : decode cX10_bestKey 28 = .ok (.iload 8, 2) := by decide +kernel
theorem dX10_bestKey_30 : decode cX10_bestKey 30 = .ok (.iload 7, 2) := by decide +kernel
theorem dX10_bestKey_32 : decode cX10_bestKey 32 = .ok (.if_icmp .gt 34, 3) := by decide +kernel
theorem dX10_bestKey_35 : decode cX10_bestKey 35 = .ok (.aload_n 0, 1) := by decide +kernel
theorem dX10_bestKey_36 : decode cX10_bestKey 36 = .ok (.iload_n 2, 1) := by decide +kernel
theorem dX10_bestKey_37 : decode cX10_bestKey 37 = .ok (.iload 8, 2) := by decide +kernel
theorem dX10_bestKey_39 : decode cX10_bestKey 39 = .ok (.iload_n 3, 1) := by decide +kernel
theorem dX10_bestKey_40 : decode cX10_bestKey 40 = .ok (.invokevirtual 102, 3) := by decide +kernel
theorem dX10_bestKey_43 : decode cX10_bestKey 43 = .ok (.istore 9, 2) := by decide +kernel
theorem dX10_bestKey_45 : decode cX10_bestKey 45 = .ok (.iload 9, 2) := by decide +kernel
theorem dX10_bestKey_47 : decode cX10_bestKey 47 = .ok (.iload 6, 2) := by decide +kernel
theorem dX10_bestKey_49 : decode cX10_bestKey 49 = .ok (.if_icmp .le 11, 3) := by decide +kernel
theorem dX10_bestKey_52 : decode cX10_bestKey 52 = .ok (.iload 9, 2) := by decide +kernel
theorem dX10_bestKey_54 : decode cX10_bestKey 54 = .ok (.istore 6, 2) := by decide +kernel
theorem dX10_bestKey_56 : decode cX10_bestKey 56 = .ok (.iload 8, 2) := by decide +kernel
theorem dX10_bestKey_58 : decode cX10_bestKey 58 = .ok (.istore 5, 2) := by decide +kernel
theorem dX10_bestKey_60 : decode cX10_bestKey 60 = .ok (.iinc 8 1, 3) := by decide +kernel
theorem dX10_bestKey_63 : decode cX10_bestKey 63 = .ok (.goto (-35), 3) := by decide +kernel
theorem dX10_bestKey_66 : decode cX10_bestKey 66 = .ok (.iload 4, 2) := by decide +kernel
theorem dX10_bestKey_68 : decode cX10_bestKey 68 = .ok (.ifCond .ne 8, 3) := by decide +kernel
theorem dX10_bestKey_71 : decode cX10_bestKey 71 = .ok (.iload 5, 2) := by decide +kernel
theorem dX10_bestKey_73 : decode cX10_bestKey 73 = .ok (.goto 5, 3) := by decide +kernel
theorem dX10_bestKey_76 : decode cX10_bestKey 76 = .ok (.iload 6, 2) := by decide +kernel
theorem dX10_bestKey_78 : decode cX10_bestKey 78 = .ok (.ireturn, 1) := by decide +kernel
theorem bX10_bestKey_28 {l : Launch} {g : jm_G} {d : Nat} {v2 v3 v4 v5 v6 v7 v8 : Int} (hg : jm_HC g) {mu : jm_M} {Q : Option Value → jm_M → Prop} (h : jm_rg v8 ∧ jm_rg v7 ∧ (v7 < v8 → jm_rg v4 ∧ (¬ v4 = 0 → Q (some (jm_i v6)) mu) ∧ (v4 = 0 → Q (some (jm_i v5)) mu)) ∧ (v8 ≤ v7 → jm_R l g d iX10_soundingFrom [.ref 38, jm_i v2, jm_i v8, jm_i v3] mu (jm_qi fun z5 m4 => jm_rg v6 ∧ (z5 ≤ v6 → jm_V l g (d + 1) iX10_bestKey 28 [(0, .ref 38), (2, jm_i v2), (3, jm_i v3), (4, jm_i v4), (5, jm_i v5), (6, jm_i v6), (7, jm_i v7), (8, jm_i (v8 + 1))] [] m4 Q) ∧ (v6 < z5 → jm_V l g (d + 1) iX10_bestKey 28 [(0, .ref 38), (2, jm_i v2), (3, jm_i v3), (4, jm_i v4), (5, jm_i v8), (6, jm_i z5), (7, jm_i v7), (8, jm_i (v8 + 1))] [] m4 Q)))) : jm_V l g (d + 1) iX10_bestKey 28 [(0, .ref 38), (2, jm_i v2), (3, jm_i v3), (4, jm_i v4), (5, jm_i v5), (6, jm_i v6), (7, jm_i v7), (8, jm_i v8)] [] mu Q := by
  refine jm_mrI (fun hm0 => ?_)
  refine jm_iload (pc := 28) 7 dX10_bestKey_28 rfl ?_
  refine jm_iload (pc := 30) 6 dX10_bestKey_30 rfl ?_
  have hg1 := h.1
  have h := h.2
  have hg2 := h.1
  have h := h.2
  refine jm_icmp_gt (pc := 32) 66 dX10_bestKey_32 rfl hg1 hg2 (fun q => ?_) (fun q => ?_)
  · have h := h.1 q
    refine jm_iload (pc := 66) 3 dX10_bestKey_66 rfl ?_
    have hg3 := h.1
    have h := h.2
    refine jm_if_ne (pc := 68) 76 dX10_bestKey_68 rfl hg3 (fun q => ?_) (fun q => ?_)
    · have h := h.1 q
      refine jm_iload (pc := 76) 5 dX10_bestKey_76 rfl ?_
      exact jm_iret (pc := 78) dX10_bestKey_78 rfl h
    · have h := h.2 q
      refine jm_iload (pc := 71) 4 dX10_bestKey_71 rfl ?_
      refine jm_goto (pc := 73) 78 dX10_bestKey_73 rfl ?_
      exact jm_iret (pc := 78) dX10_bestKey_78 rfl h
  · have h := h.2 q
    refine jm_aload_n (pc := 35) 0 dX10_bestKey_35 rfl ?_
    refine jm_iload_n (pc := 36) 1 dX10_bestKey_36 rfl ?_
    refine jm_iload (pc := 37) 7 dX10_bestKey_37 rfl ?_
    refine jm_iload_n (pc := 39) 2 dX10_bestKey_39 rfl ?_
    refine jm_callvi (pc := 40) (As := [_, _, _]) (st := []) iX10_soundingFrom dX10_bestKey_40 mX10_102 (cC38 hg) ⟨_, rfl, rfl⟩ rfl rfl (Nat.le_of_ble_eq_true rfl) h (fun z5 m4 hz6 h hm7 => ?_)
    refine jm_istore (pc := 43) (lv' := [(9, _), (0, _), (2, _), (3, _), (4, _), (5, _), (6, _), (7, _), (8, _)]) dX10_bestKey_43 (by decide) rfl ?_
    refine jm_iload (pc := 45) 0 dX10_bestKey_45 rfl ?_
    refine jm_iload (pc := 47) 6 dX10_bestKey_47 rfl ?_
    have hg8 := h.1
    have h := h.2
    refine jm_icmp_le (pc := 49) 60 dX10_bestKey_49 rfl hz6 hg8 (fun q => ?_) (fun q => ?_)
    · have h := h.1 q
      refine jm_iinc (pc := 60) (lv' := [(8, _), (9, _), (0, _), (2, _), (3, _), (4, _), (5, _), (6, _), (7, _)]) 8 dX10_bestKey_60 rfl (by decide) rfl ?_
      refine jm_goto (pc := 63) 28 dX10_bestKey_63 rfl ?_
      exact jm_sub [2, 3, 4, 5, 6, 7, 8, 0] rfl h
    · have h := h.2 q
      refine jm_iload (pc := 52) 0 dX10_bestKey_52 rfl ?_
      refine jm_istore (pc := 54) (lv' := [(6, _), (9, _), (0, _), (2, _), (3, _), (4, _), (5, _), (7, _), (8, _)]) dX10_bestKey_54 (by decide) rfl ?_
      refine jm_iload (pc := 56) 8 dX10_bestKey_56 rfl ?_
      refine jm_istore (pc := 58) (lv' := [(5, _), (6, _), (9, _), (0, _), (2, _), (3, _), (4, _), (7, _), (8, _)]) dX10_bestKey_58 (by decide) rfl ?_
      refine jm_iinc (pc := 60) (lv' := [(8, _), (5, _), (6, _), (9, _), (0, _), (2, _), (3, _), (4, _), (7, _)]) 8 dX10_bestKey_60 rfl (by decide) rfl ?_
      refine jm_goto (pc := 63) 28 dX10_bestKey_63 rfl ?_
      exact jm_sub [4, 5, 6, 7, 1, 2, 8, 0] rfl h
theorem eX10_bestKey {l : Launch} {g : jm_G} {d : Nat} {v1 v2 v3 v4 : Int} (hg : jm_HC g) {mu : jm_M} {Q : Option Value → jm_M → Prop} (h : jm_R l g d iX0_highestKey [.ref 35, jm_i v1, jm_i v2] mu (jm_qi fun z2 m1 => jm_R l g d iX0_lowestKey [.ref 35, jm_i v1, jm_i v2] m1 (jm_qi fun z6 m5 => jm_V l g (d + 1) iX10_bestKey 28 [(0, .ref 38), (2, jm_i v2), (3, jm_i v3), (4, jm_i v4), (5, jm_i (-1)), (6, jm_i (-1)), (7, jm_i z2), (8, jm_i z6)] [] m5 Q))) : jm_R l g (d + 1) iX10_bestKey [.ref 38, jm_i v1, jm_i v2, jm_i v3, jm_i v4] mu Q := by
  refine jm_enter [(0, .ref 38), (1, jm_i v1), (2, jm_i v2), (3, jm_i v3), (4, jm_i v4)] (by decide) (Nat.le_of_ble_eq_true rfl) rfl ?_
  refine jm_mrI (fun hm0 => ?_)
  refine jm_iconst (pc := 0) dX10_bestKey_0 ?_
  refine jm_istore (pc := 1) (lv' := [(5, _), (0, _), (1, _), (2, _), (3, _), (4, _)]) dX10_bestKey_1 (by decide) rfl ?_
  refine jm_iconst (pc := 3) dX10_bestKey_3 ?_
  refine jm_istore (pc := 4) (lv' := [(6, _), (5, _), (0, _), (1, _), (2, _), (3, _), (4, _)]) dX10_bestKey_4 (by decide) rfl ?_
  refine jm_aload_n (pc := 6) 2 dX10_bestKey_6 rfl ?_
  refine jm_getr (pc := 7) 0 dX10_bestKey_7 fX10_19 (cC38 hg) rfl ?_
  refine jm_iload_n (pc := 10) 3 dX10_bestKey_10 rfl ?_
  refine jm_iload_n (pc := 11) 4 dX10_bestKey_11 rfl ?_
  refine jm_callvi (pc := 12) (As := [_, _]) (st := []) iX0_highestKey dX10_bestKey_12 mX10_96 (cC35 hg) ⟨_, rfl, rfl⟩ rfl rfl (Nat.le_of_ble_eq_true rfl) h (fun z2 m1 hz3 h hm4 => ?_)
  refine jm_istore (pc := 15) (lv' := [(7, _), (6, _), (5, _), (0, _), (1, _), (2, _), (3, _), (4, _)]) dX10_bestKey_15 (by decide) rfl ?_
  refine jm_aload_n (pc := 17) 3 dX10_bestKey_17 rfl ?_
  refine jm_getr (pc := 18) 0 dX10_bestKey_18 fX10_19 (cC38 hg) rfl ?_
  refine jm_iload_n (pc := 21) 4 dX10_bestKey_21 rfl ?_
  refine jm_iload_n (pc := 22) 5 dX10_bestKey_22 rfl ?_
  refine jm_callvi (pc := 23) (As := [_, _]) (st := []) iX0_lowestKey dX10_bestKey_23 mX10_99 (cC35 hg) ⟨_, rfl, rfl⟩ rfl rfl (Nat.le_of_ble_eq_true rfl) h (fun z6 m5 hz7 h hm8 => ?_)
  refine jm_istore (pc := 26) (lv' := [(8, _), (7, _), (6, _), (5, _), (0, _), (1, _), (2, _), (3, _), (4, _)]) dX10_bestKey_26 (by decide) rfl ?_
  exact jm_sub [4, 6, 7, 8, 3, 2, 1, 0] rfl h
