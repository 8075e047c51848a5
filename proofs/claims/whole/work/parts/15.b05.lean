theorem dX11_best_0 : decode cX11_best 0 = .ok (.aload_n 0, 1) := by decide +kernel
theorem dX11_best_1 : decode cX11_best 1 = .ok (.getfield 35, 3) := by decide +kernel
theorem dX11_best_4 : decode cX11_best 4 = .ok (.iload_n 1, 1) := by decide +kernel
theorem dX11_best_5 : decode cX11_best 5 = .ok (.iload_n 2, 1) := by decide +kernel
theorem dX11_best_6 : decode cX11_best 6 = .ok (.invokevirtual 284, 3) := by decide +kernel
theorem dX11_best_9 : decode cX11_best 9 = .ok (.istore 5, 2) := by decide +kernel
theorem dX11_best_11 : decode cX11_best 11 = .ok (.iload 5, 2) := by decide +kernel
theorem dX11_best_13 : decode cX11_best 13 = .ok (.iconst (-1), 1) := by decide +kernel
theorem dX11_best_14 : decode cX11_best 14 = .ok (.if_icmp .eq 24, 3) := by decide +kernel
theorem dX11_best_17 : decode cX11_best 17 = .ok (.aload_n 0, 1) := by decide +kernel
theorem dX11_best_18 : decode cX11_best 18 = .ok (.getfield 26, 3) := by decide +kernel
theorem dX11_best_21 : decode cX11_best 21 = .ok (.iload_n 3, 1) := by decide +kernel
theorem dX11_best_22 : decode cX11_best 22 = .ok (.invokevirtual 212, 3) := by decide +kernel
theorem dX11_best_25 : decode cX11_best 25 = .ok (.ifCond .eq 13, 3) := by decide +kernel
theorem dX11_best_28 : decode cX11_best 28 = .ok (.iload 4, 2) := by decide +kernel
theorem dX11_best_30 : decode cX11_best 30 = .ok (.iconst 0, 1) := by decide +kernel
theorem dX11_best_31 : decode cX11_best 31 = .ok (.iconst 1, 1) := by decide +kernel
theorem dX11_best_32 : decode cX11_best 32 = .ok (.invokestatic 123, 3) := by decide +kernel
theorem dX11_best_35 : decode cX11_best 35 = .ok (.ifCond .ne 5, 3) := by decide +kernel
theorem dX11_best_38 : decode cX11_best 38 = .ok (.iconst (-1), 1) := by decide +kernel
theorem dX11_best_39 : decode cX11_best 39 = .ok (.ireturn, 1) := by decide +kernel
theorem dX11_best_40 : decode cX11_best 40 = .ok (.aload_n 0, 1) := by decide +kernel
theorem dX11_best_41 : decode cX11_best 41 = .ok (.getfield 51, 3) := by decide +kernel
theorem dX11_best_44 : decode cX11_best 44 = .ok (.iload_n 1, 1) := by decide +kernel
theorem dX11_best_45 : decode cX11_best 45 = .ok (.iload 5, 2) := by decide +kernel
theorem dX11_best_47 : decode cX11_best 47 = .ok (.iload_n 3, 1) := by decide +kernel
theorem dX11_best_48 : decode cX11_best 48 = .ok (.iload 4, 2) := by decide +kernel
theorem dX11_best_50 : decode cX11_best 50 = .ok (.invokevirtual 315, 3) := by decide +kernel
theorem dX11_best_53 : decode cX11_best 53 = .ok (.ireturn, 1) := by decide +kernel
theorem eX11_best {l : Launch} {g : jm_G} {d : Nat} {v1 v2 v3 v4 : Int} (hg : jm_HC g) {mu : jm_M} {Q : Option Value → jm_M → Prop} (h : jm_R l g (d + 1) iX0_motiveOf [.ref 35, jm_i v1, jm_i v2] mu (jm_qi fun z2 m1 => (z2 = (-1) → Q (some (jm_i (-1))) m1) ∧ (¬ z2 = (-1) → jm_rg v3 ∧ (0 ≤ v3 ∧ v3 < (m1.1 29 4) → jm_rg v4 ∧ (0 ≤ v4 ∧ v4 ≤ 1 → jm_R l g (d + 1) iX10_bestKey [.ref 38, jm_i v1, jm_i z2, jm_i v3, jm_i v4] m1 (jm_qi fun z8 m7 => Q (some (jm_i z8)) m7)) ∧ (¬ (0 ≤ v4 ∧ v4 ≤ 1) → Q (some (jm_i (-1))) m1)) ∧ (¬ (0 ≤ v3 ∧ v3 < (m1.1 29 4)) → Q (some (jm_i (-1))) m1)))) : jm_R l g (d + 2) iX11_best [.ref 0, jm_i v1, jm_i v2, jm_i v3, jm_i v4] mu Q := by
  refine jm_enter [(0, .ref 0), (1, jm_i v1), (2, jm_i v2), (3, jm_i v3), (4, jm_i v4)] (by decide) (Nat.le_of_ble_eq_true rfl) rfl ?_
  refine jm_mrI (fun hm0 => ?_)
  refine jm_aload_n (pc := 0) 0 dX11_best_0 rfl ?_
  refine jm_getr (pc := 1) 3 dX11_best_1 fX11_35 (cC0 hg) rfl ?_
  refine jm_iload_n (pc := 4) 1 dX11_best_4 rfl ?_
  refine jm_iload_n (pc := 5) 2 dX11_best_5 rfl ?_
  refine jm_callvi (pc := 6) (As := [_, _]) (st := []) iX0_motiveOf dX11_best_6 mX11_284 (cC35 hg) ⟨_, rfl, rfl⟩ rfl rfl (Nat.le_of_ble_eq_true rfl) h (fun z2 m1 hz3 h hm4 => ?_)
  refine jm_istore (pc := 9) (lv' := [(5, _), (0, _), (1, _), (2, _), (3, _), (4, _)]) dX11_best_9 (by decide) rfl ?_
  refine jm_iload (pc := 11) 0 dX11_best_11 rfl ?_
  refine jm_iconst (pc := 13) dX11_best_13 ?_
  refine jm_icmp_eq (pc := 14) 38 dX11_best_14 rfl hz3 ⟨by decide, by decide⟩ (fun q => ?_) (fun q => ?_)
  · have h := h.1 q
    refine jm_iconst (pc := 38) dX11_best_38 ?_
    exact jm_iret (pc := 39) dX11_best_39 rfl h
  · have h := h.2 q
    refine jm_aload_n (pc := 17) 1 dX11_best_17 rfl ?_
    refine jm_getr (pc := 18) 2 dX11_best_18 fX11_26 (cC0 hg) rfl ?_
    refine jm_iload_n (pc := 21) 4 dX11_best_21 rfl ?_
    have hg5 := h.1
    have h := h.2
    refine jm_inlvi (pc := 22) (As := [_]) (st := []) iX1_isTestimony dX11_best_22 mX11_212 (cC29 hg) ⟨_, rfl, rfl⟩ rfl rfl (Nat.le_of_ble_eq_true rfl) (pX1_isTestimony hg hg5 (fun q => jm_kIi ?_) (fun q => jm_kIi ?_))
    · have h := h.1 q
      refine jm_if_eq (pc := 25) 38 dX11_best_25 rfl ⟨by decide, by decide⟩ (fun q => absurd q (by decide)) (fun q => ?_)
      refine jm_iload (pc := 28) 5 dX11_best_28 rfl ?_
      refine jm_iconst (pc := 30) dX11_best_30 ?_
      refine jm_iconst (pc := 31) dX11_best_31 ?_
      have hg6 := h.1
      have h := h.2
      refine jm_inlsi (pc := 32) (As := [_, _, _]) (st := []) iX11_isWithin dX11_best_32 mX11_123 rfl rfl (Nat.le_of_ble_eq_true rfl) (pX11_isWithin hg hg6 ⟨by decide, by decide⟩ ⟨by decide, by decide⟩ (fun q => jm_kIi ?_) (fun q => jm_kIi ?_))
      · have h := h.1 q
        refine jm_if_ne (pc := 35) 40 dX11_best_35 rfl ⟨by decide, by decide⟩ (fun q => ?_) (fun q => absurd q (by decide))
        refine jm_aload_n (pc := 40) 1 dX11_best_40 rfl ?_
        refine jm_getr (pc := 41) 5 dX11_best_41 fX11_51 (cC0 hg) rfl ?_
        refine jm_iload_n (pc := 44) 2 dX11_best_44 rfl ?_
        refine jm_iload (pc := 45) 0 dX11_best_45 rfl ?_
        refine jm_iload_n (pc := 47) 4 dX11_best_47 rfl ?_
        refine jm_iload (pc := 48) 5 dX11_best_48 rfl ?_
        refine jm_callvi (pc := 50) (As := [_, _, _, _]) (st := []) iX10_bestKey dX11_best_50 mX11_315 (cC38 hg) ⟨_, rfl, rfl⟩ rfl rfl (Nat.le_of_ble_eq_true rfl) h (fun z8 m7 hz9 h hm10 => ?_)
        exact jm_iret (pc := 53) dX11_best_53 rfl h
      · have h := h.2 q
        refine jm_if_ne (pc := 35) 40 dX11_best_35 rfl ⟨by decide, by decide⟩ (fun q => absurd q (by decide)) (fun q => ?_)
        refine jm_iconst (pc := 38) dX11_best_38 ?_
        exact jm_iret (pc := 39) dX11_best_39 rfl h
    · have h := h.2 q
      refine jm_if_eq (pc := 25) 38 dX11_best_25 rfl ⟨by decide, by decide⟩ (fun q => ?_) (fun q => absurd q (by decide))
      refine jm_iconst (pc := 38) dX11_best_38 ?_
      exact jm_iret (pc := 39) dX11_best_39 rfl h
theorem dX10_soundingBehind_0 : decode cX10_soundingBehind 0 = .ok (.iconst 0, 1) := by decide +kernel
theorem dX10_soundingBehind_1 : decode cX10_soundingBehind 1 = .ok (.istore_n 3, 1) := by decide +kernel
theorem dX10_soundingBehind_2 : decode cX10_soundingBehind 2 = .ok (.iload_n 2, 1) := by decide +kernel
theorem dX10_soundingBehind_3 : decode cX10_soundingBehind 3 = .ok (.istore 4, 2) := by decide +kernel
theorem dX10_soundingBehind_5 : decode cX10_soundingBehind 5 = .ok (.iload 4, 2) := by decide +kernel
theorem dX10_soundingBehind_7 : decode cX10_soundingBehind 7 = .ok (.aload_n 0, 1) := by decide +kernel
theorem dX10_soundingBehind_8 : decode cX10_soundingBehind 8 = .ok (.getfield 34, 3) := by decide +kernel
theorem dX10_soundingBehind_11 : decode cX10_soundingBehind 11 = .ok (.iload_n 1, 1) := by decide +kernel
theorem dX10_soundingBehind_12 : decode cX10_soundingBehind 12 = .ok (.iconst 5, 1) := by decide +kernel
theorem dX10_soundingBehind_13 : decode cX10_soundingBehind 13 = .ok (.invokevirtual 86, 3) := by decide +kernel
theorem dX10_soundingBehind_16 : decode cX10_soundingBehind 16 = .ok (.if_icmp .ge 44, 3) := by decide +kernel
theorem dX10_soundingBehind_19 : decode cX10_soundingBehind 19 = .ok (.aload_n 0, 1) := by decide +kernel
theorem dX10_soundingBehind_20 : decode cX10_soundingBehind 20 = .ok (.getfield 29, 3) := by decide +kernel
theorem dX10_soundingBehind_23 : decode cX10_soundingBehind 23 = .ok (.aload_n 0, 1) := by decide +kernel
theorem dX10_soundingBehind_24 : decode cX10_soundingBehind 24 = .ok (.getfield 34, 3) := by decide +kernel
theorem dX10_soundingBehind_27 : decode cX10_soundingBehind 27 = .ok (.iload_n 1, 1) := by decide +kernel
theorem dX10_soundingBehind_28 : decode cX10_soundingBehind 28 = .ok (.iload 4, 2) := by decide +kernel
theorem dX10_soundingBehind_30 : decode cX10_soundingBehind 30 = .ok (.invokevirtual 89, 3) := by decide +kernel
theorem dX10_soundingBehind_33 : decode cX10_soundingBehind 33 = .ok (.aload_n 0, 1) := by decide +kernel
theorem dX10_soundingBehind_34 : decode cX10_soundingBehind 34 = .ok (.getfield 34, 3) := by decide +kernel
theorem dX10_soundingBehind_37 : decode cX10_soundingBehind 37 = .ok (.iload_n 1, 1) := by decide +kernel
theorem dX10_soundingBehind_38 : decode cX10_soundingBehind 38 = .ok (.iload 4, 2) := by decide +kernel
theorem dX10_soundingBehind_40 : decode cX10_soundingBehind 40 = .ok (.iload_n 2, 1) := by decide +kernel
theorem dX10_soundingBehind_41 : decode cX10_soundingBehind 41 = .ok (.isub, 1) := by decide +kernel
theorem dX10_soundingBehind_42 : decode cX10_soundingBehind 42 = .ok (.invokevirtual 89, 3) := by decide +kernel
theorem dX10_soundingBehind_45 : decode cX10_soundingBehind 45 = .ok (.invokevirtual 92, 3) := by decide +kernel
theorem dX10_soundingBehind_48 : decode cX10_soundingBehind 48 = .ok (.ifCond .eq 6, 3) := by decide +kernel
theorem dX10_soundingBehind_51 : decode cX10_soundingBehind 51 = .ok (.iinc 3 1, 3) := by decide +kernel
theorem dX10_soundingBehind_54 : decode cX10_soundingBehind 54 = .ok (.iinc 4 1, 3) := by decide +kernel
theorem dX10_soundingBehind_57 : decode cX10_soundingBehind 57 = .ok (.goto (-52), 3) := by decide +kernel
theorem dX10_soundingBehind_60 : decode cX10_soundingBehind 60 = .ok (.iload_n 3, 1) := by decide +kernel
theorem dX10_soundingBehind_61 : decode cX10_soundingBehind 61 = .ok (.ireturn, 1) := by decide +kernel
theorem bX10_soundingBehind_5 {l : Launch} {g : jm_G} {d : Nat} {v1 v2 v3 v4 : Int} (hg : jm_HC g) {mu : jm_M} {Q : Option Value → jm_M → Prop} (h : (0 ≤ ((v1 * 7) + 5) ∧ ((v1 * 7) + 5) < 140) ∧ jm_rg v4 ∧ ((mu.1 32 ((v1 * 7) + 5)) ≤ v4 → Q (some (jm_i v3)) mu) ∧ (v4 < (mu.1 32 ((v1 * 7) + 5)) → jm_R l g (d + 1) iX1_barOf [.ref 29, jm_i v1, jm_i v4] mu (jm_qi fun z4 m3 => jm_R l g (d + 1) iX1_barOf [.ref 29, jm_i v1, jm_i (v4 - v2)] m3 (jm_qi fun z8 m7 => jm_R l g (d + 1) iX8_barsSound [.ref 6, jm_i z4, jm_i z8] m7 (jm_qi fun z12 m11 => (z12 = 0 → jm_V l g (d + 2) iX10_soundingBehind 5 [(0, .ref 38), (1, jm_i v1), (2, jm_i v2), (3, jm_i v3), (4, jm_i (v4 + 1))] [] m11 Q) ∧ (¬ z12 = 0 → jm_V l g (d + 2) iX10_soundingBehind 5 [(0, .ref 38), (1, jm_i v1), (2, jm_i v2), (3, jm_i (v3 + 1)), (4, jm_i (v4 + 1))] [] m11 Q)))))) : jm_V l g (d + 2) iX10_soundingBehind 5 [(0, .ref 38), (1, jm_i v1), (2, jm_i v2), (3, jm_i v3), (4, jm_i v4)] [] mu Q := by
  refine jm_mrI (fun hm0 => ?_)
  refine jm_iload (pc := 5) 4 dX10_soundingBehind_5 rfl ?_
  refine jm_aload_n (pc := 7) 0 dX10_soundingBehind_7 rfl ?_
  refine jm_getr (pc := 8) 2 dX10_soundingBehind_8 fX10_34 (cC38 hg) rfl ?_
  refine jm_iload_n (pc := 11) 1 dX10_soundingBehind_11 rfl ?_
  refine jm_iconst (pc := 12) dX10_soundingBehind_12 ?_
  have hg1 := h.1
  have h := h.2
  refine jm_inlvi (pc := 13) (As := [_, _]) (st := [_]) iX1_ofTestimony dX10_soundingBehind_13 mX10_86 (cC29 hg) ⟨_, rfl, rfl⟩ rfl rfl (Nat.le_of_ble_eq_true rfl) (pX1_ofTestimony hg hg1 (jm_kIi ?_))
  have hg2 := h.1
  have h := h.2
  refine jm_icmp_ge (pc := 16) 60 dX10_soundingBehind_16 rfl hg2 (hm0 _ _) (fun q => ?_) (fun q => ?_)
  · have h := h.1 q
    refine jm_iload_n (pc := 60) 3 dX10_soundingBehind_60 rfl ?_
    exact jm_iret (pc := 61) dX10_soundingBehind_61 rfl h
  · have h := h.2 q
    refine jm_aload_n (pc := 19) 0 dX10_soundingBehind_19 rfl ?_
    refine jm_getr (pc := 20) 1 dX10_soundingBehind_20 fX10_29 (cC38 hg) rfl ?_
    refine jm_aload_n (pc := 23) 0 dX10_soundingBehind_23 rfl ?_
    refine jm_getr (pc := 24) 2 dX10_soundingBehind_24 fX10_34 (cC38 hg) rfl ?_
    refine jm_iload_n (pc := 27) 1 dX10_soundingBehind_27 rfl ?_
    refine jm_iload (pc := 28) 4 dX10_soundingBehind_28 rfl ?_
    refine jm_callvi (pc := 30) (As := [_, _]) (st := [_]) iX1_barOf dX10_soundingBehind_30 mX10_89 (cC29 hg) ⟨_, rfl, rfl⟩ rfl rfl (Nat.le_of_ble_eq_true rfl) h (fun z4 m3 hz5 h hm6 => ?_)
    refine jm_aload_n (pc := 33) 0 dX10_soundingBehind_33 rfl ?_
    refine jm_getr (pc := 34) 2 dX10_soundingBehind_34 fX10_34 (cC38 hg) rfl ?_
    refine jm_iload_n (pc := 37) 1 dX10_soundingBehind_37 rfl ?_
    refine jm_iload (pc := 38) 4 dX10_soundingBehind_38 rfl ?_
    refine jm_iload_n (pc := 40) 2 dX10_soundingBehind_40 rfl ?_
    refine jm_isub (pc := 41) dX10_soundingBehind_41 ?_
    refine jm_callvi (pc := 42) (As := [_, _]) (st := [_, _]) iX1_barOf dX10_soundingBehind_42 mX10_89 (cC29 hg) ⟨_, rfl, rfl⟩ rfl rfl (Nat.le_of_ble_eq_true rfl) h (fun z8 m7 hz9 h hm10 => ?_)
    refine jm_callvi (pc := 45) (As := [_, _]) (st := []) iX8_barsSound dX10_soundingBehind_45 mX10_92 (cC6 hg) ⟨_, rfl, rfl⟩ rfl rfl (Nat.le_of_ble_eq_true rfl) h (fun z12 m11 hz13 h hm14 => ?_)
    refine jm_if_eq (pc := 48) 54 dX10_soundingBehind_48 rfl hz13 (fun q => ?_) (fun q => ?_)
    · have h := h.1 q
      refine jm_iinc (pc := 54) (lv' := [(4, _), (0, _), (1, _), (2, _), (3, _)]) 4 dX10_soundingBehind_54 rfl (by decide) rfl ?_
      refine jm_goto (pc := 57) 5 dX10_soundingBehind_57 rfl ?_
      exact jm_sub [1, 2, 3, 4, 0] rfl h
    · have h := h.2 q
      refine jm_iinc (pc := 51) (lv' := [(3, _), (0, _), (1, _), (2, _), (4, _)]) 3 dX10_soundingBehind_51 rfl (by decide) rfl ?_
      refine jm_iinc (pc := 54) (lv' := [(4, _), (3, _), (0, _), (1, _), (2, _)]) 4 dX10_soundingBehind_54 rfl (by decide) rfl ?_
      refine jm_goto (pc := 57) 5 dX10_soundingBehind_57 rfl ?_
      exact jm_sub [2, 3, 4, 1, 0] rfl h
theorem eX10_soundingBehind {l : Launch} {g : jm_G} {d : Nat} {v1 v2 : Int} (hg : jm_HC g) {mu : jm_M} {Q : Option Value → jm_M → Prop} (h : jm_V l g (d + 2) iX10_soundingBehind 5 [(0, .ref 38), (1, jm_i v1), (2, jm_i v2), (3, jm_i 0), (4, jm_i v2)] [] mu Q) : jm_R l g (d + 2) iX10_soundingBehind [.ref 38, jm_i v1, jm_i v2] mu Q := by
  refine jm_enter [(0, .ref 38), (1, jm_i v1), (2, jm_i v2)] (by decide) (Nat.le_of_ble_eq_true rfl) rfl ?_
  refine jm_mrI (fun hm0 => ?_)
  refine jm_iconst (pc := 0) dX10_soundingBehind_0 ?_
  refine jm_istore_n (pc := 1) (lv' := [(3, _), (0, _), (1, _), (2, _)]) dX10_soundingBehind_1 (by decide) rfl ?_
  refine jm_iload_n (pc := 2) 3 dX10_soundingBehind_2 rfl ?_
  refine jm_istore (pc := 3) (lv' := [(4, _), (3, _), (0, _), (1, _), (2, _)]) dX10_soundingBehind_3 (by decide) rfl ?_
  exact jm_sub [2, 3, 4, 1, 0] rfl h
theorem dX11_canon_0 : decode cX11_canon 0 = .ok (.aload_n 0, 1) := by decide +kernel
theorem dX11_canon_1 : decode cX11_canon 1 = .ok (.getfield 26, 3) := by decide +kernel
theorem dX11_canon_4 : decode cX11_canon 4 = .ok (.iload_n 1, 1) := by decide +kernel
theorem dX11_canon_5 : decode cX11_canon 5 = .ok (.invokevirtual 212, 3) := by decide +kernel
theorem dX11_canon_8 : decode cX11_canon 8 = .ok (.ifCond .eq 13, 3) := by decide +kernel
theorem dX11_canon_11 : decode cX11_canon 11 = .ok (.iload_n 2, 1) := by decide +kernel
theorem dX11_canon_12 : decode cX11_canon 12 = .ok (.iconst 1, 1) := by decide +kernel
theorem dX11_canon_13 : decode cX11_canon 13 = .ok (.bipush 30, 2) := by decide +kernel
theorem dX11_canon_15 : decode cX11_canon 15 = .ok (.invokestatic 123, 3) := by decide +kernel
theorem dX11_canon_18 : decode cX11_canon 18 = .ok (.ifCond .ne 5, 3) := by decide +kernel
theorem dX11_canon_21 : decode cX11_canon 21 = .ok (.iconst (-1), 1) := by decide +kernel
theorem dX11_canon_22 : decode cX11_canon 22 = .ok (.ireturn, 1) := by decide +kernel
theorem dX11_canon_23 : decode cX11_canon 23 = .ok (.aload_n 0, 1) := by decide +kernel
theorem dX11_canon_24 : decode cX11_canon 24 = .ok (.getfield 51, 3) := by decide +kernel
theorem dX11_canon_27 : decode cX11_canon 27 = .ok (.iload_n 1, 1) := by decide +kernel
theorem dX11_canon_28 : decode cX11_canon 28 = .ok (.iload_n 2, 1) := by decide +kernel
theorem dX11_canon_29 : decode cX11_canon 29 = .ok (.invokevirtual 318, 3) := by decide +kernel
theorem dX11_canon_32 : decode cX11_canon 32 = .ok (.ireturn, 1) := by decide +kernel
theorem eX11_canon {l : Launch} {g : jm_G} {d : Nat} {v1 v2 : Int} (hg : jm_HC g) {mu : jm_M} {Q : Option Value → jm_M → Prop} (h : jm_rg v1 ∧ (0 ≤ v1 ∧ v1 < (mu.1 29 4) → jm_rg v2 ∧ (1 ≤ v2 ∧ v2 ≤ 30 → jm_R l g (d + 1) iX10_soundingBehind [.ref 38, jm_i v1, jm_i v2] mu (jm_qi fun z4 m3 => Q (some (jm_i z4)) m3)) ∧ (¬ (1 ≤ v2 ∧ v2 ≤ 30) → Q (some (jm_i (-1))) mu)) ∧ (¬ (0 ≤ v1 ∧ v1 < (mu.1 29 4)) → Q (some (jm_i (-1))) mu)) : jm_R l g (d + 2) iX11_canon [.ref 0, jm_i v1, jm_i v2] mu Q := by
  refine jm_enter [(0, .ref 0), (1, jm_i v1), (2, jm_i v2)] (by decide) (Nat.le_of_ble_eq_true rfl) rfl ?_
  refine jm_mrI (fun hm0 => ?_)
  refine jm_aload_n (pc := 0) 0 dX11_canon_0 rfl ?_
  refine jm_getr (pc := 1) 2 dX11_canon_1 fX11_26 (cC0 hg) rfl ?_
  refine jm_iload_n (pc := 4) 1 dX11_canon_4 rfl ?_
  have hg1 := h.1
  have h := h.2
  refine jm_inlvi (pc := 5) (As := [_]) (st := []) iX1_isTestimony dX11_canon_5 mX11_212 (cC29 hg) ⟨_, rfl, rfl⟩ rfl rfl (Nat.le_of_ble_eq_true rfl) (pX1_isTestimony hg hg1 (fun q => jm_kIi ?_) (fun q => jm_kIi ?_))
  · have h := h.1 q
    refine jm_if_eq (pc := 8) 21 dX11_canon_8 rfl ⟨by decide, by decide⟩ (fun q => absurd q (by decide)) (fun q => ?_)
    refine jm_iload_n (pc := 11) 2 dX11_canon_11 rfl ?_
    refine jm_iconst (pc := 12) dX11_canon_12 ?_
    refine jm_bipush (pc := 13) dX11_canon_13 (by decide) ?_
    have hg2 := h.1
    have h := h.2
    refine jm_inlsi (pc := 15) (As := [_, _, _]) (st := []) iX11_isWithin dX11_canon_15 mX11_123 rfl rfl (Nat.le_of_ble_eq_true rfl) (pX11_isWithin hg hg2 ⟨by decide, by decide⟩ ⟨by decide, by decide⟩ (fun q => jm_kIi ?_) (fun q => jm_kIi ?_))
    · have h := h.1 q
      refine jm_if_ne (pc := 18) 23 dX11_canon_18 rfl ⟨by decide, by decide⟩ (fun q => ?_) (fun q => absurd q (by decide))
      refine jm_aload_n (pc := 23) 0 dX11_canon_23 rfl ?_
      refine jm_getr (pc := 24) 5 dX11_canon_24 fX11_51 (cC0 hg) rfl ?_
      refine jm_iload_n (pc := 27) 1 dX11_canon_27 rfl ?_
      refine jm_iload_n (pc := 28) 2 dX11_canon_28 rfl ?_
      refine jm_callvi (pc := 29) (As := [_, _]) (st := []) iX10_soundingBehind dX11_canon_29 mX11_318 (cC38 hg) ⟨_, rfl, rfl⟩ rfl rfl (Nat.le_of_ble_eq_true rfl) h (fun z4 m3 hz5 h hm6 => ?_)
      exact jm_iret (pc := 32) dX11_canon_32 rfl h
    · have h := h.2 q
      refine jm_if_ne (pc := 18) 23 dX11_canon_18 rfl ⟨by decide, by decide⟩ (fun q => absurd q (by decide)) (fun q => ?_)
      refine jm_iconst (pc := 21) dX11_canon_21 ?_
      exact jm_iret (pc := 22) dX11_canon_22 rfl h
  · have h := h.2 q
    refine jm_if_eq (pc := 8) 21 dX11_canon_8 rfl ⟨by decide, by decide⟩ (fun q => ?_) (fun q => absurd q (by decide))
    refine jm_iconst (pc := 21) dX11_canon_21 ?_
    exact jm_iret (pc := 22) dX11_canon_22 rfl h
theorem dX11_isValue_0 : decode cX11_isValue 0 = .ok (.iload_n 0, 1) := by decide +kernel
theorem dX11_isValue_1 : decode cX11_isValue 1 = .ok (.iconst 0, 1) := by decide +kernel
theorem dX11_isValue_2 : decode cX11_isValue 2 = .ok (.iconst 3, 1) := by decide +kernel
theorem dX11_isValue_3 : decode cX11_isValue 3 = .ok (.invokestatic 123, 3) := by decide +kernel
theorem dX11_isValue_6 : decode cX11_isValue 6 = .ok (.ireturn, 1) := by decide +kernel
theorem eX11_isValue {l : Launch} {g : jm_G} {d : Nat} {v0 : Int} (hg : jm_HC g) {mu : jm_M} {Q : Option Value → jm_M → Prop} (h : jm_rg v0 ∧ (0 ≤ v0 ∧ v0 ≤ 3 → Q (some (jm_i 1)) mu) ∧ (¬ (0 ≤ v0 ∧ v0 ≤ 3) → Q (some (jm_i 0)) mu)) : jm_R l g (d + 2) iX11_isValue [jm_i v0] mu Q := by
  refine jm_enter [(0, jm_i v0)] (by decide) (Nat.le_of_ble_eq_true rfl) rfl ?_
  refine jm_mrI (fun hm0 => ?_)
  refine jm_iload_n (pc := 0) 0 dX11_isValue_0 rfl ?_
  refine jm_iconst (pc := 1) dX11_isValue_1 ?_
  refine jm_iconst (pc := 2) dX11_isValue_2 ?_
  have hg1 := h.1
  have h := h.2
  refine jm_inlsi (pc := 3) (As := [_, _, _]) (st := []) iX11_isWithin dX11_isValue_3 mX11_123 rfl rfl (Nat.le_of_ble_eq_true rfl) (pX11_isWithin hg hg1 ⟨by decide, by decide⟩ ⟨by decide, by decide⟩ (fun q => jm_kIi ?_) (fun q => jm_kIi ?_))
  · have h := h.1 q
    exact jm_zret (pc := 6) dX11_isValue_6 rfl (Or.inr rfl) h
  · have h := h.2 q
    exact jm_zret (pc := 6) dX11_isValue_6 rfl (Or.inl rfl) h
theorem pX11_isValue {l : Launch} {g : jm_G} {d : Nat} {v0 : Int} (hg : jm_HC g) {mu : jm_M} {Q : Option Value → jm_M → Prop} (o0 : jm_rg v0) (h1 : (0 ≤ v0 ∧ v0 ≤ 3) → Q (some (jm_i 1)) mu) (h0 : ¬ ((0 ≤ v0 ∧ v0 ≤ 3)) → Q (some (jm_i 0)) mu) : jm_R l g (d + 2) iX11_isValue [jm_i v0] mu Q := by
  refine eX11_isValue hg ?_
  refine ⟨o0, ?_⟩
  refine ⟨fun q0 => ?_, fun q0 => ?_⟩
  · exact h1 (q0)
  · exact h0 (by omega)
theorem dX9_weighAll_0 : decode cX9_weighAll 0 = .ok (.iconst 0, 1) := by decide +kernel
theorem dX9_weighAll_1 : decode cX9_weighAll 1 = .ok (.istore_n 2, 1) := by decide +kernel
theorem dX9_weighAll_2 : decode cX9_weighAll 2 = .ok (.iload_n 2, 1) := by decide +kernel
theorem dX9_weighAll_3 : decode cX9_weighAll 3 = .ok (.iconst 4, 1) := by decide +kernel
theorem dX9_weighAll_4 : decode cX9_weighAll 4 = .ok (.if_icmp .ge 16, 3) := by decide +kernel
theorem dX9_weighAll_7 : decode cX9_weighAll 7 = .ok (.aload_n 0, 1) := by decide +kernel
theorem dX9_weighAll_8 : decode cX9_weighAll 8 = .ok (.getfield 9, 3) := by decide +kernel
theorem dX9_weighAll_11 : decode cX9_weighAll 11 = .ok (.iload_n 2, 1) := by decide +kernel
theorem dX9_weighAll_12 : decode cX9_weighAll 12 = .ok (.iconst 0, 1) := by decide +kernel
theorem dX9_weighAll_13 : decode cX9_weighAll 13 = .ok (.iastore, 1) := by decide +kernel
theorem dX9_weighAll_14 : decode cX9_weighAll 14 = .ok (.iinc 2 1, 3) := by decide +kernel
theorem dX9_weighAll_17 : decode cX9_weighAll 17 = .ok (.goto (-15), 3) := by decide +kernel
theorem dX9_weighAll_20 : decode cX9_weighAll 20 = .ok (.iconst 0, 1) := by decide +kernel
theorem dX9_weighAll_21 : decode cX9_weighAll 21 = .ok (.istore_n 2, 1) := by decide +kernel
theorem dX9_weighAll_22 : decode cX9_weighAll 22 = .ok (.iload_n 2, 1) := by decide +kernel
theorem dX9_weighAll_23 : decode cX9_weighAll 23 = .ok (.aload_n 0, 1) := by decide +kernel
theorem dX9_weighAll_24 : decode cX9_weighAll 24 = .ok (.getfield 39, 3) := by decide +kernel
theorem dX9_weighAll_27 : decode cX9_weighAll 27 = .ok (.getfield 44, 3) := by decide +kernel
theorem dX9_weighAll_30 : decode cX9_weighAll 30 = .ok (.if_icmp .ge 89, 3) := by decide +kernel
theorem dX9_weighAll_33 : decode cX9_weighAll 33 = .ok (.aload_n 0, 1) := by decide +kernel
theorem dX9_weighAll_34 : decode cX9_weighAll 34 = .ok (.getfield 39, 3) := by decide +kernel
theorem dX9_weighAll_37 : decode cX9_weighAll 37 = .ok (.iload_n 2, 1) := by decide +kernel
theorem dX9_weighAll_38 : decode cX9_weighAll 38 = .ok (.bipush 6, 2) := by decide +kernel
theorem dX9_weighAll_40 : decode cX9_weighAll 40 = .ok (.invokevirtual 50, 3) := by decide +kernel
theorem dX9_weighAll_43 : decode cX9_weighAll 43 = .ok (.ifCond .ne 26, 3) := by decide +kernel
theorem dX9_weighAll_46 : decode cX9_weighAll 46 = .ok (.aload_n 0, 1) := by decide +kernel
theorem dX9_weighAll_47 : decode cX9_weighAll 47 = .ok (.getfield 39, 3) := by decide +kernel
theorem dX9_weighAll_50 : decode cX9_weighAll 50 = .ok (.iload_n 2, 1) := by decide +kernel
theorem dX9_weighAll_51 : decode cX9_weighAll 51 = .ok (.iconst 3, 1) := by decide +kernel
theorem dX9_weighAll_52 : decode cX9_weighAll 52 = .ok (.invokevirtual 50, 3) := by decide +kernel
theorem dX9_weighAll_55 : decode cX9_weighAll 55 = .ok (.aload_n 0, 1) := by decide +kernel
theorem dX9_weighAll_56 : decode cX9_weighAll 56 = .ok (.getfield 34, 3) := by decide +kernel
theorem dX9_weighAll_59 : decode cX9_weighAll 59 = .ok (.getfield 54, 3) := by decide +kernel
theorem dX9_weighAll_62 : decode cX9_weighAll 62 = .ok (.if_icmp .gt 7, 3) := by decide +kernel
theorem dX9_weighAll_65 : decode cX9_weighAll 65 = .ok (.iconst 1, 1) := by decide +kernel
theorem dX9_weighAll_66 : decode cX9_weighAll 66 = .ok (.goto 4, 3) := by decide +kernel
theorem dX9_weighAll_69 : decode cX9_weighAll 69 = .ok (.iconst 0, 1) := by decide +kernel
theorem dX9_weighAll_70 : decode cX9_weighAll 70 = .ok (.istore_n 3, 1) := by decide +kernel
theorem dX9_weighAll_71 : decode cX9_weighAll 71 = .ok (.iload_n 3, 1) := by decide +kernel
theorem dX9_weighAll_72 : decode cX9_weighAll 72 = .ok (.ifCond .eq 41, 3) := by decide +kernel
theorem dX9_weighAll_75 : decode cX9_weighAll 75 = .ok (.aload_n 0, 1) := by decide +kernel
theorem dX9_weighAll_76 : decode cX9_weighAll 76 = .ok (.getfield 39, 3) := by decide +kernel
theorem dX9_weighAll_79 : decode cX9_weighAll 79 = .ok (.iload_n 2, 1) := by decide +kernel
theorem dX9_weighAll_80 : decode cX9_weighAll 80 = .ok (.iconst 1, 1) := by decide +kernel
theorem dX9_weighAll_81 : decode cX9_weighAll 81 = .ok (.invokevirtual 50, 3) := by decide +kernel
theorem dX9_weighAll_84 : decode cX9_weighAll 84 = .ok (.iload_n 1, 1) := by decide +kernel
theorem dX9_weighAll_85 : decode cX9_weighAll 85 = .ok (.if_icmp .ne 28, 3) := by decide +kernel
theorem dX9_weighAll_88 : decode cX9_weighAll 88 = .ok (.aload_n 0, 1) := by decide +kernel
theorem dX9_weighAll_89 : decode cX9_weighAll 89 = .ok (.getfield 9, 3) := by decide +kernel
theorem dX9_weighAll_92 : decode cX9_weighAll 92 = .ok (.aload_n 0, 1) := by decide +kernel
theorem dX9_weighAll_93 : decode cX9_weighAll 93 = .ok (.getfield 39, 3) := by decide +kernel
theorem dX9_weighAll_96 : decode cX9_weighAll 96 = .ok (.iload_n 2, 1) := by decide +kernel
theorem dX9_weighAll_97 : decode cX9_weighAll 97 = .ok (.iconst 2, 1) := by decide +kernel
theorem dX9_weighAll_98 : decode cX9_weighAll 98 = .ok (.invokevirtual 50, 3) := by decide +kernel
theorem dX9_weighAll_101 : decode cX9_weighAll 101 = .ok (.dup2, 1) := by decide +kernel
theorem dX9_weighAll_102 : decode cX9_weighAll 102 = .ok (.iaload, 1) := by decide +kernel
theorem dX9_weighAll_103 : decode cX9_weighAll 103 = .ok (.aload_n 0, 1) := by decide +kernel
theorem dX9_weighAll_104 : decode cX9_weighAll 104 = .ok (.getfield 24, 3) := by decide +kernel
theorem dX9_weighAll_107 : decode cX9_weighAll 107 = .ok (.iload_n 2, 1) := by decide +kernel
theorem dX9_weighAll_108 : decode cX9_weighAll 108 = .ok (.invokevirtual 59, 3) := by decide +kernel
theorem dX9_weighAll_111 : decode cX9_weighAll 111 = .ok (.iadd, 1) := by decide +kernel
theorem dX9_weighAll_112 : decode cX9_weighAll 112 = .ok (.iastore, 1) := by decide +kernel
theorem dX9_weighAll_113 : decode cX9_weighAll 113 = .ok (.iinc 2 1, 3) := by decide +kernel
theorem dX9_weighAll_116 : decode cX9_weighAll 116 = .ok (.goto (-94), 3) := by decide +kernel
theorem dX9_weighAll_119 : decode cX9_weighAll 119 = .ok (.return_, 1) := by decide +kernel
theorem bX9_weighAll_70 {l : Launch} {g : jm_G} {d : Nat} {v1 v2 s0 : Int} (hg : jm_HC g) {mu : jm_M} {Q : Option Value → jm_M → Prop} (h : jm_rg s0 ∧ (s0 = 0 → jm_V l g (d + 2) iX9_weighAll 22 [(0, .ref 41), (1, jm_i v1), (2, jm_i (v2 + 1))] [] mu Q) ∧ (¬ s0 = 0 → (0 ≤ ((v2 * 7) + 1) ∧ ((v2 * 7) + 1) < 140) ∧ jm_rg v1 ∧ (¬ (mu.1 32 ((v2 * 7) + 1)) = v1 → jm_V l g (d + 2) iX9_weighAll 22 [(0, .ref 41), (1, jm_i v1), (2, jm_i (v2 + 1))] [] mu Q) ∧ ((mu.1 32 ((v2 * 7) + 1)) = v1 → (0 ≤ ((v2 * 7) + 2) ∧ ((v2 * 7) + 2) < 140) ∧ (0 ≤ (mu.1 32 ((v2 * 7) + 2)) ∧ (mu.1 32 ((v2 * 7) + 2)) < 4) ∧ jm_R l g (d + 1) iX0_weightOfTestimony [.ref 35, jm_i v2] mu (jm_qi fun z7 m6 => jm_rg ((mu.1 42 (mu.1 32 ((v2 * 7) + 2))) + z7) ∧ ∀ m11, m11 = jm_wr m6 42 (mu.1 32 ((v2 * 7) + 2)) ((mu.1 42 (mu.1 32 ((v2 * 7) + 2))) + z7) → jm_V l g (d + 2) iX9_weighAll 22 [(0, .ref 41), (1, jm_i v1), (2, jm_i (v2 + 1))] [] m11 Q)))) : jm_V l g (d + 2) iX9_weighAll 70 [(0, .ref 41), (1, jm_i v1), (2, jm_i v2)] [jm_i s0] mu Q := by
  refine jm_mrI (fun hm0 => ?_)
  refine jm_istore_n (pc := 70) (lv' := [(3, _), (0, _), (1, _), (2, _)]) dX9_weighAll_70 (by decide) rfl ?_
  refine jm_iload_n (pc := 71) 0 dX9_weighAll_71 rfl ?_
  have hg1 := h.1
  have h := h.2
  refine jm_if_eq (pc := 72) 113 dX9_weighAll_72 rfl hg1 (fun q => ?_) (fun q => ?_)
  · have h := h.1 q
    refine jm_iinc (pc := 113) (lv' := [(2, _), (3, _), (0, _), (1, _)]) 3 dX9_weighAll_113 rfl (by decide) rfl ?_
    refine jm_goto (pc := 116) 22 dX9_weighAll_116 rfl ?_
    exact jm_sub [2, 3, 0] rfl h
  · have h := h.2 q
    refine jm_aload_n (pc := 75) 1 dX9_weighAll_75 rfl ?_
    refine jm_getr (pc := 76) 2 dX9_weighAll_76 fX9_39 (cC41 hg) rfl ?_
    refine jm_iload_n (pc := 79) 3 dX9_weighAll_79 rfl ?_
    refine jm_iconst (pc := 80) dX9_weighAll_80 ?_
    have hg2 := h.1
    have h := h.2
    refine jm_inlvi (pc := 81) (As := [_, _]) (st := []) iX1_ofTestimony dX9_weighAll_81 mX9_50 (cC29 hg) ⟨_, rfl, rfl⟩ rfl rfl (Nat.le_of_ble_eq_true rfl) (pX1_ofTestimony hg hg2 (jm_kIi ?_))
    refine jm_iload_n (pc := 84) 2 dX9_weighAll_84 rfl ?_
    have hg3 := h.1
    have h := h.2
    refine jm_icmp_ne (pc := 85) 113 dX9_weighAll_85 rfl (hm0 _ _) hg3 (fun q => ?_) (fun q => ?_)
    · have h := h.1 q
      refine jm_iinc (pc := 113) (lv' := [(2, _), (3, _), (0, _), (1, _)]) 3 dX9_weighAll_113 rfl (by decide) rfl ?_
      refine jm_goto (pc := 116) 22 dX9_weighAll_116 rfl ?_
      exact jm_sub [2, 3, 0] rfl h
    · have h := h.2 q
      refine jm_aload_n (pc := 88) 1 dX9_weighAll_88 rfl ?_
      refine jm_getr (pc := 89) 3 dX9_weighAll_89 fX9_9 (cC41 hg) rfl ?_
      refine jm_aload_n (pc := 92) 1 dX9_weighAll_92 rfl ?_
      refine jm_getr (pc := 93) 2 dX9_weighAll_93 fX9_39 (cC41 hg) rfl ?_
      refine jm_iload_n (pc := 96) 3 dX9_weighAll_96 rfl ?_
      refine jm_iconst (pc := 97) dX9_weighAll_97 ?_
      have hg4 := h.1
      have h := h.2
      refine jm_inlvi (pc := 98) (As := [_, _]) (st := [_]) iX1_ofTestimony dX9_weighAll_98 mX9_50 (cC29 hg) ⟨_, rfl, rfl⟩ rfl rfl (Nat.le_of_ble_eq_true rfl) (pX1_ofTestimony hg hg4 (jm_kIi ?_))
      refine jm_dup2 (pc := 101) _ _ dX9_weighAll_101 rfl rfl ?_
      have hg5 := h.1
      have h := h.2
      refine jm_iald (pc := 102) dX9_weighAll_102 (cC42 hg) (by decide) hg5.1 hg5.2 ?_
      refine jm_aload_n (pc := 103) 1 dX9_weighAll_103 rfl ?_
      refine jm_getr (pc := 104) 0 dX9_weighAll_104 fX9_24 (cC41 hg) rfl ?_
      refine jm_iload_n (pc := 107) 3 dX9_weighAll_107 rfl ?_
      refine jm_callvi (pc := 108) (As := [_]) (st := [_, _, _]) iX0_weightOfTestimony dX9_weighAll_108 mX9_59 (cC35 hg) ⟨_, rfl, rfl⟩ rfl rfl (Nat.le_of_ble_eq_true rfl) h (fun z7 m6 hz8 h hm9 => ?_)
      refine jm_iadd (pc := 111) dX9_weighAll_111 ?_
      have hg10 := h.1
      have h := h.2
      refine jm_iast (pc := 112) dX9_weighAll_112 (cC42 hg) (by decide) hg5.1 hg5.2 hg10 ?_
      have h := h _ rfl
      refine jm_mrI (fun hm12 => ?_)
      refine jm_iinc (pc := 113) (lv' := [(2, _), (3, _), (0, _), (1, _)]) 3 dX9_weighAll_113 rfl (by decide) rfl ?_
      refine jm_goto (pc := 116) 22 dX9_weighAll_116 rfl ?_
      exact jm_sub [2, 3, 0] rfl h
theorem bX9_weighAll_22 {l : Launch} {g : jm_G} {d : Nat} {v1 v2 : Int} (hg : jm_HC g) {mu : jm_M} {Q : Option Value → jm_M → Prop} (h : jm_rg v2 ∧ ((mu.1 29 4) ≤ v2 → Q none mu) ∧ (v2 < (mu.1 29 4) → (0 ≤ ((v2 * 7) + 6) ∧ ((v2 * 7) + 6) < 140) ∧ (¬ (mu.1 32 ((v2 * 7) + 6)) = 0 → jm_V l g (d + 2) iX9_weighAll 70 [(0, .ref 41), (1, jm_i v1), (2, jm_i v2)] [jm_i 0] mu Q) ∧ ((mu.1 32 ((v2 * 7) + 6)) = 0 → (0 ≤ ((v2 * 7) + 3) ∧ ((v2 * 7) + 3) < 140) ∧ ((mu.1 6 7) < (mu.1 32 ((v2 * 7) + 3)) → jm_V l g (d + 2) iX9_weighAll 70 [(0, .ref 41), (1, jm_i v1), (2, jm_i v2)] [jm_i 0] mu Q) ∧ ((mu.1 32 ((v2 * 7) + 3)) ≤ (mu.1 6 7) → jm_V l g (d + 2) iX9_weighAll 70 [(0, .ref 41), (1, jm_i v1), (2, jm_i v2)] [jm_i 1] mu Q)))) : jm_V l g (d + 2) iX9_weighAll 22 [(0, .ref 41), (1, jm_i v1), (2, jm_i v2)] [] mu Q := by
  refine jm_mrI (fun hm0 => ?_)
  refine jm_iload_n (pc := 22) 2 dX9_weighAll_22 rfl ?_
  refine jm_aload_n (pc := 23) 0 dX9_weighAll_23 rfl ?_
  refine jm_getr (pc := 24) 2 dX9_weighAll_24 fX9_39 (cC41 hg) rfl ?_
  refine jm_geti (pc := 27) 4 dX9_weighAll_27 fX9_44 (cC29 hg) rfl ?_
  have hg1 := h.1
  have h := h.2
  refine jm_icmp_ge (pc := 30) 119 dX9_weighAll_30 rfl hg1 (hm0 _ _) (fun q => ?_) (fun q => ?_)
  · have h := h.1 q
    exact jm_vret (pc := 119) dX9_weighAll_119 rfl h
  · have h := h.2 q
    refine jm_aload_n (pc := 33) 0 dX9_weighAll_33 rfl ?_
    refine jm_getr (pc := 34) 2 dX9_weighAll_34 fX9_39 (cC41 hg) rfl ?_
    refine jm_iload_n (pc := 37) 2 dX9_weighAll_37 rfl ?_
    refine jm_bipush (pc := 38) dX9_weighAll_38 (by decide) ?_
    have hg2 := h.1
    have h := h.2
    refine jm_inlvi (pc := 40) (As := [_, _]) (st := []) iX1_ofTestimony dX9_weighAll_40 mX9_50 (cC29 hg) ⟨_, rfl, rfl⟩ rfl rfl (Nat.le_of_ble_eq_true rfl) (pX1_ofTestimony hg hg2 (jm_kIi ?_))
    refine jm_if_ne (pc := 43) 69 dX9_weighAll_43 rfl (hm0 _ _) (fun q => ?_) (fun q => ?_)
    · have h := h.1 q
      refine jm_iconst (pc := 69) dX9_weighAll_69 ?_
      exact jm_sub [0, 1, 2] rfl h
    · have h := h.2 q
      refine jm_aload_n (pc := 46) 0 dX9_weighAll_46 rfl ?_
      refine jm_getr (pc := 47) 2 dX9_weighAll_47 fX9_39 (cC41 hg) rfl ?_
      refine jm_iload_n (pc := 50) 2 dX9_weighAll_50 rfl ?_
      refine jm_iconst (pc := 51) dX9_weighAll_51 ?_
      have hg3 := h.1
      have h := h.2
      refine jm_inlvi (pc := 52) (As := [_, _]) (st := []) iX1_ofTestimony dX9_weighAll_52 mX9_50 (cC29 hg) ⟨_, rfl, rfl⟩ rfl rfl (Nat.le_of_ble_eq_true rfl) (pX1_ofTestimony hg hg3 (jm_kIi ?_))
      refine jm_aload_n (pc := 55) 0 dX9_weighAll_55 rfl ?_
      refine jm_getr (pc := 56) 1 dX9_weighAll_56 fX9_34 (cC41 hg) rfl ?_
      refine jm_geti (pc := 59) 7 dX9_weighAll_59 fX9_54 (cC6 hg) rfl ?_
      refine jm_icmp_gt (pc := 62) 69 dX9_weighAll_62 rfl (hm0 _ _) (hm0 _ _) (fun q => ?_) (fun q => ?_)
      · have h := h.1 q
        refine jm_iconst (pc := 69) dX9_weighAll_69 ?_
        exact jm_sub [0, 1, 2] rfl h
      · have h := h.2 q
        refine jm_iconst (pc := 65) dX9_weighAll_65 ?_
        refine jm_goto (pc := 66) 70 dX9_weighAll_66 rfl ?_
        exact jm_sub [0, 1, 2] rfl h
theorem bX9_weighAll_2 {l : Launch} {g : jm_G} {d : Nat} {v1 v2 : Int} (hg : jm_HC g) {mu : jm_M} {Q : Option Value → jm_M → Prop} (h : jm_rg v2 ∧ (4 ≤ v2 → jm_V l g (d + 2) iX9_weighAll 22 [(0, .ref 41), (1, jm_i v1), (2, jm_i 0)] [] mu Q) ∧ (v2 < 4 → (0 ≤ v2 ∧ v2 < 4) ∧ ∀ m3, m3 = jm_wr mu 42 v2 0 → jm_V l g (d + 2) iX9_weighAll 2 [(0, .ref 41), (1, jm_i v1), (2, jm_i (v2 + 1))] [] m3 Q)) : jm_V l g (d + 2) iX9_weighAll 2 [(0, .ref 41), (1, jm_i v1), (2, jm_i v2)] [] mu Q := by
  refine jm_mrI (fun hm0 => ?_)
  refine jm_iload_n (pc := 2) 2 dX9_weighAll_2 rfl ?_
  refine jm_iconst (pc := 3) dX9_weighAll_3 ?_
  have hg1 := h.1
  have h := h.2
  refine jm_icmp_ge (pc := 4) 20 dX9_weighAll_4 rfl hg1 ⟨by decide, by decide⟩ (fun q => ?_) (fun q => ?_)
  · have h := h.1 q
    refine jm_iconst (pc := 20) dX9_weighAll_20 ?_
    refine jm_istore_n (pc := 21) (lv' := [(2, _), (0, _), (1, _)]) dX9_weighAll_21 (by decide) rfl ?_
    exact jm_sub [1, 2, 0] rfl h
  · have h := h.2 q
    refine jm_aload_n (pc := 7) 0 dX9_weighAll_7 rfl ?_
    refine jm_getr (pc := 8) 3 dX9_weighAll_8 fX9_9 (cC41 hg) rfl ?_
    refine jm_iload_n (pc := 11) 2 dX9_weighAll_11 rfl ?_
    refine jm_iconst (pc := 12) dX9_weighAll_12 ?_
    have hg2 := h.1
    have h := h.2
    refine jm_iast (pc := 13) dX9_weighAll_13 (cC42 hg) (by decide) hg2.1 hg2.2 ⟨by decide, by decide⟩ ?_
    have h := h _ rfl
    refine jm_mrI (fun hm4 => ?_)
    refine jm_iinc (pc := 14) (lv' := [(2, _), (0, _), (1, _)]) 2 dX9_weighAll_14 rfl (by decide) rfl ?_
    refine jm_goto (pc := 17) 2 dX9_weighAll_17 rfl ?_
    exact jm_sub [1, 2, 0] rfl h
theorem eX9_weighAll {l : Launch} {g : jm_G} {d : Nat} {v1 : Int} (hg : jm_HC g) {mu : jm_M} {Q : Option Value → jm_M → Prop} (h : jm_V l g (d + 2) iX9_weighAll 2 [(0, .ref 41), (1, jm_i v1), (2, jm_i 0)] [] mu Q) : jm_R l g (d + 2) iX9_weighAll [.ref 41, jm_i v1] mu Q := by
  refine jm_enter [(0, .ref 41), (1, jm_i v1)] (by decide) (Nat.le_of_ble_eq_true rfl) rfl ?_
  refine jm_mrI (fun hm0 => ?_)
  refine jm_iconst (pc := 0) dX9_weighAll_0 ?_
  refine jm_istore_n (pc := 1) (lv' := [(2, _), (0, _), (1, _)]) dX9_weighAll_1 (by decide) rfl ?_
  exact jm_sub [1, 2, 0] rfl h
theorem dX9_weightFor_0 : decode cX9_weightFor 0 = .ok (.aload_n 0, 1) := by decide +kernel
theorem dX9_weightFor_1 : decode cX9_weightFor 1 = .ok (.iload_n 1, 1) := by decide +kernel
theorem dX9_weightFor_2 : decode cX9_weightFor 2 = .ok (.invokevirtual 40, 3) := by decide +kernel
theorem dX9_weightFor_5 : decode cX9_weightFor 5 = .ok (.aload_n 0, 1) := by decide +kernel
theorem dX9_weightFor_6 : decode cX9_weightFor 6 = .ok (.getfield 9, 3) := by decide +kernel
theorem dX9_weightFor_9 : decode cX9_weightFor 9 = .ok (.iload_n 2, 1) := by decide +kernel
theorem dX9_weightFor_10 : decode cX9_weightFor 10 = .ok (.iaload, 1) := by decide +kernel
theorem dX9_weightFor_11 : decode cX9_weightFor 11 = .ok (.ireturn, 1) := by decide +kernel
theorem eX9_weightFor {l : Launch} {g : jm_G} {d : Nat} {v1 v2 : Int} (hg : jm_HC g) {mu : jm_M} {Q : Option Value → jm_M → Prop} (h : jm_R l g d iX9_weighAll [.ref 41, jm_i v1] mu (jm_qv fun m1 => (0 ≤ v2 ∧ v2 < 4) ∧ Q (some (jm_i (m1.1 42 v2))) m1)) : jm_R l g (d + 1) iX9_weightFor [.ref 41, jm_i v1, jm_i v2] mu Q := by
  refine jm_enter [(0, .ref 41), (1, jm_i v1), (2, jm_i v2)] (by decide) (Nat.le_of_ble_eq_true rfl) rfl ?_
  refine jm_mrI (fun hm0 => ?_)
  refine jm_aload_n (pc := 0) 0 dX9_weightFor_0 rfl ?_
  refine jm_iload_n (pc := 1) 1 dX9_weightFor_1 rfl ?_
  refine jm_callvv (pc := 2) (As := [_]) (st := []) iX9_weighAll dX9_weightFor_2 mX9_40 (cC41 hg) ⟨_, rfl, rfl⟩ rfl rfl (Nat.le_of_ble_eq_true rfl) h (fun m1 h hm4 => ?_)
  refine jm_aload_n (pc := 5) 0 dX9_weightFor_5 rfl ?_
  refine jm_getr (pc := 6) 3 dX9_weightFor_6 fX9_9 (cC41 hg) rfl ?_
  refine jm_iload_n (pc := 9) 2 dX9_weightFor_9 rfl ?_
  have hg5 := h.1
  have h := h.2
  refine jm_iald (pc := 10) dX9_weightFor_10 (cC42 hg) (by decide) hg5.1 hg5.2 ?_
  exact jm_iret (pc := 11) dX9_weightFor_11 rfl h
theorem dX11_weighed_0 : decode cX11_weighed 0 = .ok (.iload_n 1, 1) := by decide +kernel
theorem dX11_weighed_1 : decode cX11_weighed 1 = .ok (.invokestatic 144, 3) := by decide +kernel
theorem dX11_weighed_4 : decode cX11_weighed 4 = .ok (.ifCond .eq 22, 3) := by decide +kernel
theorem dX11_weighed_7 : decode cX11_weighed 7 = .ok (.iload_n 2, 1) := by decide +kernel
theorem dX11_weighed_8 : decode cX11_weighed 8 = .ok (.invokestatic 321, 3) := by decide +kernel
theorem dX11_weighed_11 : decode cX11_weighed 11 = .ok (.ifCond .eq 15, 3) := by decide +kernel
theorem dX11_weighed_14 : decode cX11_weighed 14 = .ok (.aload_n 0, 1) := by decide +kernel
theorem dX11_weighed_15 : decode cX11_weighed 15 = .ok (.getfield 58, 3) := by decide +kernel
theorem dX11_weighed_18 : decode cX11_weighed 18 = .ok (.iload_n 1, 1) := by decide +kernel
theorem dX11_weighed_19 : decode cX11_weighed 19 = .ok (.iload_n 2, 1) := by decide +kernel
theorem dX11_weighed_20 : decode cX11_weighed 20 = .ok (.invokevirtual 324, 3) := by decide +kernel
theorem dX11_weighed_23 : decode cX11_weighed 23 = .ok (.goto 4, 3) := by decide +kernel
theorem dX11_weighed_26 : decode cX11_weighed 26 = .ok (.iconst (-1), 1) := by decide +kernel
theorem dX11_weighed_27 : decode cX11_weighed 27 = .ok (.ireturn, 1) := by decide +kernel
theorem eX11_weighed {l : Launch} {g : jm_G} {d : Nat} {v1 v2 : Int} (hg : jm_HC g) {mu : jm_M} {Q : Option Value → jm_M → Prop} (h : jm_rg v1 ∧ ((0 ≤ v1 ∧ v1 ≤ 5) → jm_rg v2 ∧ ((0 ≤ v2 ∧ v2 ≤ 3) → jm_R l g (d + 2) iX9_weightFor [.ref 41, jm_i v1, jm_i v2] mu (jm_qi fun z4 m3 => Q (some (jm_i z4)) m3)) ∧ (¬ ((0 ≤ v2 ∧ v2 ≤ 3)) → Q (some (jm_i (-1))) mu)) ∧ (¬ ((0 ≤ v1 ∧ v1 ≤ 5)) → Q (some (jm_i (-1))) mu)) : jm_R l g (d + 3) iX11_weighed [.ref 0, jm_i v1, jm_i v2] mu Q := by
  refine jm_enter [(0, .ref 0), (1, jm_i v1), (2, jm_i v2)] (by decide) (Nat.le_of_ble_eq_true rfl) rfl ?_
  refine jm_mrI (fun hm0 => ?_)
  refine jm_iload_n (pc := 0) 1 dX11_weighed_0 rfl ?_
  have hg1 := h.1
  have h := h.2
  refine jm_inlsi (pc := 1) (As := [_]) (st := []) iX11_isFact dX11_weighed_1 mX11_144 rfl rfl (Nat.le_of_ble_eq_true rfl) (pX11_isFact hg hg1 (fun q => jm_kIi ?_) (fun q => jm_kIi ?_))
  · have h := h.1 q
    refine jm_if_eq (pc := 4) 26 dX11_weighed_4 rfl ⟨by decide, by decide⟩ (fun q => absurd q (by decide)) (fun q => ?_)
    refine jm_iload_n (pc := 7) 2 dX11_weighed_7 rfl ?_
    have hg2 := h.1
    have h := h.2
    refine jm_inlsi (pc := 8) (As := [_]) (st := []) iX11_isValue dX11_weighed_8 mX11_321 rfl rfl (Nat.le_of_ble_eq_true rfl) (pX11_isValue hg hg2 (fun q => jm_kIi ?_) (fun q => jm_kIi ?_))
    · have h := h.1 q
      refine jm_if_eq (pc := 11) 26 dX11_weighed_11 rfl ⟨by decide, by decide⟩ (fun q => absurd q (by decide)) (fun q => ?_)
      refine jm_aload_n (pc := 14) 0 dX11_weighed_14 rfl ?_
      refine jm_getr (pc := 15) 6 dX11_weighed_15 fX11_58 (cC0 hg) rfl ?_
      refine jm_iload_n (pc := 18) 1 dX11_weighed_18 rfl ?_
      refine jm_iload_n (pc := 19) 2 dX11_weighed_19 rfl ?_
      refine jm_callvi (pc := 20) (As := [_, _]) (st := []) iX9_weightFor dX11_weighed_20 mX11_324 (cC41 hg) ⟨_, rfl, rfl⟩ rfl rfl (Nat.le_of_ble_eq_true rfl) h (fun z4 m3 hz5 h hm6 => ?_)
      refine jm_goto (pc := 23) 27 dX11_weighed_23 rfl ?_
      exact jm_iret (pc := 27) dX11_weighed_27 rfl h
    · have h := h.2 q
      refine jm_if_eq (pc := 11) 26 dX11_weighed_11 rfl ⟨by decide, by decide⟩ (fun q => ?_) (fun q => absurd q (by decide))
      refine jm_iconst (pc := 26) dX11_weighed_26 ?_
      exact jm_iret (pc := 27) dX11_weighed_27 rfl h
  · have h := h.2 q
    refine jm_if_eq (pc := 4) 26 dX11_weighed_4 rfl ⟨by decide, by decide⟩ (fun q => ?_) (fun q => absurd q (by decide))
    refine jm_iconst (pc := 26) dX11_weighed_26 ?_
    exact jm_iret (pc := 27) dX11_weighed_27 rfl h
theorem dX9_missingFor_0 : decode cX9_missingFor 0 = .ok (.aload_n 0, 1) := by decide +kernel
theorem dX9_missingFor_1 : decode cX9_missingFor 1 = .ok (.getfield 34, 3) := by decide +kernel
theorem dX9_missingFor_4 : decode cX9_missingFor 4 = .ok (.getfield 66, 3) := by decide +kernel
theorem dX9_missingFor_7 : decode cX9_missingFor 7 = .ok (.istore_n 2, 1) := by decide +kernel
theorem dX9_missingFor_8 : decode cX9_missingFor 8 = .ok (.iconst 0, 1) := by decide +kernel
theorem dX9_missingFor_9 : decode cX9_missingFor 9 = .ok (.istore_n 3, 1) := by decide +kernel
theorem dX9_missingFor_10 : decode cX9_missingFor 10 = .ok (.iload_n 3, 1) := by decide +kernel
theorem dX9_missingFor_11 : decode cX9_missingFor 11 = .ok (.iconst 4, 1) := by decide +kernel
theorem dX9_missingFor_12 : decode cX9_missingFor 12 = .ok (.if_icmp .ge 27, 3) := by decide +kernel
theorem dX9_missingFor_15 : decode cX9_missingFor 15 = .ok (.iload_n 3, 1) := by decide +kernel
theorem dX9_missingFor_16 : decode cX9_missingFor 16 = .ok (.iload_n 1, 1) := by decide +kernel
theorem dX9_missingFor_17 : decode cX9_missingFor 17 = .ok (.if_icmp .eq 16, 3) := by decide +kernel
theorem dX9_missingFor_20 : decode cX9_missingFor 20 = .ok (.iload_n 2, 1) := by decide +kernel
theorem dX9_missingFor_21 : decode cX9_missingFor 21 = .ok (.aload_n 0, 1) := by decide +kernel
theorem dX9_missingFor_22 : decode cX9_missingFor 22 = .ok (.getfield 9, 3) := by decide +kernel
theorem dX9_missingFor_25 : decode cX9_missingFor 25 = .ok (.iload_n 3, 1) := by decide +kernel
theorem dX9_missingFor_26 : decode cX9_missingFor 26 = .ok (.iaload, 1) := by decide +kernel
theorem dX9_missingFor_27 : decode cX9_missingFor 27 = .ok (.iconst 1, 1) := by decide +kernel
theorem dX9_missingFor_28 : decode cX9_missingFor 28 = .ok (.iadd, 1) := by decide +kernel
theorem dX9_missingFor_29 : decode cX9_missingFor 29 = .ok (.invokestatic 69, 3) := by decide +kernel
theorem dX9_missingFor_32 : decode cX9_missingFor 32 = .ok (.istore_n 2, 1) := by decide +kernel
theorem dX9_missingFor_33 : decode cX9_missingFor 33 = .ok (.iinc 3 1, 3) := by decide +kernel
theorem dX9_missingFor_36 : decode cX9_missingFor 36 = .ok (.goto (-26), 3) := by decide +kernel
theorem dX9_missingFor_39 : decode cX9_missingFor 39 = .ok (.iload_n 2, 1) := by decide +kernel
theorem dX9_missingFor_40 : decode cX9_missingFor 40 = .ok (.aload_n 0, 1) := by decide +kernel
theorem dX9_missingFor_41 : decode cX9_missingFor 41 = .ok (.getfield 9, 3) := by decide +kernel
theorem dX9_missingFor_44 : decode cX9_missingFor 44 = .ok (.iload_n 1, 1) := by decide +kernel
theorem dX9_missingFor_45 : decode cX9_missingFor 45 = .ok (.iaload, 1) := by decide +kernel
theorem dX9_missingFor_46 : decode cX9_missingFor 46 = .ok (.isub, 1) := by decide +kernel
theorem dX9_missingFor_47 : decode cX9_missingFor 47 = .ok (.ireturn, 1) := by decide +kernel
theorem bX9_missingFor_10 {l : Launch} {g : jm_G} {d : Nat} {v1 v2 v3 : Int} (hg : jm_HC g) {mu : jm_M} {Q : Option Value → jm_M → Prop} (h : jm_rg v3 ∧ (4 ≤ v3 → (0 ≤ v1 ∧ v1 < 4) ∧ Q (some (jm_i (v2 - (mu.1 42 v1)))) mu) ∧ (v3 < 4 → jm_rg v1 ∧ (v3 = v1 → jm_V l g (d + 1) iX9_missingFor 10 [(0, .ref 41), (1, jm_i v1), (2, jm_i v2), (3, jm_i (v3 + 1))] [] mu Q) ∧ (¬ v3 = v1 → (0 ≤ v3 ∧ v3 < 4) ∧ jm_rg v2 ∧ jm_rg ((mu.1 42 v3) + 1) ∧ ∀ x7, x7 = (max v2 ((mu.1 42 v3) + 1)) → jm_V l g (d + 1) iX9_missingFor 10 [(0, .ref 41), (1, jm_i v1), (2, jm_i x7), (3, jm_i (v3 + 1))] [] mu Q))) : jm_V l g (d + 1) iX9_missingFor 10 [(0, .ref 41), (1, jm_i v1), (2, jm_i v2), (3, jm_i v3)] [] mu Q := by
  refine jm_mrI (fun hm0 => ?_)
  refine jm_iload_n (pc := 10) 3 dX9_missingFor_10 rfl ?_
  refine jm_iconst (pc := 11) dX9_missingFor_11 ?_
  have hg1 := h.1
  have h := h.2
  refine jm_icmp_ge (pc := 12) 39 dX9_missingFor_12 rfl hg1 ⟨by decide, by decide⟩ (fun q => ?_) (fun q => ?_)
  · have h := h.1 q
    refine jm_iload_n (pc := 39) 2 dX9_missingFor_39 rfl ?_
    refine jm_aload_n (pc := 40) 0 dX9_missingFor_40 rfl ?_
    refine jm_getr (pc := 41) 3 dX9_missingFor_41 fX9_9 (cC41 hg) rfl ?_
    refine jm_iload_n (pc := 44) 1 dX9_missingFor_44 rfl ?_
    have hg2 := h.1
    have h := h.2
    refine jm_iald (pc := 45) dX9_missingFor_45 (cC42 hg) (by decide) hg2.1 hg2.2 ?_
    refine jm_isub (pc := 46) dX9_missingFor_46 ?_
    exact jm_iret (pc := 47) dX9_missingFor_47 rfl h
  · have h := h.2 q
    refine jm_iload_n (pc := 15) 3 dX9_missingFor_15 rfl ?_
    refine jm_iload_n (pc := 16) 1 dX9_missingFor_16 rfl ?_
    have hg3 := h.1
    have h := h.2
    refine jm_icmp_eq (pc := 17) 33 dX9_missingFor_17 rfl hg1 hg3 (fun q => ?_) (fun q => ?_)
    · have h := h.1 q
      refine jm_iinc (pc := 33) (lv' := [(3, _), (0, _), (1, _), (2, _)]) 3 dX9_missingFor_33 rfl (by decide) rfl ?_
      refine jm_goto (pc := 36) 10 dX9_missingFor_36 rfl ?_
      exact jm_sub [1, 2, 3, 0] rfl h
    · have h := h.2 q
      refine jm_iload_n (pc := 20) 2 dX9_missingFor_20 rfl ?_
      refine jm_aload_n (pc := 21) 0 dX9_missingFor_21 rfl ?_
      refine jm_getr (pc := 22) 3 dX9_missingFor_22 fX9_9 (cC41 hg) rfl ?_
      refine jm_iload_n (pc := 25) 3 dX9_missingFor_25 rfl ?_
      have hg4 := h.1
      have h := h.2
      refine jm_iald (pc := 26) dX9_missingFor_26 (cC42 hg) (by decide) hg4.1 hg4.2 ?_
      refine jm_iconst (pc := 27) dX9_missingFor_27 ?_
      refine jm_iadd (pc := 28) dX9_missingFor_28 ?_
      have hg5 := h.1
      have h := h.2
      have hg6 := h.1
      have h := h.2
      refine jm_mmax (pc := 29) dX9_missingFor_29 mX9_69 hg5 hg6 (Nat.le_of_ble_eq_true rfl) ?_
      have h := h _ rfl
      refine jm_istore_n (pc := 32) (lv' := [(2, _), (0, _), (1, _), (3, _)]) dX9_missingFor_32 (by decide) rfl ?_
      refine jm_iinc (pc := 33) (lv' := [(3, _), (2, _), (0, _), (1, _)]) 3 dX9_missingFor_33 rfl (by decide) rfl ?_
      refine jm_goto (pc := 36) 10 dX9_missingFor_36 rfl ?_
      exact jm_sub [2, 3, 1, 0] rfl h
theorem eX9_missingFor {l : Launch} {g : jm_G} {d : Nat} {v1 : Int} (hg : jm_HC g) {mu : jm_M} {Q : Option Value → jm_M → Prop} (h : ∀ x1, x1 = (mu.1 6 6) → jm_V l g (d + 1) iX9_missingFor 10 [(0, .ref 41), (1, jm_i v1), (2, jm_i x1), (3, jm_i 0)] [] mu Q) : jm_R l g (d + 1) iX9_missingFor [.ref 41, jm_i v1] mu Q := by
  refine jm_enter [(0, .ref 41), (1, jm_i v1)] (by decide) (Nat.le_of_ble_eq_true rfl) rfl ?_
  refine jm_mrI (fun hm0 => ?_)
  refine jm_aload_n (pc := 0) 0 dX9_missingFor_0 rfl ?_
  refine jm_getr (pc := 1) 1 dX9_missingFor_1 fX9_34 (cC41 hg) rfl ?_
  refine jm_geti (pc := 4) 6 dX9_missingFor_4 fX9_66 (cC6 hg) rfl ?_
  have h := h _ rfl
  refine jm_istore_n (pc := 7) (lv' := [(2, _), (0, _), (1, _)]) dX9_missingFor_7 (by decide) rfl ?_
  refine jm_iconst (pc := 8) dX9_missingFor_8 ?_
  refine jm_istore_n (pc := 9) (lv' := [(3, _), (2, _), (0, _), (1, _)]) dX9_missingFor_9 (by decide) rfl ?_
  exact jm_sub [2, 3, 1, 0] rfl h
theorem dX9_finding_0 : decode cX9_finding 0 = .ok (.aload_n 0, 1) := by decide +kernel
theorem dX9_finding_1 : decode cX9_finding 1 = .ok (.iload_n 1, 1) := by decide +kernel
theorem dX9_finding_2 : decode cX9_finding 2 = .ok (.invokevirtual 40, 3) := by decide +kernel
theorem dX9_finding_5 : decode cX9_finding 5 = .ok (.iconst 0, 1) := by decide +kernel
theorem dX9_finding_6 : decode cX9_finding 6 = .ok (.istore_n 2, 1) := by decide +kernel
theorem dX9_finding_7 : decode cX9_finding 7 = .ok (.iload_n 2, 1) := by decide +kernel
theorem dX9_finding_8 : decode cX9_finding 8 = .ok (.iconst 4, 1) := by decide +kernel
theorem dX9_finding_9 : decode cX9_finding 9 = .ok (.if_icmp .ge 19, 3) := by decide +kernel
theorem dX9_finding_12 : decode cX9_finding 12 = .ok (.aload_n 0, 1) := by decide +kernel
theorem dX9_finding_13 : decode cX9_finding 13 = .ok (.iload_n 2, 1) := by decide +kernel
theorem dX9_finding_14 : decode cX9_finding 14 = .ok (.invokevirtual 63, 3) := by decide +kernel
theorem dX9_finding_17 : decode cX9_finding 17 = .ok (.ifCond .gt 5, 3) := by decide +kernel
theorem dX9_finding_20 : decode cX9_finding 20 = .ok (.iload_n 2, 1) := by decide +kernel
theorem dX9_finding_21 : decode cX9_finding 21 = .ok (.ireturn, 1) := by decide +kernel
theorem dX9_finding_22 : decode cX9_finding 22 = .ok (.iinc 2 1, 3) := by decide +kernel
theorem dX9_finding_25 : decode cX9_finding 25 = .ok (.goto (-18), 3) := by decide +kernel
theorem dX9_finding_28 : decode cX9_finding 28 = .ok (.iconst (-1), 1) := by decide +kernel
theorem dX9_finding_29 : decode cX9_finding 29 = .ok (.ireturn, 1) := by decide +kernel
theorem bX9_finding_7 {l : Launch} {g : jm_G} {d : Nat} {v2 : Int} (hg : jm_HC g) {mu : jm_M} {Q : Option Value → jm_M → Prop} (h : jm_rg v2 ∧ (4 ≤ v2 → Q (some (jm_i (-1))) mu) ∧ (v2 < 4 → jm_R l g d iX9_missingFor [.ref 41, jm_i v2] mu (jm_qi fun z3 m2 => (0 < z3 → jm_V l g (d + 1) iX9_finding 7 [(0, .ref 41), (2, jm_i (v2 + 1))] [] m2 Q) ∧ (z3 ≤ 0 → Q (some (jm_i v2)) m2)))) : jm_V l g (d + 1) iX9_finding 7 [(0, .ref 41), (2, jm_i v2)] [] mu Q := by
  refine jm_mrI (fun hm0 => ?_)
  refine jm_iload_n (pc := 7) 1 dX9_finding_7 rfl ?_
  refine jm_iconst (pc := 8) dX9_finding_8 ?_
  have hg1 := h.1
  have h := h.2
  refine jm_icmp_ge (pc := 9) 28 dX9_finding_9 rfl hg1 ⟨by decide, by decide⟩ (fun q => ?_) (fun q => ?_)
  · have h := h.1 q
    refine jm_iconst (pc := 28) dX9_finding_28 ?_
    exact jm_iret (pc := 29) dX9_finding_29 rfl h
  · have h := h.2 q
    refine jm_aload_n (pc := 12) 0 dX9_finding_12 rfl ?_
    refine jm_iload_n (pc := 13) 1 dX9_finding_13 rfl ?_
    refine jm_callvi (pc := 14) (As := [_]) (st := []) iX9_missingFor dX9_finding_14 mX9_63 (cC41 hg) ⟨_, rfl, rfl⟩ rfl rfl (Nat.le_of_ble_eq_true rfl) h (fun z3 m2 hz4 h hm5 => ?_)
    refine jm_if_gt (pc := 17) 22 dX9_finding_17 rfl hz4 (fun q => ?_) (fun q => ?_)
    · have h := h.1 q
      refine jm_iinc (pc := 22) (lv' := [(2, _), (0, _)]) 1 dX9_finding_22 rfl (by decide) rfl ?_
      refine jm_goto (pc := 25) 7 dX9_finding_25 rfl ?_
      exact jm_sub [1, 0] rfl h
    · have h := h.2 q
      refine jm_iload_n (pc := 20) 1 dX9_finding_20 rfl ?_
      exact jm_iret (pc := 21) dX9_finding_21 rfl h
theorem eX9_finding {l : Launch} {g : jm_G} {d : Nat} {v1 : Int} (hg : jm_HC g) {mu : jm_M} {Q : Option Value → jm_M → Prop} (h : jm_R l g d iX9_weighAll [.ref 41, jm_i v1] mu (jm_qv fun m1 => jm_V l g (d + 1) iX9_finding 7 [(0, .ref 41), (2, jm_i 0)] [] m1 Q)) : jm_R l g (d + 1) iX9_finding [.ref 41, jm_i v1] mu Q := by
  refine jm_enter [(0, .ref 41), (1, jm_i v1)] (by decide) (Nat.le_of_ble_eq_true rfl) rfl ?_
  refine jm_mrI (fun hm0 => ?_)
  refine jm_aload_n (pc := 0) 0 dX9_finding_0 rfl ?_
  refine jm_iload_n (pc := 1) 1 dX9_finding_1 rfl ?_
  refine jm_callvv (pc := 2) (As := [_]) (st := []) iX9_weighAll dX9_finding_2 mX9_40 (cC41 hg) ⟨_, rfl, rfl⟩ rfl rfl (Nat.le_of_ble_eq_true rfl) h (fun m1 h hm4 => ?_)
  refine jm_iconst (pc := 5) dX9_finding_5 ?_
  refine jm_istore_n (pc := 6) (lv' := [(2, _), (0, _), (1, _)]) dX9_finding_6 (by decide) rfl ?_
  exact jm_sub [1, 0] rfl h
theorem dX11_found_0 : decode cX11_found 0 = .ok (.iload_n 1, 1) := by decide +kernel
theorem dX11_found_1 : decode cX11_found 1 = .ok (.invokestatic 144, 3) := by decide +kernel
theorem dX11_found_4 : decode cX11_found 4 = .ok (.ifCond .eq 14, 3) := by decide +kernel
theorem dX11_found_7 : decode cX11_found 7 = .ok (.aload_n 0, 1) := by decide +kernel
theorem dX11_found_8 : decode cX11_found 8 = .ok (.getfield 58, 3) := by decide +kernel
theorem dX11_found_11 : decode cX11_found 11 = .ok (.iload_n 1, 1) := by decide +kernel
theorem dX11_found_12 : decode cX11_found 12 = .ok (.invokevirtual 327, 3) := by decide +kernel
theorem dX11_found_15 : decode cX11_found 15 = .ok (.goto 4, 3) := by decide +kernel
theorem dX11_found_18 : decode cX11_found 18 = .ok (.iconst (-1), 1) := by decide +kernel
theorem dX11_found_19 : decode cX11_found 19 = .ok (.ireturn, 1) := by decide +kernel
theorem eX11_found {l : Launch} {g : jm_G} {d : Nat} {v1 : Int} (hg : jm_HC g) {mu : jm_M} {Q : Option Value → jm_M → Prop} (h : jm_rg v1 ∧ ((0 ≤ v1 ∧ v1 ≤ 5) → jm_R l g (d + 2) iX9_finding [.ref 41, jm_i v1] mu (jm_qi fun z3 m2 => Q (some (jm_i z3)) m2)) ∧ (¬ ((0 ≤ v1 ∧ v1 ≤ 5)) → Q (some (jm_i (-1))) mu)) : jm_R l g (d + 3) iX11_found [.ref 0, jm_i v1] mu Q := by
  refine jm_enter [(0, .ref 0), (1, jm_i v1)] (by decide) (Nat.le_of_ble_eq_true rfl) rfl ?_
  refine jm_mrI (fun hm0 => ?_)
  refine jm_iload_n (pc := 0) 1 dX11_found_0 rfl ?_
  have hg1 := h.1
  have h := h.2
  refine jm_inlsi (pc := 1) (As := [_]) (st := []) iX11_isFact dX11_found_1 mX11_144 rfl rfl (Nat.le_of_ble_eq_true rfl) (pX11_isFact hg hg1 (fun q => jm_kIi ?_) (fun q => jm_kIi ?_))
  · have h := h.1 q
    refine jm_if_eq (pc := 4) 18 dX11_found_4 rfl ⟨by decide, by decide⟩ (fun q => absurd q (by decide)) (fun q => ?_)
    refine jm_aload_n (pc := 7) 0 dX11_found_7 rfl ?_
    refine jm_getr (pc := 8) 6 dX11_found_8 fX11_58 (cC0 hg) rfl ?_
    refine jm_iload_n (pc := 11) 1 dX11_found_11 rfl ?_
    refine jm_callvi (pc := 12) (As := [_]) (st := []) iX9_finding dX11_found_12 mX11_327 (cC41 hg) ⟨_, rfl, rfl⟩ rfl rfl (Nat.le_of_ble_eq_true rfl) h (fun z3 m2 hz4 h hm5 => ?_)
    refine jm_goto (pc := 15) 19 dX11_found_15 rfl ?_
    exact jm_iret (pc := 19) dX11_found_19 rfl h
  · have h := h.2 q
    refine jm_if_eq (pc := 4) 18 dX11_found_4 rfl ⟨by decide, by decide⟩ (fun q => ?_) (fun q => absurd q (by decide))
    refine jm_iconst (pc := 18) dX11_found_18 ?_
    exact jm_iret (pc := 19) dX11_found_19 rfl h
theorem dJ6_bitCount_0f7a4_0 : decode cJ6_bitCount_0f7a4 0 = .ok (.iload_n 0, 1) := by decide +kernel
theorem dJ6_bitCount_0f7a4_1 : decode cJ6_bitCount_0f7a4 1 = .ok (.iload_n 0, 1) := by decide +kernel
theorem dJ6_bitCount_0f7a4_2 : decode cJ6_bitCount_0f7a4 2 = .ok (.iconst 1, 1) := by decide +kernel
theorem dJ6_bitCount_0f7a4_3 : decode cJ6_bitCount_0f7a4 3 = .ok (.iushr, 1) := by decide +kernel
theorem dJ6_bitCount_0f7a4_4 : decode cJ6_bitCount_0f7a4 4 = .ok (.ldc_w 265, 3) := by decide +kernel
theorem dJ6_bitCount_0f7a4_7 : decode cJ6_bitCount_0f7a4 7 = .ok (.iand, 1) := by decide +kernel
theorem dJ6_bitCount_0f7a4_8 : decode cJ6_bitCount_0f7a4 8 = .ok (.isub, 1) := by decide +kernel
theorem dJ6_bitCount_0f7a4_9 : decode cJ6_bitCount_0f7a4 9 = .ok (.istore_n 0, 1) := by decide +kernel
theorem dJ6_bitCount_0f7a4_10 : decode cJ6_bitCount_0f7a4 10 = .ok (.iload_n 0, 1) := by decide +kernel
theorem dJ6_bitCount_0f7a4_11 : decode cJ6_bitCount_0f7a4 11 = .ok (.ldc_w 266, 3) := by decide +kernel
theorem dJ6_bitCount_0f7a4_14 : decode cJ6_bitCount_0f7a4 14 = .ok (.iand, 1) := by decide +kernel
theorem dJ6_bitCount_0f7a4_15 : decode cJ6_bitCount_0f7a4 15 = .ok (.iload_n 0, 1) := by decide +kernel
theorem dJ6_bitCount_0f7a4_16 : decode cJ6_bitCount_0f7a4 16 = .ok (.iconst 2, 1) := by decide +kernel
theorem dJ6_bitCount_0f7a4_17 : decode cJ6_bitCount_0f7a4 17 = .ok (.iushr, 1) := by decide +kernel
theorem dJ6_bitCount_0f7a4_18 : decode cJ6_bitCount_0f7a4 18 = .ok (.ldc_w 266, 3) := by decide +kernel
theorem dJ6_bitCount_0f7a4_21 : decode cJ6_bitCount_0f7a4 21 = .ok (.iand, 1) := by decide +kernel
theorem dJ6_bitCount_0f7a4_22 : decode cJ6_bitCount_0f7a4 22 = .ok (.iadd, 1) := by decide +kernel
theorem dJ6_bitCount_0f7a4_23 : decode cJ6_bitCount_0f7a4 23 = .ok (.istore_n 0, 1) := by decide +kernel
theorem dJ6_bitCount_0f7a4_24 : decode cJ6_bitCount_0f7a4 24 = .ok (.iload_n 0, 1) := by decide +kernel
theorem dJ6_bitCount_0f7a4_25 : decode cJ6_bitCount_0f7a4 25 = .ok (.iload_n 0, 1) := by decide +kernel
theorem dJ6_bitCount_0f7a4_26 : decode cJ6_bitCount_0f7a4 26 = .ok (.iconst 4, 1) := by decide +kernel
theorem dJ6_bitCount_0f7a4_27 : decode cJ6_bitCount_0f7a4 27 = .ok (.iushr, 1) := by decide +kernel
theorem dJ6_bitCount_0f7a4_28 : decode cJ6_bitCount_0f7a4 28 = .ok (.iadd, 1) := by decide +kernel
theorem dJ6_bitCount_0f7a4_29 : decode cJ6_bitCount_0f7a4 29 = .ok (.ldc_w 267, 3) := by decide +kernel
theorem dJ6_bitCount_0f7a4_32 : decode cJ6_bitCount_0f7a4 32 = .ok (.iand, 1) := by decide +kernel
theorem dJ6_bitCount_0f7a4_33 : decode cJ6_bitCount_0f7a4 33 = .ok (.istore_n 0, 1) := by decide +kernel
theorem dJ6_bitCount_0f7a4_34 : decode cJ6_bitCount_0f7a4 34 = .ok (.iload_n 0, 1) := by decide +kernel
theorem dJ6_bitCount_0f7a4_35 : decode cJ6_bitCount_0f7a4 35 = .ok (.iload_n 0, 1) := by decide +kernel
theorem dJ6_bitCount_0f7a4_36 : decode cJ6_bitCount_0f7a4 36 = .ok (.bipush 8, 2) := by decide +kernel
theorem dJ6_bitCount_0f7a4_38 : decode cJ6_bitCount_0f7a4 38 = .ok (.iushr, 1) := by decide +kernel
theorem dJ6_bitCount_0f7a4_39 : decode cJ6_bitCount_0f7a4 39 = .ok (.iadd, 1) := by decide +kernel
theorem dJ6_bitCount_0f7a4_40 : decode cJ6_bitCount_0f7a4 40 = .ok (.istore_n 0, 1) := by decide +kernel
theorem dJ6_bitCount_0f7a4_41 : decode cJ6_bitCount_0f7a4 41 = .ok (.iload_n 0, 1) := by decide +kernel
theorem dJ6_bitCount_0f7a4_42 : decode cJ6_bitCount_0f7a4 42 = .ok (.iload_n 0, 1) := by decide +kernel
theorem dJ6_bitCount_0f7a4_43 : decode cJ6_bitCount_0f7a4 43 = .ok (.bipush 16, 2) := by decide +kernel
theorem dJ6_bitCount_0f7a4_45 : decode cJ6_bitCount_0f7a4 45 = .ok (.iushr, 1) := by decide +kernel
theorem dJ6_bitCount_0f7a4_46 : decode cJ6_bitCount_0f7a4 46 = .ok (.iadd, 1) := by decide +kernel
theorem dJ6_bitCount_0f7a4_47 : decode cJ6_bitCount_0f7a4 47 = .ok (.istore_n 0, 1) := by decide +kernel
theorem dJ6_bitCount_0f7a4_48 : decode cJ6_bitCount_0f7a4 48 = .ok (.iload_n 0, 1) := by decide +kernel
theorem dJ6_bitCount_0f7a4_49 : decode cJ6_bitCount_0f7a4 49 = .ok (.bipush 63, 2) := by decide +kernel
theorem dJ6_bitCount_0f7a4_51 : decode cJ6_bitCount_0f7a4 51 = .ok (.iand, 1) := by decide +kernel
theorem dJ6_bitCount_0f7a4_52 : decode cJ6_bitCount_0f7a4 52 = .ok (.ireturn, 1) := by decide +kernel
theorem eJ6_bitCount_0f7a4 {l : Launch} {g : jm_G} {d : Nat} {v0 : Int}  {mu : jm_M} {Q : Option Value → jm_M → Prop} (h : ∀ x1, x1 = (v0 - (jm_and (jm_ushr v0 1) 1431655765)) → ∀ x2, x2 = ((jm_and x1 858993459) + (jm_and (jm_ushr x1 2) 858993459)) → ∀ x3, x3 = (jm_and (x2 + (jm_ushr x2 4)) 252645135) → ∀ x4, x4 = (x3 + (jm_ushr x3 8)) → ∀ x5, x5 = (x4 + (jm_ushr x4 16)) → Q (some (jm_i (jm_and x5 63))) mu) : jm_R l g (d + 1) iJ6_bitCount_0f7a4 [jm_i v0] mu Q := by
  refine jm_enter [(0, jm_i v0)] (by decide) (Nat.le_of_ble_eq_true rfl) rfl ?_
  refine jm_mrI (fun hm0 => ?_)
  refine jm_iload_n (pc := 0) 0 dJ6_bitCount_0f7a4_0 rfl ?_
  refine jm_iload_n (pc := 1) 0 dJ6_bitCount_0f7a4_1 rfl ?_
  refine jm_iconst (pc := 2) dJ6_bitCount_0f7a4_2 ?_
  refine jm_iushr (pc := 3) dJ6_bitCount_0f7a4_3 ?_
  refine jm_ldcw (pc := 4) 1431655765 dJ6_bitCount_0f7a4_4 kJ6_265 (by decide) ?_
  refine jm_iand (pc := 7) dJ6_bitCount_0f7a4_7 ?_
  refine jm_isub (pc := 8) dJ6_bitCount_0f7a4_8 ?_
  have h := h _ rfl
  refine jm_istore_n (pc := 9) (lv' := [(0, _)]) dJ6_bitCount_0f7a4_9 (by decide) rfl ?_
  refine jm_iload_n (pc := 10) 0 dJ6_bitCount_0f7a4_10 rfl ?_
  refine jm_ldcw (pc := 11) 858993459 dJ6_bitCount_0f7a4_11 kJ6_266 (by decide) ?_
  refine jm_iand (pc := 14) dJ6_bitCount_0f7a4_14 ?_
  refine jm_iload_n (pc := 15) 0 dJ6_bitCount_0f7a4_15 rfl ?_
  refine jm_iconst (pc := 16) dJ6_bitCount_0f7a4_16 ?_
  refine jm_iushr (pc := 17) dJ6_bitCount_0f7a4_17 ?_
  refine jm_ldcw (pc := 18) 858993459 dJ6_bitCount_0f7a4_18 kJ6_266 (by decide) ?_
  refine jm_iand (pc := 21) dJ6_bitCount_0f7a4_21 ?_
  refine jm_iadd (pc := 22) dJ6_bitCount_0f7a4_22 ?_
  have h := h _ rfl
  refine jm_istore_n (pc := 23) (lv' := [(0, _)]) dJ6_bitCount_0f7a4_23 (by decide) rfl ?_
  refine jm_iload_n (pc := 24) 0 dJ6_bitCount_0f7a4_24 rfl ?_
  refine jm_iload_n (pc := 25) 0 dJ6_bitCount_0f7a4_25 rfl ?_
  refine jm_iconst (pc := 26) dJ6_bitCount_0f7a4_26 ?_
  refine jm_iushr (pc := 27) dJ6_bitCount_0f7a4_27 ?_
  refine jm_iadd (pc := 28) dJ6_bitCount_0f7a4_28 ?_
  refine jm_ldcw (pc := 29) 252645135 dJ6_bitCount_0f7a4_29 kJ6_267 (by decide) ?_
  refine jm_iand (pc := 32) dJ6_bitCount_0f7a4_32 ?_
  have h := h _ rfl
  refine jm_istore_n (pc := 33) (lv' := [(0, _)]) dJ6_bitCount_0f7a4_33 (by decide) rfl ?_
  refine jm_iload_n (pc := 34) 0 dJ6_bitCount_0f7a4_34 rfl ?_
  refine jm_iload_n (pc := 35) 0 dJ6_bitCount_0f7a4_35 rfl ?_
  refine jm_bipush (pc := 36) dJ6_bitCount_0f7a4_36 (by decide) ?_
  refine jm_iushr (pc := 38) dJ6_bitCount_0f7a4_38 ?_
  refine jm_iadd (pc := 39) dJ6_bitCount_0f7a4_39 ?_
  have h := h _ rfl
  refine jm_istore_n (pc := 40) (lv' := [(0, _)]) dJ6_bitCount_0f7a4_40 (by decide) rfl ?_
  refine jm_iload_n (pc := 41) 0 dJ6_bitCount_0f7a4_41 rfl ?_
  refine jm_iload_n (pc := 42) 0 dJ6_bitCount_0f7a4_42 rfl ?_
  refine jm_bipush (pc := 43) dJ6_bitCount_0f7a4_43 (by decide) ?_
  refine jm_iushr (pc := 45) dJ6_bitCount_0f7a4_45 ?_
  refine jm_iadd (pc := 46) dJ6_bitCount_0f7a4_46 ?_
  have h := h _ rfl
  refine jm_istore_n (pc := 47) (lv' := [(0, _)]) dJ6_bitCount_0f7a4_47 (by decide) rfl ?_
  refine jm_iload_n (pc := 48) 0 dJ6_bitCount_0f7a4_48 rfl ?_
  refine jm_bipush (pc := 49) dJ6_bitCount_0f7a4_49 (by decide) ?_
  refine jm_iand (pc := 51) dJ6_bitCount_0f7a4_51 ?_
  exact jm_iret (pc := 52) dJ6_bitCount_0f7a4_52 rfl h
theorem dX9_callable_0 : decode cX9_callable 0 = .ok (.iconst 0, 1) := by decide +kernel
theorem dX9_callable_1 : decode cX9_callable 1 = .ok (.istore_n 3, 1) := by decide +kernel
theorem dX9_callable_2 : decode cX9_callable 2 = .ok (.iconst 0, 1) := by decide +kernel
theorem dX9_callable_3 : decode cX9_callable 3 = .ok (.istore 4, 2) := by decide +kernel
theorem dX9_callable_5 : decode cX9_callable 5 = .ok (.iload 4, 2) := by decide +kernel
theorem dX9_callable_7 : decode cX9_callable 7 = .ok (.aload_n 0, 1) := by decide +kernel
theorem dX9_callable_8 : decode cX9_callable 8 = .ok (.getfield 34, 3) := by decide +kernel
theorem dX9_callable_11 : decode cX9_callable 11 = .ok (.getfield 77, 3) := by decide +kernel
theorem dX9_callable_14 : decode cX9_callable 14 = .ok (.if_icmp .ge 79, 3) := by decide +kernel
theorem dX9_callable_17 : decode cX9_callable 17 = .ok (.aload_n 0, 1) := by decide +kernel
theorem dX9_callable_18 : decode cX9_callable 18 = .ok (.getfield 24, 3) := by decide +kernel
theorem dX9_callable_21 : decode cX9_callable 21 = .ok (.iload 4, 2) := by decide +kernel
theorem dX9_callable_23 : decode cX9_callable 23 = .ok (.iload_n 1, 1) := by decide +kernel
theorem dX9_callable_24 : decode cX9_callable 24 = .ok (.invokevirtual 88, 3) := by decide +kernel
theorem dX9_callable_27 : decode cX9_callable 27 = .ok (.istore 5, 2) := by decide +kernel
theorem dX9_callable_29 : decode cX9_callable 29 = .ok (.aload_n 0, 1) := by decide +kernel
theorem dX9_callable_30 : decode cX9_callable 30 = .ok (.getfield 15, 3) := by decide +kernel
theorem dX9_callable_33 : decode cX9_callable 33 = .ok (.iload 4, 2) := by decide +kernel
theorem dX9_callable_35 : decode cX9_callable 35 = .ok (.iconst 0, 1) := by decide +kernel
theorem dX9_callable_36 : decode cX9_callable 36 = .ok (.iastore, 1) := by decide +kernel
theorem dX9_callable_37 : decode cX9_callable 37 = .ok (.iload 5, 2) := by decide +kernel
theorem dX9_callable_39 : decode cX9_callable 39 = .ok (.iload_n 1, 1) := by decide +kernel
theorem dX9_callable_40 : decode cX9_callable 40 = .ok (.iconst 4, 1) := by decide +kernel
theorem dX9_callable_41 : decode cX9_callable 41 = .ok (.imul, 1) := by decide +kernel
theorem dX9_callable_42 : decode cX9_callable 42 = .ok (.iload_n 2, 1) := by decide +kernel
theorem dX9_callable_43 : decode cX9_callable 43 = .ok (.iadd, 1) := by decide +kernel
theorem dX9_callable_44 : decode cX9_callable 44 = .ok (.if_icmp .ne 43, 3) := by decide +kernel
theorem dX9_callable_47 : decode cX9_callable 47 = .ok (.aload_n 0, 1) := by decide +kernel
theorem dX9_callable_48 : decode cX9_callable 48 = .ok (.getfield 24, 3) := by decide +kernel
theorem dX9_callable_51 : decode cX9_callable 51 = .ok (.iload 4, 2) := by decide +kernel
theorem dX9_callable_53 : decode cX9_callable 53 = .ok (.iload 5, 2) := by decide +kernel
theorem dX9_callable_55 : decode cX9_callable 55 = .ok (.invokevirtual 91, 3) := by decide +kernel
theorem dX9_callable_58 : decode cX9_callable 58 = .ok (.ifCond .le 29, 3) := by decide +kernel
theorem dX9_callable_61 : decode cX9_callable 61 = .ok (.aload_n 0, 1) := by decide +kernel
theorem dX9_callable_62 : decode cX9_callable 62 = .ok (.getfield 15, 3) := by decide +kernel
theorem dX9_callable_65 : decode cX9_callable 65 = .ok (.iload 4, 2) := by decide +kernel
theorem dX9_callable_67 : decode cX9_callable 67 = .ok (.aload_n 0, 1) := by decide +kernel
theorem dX9_callable_68 : decode cX9_callable 68 = .ok (.getfield 24, 3) := by decide +kernel
theorem dX9_callable_71 : decode cX9_callable 71 = .ok (.iload 4, 2) := by decide +kernel
theorem dX9_callable_73 : decode cX9_callable 73 = .ok (.iload 5, 2) := by decide +kernel
theorem dX9_callable_75 : decode cX9_callable 75 = .ok (.iconst 0, 1) := by decide +kernel
theorem dX9_callable_76 : decode cX9_callable 76 = .ok (.invokevirtual 94, 3) := by decide +kernel
theorem dX9_callable_79 : decode cX9_callable 79 = .ok (.iastore, 1) := by decide +kernel
theorem dX9_callable_80 : decode cX9_callable 80 = .ok (.iload_n 3, 1) := by decide +kernel
theorem dX9_callable_81 : decode cX9_callable 81 = .ok (.iconst 1, 1) := by decide +kernel
theorem dX9_callable_82 : decode cX9_callable 82 = .ok (.iload 4, 2) := by decide +kernel
theorem dX9_callable_84 : decode cX9_callable 84 = .ok (.ishl, 1) := by decide +kernel
theorem dX9_callable_85 : decode cX9_callable 85 = .ok (.ior, 1) := by decide +kernel
theorem dX9_callable_86 : decode cX9_callable 86 = .ok (.istore_n 3, 1) := by decide +kernel
theorem dX9_callable_87 : decode cX9_callable 87 = .ok (.iinc 4 1, 3) := by decide +kernel
theorem dX9_callable_90 : decode cX9_callable 90 = .ok (.goto (-85), 3) := by decide +kernel
theorem dX9_callable_93 : decode cX9_callable 93 = .ok (.iload_n 3, 1) := by decide +kernel
theorem dX9_callable_94 : decode cX9_callable 94 = .ok (.ireturn, 1) := by decide +kernel
theorem bX9_callable_5 {l : Launch} {g : jm_G} {d : Nat} {v1 v2 v3 v4 : Int} (hg : jm_HC g) {mu : jm_M} {Q : Option Value → jm_M → Prop} (h : jm_rg v4 ∧ ((mu.1 6 0) ≤ v4 → Q (some (jm_i v3)) mu) ∧ (v4 < (mu.1 6 0) → jm_R l g d iX0_motiveOf [.ref 35, jm_i v4, jm_i v1] mu (jm_qi fun z3 m2 => (0 ≤ v4 ∧ v4 < 8) ∧ ∀ m7, m7 = jm_wr m2 43 v4 0 → jm_rg ((v1 * 4) + v2) ∧ (¬ z3 = ((v1 * 4) + v2) → jm_V l g (d + 1) iX9_callable 5 [(0, .ref 41), (1, jm_i v1), (2, jm_i v2), (3, jm_i v3), (4, jm_i (v4 + 1))] [] m7 Q) ∧ (z3 = ((v1 * 4) + v2) → jm_R l g d iX0_howManyKeys [.ref 35, jm_i v4, jm_i z3] m7 (jm_qi fun z11 m10 => (z11 ≤ 0 → jm_V l g (d + 1) iX9_callable 5 [(0, .ref 41), (1, jm_i v1), (2, jm_i v2), (3, jm_i v3), (4, jm_i (v4 + 1))] [] m10 Q) ∧ (0 < z11 → jm_R l g d iX0_weightOf [.ref 35, jm_i v4, jm_i z3, jm_i 0] m10 (jm_qi fun z15 m14 => ∀ m18, m18 = jm_wr m14 43 v4 z15 → ∀ x20, x20 = (jm_or v3 (jm_shl 1 v4)) → jm_V l g (d + 1) iX9_callable 5 [(0, .ref 41), (1, jm_i v1), (2, jm_i v2), (3, jm_i x20), (4, jm_i (v4 + 1))] [] m18 Q))))))) : jm_V l g (d + 1) iX9_callable 5 [(0, .ref 41), (1, jm_i v1), (2, jm_i v2), (3, jm_i v3), (4, jm_i v4)] [] mu Q := by
  refine jm_mrI (fun hm0 => ?_)
  refine jm_iload (pc := 5) 4 dX9_callable_5 rfl ?_
  refine jm_aload_n (pc := 7) 0 dX9_callable_7 rfl ?_
  refine jm_getr (pc := 8) 1 dX9_callable_8 fX9_34 (cC41 hg) rfl ?_
  refine jm_geti (pc := 11) 0 dX9_callable_11 fX9_77 (cC6 hg) rfl ?_
  have hg1 := h.1
  have h := h.2
  refine jm_icmp_ge (pc := 14) 93 dX9_callable_14 rfl hg1 (hm0 _ _) (fun q => ?_) (fun q => ?_)
  · have h := h.1 q
    refine jm_iload_n (pc := 93) 3 dX9_callable_93 rfl ?_
    exact jm_iret (pc := 94) dX9_callable_94 rfl h
  · have h := h.2 q
    refine jm_aload_n (pc := 17) 0 dX9_callable_17 rfl ?_
    refine jm_getr (pc := 18) 0 dX9_callable_18 fX9_24 (cC41 hg) rfl ?_
    refine jm_iload (pc := 21) 4 dX9_callable_21 rfl ?_
    refine jm_iload_n (pc := 23) 1 dX9_callable_23 rfl ?_
    refine jm_callvi (pc := 24) (As := [_, _]) (st := []) iX0_motiveOf dX9_callable_24 mX9_88 (cC35 hg) ⟨_, rfl, rfl⟩ rfl rfl (Nat.le_of_ble_eq_true rfl) h (fun z3 m2 hz4 h hm5 => ?_)
    refine jm_istore (pc := 27) (lv' := [(5, _), (0, _), (1, _), (2, _), (3, _), (4, _)]) dX9_callable_27 (by decide) rfl ?_
    refine jm_aload_n (pc := 29) 1 dX9_callable_29 rfl ?_
    refine jm_getr (pc := 30) 4 dX9_callable_30 fX9_15 (cC41 hg) rfl ?_
    refine jm_iload (pc := 33) 5 dX9_callable_33 rfl ?_
    refine jm_iconst (pc := 35) dX9_callable_35 ?_
    have hg6 := h.1
    have h := h.2
    refine jm_iast (pc := 36) dX9_callable_36 (cC43 hg) (by decide) hg6.1 hg6.2 ⟨by decide, by decide⟩ ?_
    have h := h _ rfl
    refine jm_mrI (fun hm8 => ?_)
    refine jm_iload (pc := 37) 0 dX9_callable_37 rfl ?_
    refine jm_iload_n (pc := 39) 2 dX9_callable_39 rfl ?_
    refine jm_iconst (pc := 40) dX9_callable_40 ?_
    refine jm_imul (pc := 41) dX9_callable_41 ?_
    refine jm_iload_n (pc := 42) 3 dX9_callable_42 rfl ?_
    refine jm_iadd (pc := 43) dX9_callable_43 ?_
    have hg9 := h.1
    have h := h.2
    refine jm_icmp_ne (pc := 44) 87 dX9_callable_44 rfl hz4 hg9 (fun q => ?_) (fun q => ?_)
    · have h := h.1 q
      refine jm_iinc (pc := 87) (lv' := [(4, _), (5, _), (0, _), (1, _), (2, _), (3, _)]) 5 dX9_callable_87 rfl (by decide) rfl ?_
      refine jm_goto (pc := 90) 5 dX9_callable_90 rfl ?_
      exact jm_sub [2, 3, 4, 5, 0] rfl h
    · have h := h.2 q
      refine jm_aload_n (pc := 47) 1 dX9_callable_47 rfl ?_
      refine jm_getr (pc := 48) 0 dX9_callable_48 fX9_24 (cC41 hg) rfl ?_
      refine jm_iload (pc := 51) 5 dX9_callable_51 rfl ?_
      refine jm_iload (pc := 53) 0 dX9_callable_53 rfl ?_
      refine jm_callvi (pc := 55) (As := [_, _]) (st := []) iX0_howManyKeys dX9_callable_55 mX9_91 (cC35 hg) ⟨_, rfl, rfl⟩ rfl rfl (Nat.le_of_ble_eq_true rfl) h (fun z11 m10 hz12 h hm13 => ?_)
      refine jm_if_le (pc := 58) 87 dX9_callable_58 rfl hz12 (fun q => ?_) (fun q => ?_)
      · have h := h.1 q
        refine jm_iinc (pc := 87) (lv' := [(4, _), (5, _), (0, _), (1, _), (2, _), (3, _)]) 5 dX9_callable_87 rfl (by decide) rfl ?_
        refine jm_goto (pc := 90) 5 dX9_callable_90 rfl ?_
        exact jm_sub [2, 3, 4, 5, 0] rfl h
      · have h := h.2 q
        refine jm_aload_n (pc := 61) 1 dX9_callable_61 rfl ?_
        refine jm_getr (pc := 62) 4 dX9_callable_62 fX9_15 (cC41 hg) rfl ?_
        refine jm_iload (pc := 65) 5 dX9_callable_65 rfl ?_
        refine jm_aload_n (pc := 67) 1 dX9_callable_67 rfl ?_
        refine jm_getr (pc := 68) 0 dX9_callable_68 fX9_24 (cC41 hg) rfl ?_
        refine jm_iload (pc := 71) 5 dX9_callable_71 rfl ?_
        refine jm_iload (pc := 73) 0 dX9_callable_73 rfl ?_
        refine jm_iconst (pc := 75) dX9_callable_75 ?_
        refine jm_callvi (pc := 76) (As := [_, _, _]) (st := [_, _]) iX0_weightOf dX9_callable_76 mX9_94 (cC35 hg) ⟨_, rfl, rfl⟩ rfl rfl (Nat.le_of_ble_eq_true rfl) h (fun z15 m14 hz16 h hm17 => ?_)
        refine jm_iast (pc := 79) dX9_callable_79 (cC43 hg) (by decide) hg6.1 hg6.2 hz16 ?_
        have h := h _ rfl
        refine jm_mrI (fun hm19 => ?_)
        refine jm_iload_n (pc := 80) 4 dX9_callable_80 rfl ?_
        refine jm_iconst (pc := 81) dX9_callable_81 ?_
        refine jm_iload (pc := 82) 5 dX9_callable_82 rfl ?_
        refine jm_ishl (pc := 84) dX9_callable_84 ?_
        refine jm_ior (pc := 85) dX9_callable_85 ?_
        have h := h _ rfl
        refine jm_istore_n (pc := 86) (lv' := [(3, _), (5, _), (0, _), (1, _), (2, _), (4, _)]) dX9_callable_86 (by decide) rfl ?_
        refine jm_iinc (pc := 87) (lv' := [(4, _), (3, _), (5, _), (0, _), (1, _), (2, _)]) 5 dX9_callable_87 rfl (by decide) rfl ?_
        refine jm_goto (pc := 90) 5 dX9_callable_90 rfl ?_
        exact jm_sub [3, 4, 5, 1, 0] rfl h
theorem eX9_callable {l : Launch} {g : jm_G} {d : Nat} {v1 v2 : Int} (hg : jm_HC g) {mu : jm_M} {Q : Option Value → jm_M → Prop} (h : jm_V l g (d + 1) iX9_callable 5 [(0, .ref 41), (1, jm_i v1), (2, jm_i v2), (3, jm_i 0), (4, jm_i 0)] [] mu Q) : jm_R l g (d + 1) iX9_callable [.ref 41, jm_i v1, jm_i v2] mu Q := by
  refine jm_enter [(0, .ref 41), (1, jm_i v1), (2, jm_i v2)] (by decide) (Nat.le_of_ble_eq_true rfl) rfl ?_
  refine jm_mrI (fun hm0 => ?_)
  refine jm_iconst (pc := 0) dX9_callable_0 ?_
  refine jm_istore_n (pc := 1) (lv' := [(3, _), (0, _), (1, _), (2, _)]) dX9_callable_1 (by decide) rfl ?_
  refine jm_iconst (pc := 2) dX9_callable_2 ?_
  refine jm_istore (pc := 3) (lv' := [(4, _), (3, _), (0, _), (1, _), (2, _)]) dX9_callable_3 (by decide) rfl ?_
  exact jm_sub [2, 3, 4, 1, 0] rfl h
theorem dX9_sumOf_0 : decode cX9_sumOf 0 = .ok (.iconst 0, 1) := by decide +kernel
theorem dX9_sumOf_1 : decode cX9_sumOf 1 = .ok (.istore_n 2, 1) := by decide +kernel
theorem dX9_sumOf_2 : decode cX9_sumOf 2 = .ok (.iconst 0, 1) := by decide +kernel
theorem dX9_sumOf_3 : decode cX9_sumOf 3 = .ok (.istore_n 3, 1) := by decide +kernel
theorem dX9_sumOf_4 : decode cX9_sumOf 4 = .ok (.iload_n 3, 1) := by decide +kernel
theorem dX9_sumOf_5 : decode cX9_sumOf 5 = .ok (.aload_n 0, 1) := by decide +kernel
theorem dX9_sumOf_6 : decode cX9_sumOf 6 = .ok (.getfield 34, 3) := by decide +kernel
theorem dX9_sumOf_9 : decode cX9_sumOf 9 = .ok (.getfield 77, 3) := by decide +kernel
theorem dX9_sumOf_12 : decode cX9_sumOf 12 = .ok (.if_icmp .ge 24, 3) := by decide +kernel
theorem dX9_sumOf_15 : decode cX9_sumOf 15 = .ok (.iload_n 2, 1) := by decide +kernel
theorem dX9_sumOf_16 : decode cX9_sumOf 16 = .ok (.iload_n 1, 1) := by decide +kernel
theorem dX9_sumOf_17 : decode cX9_sumOf 17 = .ok (.iload_n 3, 1) := by decide +kernel
theorem dX9_sumOf_18 : decode cX9_sumOf 18 = .ok (.ishr, 1) := by decide +kernel
theorem dX9_sumOf_19 : decode cX9_sumOf 19 = .ok (.iconst 1, 1) := by decide +kernel
theorem dX9_sumOf_20 : decode cX9_sumOf 20 = .ok (.iand, 1) := by decide +kernel
theorem dX9_sumOf_21 : decode cX9_sumOf 21 = .ok (.aload_n 0, 1) := by decide +kernel
theorem dX9_sumOf_22 : decode cX9_sumOf 22 = .ok (.getfield 15, 3) := by decide +kernel
theorem dX9_sumOf_25 : decode cX9_sumOf 25 = .ok (.iload_n 3, 1) := by decide +kernel
theorem dX9_sumOf_26 : decode cX9_sumOf 26 = .ok (.iaload, 1) := by decide +kernel
theorem dX9_sumOf_27 : decode cX9_sumOf 27 = .ok (.imul, 1) := by decide +kernel
theorem dX9_sumOf_28 : decode cX9_sumOf 28 = .ok (.iadd, 1) := by decide +kernel
theorem dX9_sumOf_29 : decode cX9_sumOf 29 = .ok (.istore_n 2, 1) := by decide +kernel
theorem dX9_sumOf_30 : decode cX9_sumOf 30 = .ok (.iinc 3 1, 3) := by decide +kernel
theorem dX9_sumOf_33 : decode cX9_sumOf 33 = .ok (.goto (-29), 3) := by decide +kernel
theorem dX9_sumOf_36 : decode cX9_sumOf 36 = .ok (.iload_n 2, 1) := by decide +kernel
theorem dX9_sumOf_37 : decode cX9_sumOf 37 = .ok (.ireturn, 1) := by decide +kernel
theorem bX9_sumOf_4 {l : Launch} {g : jm_G} {d : Nat} {v1 v2 v3 : Int} (hg : jm_HC g) {mu : jm_M} {Q : Option Value → jm_M → Prop} (h : jm_rg v3 ∧ ((mu.1 6 0) ≤ v3 → Q (some (jm_i v2)) mu) ∧ (v3 < (mu.1 6 0) → (0 ≤ v3 ∧ v3 < 8) ∧ ∀ x3, x3 = (v2 + ((jm_and (jm_shr v1 v3) 1) * (mu.1 43 v3))) → jm_V l g (d + 1) iX9_sumOf 4 [(0, .ref 41), (1, jm_i v1), (2, jm_i x3), (3, jm_i (v3 + 1))] [] mu Q)) : jm_V l g (d + 1) iX9_sumOf 4 [(0, .ref 41), (1, jm_i v1), (2, jm_i v2), (3, jm_i v3)] [] mu Q := by
  refine jm_mrI (fun hm0 => ?_)
  refine jm_iload_n (pc := 4) 3 dX9_sumOf_4 rfl ?_
  refine jm_aload_n (pc := 5) 0 dX9_sumOf_5 rfl ?_
  refine jm_getr (pc := 6) 1 dX9_sumOf_6 fX9_34 (cC41 hg) rfl ?_
  refine jm_geti (pc := 9) 0 dX9_sumOf_9 fX9_77 (cC6 hg) rfl ?_
  have hg1 := h.1
  have h := h.2
  refine jm_icmp_ge (pc := 12) 36 dX9_sumOf_12 rfl hg1 (hm0 _ _) (fun q => ?_) (fun q => ?_)
  · have h := h.1 q
    refine jm_iload_n (pc := 36) 2 dX9_sumOf_36 rfl ?_
    exact jm_iret (pc := 37) dX9_sumOf_37 rfl h
  · have h := h.2 q
    refine jm_iload_n (pc := 15) 2 dX9_sumOf_15 rfl ?_
    refine jm_iload_n (pc := 16) 1 dX9_sumOf_16 rfl ?_
    refine jm_iload_n (pc := 17) 3 dX9_sumOf_17 rfl ?_
    refine jm_ishr (pc := 18) dX9_sumOf_18 ?_
    refine jm_iconst (pc := 19) dX9_sumOf_19 ?_
    refine jm_iand (pc := 20) dX9_sumOf_20 ?_
    refine jm_aload_n (pc := 21) 0 dX9_sumOf_21 rfl ?_
    refine jm_getr (pc := 22) 4 dX9_sumOf_22 fX9_15 (cC41 hg) rfl ?_
    refine jm_iload_n (pc := 25) 3 dX9_sumOf_25 rfl ?_
    have hg2 := h.1
    have h := h.2
    refine jm_iald (pc := 26) dX9_sumOf_26 (cC43 hg) (by decide) hg2.1 hg2.2 ?_
    refine jm_imul (pc := 27) dX9_sumOf_27 ?_
    refine jm_iadd (pc := 28) dX9_sumOf_28 ?_
    have h := h _ rfl
    refine jm_istore_n (pc := 29) (lv' := [(2, _), (0, _), (1, _), (3, _)]) dX9_sumOf_29 (by decide) rfl ?_
    refine jm_iinc (pc := 30) (lv' := [(3, _), (2, _), (0, _), (1, _)]) 3 dX9_sumOf_30 rfl (by decide) rfl ?_
    refine jm_goto (pc := 33) 4 dX9_sumOf_33 rfl ?_
    exact jm_sub [2, 3, 1, 0] rfl h
theorem eX9_sumOf {l : Launch} {g : jm_G} {d : Nat} {v1 : Int} (hg : jm_HC g) {mu : jm_M} {Q : Option Value → jm_M → Prop} (h : jm_V l g (d + 1) iX9_sumOf 4 [(0, .ref 41), (1, jm_i v1), (2, jm_i 0), (3, jm_i 0)] [] mu Q) : jm_R l g (d + 1) iX9_sumOf [.ref 41, jm_i v1] mu Q := by
  refine jm_enter [(0, .ref 41), (1, jm_i v1)] (by decide) (Nat.le_of_ble_eq_true rfl) rfl ?_
  refine jm_mrI (fun hm0 => ?_)
  refine jm_iconst (pc := 0) dX9_sumOf_0 ?_
  refine jm_istore_n (pc := 1) (lv' := [(2, _), (0, _), (1, _)]) dX9_sumOf_1 (by decide) rfl ?_
  refine jm_iconst (pc := 2) dX9_sumOf_2 ?_
  refine jm_istore_n (pc := 3) (lv' := [(3, _), (2, _), (0, _), (1, _)]) dX9_sumOf_3 (by decide) rfl ?_
  exact jm_sub [2, 3, 1, 0] rfl h
theorem dX9_fewestCallers_0 : decode cX9_fewestCallers 0 = .ok (.aload_n 0, 1) := by decide +kernel
theorem dX9_fewestCallers_1 : decode cX9_fewestCallers 1 = .ok (.iload_n 1, 1) := by decide +kernel
theorem dX9_fewestCallers_2 : decode cX9_fewestCallers 2 = .ok (.invokevirtual 40, 3) := by decide +kernel
theorem dX9_fewestCallers_5 : decode cX9_fewestCallers 5 = .ok (.aload_n 0, 1) := by decide +kernel
theorem dX9_fewestCallers_6 : decode cX9_fewestCallers 6 = .ok (.iload_n 2, 1) := by decide +kernel
theorem dX9_fewestCallers_7 : decode cX9_fewestCallers 7 = .ok (.invokevirtual 63, 3) := by decide +kernel
theorem dX9_fewestCallers_10 : decode cX9_fewestCallers 10 = .ok (.istore_n 3, 1) := by decide +kernel
theorem dX9_fewestCallers_11 : decode cX9_fewestCallers 11 = .ok (.aload_n 0, 1) := by decide +kernel
theorem dX9_fewestCallers_12 : decode cX9_fewestCallers 12 = .ok (.iload_n 1, 1) := by decide +kernel
theorem dX9_fewestCallers_13 : decode cX9_fewestCallers 13 = .ok (.iload_n 2, 1) := by decide +kernel
theorem dX9_fewestCallers_14 : decode cX9_fewestCallers 14 = .ok (.invokevirtual 74, 3) := by decide +kernel
theorem dX9_fewestCallers_17 : decode cX9_fewestCallers 17 = .ok (.istore 4, 2) := by decide +kernel
theorem dX9_fewestCallers_19 : decode cX9_fewestCallers 19 = .ok (.iconst (-1), 1) := by decide +kernel
theorem dX9_fewestCallers_20 : decode cX9_fewestCallers 20 = .ok (.istore 5, 2) := by decide +kernel
theorem dX9_fewestCallers_22 : decode cX9_fewestCallers 22 = .ok (.bipush 9, 2) := by decide +kernel
theorem dX9_fewestCallers_24 : decode cX9_fewestCallers 24 = .ok (.istore 6, 2) := by decide +kernel
theorem dX9_fewestCallers_26 : decode cX9_fewestCallers 26 = .ok (.iconst 0, 1) := by decide +kernel
theorem dX9_fewestCallers_27 : decode cX9_fewestCallers 27 = .ok (.istore 7, 2) := by decide +kernel
theorem dX9_fewestCallers_29 : decode cX9_fewestCallers 29 = .ok (.iload 7, 2) := by decide +kernel
theorem dX9_fewestCallers_31 : decode cX9_fewestCallers 31 = .ok (.iconst 1, 1) := by decide +kernel
theorem dX9_fewestCallers_32 : decode cX9_fewestCallers 32 = .ok (.aload_n 0, 1) := by decide +kernel
theorem dX9_fewestCallers_33 : decode cX9_fewestCallers 33 = .ok (.getfield 34, 3) := by decide +kernel
theorem dX9_fewestCallers_36 : decode cX9_fewestCallers 36 = .ok (.getfield 77, 3) := by decide +kernel
theorem dX9_fewestCallers_39 : decode cX9_fewestCallers 39 = .ok (.ishl, 1) := by decide +kernel
theorem dX9_fewestCallers_40 : decode cX9_fewestCallers 40 = .ok (.if_icmp .ge 51, 3) := by decide +kernel
theorem dX9_fewestCallers_43 : decode cX9_fewestCallers 43 = .ok (.iload 7, 2) := by decide +kernel
theorem dX9_fewestCallers_45 : decode cX9_fewestCallers 45 = .ok (.invokestatic 80, 3) := by decide +kernel
theorem dX9_fewestCallers_48 : decode cX9_fewestCallers 48 = .ok (.istore 8, 2) := by decide +kernel
theorem dX9_fewestCallers_50 : decode cX9_fewestCallers 50 = .ok (.iload 7, 2) := by decide +kernel
theorem dX9_fewestCallers_52 : decode cX9_fewestCallers 52 = .ok (.iload 4, 2) := by decide +kernel
theorem dX9_fewestCallers_54 : decode cX9_fewestCallers 54 = .ok (.iconst (-1), 1) := by decide +kernel
theorem dX9_fewestCallers_55 : decode cX9_fewestCallers 55 = .ok (.ixor, 1) := by decide +kernel
theorem dX9_fewestCallers_56 : decode cX9_fewestCallers 56 = .ok (.iand, 1) := by decide +kernel
theorem dX9_fewestCallers_57 : decode cX9_fewestCallers 57 = .ok (.ifCond .ne 28, 3) := by decide +kernel
theorem dX9_fewestCallers_60 : decode cX9_fewestCallers 60 = .ok (.iload 8, 2) := by decide +kernel
theorem dX9_fewestCallers_62 : decode cX9_fewestCallers 62 = .ok (.iload 6, 2) := by decide +kernel
theorem dX9_fewestCallers_64 : decode cX9_fewestCallers 64 = .ok (.if_icmp .ge 21, 3) := by decide +kernel
theorem dX9_fewestCallers_67 : decode cX9_fewestCallers 67 = .ok (.aload_n 0, 1) := by decide +kernel
theorem dX9_fewestCallers_68 : decode cX9_fewestCallers 68 = .ok (.iload 7, 2) := by decide +kernel
theorem dX9_fewestCallers_70 : decode cX9_fewestCallers 70 = .ok (.invokevirtual 85, 3) := by decide +kernel
theorem dX9_fewestCallers_73 : decode cX9_fewestCallers 73 = .ok (.iload_n 3, 1) := by decide +kernel
theorem dX9_fewestCallers_74 : decode cX9_fewestCallers 74 = .ok (.if_icmp .lt 11, 3) := by decide +kernel
theorem dX9_fewestCallers_77 : decode cX9_fewestCallers 77 = .ok (.iload 7, 2) := by decide +kernel
theorem dX9_fewestCallers_79 : decode cX9_fewestCallers 79 = .ok (.istore 5, 2) := by decide +kernel
theorem dX9_fewestCallers_81 : decode cX9_fewestCallers 81 = .ok (.iload 8, 2) := by decide +kernel
theorem dX9_fewestCallers_83 : decode cX9_fewestCallers 83 = .ok (.istore 6, 2) := by decide +kernel
theorem dX9_fewestCallers_85 : decode cX9_fewestCallers 85 = .ok (.iinc 7 1, 3) := by decide +kernel
theorem dX9_fewestCallers_88 : decode cX9_fewestCallers 88 = .ok (.goto (-59), 3) := by decide +kernel
theorem dX9_fewestCallers_91 : decode cX9_fewestCallers 91 = .ok (.iload 5, 2) := by decide +kernel
theorem dX9_fewestCallers_93 : decode cX9_fewestCallers 93 = .ok (.ireturn, 1) := by decide +kernel
theorem bX9_fewestCallers_29 {l : Launch} {g : jm_G} {d : Nat} {v3 v4 v5 v6 v7 : Int} (hg : jm_HC g) {mu : jm_M} {Q : Option Value → jm_M → Prop} (h : jm_rg v7 ∧ ((jm_shl 1 (mu.1 6 0)) ≤ v7 → Q (some (jm_i v5)) mu) ∧ (v7 < (jm_shl 1 (mu.1 6 0)) → jm_R l g d iJ6_bitCount_0f7a4 [jm_i v7] mu (jm_qi fun z3 m2 => (¬ (jm_and v7 (jm_xor v4 (-1))) = 0 → jm_V l g (d + 1) iX9_fewestCallers 29 [(0, .ref 41), (3, jm_i v3), (4, jm_i v4), (5, jm_i v5), (6, jm_i v6), (7, jm_i (v7 + 1))] [] m2 Q) ∧ ((jm_and v7 (jm_xor v4 (-1))) = 0 → jm_rg v6 ∧ (v6 ≤ z3 → jm_V l g (d + 1) iX9_fewestCallers 29 [(0, .ref 41), (3, jm_i v3), (4, jm_i v4), (5, jm_i v5), (6, jm_i v6), (7, jm_i (v7 + 1))] [] m2 Q) ∧ (z3 < v6 → jm_R l g d iX9_sumOf [.ref 41, jm_i v7] m2 (jm_qi fun z8 m7 => jm_rg v3 ∧ (z8 < v3 → jm_V l g (d + 1) iX9_fewestCallers 29 [(0, .ref 41), (3, jm_i v3), (4, jm_i v4), (5, jm_i v5), (6, jm_i v6), (7, jm_i (v7 + 1))] [] m7 Q) ∧ (v3 ≤ z8 → jm_V l g (d + 1) iX9_fewestCallers 29 [(0, .ref 41), (3, jm_i v3), (4, jm_i v4), (5, jm_i v7), (6, jm_i z3), (7, jm_i (v7 + 1))] [] m7 Q))))))) : jm_V l g (d + 1) iX9_fewestCallers 29 [(0, .ref 41), (3, jm_i v3), (4, jm_i v4), (5, jm_i v5), (6, jm_i v6), (7, jm_i v7)] [] mu Q := by
  refine jm_mrI (fun hm0 => ?_)
  refine jm_iload (pc := 29) 5 dX9_fewestCallers_29 rfl ?_
  refine jm_iconst (pc := 31) dX9_fewestCallers_31 ?_
  refine jm_aload_n (pc := 32) 0 dX9_fewestCallers_32 rfl ?_
  refine jm_getr (pc := 33) 1 dX9_fewestCallers_33 fX9_34 (cC41 hg) rfl ?_
  refine jm_geti (pc := 36) 0 dX9_fewestCallers_36 fX9_77 (cC6 hg) rfl ?_
  refine jm_ishl (pc := 39) dX9_fewestCallers_39 ?_
  have hg1 := h.1
  have h := h.2
  refine jm_icmp_ge (pc := 40) 91 dX9_fewestCallers_40 rfl hg1 (jm_rgT _) (fun q => ?_) (fun q => ?_)
  · have h := h.1 q
    refine jm_iload (pc := 91) 3 dX9_fewestCallers_91 rfl ?_
    exact jm_iret (pc := 93) dX9_fewestCallers_93 rfl h
  · have h := h.2 q
    refine jm_iload (pc := 43) 5 dX9_fewestCallers_43 rfl ?_
    refine jm_callsi (pc := 45) (As := [_]) (st := []) iJ6_bitCount_0f7a4 dX9_fewestCallers_45 mX9_80 rfl rfl (Nat.le_of_ble_eq_true rfl) h (fun z3 m2 hz4 h hm5 => ?_)
    refine jm_istore (pc := 48) (lv' := [(8, _), (0, _), (3, _), (4, _), (5, _), (6, _), (7, _)]) dX9_fewestCallers_48 (by decide) rfl ?_
    refine jm_iload (pc := 50) 6 dX9_fewestCallers_50 rfl ?_
    refine jm_iload (pc := 52) 3 dX9_fewestCallers_52 rfl ?_
    refine jm_iconst (pc := 54) dX9_fewestCallers_54 ?_
    refine jm_ixor (pc := 55) dX9_fewestCallers_55 ?_
    refine jm_iand (pc := 56) dX9_fewestCallers_56 ?_
    refine jm_if_ne (pc := 57) 85 dX9_fewestCallers_57 rfl (jm_rgT _) (fun q => ?_) (fun q => ?_)
    · have h := h.1 q
      refine jm_iinc (pc := 85) (lv' := [(7, _), (8, _), (0, _), (3, _), (4, _), (5, _), (6, _)]) 6 dX9_fewestCallers_85 rfl (by decide) rfl ?_
      refine jm_goto (pc := 88) 29 dX9_fewestCallers_88 rfl ?_
      exact jm_sub [2, 3, 4, 5, 6, 0] rfl h
    · have h := h.2 q
      refine jm_iload (pc := 60) 0 dX9_fewestCallers_60 rfl ?_
      refine jm_iload (pc := 62) 5 dX9_fewestCallers_62 rfl ?_
      have hg6 := h.1
      have h := h.2
      refine jm_icmp_ge (pc := 64) 85 dX9_fewestCallers_64 rfl hz4 hg6 (fun q => ?_) (fun q => ?_)
      · have h := h.1 q
        refine jm_iinc (pc := 85) (lv' := [(7, _), (8, _), (0, _), (3, _), (4, _), (5, _), (6, _)]) 6 dX9_fewestCallers_85 rfl (by decide) rfl ?_
        refine jm_goto (pc := 88) 29 dX9_fewestCallers_88 rfl ?_
        exact jm_sub [2, 3, 4, 5, 6, 0] rfl h
      · have h := h.2 q
        refine jm_aload_n (pc := 67) 1 dX9_fewestCallers_67 rfl ?_
        refine jm_iload (pc := 68) 6 dX9_fewestCallers_68 rfl ?_
        refine jm_callvi (pc := 70) (As := [_]) (st := []) iX9_sumOf dX9_fewestCallers_70 mX9_85 (cC41 hg) ⟨_, rfl, rfl⟩ rfl rfl (Nat.le_of_ble_eq_true rfl) h (fun z8 m7 hz9 h hm10 => ?_)
        refine jm_iload_n (pc := 73) 2 dX9_fewestCallers_73 rfl ?_
        have hg11 := h.1
        have h := h.2
        refine jm_icmp_lt (pc := 74) 85 dX9_fewestCallers_74 rfl hz9 hg11 (fun q => ?_) (fun q => ?_)
        · have h := h.1 q
          refine jm_iinc (pc := 85) (lv' := [(7, _), (8, _), (0, _), (3, _), (4, _), (5, _), (6, _)]) 6 dX9_fewestCallers_85 rfl (by decide) rfl ?_
          refine jm_goto (pc := 88) 29 dX9_fewestCallers_88 rfl ?_
          exact jm_sub [2, 3, 4, 5, 6, 0] rfl h
        · have h := h.2 q
          refine jm_iload (pc := 77) 6 dX9_fewestCallers_77 rfl ?_
          refine jm_istore (pc := 79) (lv' := [(5, _), (8, _), (0, _), (3, _), (4, _), (6, _), (7, _)]) dX9_fewestCallers_79 (by decide) rfl ?_
          refine jm_iload (pc := 81) 1 dX9_fewestCallers_81 rfl ?_
          refine jm_istore (pc := 83) (lv' := [(6, _), (5, _), (8, _), (0, _), (3, _), (4, _), (7, _)]) dX9_fewestCallers_83 (by decide) rfl ?_
          refine jm_iinc (pc := 85) (lv' := [(7, _), (6, _), (5, _), (8, _), (0, _), (3, _), (4, _)]) 6 dX9_fewestCallers_85 rfl (by decide) rfl ?_
          refine jm_goto (pc := 88) 29 dX9_fewestCallers_88 rfl ?_
          exact jm_sub [4, 5, 6, 2, 1, 0] rfl h
theorem eX9_fewestCallers {l : Launch} {g : jm_G} {d : Nat} {v1 v2 : Int} (hg : jm_HC g) {mu : jm_M} {Q : Option Value → jm_M → Prop} (h : jm_R l g d iX9_weighAll [.ref 41, jm_i v1] mu (jm_qv fun m1 => jm_R l g d iX9_missingFor [.ref 41, jm_i v2] m1 (jm_qi fun z6 m5 => jm_R l g d iX9_callable [.ref 41, jm_i v1, jm_i v2] m5 (jm_qi fun z10 m9 => jm_V l g (d + 1) iX9_fewestCallers 29 [(0, .ref 41), (3, jm_i z6), (4, jm_i z10), (5, jm_i (-1)), (6, jm_i 9), (7, jm_i 0)] [] m9 Q)))) : jm_R l g (d + 1) iX9_fewestCallers [.ref 41, jm_i v1, jm_i v2] mu Q := by
  refine jm_enter [(0, .ref 41), (1, jm_i v1), (2, jm_i v2)] (by decide) (Nat.le_of_ble_eq_true rfl) rfl ?_
  refine jm_mrI (fun hm0 => ?_)
  refine jm_aload_n (pc := 0) 0 dX9_fewestCallers_0 rfl ?_
  refine jm_iload_n (pc := 1) 1 dX9_fewestCallers_1 rfl ?_
  refine jm_callvv (pc := 2) (As := [_]) (st := []) iX9_weighAll dX9_fewestCallers_2 mX9_40 (cC41 hg) ⟨_, rfl, rfl⟩ rfl rfl (Nat.le_of_ble_eq_true rfl) h (fun m1 h hm4 => ?_)
  refine jm_aload_n (pc := 5) 0 dX9_fewestCallers_5 rfl ?_
  refine jm_iload_n (pc := 6) 2 dX9_fewestCallers_6 rfl ?_
  refine jm_callvi (pc := 7) (As := [_]) (st := []) iX9_missingFor dX9_fewestCallers_7 mX9_63 (cC41 hg) ⟨_, rfl, rfl⟩ rfl rfl (Nat.le_of_ble_eq_true rfl) h (fun z6 m5 hz7 h hm8 => ?_)
  refine jm_istore_n (pc := 10) (lv' := [(3, _), (0, _), (1, _), (2, _)]) dX9_fewestCallers_10 (by decide) rfl ?_
  refine jm_aload_n (pc := 11) 1 dX9_fewestCallers_11 rfl ?_
  refine jm_iload_n (pc := 12) 2 dX9_fewestCallers_12 rfl ?_
  refine jm_iload_n (pc := 13) 3 dX9_fewestCallers_13 rfl ?_
  refine jm_callvi (pc := 14) (As := [_, _]) (st := []) iX9_callable dX9_fewestCallers_14 mX9_74 (cC41 hg) ⟨_, rfl, rfl⟩ rfl rfl (Nat.le_of_ble_eq_true rfl) h (fun z10 m9 hz11 h hm12 => ?_)
  refine jm_istore (pc := 17) (lv' := [(4, _), (3, _), (0, _), (1, _), (2, _)]) dX9_fewestCallers_17 (by decide) rfl ?_
  refine jm_iconst (pc := 19) dX9_fewestCallers_19 ?_
  refine jm_istore (pc := 20) (lv' := [(5, _), (4, _), (3, _), (0, _), (1, _), (2, _)]) dX9_fewestCallers_20 (by decide) rfl ?_
  refine jm_bipush (pc := 22) dX9_fewestCallers_22 (by decide) ?_
  refine jm_istore (pc := 24) (lv' := [(6, _), (5, _), (4, _), (3, _), (0, _), (1, _), (2, _)]) dX9_fewestCallers_24 (by decide) rfl ?_
  refine jm_iconst (pc := 26) dX9_fewestCallers_26 ?_
  refine jm_istore (pc := 27) (lv' := [(7, _), (6, _), (5, _), (4, _), (3, _), (0, _), (1, _), (2, _)]) dX9_fewestCallers_27 (by decide) rfl ?_
  exact jm_sub [5, 4, 3, 2, 1, 0] rfl h
theorem dX11_calls_0 : decode cX11_calls 0 = .ok (.iload_n 1, 1) := by decide +kernel
theorem dX11_calls_1 : decode cX11_calls 1 = .ok (.invokestatic 144, 3) := by decide +kernel
theorem dX11_calls_4 : decode cX11_calls 4 = .ok (.ifCond .eq 19, 3) := by decide +kernel
theorem dX11_calls_7 : decode cX11_calls 7 = .ok (.iload_n 2, 1) := by decide +kernel
theorem dX11_calls_8 : decode cX11_calls 8 = .ok (.invokestatic 321, 3) := by decide +kernel
theorem dX11_calls_11 : decode cX11_calls 11 = .ok (.ifCond .eq 12, 3) := by decide +kernel
theorem dX11_calls_14 : decode cX11_calls 14 = .ok (.iload_n 3, 1) := by decide +kernel
theorem dX11_calls_15 : decode cX11_calls 15 = .ok (.iconst 0, 1) := by decide +kernel
theorem dX11_calls_16 : decode cX11_calls 16 = .ok (.iconst 1, 1) := by decide +kernel
theorem dX11_calls_17 : decode cX11_calls 17 = .ok (.invokestatic 123, 3) := by decide +kernel
theorem dX11_calls_20 : decode cX11_calls 20 = .ok (.ifCond .ne 5, 3) := by decide +kernel
theorem dX11_calls_23 : decode cX11_calls 23 = .ok (.iconst (-1), 1) := by decide +kernel
theorem dX11_calls_24 : decode cX11_calls 24 = .ok (.ireturn, 1) := by decide +kernel
theorem dX11_calls_25 : decode cX11_calls 25 = .ok (.aload_n 0, 1) := by decide +kernel
theorem dX11_calls_26 : decode cX11_calls 26 = .ok (.getfield 58, 3) := by decide +kernel
theorem dX11_calls_29 : decode cX11_calls 29 = .ok (.iload_n 1, 1) := by decide +kernel
theorem dX11_calls_30 : decode cX11_calls 30 = .ok (.iload_n 2, 1) := by decide +kernel
theorem dX11_calls_31 : decode cX11_calls 31 = .ok (.invokevirtual 330, 3) := by decide +kernel
theorem dX11_calls_34 : decode cX11_calls 34 = .ok (.istore 4, 2) := by decide +kernel
theorem dX11_calls_36 : decode cX11_calls 36 = .ok (.iload_n 3, 1) := by decide +kernel
theorem dX11_calls_37 : decode cX11_calls 37 = .ok (.ifCond .ne 17, 3) := by decide +kernel
theorem dX11_calls_40 : decode cX11_calls 40 = .ok (.iload 4, 2) := by decide +kernel
theorem dX11_calls_42 : decode cX11_calls 42 = .ok (.iconst (-1), 1) := by decide +kernel
theorem dX11_calls_43 : decode cX11_calls 43 = .ok (.if_icmp .eq 11, 3) := by decide +kernel
theorem dX11_calls_46 : decode cX11_calls 46 = .ok (.iload 4, 2) := by decide +kernel
theorem dX11_calls_48 : decode cX11_calls 48 = .ok (.invokestatic 333, 3) := by decide +kernel
theorem dX11_calls_51 : decode cX11_calls 51 = .ok (.goto 5, 3) := by decide +kernel
theorem dX11_calls_54 : decode cX11_calls 54 = .ok (.iload 4, 2) := by decide +kernel
theorem dX11_calls_56 : decode cX11_calls 56 = .ok (.ireturn, 1) := by decide +kernel
theorem eX11_calls {l : Launch} {g : jm_G} {d : Nat} {v1 v2 v3 : Int} (hg : jm_HC g) {mu : jm_M} {Q : Option Value → jm_M → Prop} (h : jm_rg v1 ∧ ((0 ≤ v1 ∧ v1 ≤ 5) → jm_rg v2 ∧ ((0 ≤ v2 ∧ v2 ≤ 3) → jm_rg v3 ∧ (0 ≤ v3 ∧ v3 ≤ 1 → jm_R l g (d + 2) iX9_fewestCallers [.ref 41, jm_i v1, jm_i v2] mu (jm_qi fun z5 m4 => (¬ v3 = 0 → Q (some (jm_i z5)) m4) ∧ (v3 = 0 → (z5 = (-1) → Q (some (jm_i z5)) m4) ∧ (¬ z5 = (-1) → jm_R l g (d + 2) iJ6_bitCount_0f7a4 [jm_i z5] m4 (jm_qi fun z9 m8 => Q (some (jm_i z9)) m8))))) ∧ (¬ (0 ≤ v3 ∧ v3 ≤ 1) → Q (some (jm_i (-1))) mu)) ∧ (¬ ((0 ≤ v2 ∧ v2 ≤ 3)) → Q (some (jm_i (-1))) mu)) ∧ (¬ ((0 ≤ v1 ∧ v1 ≤ 5)) → Q (some (jm_i (-1))) mu)) : jm_R l g (d + 3) iX11_calls [.ref 0, jm_i v1, jm_i v2, jm_i v3] mu Q := by
  refine jm_enter [(0, .ref 0), (1, jm_i v1), (2, jm_i v2), (3, jm_i v3)] (by decide) (Nat.le_of_ble_eq_true rfl) rfl ?_
  refine jm_mrI (fun hm0 => ?_)
  refine jm_iload_n (pc := 0) 1 dX11_calls_0 rfl ?_
  have hg1 := h.1
  have h := h.2
  refine jm_inlsi (pc := 1) (As := [_]) (st := []) iX11_isFact dX11_calls_1 mX11_144 rfl rfl (Nat.le_of_ble_eq_true rfl) (pX11_isFact hg hg1 (fun q => jm_kIi ?_) (fun q => jm_kIi ?_))
  · have h := h.1 q
    refine jm_if_eq (pc := 4) 23 dX11_calls_4 rfl ⟨by decide, by decide⟩ (fun q => absurd q (by decide)) (fun q => ?_)
    refine jm_iload_n (pc := 7) 2 dX11_calls_7 rfl ?_
    have hg2 := h.1
    have h := h.2
    refine jm_inlsi (pc := 8) (As := [_]) (st := []) iX11_isValue dX11_calls_8 mX11_321 rfl rfl (Nat.le_of_ble_eq_true rfl) (pX11_isValue hg hg2 (fun q => jm_kIi ?_) (fun q => jm_kIi ?_))
    · have h := h.1 q
      refine jm_if_eq (pc := 11) 23 dX11_calls_11 rfl ⟨by decide, by decide⟩ (fun q => absurd q (by decide)) (fun q => ?_)
      refine jm_iload_n (pc := 14) 3 dX11_calls_14 rfl ?_
      refine jm_iconst (pc := 15) dX11_calls_15 ?_
      refine jm_iconst (pc := 16) dX11_calls_16 ?_
      have hg3 := h.1
      have h := h.2
      refine jm_inlsi (pc := 17) (As := [_, _, _]) (st := []) iX11_isWithin dX11_calls_17 mX11_123 rfl rfl (Nat.le_of_ble_eq_true rfl) (pX11_isWithin hg hg3 ⟨by decide, by decide⟩ ⟨by decide, by decide⟩ (fun q => jm_kIi ?_) (fun q => jm_kIi ?_))
      · have h := h.1 q
        refine jm_if_ne (pc := 20) 25 dX11_calls_20 rfl ⟨by decide, by decide⟩ (fun q => ?_) (fun q => absurd q (by decide))
        refine jm_aload_n (pc := 25) 0 dX11_calls_25 rfl ?_
        refine jm_getr (pc := 26) 6 dX11_calls_26 fX11_58 (cC0 hg) rfl ?_
        refine jm_iload_n (pc := 29) 1 dX11_calls_29 rfl ?_
        refine jm_iload_n (pc := 30) 2 dX11_calls_30 rfl ?_
        refine jm_callvi (pc := 31) (As := [_, _]) (st := []) iX9_fewestCallers dX11_calls_31 mX11_330 (cC41 hg) ⟨_, rfl, rfl⟩ rfl rfl (Nat.le_of_ble_eq_true rfl) h (fun z5 m4 hz6 h hm7 => ?_)
        refine jm_istore (pc := 34) (lv' := [(4, _), (0, _), (1, _), (2, _), (3, _)]) dX11_calls_34 (by decide) rfl ?_
        refine jm_iload_n (pc := 36) 4 dX11_calls_36 rfl ?_
        refine jm_if_ne (pc := 37) 54 dX11_calls_37 rfl hg3 (fun q => ?_) (fun q => ?_)
        · have h := h.1 q
          refine jm_iload (pc := 54) 0 dX11_calls_54 rfl ?_
          exact jm_iret (pc := 56) dX11_calls_56 rfl h
        · have h := h.2 q
          refine jm_iload (pc := 40) 0 dX11_calls_40 rfl ?_
          refine jm_iconst (pc := 42) dX11_calls_42 ?_
          refine jm_icmp_eq (pc := 43) 54 dX11_calls_43 rfl hz6 ⟨by decide, by decide⟩ (fun q => ?_) (fun q => ?_)
          · have h := h.1 q
            refine jm_iload (pc := 54) 0 dX11_calls_54 rfl ?_
            exact jm_iret (pc := 56) dX11_calls_56 rfl h
          · have h := h.2 q
            refine jm_iload (pc := 46) 0 dX11_calls_46 rfl ?_
            refine jm_callsi (pc := 48) (As := [_]) (st := []) iJ6_bitCount_0f7a4 dX11_calls_48 mX11_333 rfl rfl (Nat.le_of_ble_eq_true rfl) h (fun z9 m8 hz10 h hm11 => ?_)
            refine jm_goto (pc := 51) 56 dX11_calls_51 rfl ?_
            exact jm_iret (pc := 56) dX11_calls_56 rfl h
      · have h := h.2 q
        refine jm_if_ne (pc := 20) 25 dX11_calls_20 rfl ⟨by decide, by decide⟩ (fun q => absurd q (by decide)) (fun q => ?_)
        refine jm_iconst (pc := 23) dX11_calls_23 ?_
        exact jm_iret (pc := 24) dX11_calls_24 rfl h
    · have h := h.2 q
      refine jm_if_eq (pc := 11) 23 dX11_calls_11 rfl ⟨by decide, by decide⟩ (fun q => ?_) (fun q => absurd q (by decide))
      refine jm_iconst (pc := 23) dX11_calls_23 ?_
      exact jm_iret (pc := 24) dX11_calls_24 rfl h
  · have h := h.2 q
    refine jm_if_eq (pc := 4) 23 dX11_calls_4 rfl ⟨by decide, by decide⟩ (fun q => ?_) (fun q => absurd q (by decide))
    refine jm_iconst (pc := 23) dX11_calls_23 ?_
    exact jm_iret (pc := 24) dX11_calls_24 rfl h
theorem dX9_agree_0 : decode cX9_agree 0 = .ok (.iconst 0, 1) := by decide +kernel
theorem dX9_agree_1 : decode cX9_agree 1 = .ok (.istore_n 2, 1) := by decide +kernel
theorem dX9_agree_2 : decode cX9_agree 2 = .ok (.iload_n 2, 1) := by decide +kernel
theorem dX9_agree_3 : decode cX9_agree 3 = .ok (.aload_n 0, 1) := by decide +kernel
theorem dX9_agree_4 : decode cX9_agree 4 = .ok (.getfield 34, 3) := by decide +kernel
theorem dX9_agree_7 : decode cX9_agree 7 = .ok (.getfield 77, 3) := by decide +kernel
theorem dX9_agree_10 : decode cX9_agree 10 = .ok (.if_icmp .ge 30, 3) := by decide +kernel
theorem dX9_agree_13 : decode cX9_agree 13 = .ok (.iload_n 1, 1) := by decide +kernel
theorem dX9_agree_14 : decode cX9_agree 14 = .ok (.iload_n 2, 1) := by decide +kernel
theorem dX9_agree_15 : decode cX9_agree 15 = .ok (.ishr, 1) := by decide +kernel
theorem dX9_agree_16 : decode cX9_agree 16 = .ok (.iconst 1, 1) := by decide +kernel
theorem dX9_agree_17 : decode cX9_agree 17 = .ok (.iand, 1) := by decide +kernel
theorem dX9_agree_18 : decode cX9_agree 18 = .ok (.ifCond .eq 16, 3) := by decide +kernel
theorem dX9_agree_21 : decode cX9_agree 21 = .ok (.iload_n 1, 1) := by decide +kernel
theorem dX9_agree_22 : decode cX9_agree 22 = .ok (.aload_n 0, 1) := by decide +kernel
theorem dX9_agree_23 : decode cX9_agree 23 = .ok (.getfield 15, 3) := by decide +kernel
theorem dX9_agree_26 : decode cX9_agree 26 = .ok (.iload_n 2, 1) := by decide +kernel
theorem dX9_agree_27 : decode cX9_agree 27 = .ok (.iaload, 1) := by decide +kernel
theorem dX9_agree_28 : decode cX9_agree 28 = .ok (.iand, 1) := by decide +kernel
theorem dX9_agree_29 : decode cX9_agree 29 = .ok (.ifCond .eq 5, 3) := by decide +kernel
theorem dX9_agree_32 : decode cX9_agree 32 = .ok (.iconst 0, 1) := by decide +kernel
theorem dX9_agree_33 : decode cX9_agree 33 = .ok (.ireturn, 1) := by decide +kernel
theorem dX9_agree_34 : decode cX9_agree 34 = .ok (.iinc 2 1, 3) := by decide +kernel
theorem dX9_agree_37 : decode cX9_agree 37 = .ok (.goto (-35), 3) := by decide +kernel
theorem dX9_agree_40 : decode cX9_agree 40 = .ok (.iconst 1, 1) := by decide +kernel
theorem dX9_agree_41 : decode cX9_agree 41 = .ok (.ireturn, 1) := by decide +kernel
theorem bX9_agree_2 {l : Launch} {g : jm_G} {d : Nat} {v1 v2 : Int} (hg : jm_HC g) {mu : jm_M} {Q : Option Value → jm_M → Prop} (h : jm_rg v2 ∧ ((mu.1 6 0) ≤ v2 → Q (some (jm_i 1)) mu) ∧ (v2 < (mu.1 6 0) → ((jm_and (jm_shr v1 v2) 1) = 0 → jm_V l g (d + 1) iX9_agree 2 [(0, .ref 41), (1, jm_i v1), (2, jm_i (v2 + 1))] [] mu Q) ∧ (¬ (jm_and (jm_shr v1 v2) 1) = 0 → (0 ≤ v2 ∧ v2 < 8) ∧ ((jm_and v1 (mu.1 43 v2)) = 0 → jm_V l g (d + 1) iX9_agree 2 [(0, .ref 41), (1, jm_i v1), (2, jm_i (v2 + 1))] [] mu Q) ∧ (¬ (jm_and v1 (mu.1 43 v2)) = 0 → Q (some (jm_i 0)) mu)))) : jm_V l g (d + 1) iX9_agree 2 [(0, .ref 41), (1, jm_i v1), (2, jm_i v2)] [] mu Q := by
  refine jm_mrI (fun hm0 => ?_)
  refine jm_iload_n (pc := 2) 2 dX9_agree_2 rfl ?_
  refine jm_aload_n (pc := 3) 0 dX9_agree_3 rfl ?_
  refine jm_getr (pc := 4) 1 dX9_agree_4 fX9_34 (cC41 hg) rfl ?_
  refine jm_geti (pc := 7) 0 dX9_agree_7 fX9_77 (cC6 hg) rfl ?_
  have hg1 := h.1
  have h := h.2
  refine jm_icmp_ge (pc := 10) 40 dX9_agree_10 rfl hg1 (hm0 _ _) (fun q => ?_) (fun q => ?_)
  · have h := h.1 q
    refine jm_iconst (pc := 40) dX9_agree_40 ?_
    exact jm_zret (pc := 41) dX9_agree_41 rfl (Or.inr rfl) h
  · have h := h.2 q
    refine jm_iload_n (pc := 13) 1 dX9_agree_13 rfl ?_
    refine jm_iload_n (pc := 14) 2 dX9_agree_14 rfl ?_
    refine jm_ishr (pc := 15) dX9_agree_15 ?_
    refine jm_iconst (pc := 16) dX9_agree_16 ?_
    refine jm_iand (pc := 17) dX9_agree_17 ?_
    refine jm_if_eq (pc := 18) 34 dX9_agree_18 rfl (jm_rgT _) (fun q => ?_) (fun q => ?_)
    · have h := h.1 q
      refine jm_iinc (pc := 34) (lv' := [(2, _), (0, _), (1, _)]) 2 dX9_agree_34 rfl (by decide) rfl ?_
      refine jm_goto (pc := 37) 2 dX9_agree_37 rfl ?_
      exact jm_sub [1, 2, 0] rfl h
    · have h := h.2 q
      refine jm_iload_n (pc := 21) 1 dX9_agree_21 rfl ?_
      refine jm_aload_n (pc := 22) 0 dX9_agree_22 rfl ?_
      refine jm_getr (pc := 23) 4 dX9_agree_23 fX9_15 (cC41 hg) rfl ?_
      refine jm_iload_n (pc := 26) 2 dX9_agree_26 rfl ?_
      have hg2 := h.1
      have h := h.2
      refine jm_iald (pc := 27) dX9_agree_27 (cC43 hg) (by decide) hg2.1 hg2.2 ?_
      refine jm_iand (pc := 28) dX9_agree_28 ?_
      refine jm_if_eq (pc := 29) 34 dX9_agree_29 rfl (jm_rgT _) (fun q => ?_) (fun q => ?_)
      · have h := h.1 q
        refine jm_iinc (pc := 34) (lv' := [(2, _), (0, _), (1, _)]) 2 dX9_agree_34 rfl (by decide) rfl ?_
        refine jm_goto (pc := 37) 2 dX9_agree_37 rfl ?_
        exact jm_sub [1, 2, 0] rfl h
      · have h := h.2 q
        refine jm_iconst (pc := 32) dX9_agree_32 ?_
        exact jm_zret (pc := 33) dX9_agree_33 rfl (Or.inl rfl) h
theorem eX9_agree {l : Launch} {g : jm_G} {d : Nat} {v1 : Int} (hg : jm_HC g) {mu : jm_M} {Q : Option Value → jm_M → Prop} (h : jm_V l g (d + 1) iX9_agree 2 [(0, .ref 41), (1, jm_i v1), (2, jm_i 0)] [] mu Q) : jm_R l g (d + 1) iX9_agree [.ref 41, jm_i v1] mu Q := by
  refine jm_enter [(0, .ref 41), (1, jm_i v1)] (by decide) (Nat.le_of_ble_eq_true rfl) rfl ?_
  refine jm_mrI (fun hm0 => ?_)
  refine jm_iconst (pc := 0) dX9_agree_0 ?_
  refine jm_istore_n (pc := 1) (lv' := [(2, _), (0, _), (1, _)]) dX9_agree_1 (by decide) rfl ?_
  exact jm_sub [1, 2, 0] rfl h
theorem dX9_areUnlike_0 : decode cX9_areUnlike 0 = .ok (.iload_n 0, 1) := by decide +kernel
theorem dX9_areUnlike_1 : decode cX9_areUnlike 1 = .ok (.iconst (-1), 1) := by decide +kernel
theorem dX9_areUnlike_2 : decode cX9_areUnlike 2 = .ok (.if_icmp .eq 17, 3) := by decide +kernel
theorem dX9_areUnlike_5 : decode cX9_areUnlike 5 = .ok (.iload_n 1, 1) := by decide +kernel
theorem dX9_areUnlike_6 : decode cX9_areUnlike 6 = .ok (.iconst (-1), 1) := by decide +kernel
theorem dX9_areUnlike_7 : decode cX9_areUnlike 7 = .ok (.if_icmp .eq 12, 3) := by decide +kernel
theorem dX9_areUnlike_10 : decode cX9_areUnlike 10 = .ok (.iload_n 0, 1) := by decide +kernel
theorem dX9_areUnlike_11 : decode cX9_areUnlike 11 = .ok (.iload_n 1, 1) := by decide +kernel
theorem dX9_areUnlike_12 : decode cX9_areUnlike 12 = .ok (.if_icmp .eq 7, 3) := by decide +kernel
theorem dX9_areUnlike_15 : decode cX9_areUnlike 15 = .ok (.iconst 1, 1) := by decide +kernel
theorem dX9_areUnlike_16 : decode cX9_areUnlike 16 = .ok (.goto 4, 3) := by decide +kernel
theorem dX9_areUnlike_19 : decode cX9_areUnlike 19 = .ok (.iconst 0, 1) := by decide +kernel
theorem dX9_areUnlike_20 : decode cX9_areUnlike 20 = .ok (.ireturn, 1) := by decide +kernel
theorem eX9_areUnlike {l : Launch} {g : jm_G} {d : Nat} {v0 v1 : Int} (hg : jm_HC g) {mu : jm_M} {Q : Option Value → jm_M → Prop} (h : jm_rg v0 ∧ (v0 = (-1) → Q (some (jm_i 0)) mu) ∧ (¬ v0 = (-1) → jm_rg v1 ∧ (v1 = (-1) → Q (some (jm_i 0)) mu) ∧ (¬ v1 = (-1) → (v0 = v1 → Q (some (jm_i 0)) mu) ∧ (¬ v0 = v1 → Q (some (jm_i 1)) mu)))) : jm_R l g (d + 1) iX9_areUnlike [jm_i v0, jm_i v1] mu Q := by
  refine jm_enter [(0, jm_i v0), (1, jm_i v1)] (by decide) (Nat.le_of_ble_eq_true rfl) rfl ?_
  refine jm_mrI (fun hm0 => ?_)
  refine jm_iload_n (pc := 0) 0 dX9_areUnlike_0 rfl ?_
  refine jm_iconst (pc := 1) dX9_areUnlike_1 ?_
  have hg1 := h.1
  have h := h.2
  refine jm_icmp_eq (pc := 2) 19 dX9_areUnlike_2 rfl hg1 ⟨by decide, by decide⟩ (fun q => ?_) (fun q => ?_)
  · have h := h.1 q
    refine jm_iconst (pc := 19) dX9_areUnlike_19 ?_
    exact jm_zret (pc := 20) dX9_areUnlike_20 rfl (Or.inl rfl) h
  · have h := h.2 q
    refine jm_iload_n (pc := 5) 1 dX9_areUnlike_5 rfl ?_
    refine jm_iconst (pc := 6) dX9_areUnlike_6 ?_
    have hg2 := h.1
    have h := h.2
    refine jm_icmp_eq (pc := 7) 19 dX9_areUnlike_7 rfl hg2 ⟨by decide, by decide⟩ (fun q => ?_) (fun q => ?_)
    · have h := h.1 q
      refine jm_iconst (pc := 19) dX9_areUnlike_19 ?_
      exact jm_zret (pc := 20) dX9_areUnlike_20 rfl (Or.inl rfl) h
    · have h := h.2 q
      refine jm_iload_n (pc := 10) 0 dX9_areUnlike_10 rfl ?_
      refine jm_iload_n (pc := 11) 1 dX9_areUnlike_11 rfl ?_
      refine jm_icmp_eq (pc := 12) 19 dX9_areUnlike_12 rfl hg1 hg2 (fun q => ?_) (fun q => ?_)
      · have h := h.1 q
        refine jm_iconst (pc := 19) dX9_areUnlike_19 ?_
        exact jm_zret (pc := 20) dX9_areUnlike_20 rfl (Or.inl rfl) h
      · have h := h.2 q
        refine jm_iconst (pc := 15) dX9_areUnlike_15 ?_
        refine jm_goto (pc := 16) 20 dX9_areUnlike_16 rfl ?_
        exact jm_zret (pc := 20) dX9_areUnlike_20 rfl (Or.inr rfl) h
theorem pX9_areUnlike {l : Launch} {g : jm_G} {d : Nat} {v0 v1 : Int} (hg : jm_HC g) {mu : jm_M} {Q : Option Value → jm_M → Prop} (o0 : jm_rg v0) (o1 : jm_rg v1) (h1 : ¬ v0 = (-1) ∧ ¬ v1 = (-1) ∧ ¬ v0 = v1 → Q (some (jm_i 1)) mu) (h0 : ¬ (¬ v0 = (-1) ∧ ¬ v1 = (-1) ∧ ¬ v0 = v1) → Q (some (jm_i 0)) mu) : jm_R l g (d + 1) iX9_areUnlike [jm_i v0, jm_i v1] mu Q := by
  refine eX9_areUnlike hg ?_
  refine ⟨o0, ?_⟩
  refine ⟨fun q0 => ?_, fun q0 => ?_⟩
  · exact h0 (by omega)
  · refine ⟨o1, ?_⟩
    refine ⟨fun q1 => ?_, fun q1 => ?_⟩
    · exact h0 (by omega)
    · refine ⟨fun q2 => ?_, fun q2 => ?_⟩
      · exact h0 (by omega)
      · exact h1 (⟨q0, q1, q2⟩)
theorem dX9_opponentsOf_0 : decode cX9_opponentsOf 0 = .ok (.iconst 0, 1) := by decide +kernel
theorem dX9_opponentsOf_1 : decode cX9_opponentsOf 1 = .ok (.istore_n 2, 1) := by decide +kernel
theorem dX9_opponentsOf_2 : decode cX9_opponentsOf 2 = .ok (.iconst 0, 1) := by decide +kernel
theorem dX9_opponentsOf_3 : decode cX9_opponentsOf 3 = .ok (.istore_n 3, 1) := by decide +kernel
theorem dX9_opponentsOf_4 : decode cX9_opponentsOf 4 = .ok (.iload_n 3, 1) := by decide +kernel
theorem dX9_opponentsOf_5 : decode cX9_opponentsOf 5 = .ok (.aload_n 0, 1) := by decide +kernel
theorem dX9_opponentsOf_6 : decode cX9_opponentsOf 6 = .ok (.getfield 34, 3) := by decide +kernel
theorem dX9_opponentsOf_9 : decode cX9_opponentsOf 9 = .ok (.getfield 77, 3) := by decide +kernel
theorem dX9_opponentsOf_12 : decode cX9_opponentsOf 12 = .ok (.if_icmp .ge 57, 3) := by decide +kernel
theorem dX9_opponentsOf_15 : decode cX9_opponentsOf 15 = .ok (.iconst 0, 1) := by decide +kernel
theorem dX9_opponentsOf_16 : decode cX9_opponentsOf 16 = .ok (.istore 4, 2) := by decide +kernel
theorem dX9_opponentsOf_18 : decode cX9_opponentsOf 18 = .ok (.iload 4, 2) := by decide +kernel
theorem dX9_opponentsOf_20 : decode cX9_opponentsOf 20 = .ok (.bipush 6, 2) := by decide +kernel
theorem dX9_opponentsOf_22 : decode cX9_opponentsOf 22 = .ok (.if_icmp .ge 41, 3) := by decide +kernel
theorem dX9_opponentsOf_25 : decode cX9_opponentsOf 25 = .ok (.aload_n 0, 1) := by decide +kernel
theorem dX9_opponentsOf_26 : decode cX9_opponentsOf 26 = .ok (.getfield 34, 3) := by decide +kernel
theorem dX9_opponentsOf_29 : decode cX9_opponentsOf 29 = .ok (.iload_n 1, 1) := by decide +kernel
theorem dX9_opponentsOf_30 : decode cX9_opponentsOf 30 = .ok (.iload 4, 2) := by decide +kernel
theorem dX9_opponentsOf_32 : decode cX9_opponentsOf 32 = .ok (.invokevirtual 105, 3) := by decide +kernel
theorem dX9_opponentsOf_35 : decode cX9_opponentsOf 35 = .ok (.aload_n 0, 1) := by decide +kernel
theorem dX9_opponentsOf_36 : decode cX9_opponentsOf 36 = .ok (.getfield 34, 3) := by decide +kernel
theorem dX9_opponentsOf_39 : decode cX9_opponentsOf 39 = .ok (.iload_n 3, 1) := by decide +kernel
theorem dX9_opponentsOf_40 : decode cX9_opponentsOf 40 = .ok (.iload 4, 2) := by decide +kernel
theorem dX9_opponentsOf_42 : decode cX9_opponentsOf 42 = .ok (.invokevirtual 105, 3) := by decide +kernel
theorem dX9_opponentsOf_45 : decode cX9_opponentsOf 45 = .ok (.invokestatic 108, 3) := by decide +kernel
theorem dX9_opponentsOf_48 : decode cX9_opponentsOf 48 = .ok (.ifCond .eq 9, 3) := by decide +kernel
theorem dX9_opponentsOf_51 : decode cX9_opponentsOf 51 = .ok (.iload_n 2, 1) := by decide +kernel
theorem dX9_opponentsOf_52 : decode cX9_opponentsOf 52 = .ok (.iconst 1, 1) := by decide +kernel
theorem dX9_opponentsOf_53 : decode cX9_opponentsOf 53 = .ok (.iload_n 3, 1) := by decide +kernel
theorem dX9_opponentsOf_54 : decode cX9_opponentsOf 54 = .ok (.ishl, 1) := by decide +kernel
theorem dX9_opponentsOf_55 : decode cX9_opponentsOf 55 = .ok (.ior, 1) := by decide +kernel
theorem dX9_opponentsOf_56 : decode cX9_opponentsOf 56 = .ok (.istore_n 2, 1) := by decide +kernel
theorem dX9_opponentsOf_57 : decode cX9_opponentsOf 57 = .ok (.iinc 4 1, 3) := by decide +kernel
theorem dX9_opponentsOf_60 : decode cX9_opponentsOf 60 = .ok (.goto (-42), 3) := by decide +kernel
theorem dX9_opponentsOf_63 : decode cX9_opponentsOf 63 = .ok (.iinc 3 1, 3) := by decide +kernel
theorem dX9_opponentsOf_66 : decode cX9_opponentsOf 66 = .ok (.goto (-62), 3) := by decide +kernel
theorem dX9_opponentsOf_69 : decode cX9_opponentsOf 69 = .ok (.iload_n 2, 1) := by decide +kernel
theorem dX9_opponentsOf_70 : decode cX9_opponentsOf 70 = .ok (.ireturn, 1) := by decide +kernel
theorem bX9_opponentsOf_18 {l : Launch} {g : jm_G} {d : Nat} {v1 v2 v3 v4 : Int} (hg : jm_HC g) {mu : jm_M} {Q : Option Value → jm_M → Prop} (h : jm_rg v4 ∧ (6 ≤ v4 → jm_V l g (d + 2) iX9_opponentsOf 4 [(0, .ref 41), (1, jm_i v1), (2, jm_i v2), (3, jm_i (v3 + 1))] [] mu Q) ∧ (v4 < 6 → jm_R l g (d + 1) iX8_claimOf [.ref 6, jm_i v1, jm_i v4] mu (jm_qi fun z3 m2 => jm_R l g (d + 1) iX8_claimOf [.ref 6, jm_i v3, jm_i v4] m2 (jm_qi fun z7 m6 => (¬ z3 = (-1) ∧ ¬ z7 = (-1) ∧ ¬ z3 = z7 → ∀ x10, x10 = (jm_or v2 (jm_shl 1 v3)) → jm_V l g (d + 2) iX9_opponentsOf 18 [(0, .ref 41), (1, jm_i v1), (2, jm_i x10), (3, jm_i v3), (4, jm_i (v4 + 1))] [] m6 Q) ∧ (¬ (¬ z3 = (-1) ∧ ¬ z7 = (-1) ∧ ¬ z3 = z7) → jm_V l g (d + 2) iX9_opponentsOf 18 [(0, .ref 41), (1, jm_i v1), (2, jm_i v2), (3, jm_i v3), (4, jm_i (v4 + 1))] [] m6 Q))))) : jm_V l g (d + 2) iX9_opponentsOf 18 [(0, .ref 41), (1, jm_i v1), (2, jm_i v2), (3, jm_i v3), (4, jm_i v4)] [] mu Q := by
  refine jm_mrI (fun hm0 => ?_)
  refine jm_iload (pc := 18) 4 dX9_opponentsOf_18 rfl ?_
  refine jm_bipush (pc := 20) dX9_opponentsOf_20 (by decide) ?_
  have hg1 := h.1
  have h := h.2
  refine jm_icmp_ge (pc := 22) 63 dX9_opponentsOf_22 rfl hg1 ⟨by decide, by decide⟩ (fun q => ?_) (fun q => ?_)
  · have h := h.1 q
    refine jm_iinc (pc := 63) (lv' := [(3, _), (0, _), (1, _), (2, _), (4, _)]) 3 dX9_opponentsOf_63 rfl (by decide) rfl ?_
    refine jm_goto (pc := 66) 4 dX9_opponentsOf_66 rfl ?_
    exact jm_sub [1, 2, 3, 0] rfl h
  · have h := h.2 q
    refine jm_aload_n (pc := 25) 0 dX9_opponentsOf_25 rfl ?_
    refine jm_getr (pc := 26) 1 dX9_opponentsOf_26 fX9_34 (cC41 hg) rfl ?_
    refine jm_iload_n (pc := 29) 1 dX9_opponentsOf_29 rfl ?_
    refine jm_iload (pc := 30) 4 dX9_opponentsOf_30 rfl ?_
    refine jm_callvi (pc := 32) (As := [_, _]) (st := []) iX8_claimOf dX9_opponentsOf_32 mX9_105 (cC6 hg) ⟨_, rfl, rfl⟩ rfl rfl (Nat.le_of_ble_eq_true rfl) h (fun z3 m2 hz4 h hm5 => ?_)
    refine jm_aload_n (pc := 35) 0 dX9_opponentsOf_35 rfl ?_
    refine jm_getr (pc := 36) 1 dX9_opponentsOf_36 fX9_34 (cC41 hg) rfl ?_
    refine jm_iload_n (pc := 39) 3 dX9_opponentsOf_39 rfl ?_
    refine jm_iload (pc := 40) 4 dX9_opponentsOf_40 rfl ?_
    refine jm_callvi (pc := 42) (As := [_, _]) (st := [_]) iX8_claimOf dX9_opponentsOf_42 mX9_105 (cC6 hg) ⟨_, rfl, rfl⟩ rfl rfl (Nat.le_of_ble_eq_true rfl) h (fun z7 m6 hz8 h hm9 => ?_)
    refine jm_inlsi (pc := 45) (As := [_, _]) (st := []) iX9_areUnlike dX9_opponentsOf_45 mX9_108 rfl rfl (Nat.le_of_ble_eq_true rfl) (pX9_areUnlike hg hz4 hz8 (fun q => jm_kIi ?_) (fun q => jm_kIi ?_))
    · have h := h.1 q
      refine jm_if_eq (pc := 48) 57 dX9_opponentsOf_48 rfl ⟨by decide, by decide⟩ (fun q => absurd q (by decide)) (fun q => ?_)
      refine jm_iload_n (pc := 51) 2 dX9_opponentsOf_51 rfl ?_
      refine jm_iconst (pc := 52) dX9_opponentsOf_52 ?_
      refine jm_iload_n (pc := 53) 3 dX9_opponentsOf_53 rfl ?_
      refine jm_ishl (pc := 54) dX9_opponentsOf_54 ?_
      refine jm_ior (pc := 55) dX9_opponentsOf_55 ?_
      have h := h _ rfl
      refine jm_istore_n (pc := 56) (lv' := [(2, _), (0, _), (1, _), (3, _), (4, _)]) dX9_opponentsOf_56 (by decide) rfl ?_
      refine jm_iinc (pc := 57) (lv' := [(4, _), (2, _), (0, _), (1, _), (3, _)]) 4 dX9_opponentsOf_57 rfl (by decide) rfl ?_
      refine jm_goto (pc := 60) 18 dX9_opponentsOf_60 rfl ?_
      exact jm_sub [2, 3, 1, 4, 0] rfl h
    · have h := h.2 q
      refine jm_if_eq (pc := 48) 57 dX9_opponentsOf_48 rfl ⟨by decide, by decide⟩ (fun q => ?_) (fun q => absurd q (by decide))
      refine jm_iinc (pc := 57) (lv' := [(4, _), (0, _), (1, _), (2, _), (3, _)]) 4 dX9_opponentsOf_57 rfl (by decide) rfl ?_
      refine jm_goto (pc := 60) 18 dX9_opponentsOf_60 rfl ?_
      exact jm_sub [1, 2, 3, 4, 0] rfl h
theorem bX9_opponentsOf_4 {l : Launch} {g : jm_G} {d : Nat} {v1 v2 v3 : Int} (hg : jm_HC g) {mu : jm_M} {Q : Option Value → jm_M → Prop} (h : jm_rg v3 ∧ ((mu.1 6 0) ≤ v3 → Q (some (jm_i v2)) mu) ∧ (v3 < (mu.1 6 0) → jm_V l g (d + 2) iX9_opponentsOf 18 [(0, .ref 41), (1, jm_i v1), (2, jm_i v2), (3, jm_i v3), (4, jm_i 0)] [] mu Q)) : jm_V l g (d + 2) iX9_opponentsOf 4 [(0, .ref 41), (1, jm_i v1), (2, jm_i v2), (3, jm_i v3)] [] mu Q := by
  refine jm_mrI (fun hm0 => ?_)
  refine jm_iload_n (pc := 4) 3 dX9_opponentsOf_4 rfl ?_
  refine jm_aload_n (pc := 5) 0 dX9_opponentsOf_5 rfl ?_
  refine jm_getr (pc := 6) 1 dX9_opponentsOf_6 fX9_34 (cC41 hg) rfl ?_
  refine jm_geti (pc := 9) 0 dX9_opponentsOf_9 fX9_77 (cC6 hg) rfl ?_
  have hg1 := h.1
  have h := h.2
  refine jm_icmp_ge (pc := 12) 69 dX9_opponentsOf_12 rfl hg1 (hm0 _ _) (fun q => ?_) (fun q => ?_)
  · have h := h.1 q
    refine jm_iload_n (pc := 69) 2 dX9_opponentsOf_69 rfl ?_
    exact jm_iret (pc := 70) dX9_opponentsOf_70 rfl h
  · have h := h.2 q
    refine jm_iconst (pc := 15) dX9_opponentsOf_15 ?_
    refine jm_istore (pc := 16) (lv' := [(4, _), (0, _), (1, _), (2, _), (3, _)]) dX9_opponentsOf_16 (by decide) rfl ?_
    exact jm_sub [1, 2, 3, 4, 0] rfl h
theorem eX9_opponentsOf {l : Launch} {g : jm_G} {d : Nat} {v1 : Int} (hg : jm_HC g) {mu : jm_M} {Q : Option Value → jm_M → Prop} (h : jm_V l g (d + 2) iX9_opponentsOf 4 [(0, .ref 41), (1, jm_i v1), (2, jm_i 0), (3, jm_i 0)] [] mu Q) : jm_R l g (d + 2) iX9_opponentsOf [.ref 41, jm_i v1] mu Q := by
  refine jm_enter [(0, .ref 41), (1, jm_i v1)] (by decide) (Nat.le_of_ble_eq_true rfl) rfl ?_
  refine jm_mrI (fun hm0 => ?_)
  refine jm_iconst (pc := 0) dX9_opponentsOf_0 ?_
  refine jm_istore_n (pc := 1) (lv' := [(2, _), (0, _), (1, _)]) dX9_opponentsOf_1 (by decide) rfl ?_
  refine jm_iconst (pc := 2) dX9_opponentsOf_2 ?_
  refine jm_istore_n (pc := 3) (lv' := [(3, _), (2, _), (0, _), (1, _)]) dX9_opponentsOf_3 (by decide) rfl ?_
  exact jm_sub [2, 3, 1, 0] rfl h
theorem dX9_largestChoir_0 : decode cX9_largestChoir 0 = .ok (.iconst 0, 1) := by decide +kernel
theorem dX9_largestChoir_1 : decode cX9_largestChoir 1 = .ok (.istore_n 1, 1) := by decide +kernel
theorem dX9_largestChoir_2 : decode cX9_largestChoir 2 = .ok (.iload_n 1, 1) := by decide +kernel
theorem dX9_largestChoir_3 : decode cX9_largestChoir 3 = .ok (.aload_n 0, 1) := by decide +kernel
theorem dX9_largestChoir_4 : decode cX9_largestChoir 4 = .ok (.getfield 34, 3) := by decide +kernel
theorem dX9_largestChoir_7 : decode cX9_largestChoir 7 = .ok (.getfield 77, 3) := by decide +kernel
theorem dX9_largestChoir_10 : decode cX9_largestChoir 10 = .ok (.if_icmp .ge 20, 3) := by decide +kernel
theorem dX9_largestChoir_13 : decode cX9_largestChoir 13 = .ok (.aload_n 0, 1) := by decide +kernel
theorem dX9_largestChoir_14 : decode cX9_largestChoir 14 = .ok (.getfield 15, 3) := by decide +kernel
theorem dX9_largestChoir_17 : decode cX9_largestChoir 17 = .ok (.iload_n 1, 1) := by decide +kernel
theorem dX9_largestChoir_18 : decode cX9_largestChoir 18 = .ok (.aload_n 0, 1) := by decide +kernel
theorem dX9_largestChoir_19 : decode cX9_largestChoir 19 = .ok (.iload_n 1, 1) := by decide +kernel
theorem dX9_largestChoir_20 : decode cX9_largestChoir 20 = .ok (.invokevirtual 98, 3) := by decide +kernel
theorem dX9_largestChoir_23 : decode cX9_largestChoir 23 = .ok (.iastore, 1) := by decide +kernel
theorem dX9_largestChoir_24 : decode cX9_largestChoir 24 = .ok (.iinc 1 1, 3) := by decide +kernel
theorem dX9_largestChoir_27 : decode cX9_largestChoir 27 = .ok (.goto (-25), 3) := by decide +kernel
theorem dX9_largestChoir_30 : decode cX9_largestChoir 30 = .ok (.iconst 0, 1) := by decide +kernel
theorem dX9_largestChoir_31 : decode cX9_largestChoir 31 = .ok (.istore_n 1, 1) := by decide +kernel
theorem dX9_largestChoir_32 : decode cX9_largestChoir 32 = .ok (.iconst 0, 1) := by decide +kernel
theorem dX9_largestChoir_33 : decode cX9_largestChoir 33 = .ok (.istore_n 2, 1) := by decide +kernel
theorem dX9_largestChoir_34 : decode cX9_largestChoir 34 = .ok (.iload_n 2, 1) := by decide +kernel
theorem dX9_largestChoir_35 : decode cX9_largestChoir 35 = .ok (.iconst 1, 1) := by decide +kernel
theorem dX9_largestChoir_36 : decode cX9_largestChoir 36 = .ok (.aload_n 0, 1) := by decide +kernel
theorem dX9_largestChoir_37 : decode cX9_largestChoir 37 = .ok (.getfield 34, 3) := by decide +kernel
theorem dX9_largestChoir_40 : decode cX9_largestChoir 40 = .ok (.getfield 77, 3) := by decide +kernel
theorem dX9_largestChoir_43 : decode cX9_largestChoir 43 = .ok (.ishl, 1) := by decide +kernel
theorem dX9_largestChoir_44 : decode cX9_largestChoir 44 = .ok (.if_icmp .ge 30, 3) := by decide +kernel
theorem dX9_largestChoir_47 : decode cX9_largestChoir 47 = .ok (.iload_n 2, 1) := by decide +kernel
theorem dX9_largestChoir_48 : decode cX9_largestChoir 48 = .ok (.invokestatic 80, 3) := by decide +kernel
theorem dX9_largestChoir_51 : decode cX9_largestChoir 51 = .ok (.iload_n 1, 1) := by decide +kernel
theorem dX9_largestChoir_52 : decode cX9_largestChoir 52 = .ok (.invokestatic 80, 3) := by decide +kernel
theorem dX9_largestChoir_55 : decode cX9_largestChoir 55 = .ok (.if_icmp .le 13, 3) := by decide +kernel
theorem dX9_largestChoir_58 : decode cX9_largestChoir 58 = .ok (.aload_n 0, 1) := by decide +kernel
theorem dX9_largestChoir_59 : decode cX9_largestChoir 59 = .ok (.iload_n 2, 1) := by decide +kernel
theorem dX9_largestChoir_60 : decode cX9_largestChoir 60 = .ok (.invokevirtual 101, 3) := by decide +kernel
theorem dX9_largestChoir_63 : decode cX9_largestChoir 63 = .ok (.ifCond .eq 5, 3) := by decide +kernel
theorem dX9_largestChoir_66 : decode cX9_largestChoir 66 = .ok (.iload_n 2, 1) := by decide +kernel
theorem dX9_largestChoir_67 : decode cX9_largestChoir 67 = .ok (.istore_n 1, 1) := by decide +kernel
theorem dX9_largestChoir_68 : decode cX9_largestChoir 68 = .ok (.iinc 2 1, 3) := by decide +kernel
theorem dX9_largestChoir_71 : decode cX9_largestChoir 71 = .ok (.goto (-37), 3) := by decide +kernel
theorem dX9_largestChoir_74 : decode cX9_largestChoir 74 = .ok (.iload_n 1, 1) := by decide +kernel
theorem dX9_largestChoir_75 : decode cX9_largestChoir 75 = .ok (.ireturn, 1) := by decide +kernel
theorem bX9_largestChoir_34 {l : Launch} {g : jm_G} {d : Nat} {v1 v2 : Int} (hg : jm_HC g) {mu : jm_M} {Q : Option Value → jm_M → Prop} (h : jm_rg v2 ∧ ((jm_shl 1 (mu.1 6 0)) ≤ v2 → Q (some (jm_i v1)) mu) ∧ (v2 < (jm_shl 1 (mu.1 6 0)) → jm_R l g d iJ6_bitCount_0f7a4 [jm_i v2] mu (jm_qi fun z3 m2 => jm_R l g d iJ6_bitCount_0f7a4 [jm_i v1] m2 (jm_qi fun z7 m6 => (z3 ≤ z7 → jm_V l g (d + 1) iX9_largestChoir 34 [(0, .ref 41), (1, jm_i v1), (2, jm_i (v2 + 1))] [] m6 Q) ∧ (z7 < z3 → jm_R l g d iX9_agree [.ref 41, jm_i v2] m6 (jm_qi fun z11 m10 => (z11 = 0 → jm_V l g (d + 1) iX9_largestChoir 34 [(0, .ref 41), (1, jm_i v1), (2, jm_i (v2 + 1))] [] m10 Q) ∧ (¬ z11 = 0 → jm_V l g (d + 1) iX9_largestChoir 34 [(0, .ref 41), (1, jm_i v2), (2, jm_i (v2 + 1))] [] m10 Q))))))) : jm_V l g (d + 1) iX9_largestChoir 34 [(0, .ref 41), (1, jm_i v1), (2, jm_i v2)] [] mu Q := by
  refine jm_mrI (fun hm0 => ?_)
  refine jm_iload_n (pc := 34) 2 dX9_largestChoir_34 rfl ?_
  refine jm_iconst (pc := 35) dX9_largestChoir_35 ?_
  refine jm_aload_n (pc := 36) 0 dX9_largestChoir_36 rfl ?_
  refine jm_getr (pc := 37) 1 dX9_largestChoir_37 fX9_34 (cC41 hg) rfl ?_
  refine jm_geti (pc := 40) 0 dX9_largestChoir_40 fX9_77 (cC6 hg) rfl ?_
  refine jm_ishl (pc := 43) dX9_largestChoir_43 ?_
  have hg1 := h.1
  have h := h.2
  refine jm_icmp_ge (pc := 44) 74 dX9_largestChoir_44 rfl hg1 (jm_rgT _) (fun q => ?_) (fun q => ?_)
  · have h := h.1 q
    refine jm_iload_n (pc := 74) 1 dX9_largestChoir_74 rfl ?_
    exact jm_iret (pc := 75) dX9_largestChoir_75 rfl h
  · have h := h.2 q
    refine jm_iload_n (pc := 47) 2 dX9_largestChoir_47 rfl ?_
    refine jm_callsi (pc := 48) (As := [_]) (st := []) iJ6_bitCount_0f7a4 dX9_largestChoir_48 mX9_80 rfl rfl (Nat.le_of_ble_eq_true rfl) h (fun z3 m2 hz4 h hm5 => ?_)
    refine jm_iload_n (pc := 51) 1 dX9_largestChoir_51 rfl ?_
    refine jm_callsi (pc := 52) (As := [_]) (st := [_]) iJ6_bitCount_0f7a4 dX9_largestChoir_52 mX9_80 rfl rfl (Nat.le_of_ble_eq_true rfl) h (fun z7 m6 hz8 h hm9 => ?_)
    refine jm_icmp_le (pc := 55) 68 dX9_largestChoir_55 rfl hz4 hz8 (fun q => ?_) (fun q => ?_)
    · have h := h.1 q
      refine jm_iinc (pc := 68) (lv' := [(2, _), (0, _), (1, _)]) 2 dX9_largestChoir_68 rfl (by decide) rfl ?_
      refine jm_goto (pc := 71) 34 dX9_largestChoir_71 rfl ?_
      exact jm_sub [1, 2, 0] rfl h
    · have h := h.2 q
      refine jm_aload_n (pc := 58) 0 dX9_largestChoir_58 rfl ?_
      refine jm_iload_n (pc := 59) 2 dX9_largestChoir_59 rfl ?_
      refine jm_callvi (pc := 60) (As := [_]) (st := []) iX9_agree dX9_largestChoir_60 mX9_101 (cC41 hg) ⟨_, rfl, rfl⟩ rfl rfl (Nat.le_of_ble_eq_true rfl) h (fun z11 m10 hz12 h hm13 => ?_)
      refine jm_if_eq (pc := 63) 68 dX9_largestChoir_63 rfl hz12 (fun q => ?_) (fun q => ?_)
      · have h := h.1 q
        refine jm_iinc (pc := 68) (lv' := [(2, _), (0, _), (1, _)]) 2 dX9_largestChoir_68 rfl (by decide) rfl ?_
        refine jm_goto (pc := 71) 34 dX9_largestChoir_71 rfl ?_
        exact jm_sub [1, 2, 0] rfl h
      · have h := h.2 q
        refine jm_iload_n (pc := 66) 2 dX9_largestChoir_66 rfl ?_
        refine jm_istore_n (pc := 67) (lv' := [(1, _), (0, _), (2, _)]) dX9_largestChoir_67 (by decide) rfl ?_
        refine jm_iinc (pc := 68) (lv' := [(2, _), (1, _), (0, _)]) 2 dX9_largestChoir_68 rfl (by decide) rfl ?_
        refine jm_goto (pc := 71) 34 dX9_largestChoir_71 rfl ?_
        exact jm_sub [2, 1, 0] rfl h
theorem bX9_largestChoir_2 {l : Launch} {g : jm_G} {d : Nat} {v1 : Int} (hg : jm_HC g) {mu : jm_M} {Q : Option Value → jm_M → Prop} (h : jm_rg v1 ∧ ((mu.1 6 0) ≤ v1 → jm_V l g (d + 1) iX9_largestChoir 34 [(0, .ref 41), (1, jm_i 0), (2, jm_i 0)] [] mu Q) ∧ (v1 < (mu.1 6 0) → jm_R l g d iX9_opponentsOf [.ref 41, jm_i v1] mu (jm_qi fun z3 m2 => (0 ≤ v1 ∧ v1 < 8) ∧ ∀ m7, m7 = jm_wr m2 43 v1 z3 → jm_V l g (d + 1) iX9_largestChoir 2 [(0, .ref 41), (1, jm_i (v1 + 1))] [] m7 Q))) : jm_V l g (d + 1) iX9_largestChoir 2 [(0, .ref 41), (1, jm_i v1)] [] mu Q := by
  refine jm_mrI (fun hm0 => ?_)
  refine jm_iload_n (pc := 2) 1 dX9_largestChoir_2 rfl ?_
  refine jm_aload_n (pc := 3) 0 dX9_largestChoir_3 rfl ?_
  refine jm_getr (pc := 4) 1 dX9_largestChoir_4 fX9_34 (cC41 hg) rfl ?_
  refine jm_geti (pc := 7) 0 dX9_largestChoir_7 fX9_77 (cC6 hg) rfl ?_
  have hg1 := h.1
  have h := h.2
  refine jm_icmp_ge (pc := 10) 30 dX9_largestChoir_10 rfl hg1 (hm0 _ _) (fun q => ?_) (fun q => ?_)
  · have h := h.1 q
    refine jm_iconst (pc := 30) dX9_largestChoir_30 ?_
    refine jm_istore_n (pc := 31) (lv' := [(1, _), (0, _)]) dX9_largestChoir_31 (by decide) rfl ?_
    refine jm_iconst (pc := 32) dX9_largestChoir_32 ?_
    refine jm_istore_n (pc := 33) (lv' := [(2, _), (1, _), (0, _)]) dX9_largestChoir_33 (by decide) rfl ?_
    exact jm_sub [2, 1, 0] rfl h
  · have h := h.2 q
    refine jm_aload_n (pc := 13) 0 dX9_largestChoir_13 rfl ?_
    refine jm_getr (pc := 14) 4 dX9_largestChoir_14 fX9_15 (cC41 hg) rfl ?_
    refine jm_iload_n (pc := 17) 1 dX9_largestChoir_17 rfl ?_
    refine jm_aload_n (pc := 18) 0 dX9_largestChoir_18 rfl ?_
    refine jm_iload_n (pc := 19) 1 dX9_largestChoir_19 rfl ?_
    refine jm_callvi (pc := 20) (As := [_]) (st := [_, _]) iX9_opponentsOf dX9_largestChoir_20 mX9_98 (cC41 hg) ⟨_, rfl, rfl⟩ rfl rfl (Nat.le_of_ble_eq_true rfl) h (fun z3 m2 hz4 h hm5 => ?_)
    have hg6 := h.1
    have h := h.2
    refine jm_iast (pc := 23) dX9_largestChoir_23 (cC43 hg) (by decide) hg6.1 hg6.2 hz4 ?_
    have h := h _ rfl
    refine jm_mrI (fun hm8 => ?_)
    refine jm_iinc (pc := 24) (lv' := [(1, _), (0, _)]) 1 dX9_largestChoir_24 rfl (by decide) rfl ?_
    refine jm_goto (pc := 27) 2 dX9_largestChoir_27 rfl ?_
    exact jm_sub [1, 0] rfl h
theorem eX9_largestChoir {l : Launch} {g : jm_G} {d : Nat} (hg : jm_HC g) {mu : jm_M} {Q : Option Value → jm_M → Prop} (h : jm_V l g (d + 1) iX9_largestChoir 2 [(0, .ref 41), (1, jm_i 0)] [] mu Q) : jm_R l g (d + 1) iX9_largestChoir [.ref 41] mu Q := by
  refine jm_enter [(0, .ref 41)] (by decide) (Nat.le_of_ble_eq_true rfl) rfl ?_
  refine jm_mrI (fun hm0 => ?_)
  refine jm_iconst (pc := 0) dX9_largestChoir_0 ?_
  refine jm_istore_n (pc := 1) (lv' := [(1, _), (0, _)]) dX9_largestChoir_1 (by decide) rfl ?_
  exact jm_sub [1, 0] rfl h
theorem dX11_choir_0 : decode cX11_choir 0 = .ok (.iload_n 1, 1) := by decide +kernel
theorem dX11_choir_1 : decode cX11_choir 1 = .ok (.iconst 0, 1) := by decide +kernel
theorem dX11_choir_2 : decode cX11_choir 2 = .ok (.iconst 1, 1) := by decide +kernel
theorem dX11_choir_3 : decode cX11_choir 3 = .ok (.invokestatic 123, 3) := by decide +kernel
theorem dX11_choir_6 : decode cX11_choir 6 = .ok (.ifCond .ne 5, 3) := by decide +kernel
theorem dX11_choir_9 : decode cX11_choir 9 = .ok (.iconst (-1), 1) := by decide +kernel
theorem dX11_choir_10 : decode cX11_choir 10 = .ok (.ireturn, 1) := by decide +kernel
theorem dX11_choir_11 : decode cX11_choir 11 = .ok (.aload_n 0, 1) := by decide +kernel
theorem dX11_choir_12 : decode cX11_choir 12 = .ok (.getfield 58, 3) := by decide +kernel
theorem dX11_choir_15 : decode cX11_choir 15 = .ok (.invokevirtual 338, 3) := by decide +kernel
theorem dX11_choir_18 : decode cX11_choir 18 = .ok (.istore_n 2, 1) := by decide +kernel
theorem dX11_choir_19 : decode cX11_choir 19 = .ok (.iload_n 1, 1) := by decide +kernel
theorem dX11_choir_20 : decode cX11_choir 20 = .ok (.ifCond .ne 10, 3) := by decide +kernel
theorem dX11_choir_23 : decode cX11_choir 23 = .ok (.iload_n 2, 1) := by decide +kernel
theorem dX11_choir_24 : decode cX11_choir 24 = .ok (.invokestatic 333, 3) := by decide +kernel
theorem dX11_choir_27 : decode cX11_choir 27 = .ok (.goto 4, 3) := by decide +kernel
theorem dX11_choir_30 : decode cX11_choir 30 = .ok (.iload_n 2, 1) := by decide +kernel
theorem dX11_choir_31 : decode cX11_choir 31 = .ok (.ireturn, 1) := by decide +kernel
theorem eX11_choir {l : Launch} {g : jm_G} {d : Nat} {v1 : Int} (hg : jm_HC g) {mu : jm_M} {Q : Option Value → jm_M → Prop} (h : jm_rg v1 ∧ (0 ≤ v1 ∧ v1 ≤ 1 → jm_R l g (d + 1) iX9_largestChoir [.ref 41] mu (jm_qi fun z3 m2 => (¬ v1 = 0 → Q (some (jm_i z3)) m2) ∧ (v1 = 0 → jm_R l g (d + 1) iJ6_bitCount_0f7a4 [jm_i z3] m2 (jm_qi fun z7 m6 => Q (some (jm_i z7)) m6)))) ∧ (¬ (0 ≤ v1 ∧ v1 ≤ 1) → Q (some (jm_i (-1))) mu)) : jm_R l g (d + 2) iX11_choir [.ref 0, jm_i v1] mu Q := by
  refine jm_enter [(0, .ref 0), (1, jm_i v1)] (by decide) (Nat.le_of_ble_eq_true rfl) rfl ?_
  refine jm_mrI (fun hm0 => ?_)
  refine jm_iload_n (pc := 0) 1 dX11_choir_0 rfl ?_
  refine jm_iconst (pc := 1) dX11_choir_1 ?_
  refine jm_iconst (pc := 2) dX11_choir_2 ?_
  have hg1 := h.1
  have h := h.2
  refine jm_inlsi (pc := 3) (As := [_, _, _]) (st := []) iX11_isWithin dX11_choir_3 mX11_123 rfl rfl (Nat.le_of_ble_eq_true rfl) (pX11_isWithin hg hg1 ⟨by decide, by decide⟩ ⟨by decide, by decide⟩ (fun q => jm_kIi ?_) (fun q => jm_kIi ?_))
  · have h := h.1 q
    refine jm_if_ne (pc := 6) 11 dX11_choir_6 rfl ⟨by decide, by decide⟩ (fun q => ?_) (fun q => absurd q (by decide))
    refine jm_aload_n (pc := 11) 0 dX11_choir_11 rfl ?_
    refine jm_getr (pc := 12) 6 dX11_choir_12 fX11_58 (cC0 hg) rfl ?_
    refine jm_callvi (pc := 15) (As := []) (st := []) iX9_largestChoir dX11_choir_15 mX11_338 (cC41 hg) ⟨_, rfl, rfl⟩ rfl rfl (Nat.le_of_ble_eq_true rfl) h (fun z3 m2 hz4 h hm5 => ?_)
    refine jm_istore_n (pc := 18) (lv' := [(2, _), (0, _), (1, _)]) dX11_choir_18 (by decide) rfl ?_
    refine jm_iload_n (pc := 19) 2 dX11_choir_19 rfl ?_
    refine jm_if_ne (pc := 20) 30 dX11_choir_20 rfl hg1 (fun q => ?_) (fun q => ?_)
    · have h := h.1 q
      refine jm_iload_n (pc := 30) 0 dX11_choir_30 rfl ?_
      exact jm_iret (pc := 31) dX11_choir_31 rfl h
    · have h := h.2 q
      refine jm_iload_n (pc := 23) 0 dX11_choir_23 rfl ?_
      refine jm_callsi (pc := 24) (As := [_]) (st := []) iJ6_bitCount_0f7a4 dX11_choir_24 mX11_333 rfl rfl (Nat.le_of_ble_eq_true rfl) h (fun z7 m6 hz8 h hm9 => ?_)
      refine jm_goto (pc := 27) 31 dX11_choir_27 rfl ?_
      exact jm_iret (pc := 31) dX11_choir_31 rfl h
  · have h := h.2 q
    refine jm_if_ne (pc := 6) 11 dX11_choir_6 rfl ⟨by decide, by decide⟩ (fun q => absurd q (by decide)) (fun q => ?_)
    refine jm_iconst (pc := 9) dX11_choir_9 ?_
    exact jm_iret (pc := 10) dX11_choir_10 rfl h
theorem dX9_countWorlds_0 : decode cX9_countWorlds 0 = .ok (.iload_n 2, 1) := by decide +kernel
theorem dX9_countWorlds_1 : decode cX9_countWorlds 1 = .ok (.invokestatic 80, 3) := by decide +kernel
theorem dX9_countWorlds_4 : decode cX9_countWorlds 4 = .ok (.iload_n 3, 1) := by decide +kernel
theorem dX9_countWorlds_5 : decode cX9_countWorlds 5 = .ok (.if_icmp .le 5, 3) := by decide +kernel
theorem dX9_countWorlds_8 : decode cX9_countWorlds 8 = .ok (.iconst 0, 1) := by decide +kernel
theorem dX9_countWorlds_9 : decode cX9_countWorlds 9 = .ok (.ireturn, 1) := by decide +kernel
theorem dX9_countWorlds_10 : decode cX9_countWorlds 10 = .ok (.iload_n 1, 1) := by decide +kernel
theorem dX9_countWorlds_11 : decode cX9_countWorlds 11 = .ok (.bipush 6, 2) := by decide +kernel
theorem dX9_countWorlds_13 : decode cX9_countWorlds 13 = .ok (.if_icmp .lt 5, 3) := by decide +kernel
theorem dX9_countWorlds_16 : decode cX9_countWorlds 16 = .ok (.iconst 1, 1) := by decide +kernel
theorem dX9_countWorlds_17 : decode cX9_countWorlds 17 = .ok (.ireturn, 1) := by decide +kernel
theorem dX9_countWorlds_18 : decode cX9_countWorlds 18 = .ok (.iconst 0, 1) := by decide +kernel
theorem dX9_countWorlds_19 : decode cX9_countWorlds 19 = .ok (.istore 4, 2) := by decide +kernel
theorem dX9_countWorlds_21 : decode cX9_countWorlds 21 = .ok (.iload_n 1, 1) := by decide +kernel
theorem dX9_countWorlds_22 : decode cX9_countWorlds 22 = .ok (.iconst 4, 1) := by decide +kernel
theorem dX9_countWorlds_23 : decode cX9_countWorlds 23 = .ok (.imul, 1) := by decide +kernel
theorem dX9_countWorlds_24 : decode cX9_countWorlds 24 = .ok (.istore 5, 2) := by decide +kernel
theorem dX9_countWorlds_26 : decode cX9_countWorlds 26 = .ok (.iload 5, 2) := by decide +kernel
theorem dX9_countWorlds_28 : decode cX9_countWorlds 28 = .ok (.iload_n 1, 1) := by decide +kernel
theorem dX9_countWorlds_29 : decode cX9_countWorlds 29 = .ok (.iconst 1, 1) := by decide +kernel
theorem dX9_countWorlds_30 : decode cX9_countWorlds 30 = .ok (.iadd, 1) := by decide +kernel
theorem dX9_countWorlds_31 : decode cX9_countWorlds 31 = .ok (.iconst 4, 1) := by decide +kernel
theorem dX9_countWorlds_32 : decode cX9_countWorlds 32 = .ok (.imul, 1) := by decide +kernel
theorem dX9_countWorlds_33 : decode cX9_countWorlds 33 = .ok (.if_icmp .ge 47, 3) := by decide +kernel
theorem dX9_countWorlds_36 : decode cX9_countWorlds 36 = .ok (.aload_n 0, 1) := by decide +kernel
theorem dX9_countWorlds_37 : decode cX9_countWorlds 37 = .ok (.iload_n 1, 1) := by decide +kernel
theorem dX9_countWorlds_38 : decode cX9_countWorlds 38 = .ok (.iconst 1, 1) := by decide +kernel
theorem dX9_countWorlds_39 : decode cX9_countWorlds 39 = .ok (.iadd, 1) := by decide +kernel
theorem dX9_countWorlds_40 : decode cX9_countWorlds 40 = .ok (.iload_n 2, 1) := by decide +kernel
theorem dX9_countWorlds_41 : decode cX9_countWorlds 41 = .ok (.aload_n 0, 1) := by decide +kernel
theorem dX9_countWorlds_42 : decode cX9_countWorlds 42 = .ok (.getfield 18, 3) := by decide +kernel
theorem dX9_countWorlds_45 : decode cX9_countWorlds 45 = .ok (.iload 5, 2) := by decide +kernel
theorem dX9_countWorlds_47 : decode cX9_countWorlds 47 = .ok (.iaload, 1) := by decide +kernel
theorem dX9_countWorlds_48 : decode cX9_countWorlds 48 = .ok (.ior, 1) := by decide +kernel
theorem dX9_countWorlds_49 : decode cX9_countWorlds 49 = .ok (.iload_n 3, 1) := by decide +kernel
theorem dX9_countWorlds_50 : decode cX9_countWorlds 50 = .ok (.invokevirtual 115, 3) := by decide +kernel
theorem dX9_countWorlds_53 : decode cX9_countWorlds 53 = .ok (.istore 6, 2) := by decide +kernel
theorem dX9_countWorlds_55 : decode cX9_countWorlds 55 = .ok (.aload_n 0, 1) := by decide +kernel
theorem dX9_countWorlds_56 : decode cX9_countWorlds 56 = .ok (.getfield 21, 3) := by decide +kernel
theorem dX9_countWorlds_59 : decode cX9_countWorlds 59 = .ok (.iload 5, 2) := by decide +kernel
theorem dX9_countWorlds_61 : decode cX9_countWorlds 61 = .ok (.dup2, 1) := by decide +kernel
theorem dX9_countWorlds_62 : decode cX9_countWorlds 62 = .ok (.iaload, 1) := by decide +kernel
theorem dX9_countWorlds_63 : decode cX9_countWorlds 63 = .ok (.iload 6, 2) := by decide +kernel
theorem dX9_countWorlds_65 : decode cX9_countWorlds 65 = .ok (.iadd, 1) := by decide +kernel
theorem dX9_countWorlds_66 : decode cX9_countWorlds 66 = .ok (.iastore, 1) := by decide +kernel
theorem dX9_countWorlds_67 : decode cX9_countWorlds 67 = .ok (.iload 4, 2) := by decide +kernel
theorem dX9_countWorlds_69 : decode cX9_countWorlds 69 = .ok (.iload 6, 2) := by decide +kernel
theorem dX9_countWorlds_71 : decode cX9_countWorlds 71 = .ok (.iadd, 1) := by decide +kernel
theorem dX9_countWorlds_72 : decode cX9_countWorlds 72 = .ok (.istore 4, 2) := by decide +kernel
theorem dX9_countWorlds_74 : decode cX9_countWorlds 74 = .ok (.iinc 5 1, 3) := by decide +kernel
theorem dX9_countWorlds_77 : decode cX9_countWorlds 77 = .ok (.goto (-51), 3) := by decide +kernel
theorem dX9_countWorlds_80 : decode cX9_countWorlds 80 = .ok (.iload 4, 2) := by decide +kernel
theorem dX9_countWorlds_82 : decode cX9_countWorlds 82 = .ok (.ireturn, 1) := by decide +kernel
theorem bX9_countWorlds_26 {l : Launch} {g : jm_G} {d : Nat} {v1 v2 v3 v4 v5 : Int} (hg : jm_HC g) {mu : jm_M} {Q : Option Value → jm_M → Prop} (h : jm_rg v5 ∧ jm_rg ((v1 + 1) * 4) ∧ (((v1 + 1) * 4) ≤ v5 → Q (some (jm_i v4)) mu) ∧ (v5 < ((v1 + 1) * 4) → (0 ≤ v5 ∧ v5 < 24) ∧ jm_R l g d iX9_countWorlds [.ref 41, jm_i (v1 + 1), jm_i (jm_or v2 (mu.1 44 v5)), jm_i v3] mu (jm_qi fun z5 m4 => jm_rg ((m4.1 45 v5) + z5) ∧ ∀ m9, m9 = jm_wr m4 45 v5 ((m4.1 45 v5) + z5) → ∀ x11, x11 = (v4 + z5) → jm_V l g (d + 1) iX9_countWorlds 26 [(0, .ref 41), (1, jm_i v1), (2, jm_i v2), (3, jm_i v3), (4, jm_i x11), (5, jm_i (v5 + 1))] [] m9 Q))) : jm_V l g (d + 1) iX9_countWorlds 26 [(0, .ref 41), (1, jm_i v1), (2, jm_i v2), (3, jm_i v3), (4, jm_i v4), (5, jm_i v5)] [] mu Q := by
  refine jm_mrI (fun hm0 => ?_)
  refine jm_iload (pc := 26) 5 dX9_countWorlds_26 rfl ?_
  refine jm_iload_n (pc := 28) 1 dX9_countWorlds_28 rfl ?_
  refine jm_iconst (pc := 29) dX9_countWorlds_29 ?_
  refine jm_iadd (pc := 30) dX9_countWorlds_30 ?_
  refine jm_iconst (pc := 31) dX9_countWorlds_31 ?_
  refine jm_imul (pc := 32) dX9_countWorlds_32 ?_
  have hg1 := h.1
  have h := h.2
  have hg2 := h.1
  have h := h.2
  refine jm_icmp_ge (pc := 33) 80 dX9_countWorlds_33 rfl hg1 hg2 (fun q => ?_) (fun q => ?_)
  · have h := h.1 q
    refine jm_iload (pc := 80) 4 dX9_countWorlds_80 rfl ?_
    exact jm_iret (pc := 82) dX9_countWorlds_82 rfl h
  · have h := h.2 q
    refine jm_aload_n (pc := 36) 0 dX9_countWorlds_36 rfl ?_
    refine jm_iload_n (pc := 37) 1 dX9_countWorlds_37 rfl ?_
    refine jm_iconst (pc := 38) dX9_countWorlds_38 ?_
    refine jm_iadd (pc := 39) dX9_countWorlds_39 ?_
    refine jm_iload_n (pc := 40) 2 dX9_countWorlds_40 rfl ?_
    refine jm_aload_n (pc := 41) 0 dX9_countWorlds_41 rfl ?_
    refine jm_getr (pc := 42) 5 dX9_countWorlds_42 fX9_18 (cC41 hg) rfl ?_
    refine jm_iload (pc := 45) 5 dX9_countWorlds_45 rfl ?_
    have hg3 := h.1
    have h := h.2
    refine jm_iald (pc := 47) dX9_countWorlds_47 (cC44 hg) (by decide) hg3.1 hg3.2 ?_
    refine jm_ior (pc := 48) dX9_countWorlds_48 ?_
    refine jm_iload_n (pc := 49) 3 dX9_countWorlds_49 rfl ?_
    refine jm_callvi (pc := 50) (As := [_, _, _]) (st := []) iX9_countWorlds dX9_countWorlds_50 mX9_115 (cC41 hg) ⟨_, rfl, rfl⟩ rfl rfl (Nat.le_of_ble_eq_true rfl) h (fun z5 m4 hz6 h hm7 => ?_)
    refine jm_istore (pc := 53) (lv' := [(6, _), (0, _), (1, _), (2, _), (3, _), (4, _), (5, _)]) dX9_countWorlds_53 (by decide) rfl ?_
    refine jm_aload_n (pc := 55) 1 dX9_countWorlds_55 rfl ?_
    refine jm_getr (pc := 56) 6 dX9_countWorlds_56 fX9_21 (cC41 hg) rfl ?_
    refine jm_iload (pc := 59) 6 dX9_countWorlds_59 rfl ?_
    refine jm_dup2 (pc := 61) _ _ dX9_countWorlds_61 rfl rfl ?_
    refine jm_iald (pc := 62) dX9_countWorlds_62 (cC45 hg) (by decide) hg3.1 hg3.2 ?_
    refine jm_iload (pc := 63) 0 dX9_countWorlds_63 rfl ?_
    refine jm_iadd (pc := 65) dX9_countWorlds_65 ?_
    have hg8 := h.1
    have h := h.2
    refine jm_iast (pc := 66) dX9_countWorlds_66 (cC45 hg) (by decide) hg3.1 hg3.2 hg8 ?_
    have h := h _ rfl
    refine jm_mrI (fun hm10 => ?_)
    refine jm_iload (pc := 67) 5 dX9_countWorlds_67 rfl ?_
    refine jm_iload (pc := 69) 0 dX9_countWorlds_69 rfl ?_
    refine jm_iadd (pc := 71) dX9_countWorlds_71 ?_
    have h := h _ rfl
    refine jm_istore (pc := 72) (lv' := [(4, _), (6, _), (0, _), (1, _), (2, _), (3, _), (5, _)]) dX9_countWorlds_72 (by decide) rfl ?_
    refine jm_iinc (pc := 74) (lv' := [(5, _), (4, _), (6, _), (0, _), (1, _), (2, _), (3, _)]) 6 dX9_countWorlds_74 rfl (by decide) rfl ?_
    refine jm_goto (pc := 77) 26 dX9_countWorlds_77 rfl ?_
    exact jm_sub [3, 4, 5, 6, 1, 0] rfl h
theorem eX9_countWorlds {l : Launch} {g : jm_G} {d : Nat} {v1 v2 v3 : Int} (hg : jm_HC g) {mu : jm_M} {Q : Option Value → jm_M → Prop} (h : jm_R l g d iJ6_bitCount_0f7a4 [jm_i v2] mu (jm_qi fun z2 m1 => jm_rg v3 ∧ (z2 ≤ v3 → jm_rg v1 ∧ (v1 < 6 → ∀ x7, x7 = (v1 * 4) → jm_V l g (d + 1) iX9_countWorlds 26 [(0, .ref 41), (1, jm_i v1), (2, jm_i v2), (3, jm_i v3), (4, jm_i 0), (5, jm_i x7)] [] m1 Q) ∧ (6 ≤ v1 → Q (some (jm_i 1)) m1)) ∧ (v3 < z2 → Q (some (jm_i 0)) m1))) : jm_R l g (d + 1) iX9_countWorlds [.ref 41, jm_i v1, jm_i v2, jm_i v3] mu Q := by
  refine jm_enter [(0, .ref 41), (1, jm_i v1), (2, jm_i v2), (3, jm_i v3)] (by decide) (Nat.le_of_ble_eq_true rfl) rfl ?_
  refine jm_mrI (fun hm0 => ?_)
  refine jm_iload_n (pc := 0) 2 dX9_countWorlds_0 rfl ?_
  refine jm_callsi (pc := 1) (As := [_]) (st := []) iJ6_bitCount_0f7a4 dX9_countWorlds_1 mX9_80 rfl rfl (Nat.le_of_ble_eq_true rfl) h (fun z2 m1 hz3 h hm4 => ?_)
  refine jm_iload_n (pc := 4) 3 dX9_countWorlds_4 rfl ?_
  have hg5 := h.1
  have h := h.2
  refine jm_icmp_le (pc := 5) 10 dX9_countWorlds_5 rfl hz3 hg5 (fun q => ?_) (fun q => ?_)
  · have h := h.1 q
    refine jm_iload_n (pc := 10) 1 dX9_countWorlds_10 rfl ?_
    refine jm_bipush (pc := 11) dX9_countWorlds_11 (by decide) ?_
    have hg6 := h.1
    have h := h.2
    refine jm_icmp_lt (pc := 13) 18 dX9_countWorlds_13 rfl hg6 ⟨by decide, by decide⟩ (fun q => ?_) (fun q => ?_)
    · have h := h.1 q
      refine jm_iconst (pc := 18) dX9_countWorlds_18 ?_
      refine jm_istore (pc := 19) (lv' := [(4, _), (0, _), (1, _), (2, _), (3, _)]) dX9_countWorlds_19 (by decide) rfl ?_
      refine jm_iload_n (pc := 21) 2 dX9_countWorlds_21 rfl ?_
      refine jm_iconst (pc := 22) dX9_countWorlds_22 ?_
      refine jm_imul (pc := 23) dX9_countWorlds_23 ?_
      have h := h _ rfl
      refine jm_istore (pc := 24) (lv' := [(5, _), (4, _), (0, _), (1, _), (2, _), (3, _)]) dX9_countWorlds_24 (by decide) rfl ?_
      exact jm_sub [2, 3, 4, 5, 1, 0] rfl h
    · have h := h.2 q
      refine jm_iconst (pc := 16) dX9_countWorlds_16 ?_
      exact jm_iret (pc := 17) dX9_countWorlds_17 rfl h
  · have h := h.2 q
    refine jm_iconst (pc := 8) dX9_countWorlds_8 ?_
    exact jm_iret (pc := 9) dX9_countWorlds_9 rfl h
theorem dX9_mostAlike_0 : decode cX9_mostAlike 0 = .ok (.iconst 0, 1) := by decide +kernel
theorem dX9_mostAlike_1 : decode cX9_mostAlike 1 = .ok (.istore_n 2, 1) := by decide +kernel
theorem dX9_mostAlike_2 : decode cX9_mostAlike 2 = .ok (.iconst 0, 1) := by decide +kernel
theorem dX9_mostAlike_3 : decode cX9_mostAlike 3 = .ok (.istore_n 3, 1) := by decide +kernel
theorem dX9_mostAlike_4 : decode cX9_mostAlike 4 = .ok (.iload_n 3, 1) := by decide +kernel
theorem dX9_mostAlike_5 : decode cX9_mostAlike 5 = .ok (.iconst 4, 1) := by decide +kernel
theorem dX9_mostAlike_6 : decode cX9_mostAlike 6 = .ok (.if_icmp .ge 24, 3) := by decide +kernel
theorem dX9_mostAlike_9 : decode cX9_mostAlike 9 = .ok (.iload_n 2, 1) := by decide +kernel
theorem dX9_mostAlike_10 : decode cX9_mostAlike 10 = .ok (.aload_n 0, 1) := by decide +kernel
theorem dX9_mostAlike_11 : decode cX9_mostAlike 11 = .ok (.getfield 21, 3) := by decide +kernel
theorem dX9_mostAlike_14 : decode cX9_mostAlike 14 = .ok (.iload_n 1, 1) := by decide +kernel
theorem dX9_mostAlike_15 : decode cX9_mostAlike 15 = .ok (.iconst 4, 1) := by decide +kernel
theorem dX9_mostAlike_16 : decode cX9_mostAlike 16 = .ok (.imul, 1) := by decide +kernel
theorem dX9_mostAlike_17 : decode cX9_mostAlike 17 = .ok (.iload_n 3, 1) := by decide +kernel
theorem dX9_mostAlike_18 : decode cX9_mostAlike 18 = .ok (.iadd, 1) := by decide +kernel
theorem dX9_mostAlike_19 : decode cX9_mostAlike 19 = .ok (.iaload, 1) := by decide +kernel
theorem dX9_mostAlike_20 : decode cX9_mostAlike 20 = .ok (.invokestatic 69, 3) := by decide +kernel
theorem dX9_mostAlike_23 : decode cX9_mostAlike 23 = .ok (.istore_n 2, 1) := by decide +kernel
theorem dX9_mostAlike_24 : decode cX9_mostAlike 24 = .ok (.iinc 3 1, 3) := by decide +kernel
theorem dX9_mostAlike_27 : decode cX9_mostAlike 27 = .ok (.goto (-23), 3) := by decide +kernel
theorem dX9_mostAlike_30 : decode cX9_mostAlike 30 = .ok (.iload_n 2, 1) := by decide +kernel
theorem dX9_mostAlike_31 : decode cX9_mostAlike 31 = .ok (.ireturn, 1) := by decide +kernel
theorem bX9_mostAlike_4 {l : Launch} {g : jm_G} {d : Nat} {v1 v2 v3 : Int} (hg : jm_HC g) {mu : jm_M} {Q : Option Value → jm_M → Prop} (h : jm_rg v3 ∧ (4 ≤ v3 → Q (some (jm_i v2)) mu) ∧ (v3 < 4 → (0 ≤ ((v1 * 4) + v3) ∧ ((v1 * 4) + v3) < 24) ∧ jm_rg v2 ∧ ∀ x4, x4 = (max v2 (mu.1 45 ((v1 * 4) + v3))) → jm_V l g (d + 1) iX9_mostAlike 4 [(0, .ref 41), (1, jm_i v1), (2, jm_i x4), (3, jm_i (v3 + 1))] [] mu Q)) : jm_V l g (d + 1) iX9_mostAlike 4 [(0, .ref 41), (1, jm_i v1), (2, jm_i v2), (3, jm_i v3)] [] mu Q := by
  refine jm_mrI (fun hm0 => ?_)
  refine jm_iload_n (pc := 4) 3 dX9_mostAlike_4 rfl ?_
  refine jm_iconst (pc := 5) dX9_mostAlike_5 ?_
  have hg1 := h.1
  have h := h.2
  refine jm_icmp_ge (pc := 6) 30 dX9_mostAlike_6 rfl hg1 ⟨by decide, by decide⟩ (fun q => ?_) (fun q => ?_)
  · have h := h.1 q
    refine jm_iload_n (pc := 30) 2 dX9_mostAlike_30 rfl ?_
    exact jm_iret (pc := 31) dX9_mostAlike_31 rfl h
  · have h := h.2 q
    refine jm_iload_n (pc := 9) 2 dX9_mostAlike_9 rfl ?_
    refine jm_aload_n (pc := 10) 0 dX9_mostAlike_10 rfl ?_
    refine jm_getr (pc := 11) 6 dX9_mostAlike_11 fX9_21 (cC41 hg) rfl ?_
    refine jm_iload_n (pc := 14) 1 dX9_mostAlike_14 rfl ?_
    refine jm_iconst (pc := 15) dX9_mostAlike_15 ?_
    refine jm_imul (pc := 16) dX9_mostAlike_16 ?_
    refine jm_iload_n (pc := 17) 3 dX9_mostAlike_17 rfl ?_
    refine jm_iadd (pc := 18) dX9_mostAlike_18 ?_
    have hg2 := h.1
    have h := h.2
    refine jm_iald (pc := 19) dX9_mostAlike_19 (cC45 hg) (by decide) hg2.1 hg2.2 ?_
    have hg3 := h.1
    have h := h.2
    refine jm_mmax (pc := 20) dX9_mostAlike_20 mX9_69 hg3 (hm0 _ _) (Nat.le_of_ble_eq_true rfl) ?_
    have h := h _ rfl
    refine jm_istore_n (pc := 23) (lv' := [(2, _), (0, _), (1, _), (3, _)]) dX9_mostAlike_23 (by decide) rfl ?_
    refine jm_iinc (pc := 24) (lv' := [(3, _), (2, _), (0, _), (1, _)]) 3 dX9_mostAlike_24 rfl (by decide) rfl ?_
    refine jm_goto (pc := 27) 4 dX9_mostAlike_27 rfl ?_
    exact jm_sub [2, 3, 1, 0] rfl h
theorem eX9_mostAlike {l : Launch} {g : jm_G} {d : Nat} {v1 : Int} (hg : jm_HC g) {mu : jm_M} {Q : Option Value → jm_M → Prop} (h : jm_V l g (d + 1) iX9_mostAlike 4 [(0, .ref 41), (1, jm_i v1), (2, jm_i 0), (3, jm_i 0)] [] mu Q) : jm_R l g (d + 1) iX9_mostAlike [.ref 41, jm_i v1] mu Q := by
  refine jm_enter [(0, .ref 41), (1, jm_i v1)] (by decide) (Nat.le_of_ble_eq_true rfl) rfl ?_
  refine jm_mrI (fun hm0 => ?_)
  refine jm_iconst (pc := 0) dX9_mostAlike_0 ?_
  refine jm_istore_n (pc := 1) (lv' := [(2, _), (0, _), (1, _)]) dX9_mostAlike_1 (by decide) rfl ?_
  refine jm_iconst (pc := 2) dX9_mostAlike_2 ?_
  refine jm_istore_n (pc := 3) (lv' := [(3, _), (2, _), (0, _), (1, _)]) dX9_mostAlike_3 (by decide) rfl ?_
  exact jm_sub [2, 3, 1, 0] rfl h
theorem dX9_factToAsk_0 : decode cX9_factToAsk 0 = .ok (.iload_n 1, 1) := by decide +kernel
theorem dX9_factToAsk_1 : decode cX9_factToAsk 1 = .ok (.iconst 2, 1) := by decide +kernel
theorem dX9_factToAsk_2 : decode cX9_factToAsk 2 = .ok (.if_icmp .ge 5, 3) := by decide +kernel
theorem dX9_factToAsk_5 : decode cX9_factToAsk 5 = .ok (.iconst (-1), 1) := by decide +kernel
theorem dX9_factToAsk_6 : decode cX9_factToAsk 6 = .ok (.ireturn, 1) := by decide +kernel
theorem dX9_factToAsk_7 : decode cX9_factToAsk 7 = .ok (.iconst 0, 1) := by decide +kernel
theorem dX9_factToAsk_8 : decode cX9_factToAsk 8 = .ok (.istore_n 2, 1) := by decide +kernel
theorem dX9_factToAsk_9 : decode cX9_factToAsk 9 = .ok (.iconst 1, 1) := by decide +kernel
theorem dX9_factToAsk_10 : decode cX9_factToAsk 10 = .ok (.istore_n 3, 1) := by decide +kernel
theorem dX9_factToAsk_11 : decode cX9_factToAsk 11 = .ok (.iload_n 3, 1) := by decide +kernel
theorem dX9_factToAsk_12 : decode cX9_factToAsk 12 = .ok (.bipush 6, 2) := by decide +kernel
theorem dX9_factToAsk_14 : decode cX9_factToAsk 14 = .ok (.if_icmp .ge 24, 3) := by decide +kernel
theorem dX9_factToAsk_17 : decode cX9_factToAsk 17 = .ok (.aload_n 0, 1) := by decide +kernel
theorem dX9_factToAsk_18 : decode cX9_factToAsk 18 = .ok (.iload_n 3, 1) := by decide +kernel
theorem dX9_factToAsk_19 : decode cX9_factToAsk 19 = .ok (.invokevirtual 124, 3) := by decide +kernel
theorem dX9_factToAsk_22 : decode cX9_factToAsk 22 = .ok (.aload_n 0, 1) := by decide +kernel
theorem dX9_factToAsk_23 : decode cX9_factToAsk 23 = .ok (.iload_n 2, 1) := by decide +kernel
theorem dX9_factToAsk_24 : decode cX9_factToAsk 24 = .ok (.invokevirtual 124, 3) := by decide +kernel
theorem dX9_factToAsk_27 : decode cX9_factToAsk 27 = .ok (.if_icmp .ge 5, 3) := by decide +kernel
theorem dX9_factToAsk_30 : decode cX9_factToAsk 30 = .ok (.iload_n 3, 1) := by decide +kernel
theorem dX9_factToAsk_31 : decode cX9_factToAsk 31 = .ok (.istore_n 2, 1) := by decide +kernel
theorem dX9_factToAsk_32 : decode cX9_factToAsk 32 = .ok (.iinc 3 1, 3) := by decide +kernel
theorem dX9_factToAsk_35 : decode cX9_factToAsk 35 = .ok (.goto (-24), 3) := by decide +kernel
theorem dX9_factToAsk_38 : decode cX9_factToAsk 38 = .ok (.iload_n 2, 1) := by decide +kernel
theorem dX9_factToAsk_39 : decode cX9_factToAsk 39 = .ok (.ireturn, 1) := by decide +kernel
theorem bX9_factToAsk_11 {l : Launch} {g : jm_G} {d : Nat} {v2 v3 : Int} (hg : jm_HC g) {mu : jm_M} {Q : Option Value → jm_M → Prop} (h : jm_rg v3 ∧ (6 ≤ v3 → Q (some (jm_i v2)) mu) ∧ (v3 < 6 → jm_R l g d iX9_mostAlike [.ref 41, jm_i v3] mu (jm_qi fun z3 m2 => jm_R l g d iX9_mostAlike [.ref 41, jm_i v2] m2 (jm_qi fun z7 m6 => (z7 ≤ z3 → jm_V l g (d + 1) iX9_factToAsk 11 [(0, .ref 41), (2, jm_i v2), (3, jm_i (v3 + 1))] [] m6 Q) ∧ (z3 < z7 → jm_V l g (d + 1) iX9_factToAsk 11 [(0, .ref 41), (2, jm_i v3), (3, jm_i (v3 + 1))] [] m6 Q))))) : jm_V l g (d + 1) iX9_factToAsk 11 [(0, .ref 41), (2, jm_i v2), (3, jm_i v3)] [] mu Q := by
  refine jm_mrI (fun hm0 => ?_)
  refine jm_iload_n (pc := 11) 2 dX9_factToAsk_11 rfl ?_
  refine jm_bipush (pc := 12) dX9_factToAsk_12 (by decide) ?_
  have hg1 := h.1
  have h := h.2
  refine jm_icmp_ge (pc := 14) 38 dX9_factToAsk_14 rfl hg1 ⟨by decide, by decide⟩ (fun q => ?_) (fun q => ?_)
  · have h := h.1 q
    refine jm_iload_n (pc := 38) 1 dX9_factToAsk_38 rfl ?_
    exact jm_iret (pc := 39) dX9_factToAsk_39 rfl h
  · have h := h.2 q
    refine jm_aload_n (pc := 17) 0 dX9_factToAsk_17 rfl ?_
    refine jm_iload_n (pc := 18) 2 dX9_factToAsk_18 rfl ?_
    refine jm_callvi (pc := 19) (As := [_]) (st := []) iX9_mostAlike dX9_factToAsk_19 mX9_124 (cC41 hg) ⟨_, rfl, rfl⟩ rfl rfl (Nat.le_of_ble_eq_true rfl) h (fun z3 m2 hz4 h hm5 => ?_)
    refine jm_aload_n (pc := 22) 0 dX9_factToAsk_22 rfl ?_
    refine jm_iload_n (pc := 23) 1 dX9_factToAsk_23 rfl ?_
    refine jm_callvi (pc := 24) (As := [_]) (st := [_]) iX9_mostAlike dX9_factToAsk_24 mX9_124 (cC41 hg) ⟨_, rfl, rfl⟩ rfl rfl (Nat.le_of_ble_eq_true rfl) h (fun z7 m6 hz8 h hm9 => ?_)
    refine jm_icmp_ge (pc := 27) 32 dX9_factToAsk_27 rfl hz4 hz8 (fun q => ?_) (fun q => ?_)
    · have h := h.1 q
      refine jm_iinc (pc := 32) (lv' := [(3, _), (0, _), (2, _)]) 2 dX9_factToAsk_32 rfl (by decide) rfl ?_
      refine jm_goto (pc := 35) 11 dX9_factToAsk_35 rfl ?_
      exact jm_sub [1, 2, 0] rfl h
    · have h := h.2 q
      refine jm_iload_n (pc := 30) 2 dX9_factToAsk_30 rfl ?_
      refine jm_istore_n (pc := 31) (lv' := [(2, _), (0, _), (3, _)]) dX9_factToAsk_31 (by decide) rfl ?_
      refine jm_iinc (pc := 32) (lv' := [(3, _), (2, _), (0, _)]) 2 dX9_factToAsk_32 rfl (by decide) rfl ?_
      refine jm_goto (pc := 35) 11 dX9_factToAsk_35 rfl ?_
      exact jm_sub [2, 1, 0] rfl h
theorem eX9_factToAsk {l : Launch} {g : jm_G} {d : Nat} {v1 : Int} (hg : jm_HC g) {mu : jm_M} {Q : Option Value → jm_M → Prop} (h : jm_rg v1 ∧ (2 ≤ v1 → jm_V l g (d + 1) iX9_factToAsk 11 [(0, .ref 41), (2, jm_i 0), (3, jm_i 1)] [] mu Q) ∧ (v1 < 2 → Q (some (jm_i (-1))) mu)) : jm_R l g (d + 1) iX9_factToAsk [.ref 41, jm_i v1] mu Q := by
  refine jm_enter [(0, .ref 41), (1, jm_i v1)] (by decide) (Nat.le_of_ble_eq_true rfl) rfl ?_
  refine jm_mrI (fun hm0 => ?_)
  refine jm_iload_n (pc := 0) 1 dX9_factToAsk_0 rfl ?_
  refine jm_iconst (pc := 1) dX9_factToAsk_1 ?_
  have hg1 := h.1
  have h := h.2
  refine jm_icmp_ge (pc := 2) 7 dX9_factToAsk_2 rfl hg1 ⟨by decide, by decide⟩ (fun q => ?_) (fun q => ?_)
  · have h := h.1 q
    refine jm_iconst (pc := 7) dX9_factToAsk_7 ?_
    refine jm_istore_n (pc := 8) (lv' := [(2, _), (0, _), (1, _)]) dX9_factToAsk_8 (by decide) rfl ?_
    refine jm_iconst (pc := 9) dX9_factToAsk_9 ?_
    refine jm_istore_n (pc := 10) (lv' := [(3, _), (2, _), (0, _), (1, _)]) dX9_factToAsk_10 (by decide) rfl ?_
    exact jm_sub [2, 1, 0] rfl h
  · have h := h.2 q
    refine jm_iconst (pc := 5) dX9_factToAsk_5 ?_
    exact jm_iret (pc := 6) dX9_factToAsk_6 rfl h
theorem dX9_sureFacts_0 : decode cX9_sureFacts 0 = .ok (.iconst 0, 1) := by decide +kernel
theorem dX9_sureFacts_1 : decode cX9_sureFacts 1 = .ok (.istore_n 2, 1) := by decide +kernel
theorem dX9_sureFacts_2 : decode cX9_sureFacts 2 = .ok (.iconst 0, 1) := by decide +kernel
theorem dX9_sureFacts_3 : decode cX9_sureFacts 3 = .ok (.istore_n 3, 1) := by decide +kernel
theorem dX9_sureFacts_4 : decode cX9_sureFacts 4 = .ok (.iload_n 3, 1) := by decide +kernel
theorem dX9_sureFacts_5 : decode cX9_sureFacts 5 = .ok (.bipush 6, 2) := by decide +kernel
theorem dX9_sureFacts_7 : decode cX9_sureFacts 7 = .ok (.if_icmp .ge 24, 3) := by decide +kernel
theorem dX9_sureFacts_10 : decode cX9_sureFacts 10 = .ok (.aload_n 0, 1) := by decide +kernel
theorem dX9_sureFacts_11 : decode cX9_sureFacts 11 = .ok (.iload_n 3, 1) := by decide +kernel
theorem dX9_sureFacts_12 : decode cX9_sureFacts 12 = .ok (.invokevirtual 124, 3) := by decide +kernel
theorem dX9_sureFacts_15 : decode cX9_sureFacts 15 = .ok (.iload_n 1, 1) := by decide +kernel
theorem dX9_sureFacts_16 : decode cX9_sureFacts 16 = .ok (.if_icmp .ne 9, 3) := by decide +kernel
theorem dX9_sureFacts_19 : decode cX9_sureFacts 19 = .ok (.iload_n 2, 1) := by decide +kernel
theorem dX9_sureFacts_20 : decode cX9_sureFacts 20 = .ok (.iconst 1, 1) := by decide +kernel
theorem dX9_sureFacts_21 : decode cX9_sureFacts 21 = .ok (.iload_n 3, 1) := by decide +kernel
theorem dX9_sureFacts_22 : decode cX9_sureFacts 22 = .ok (.ishl, 1) := by decide +kernel
theorem dX9_sureFacts_23 : decode cX9_sureFacts 23 = .ok (.ior, 1) := by decide +kernel
theorem dX9_sureFacts_24 : decode cX9_sureFacts 24 = .ok (.istore_n 2, 1) := by decide +kernel
theorem dX9_sureFacts_25 : decode cX9_sureFacts 25 = .ok (.iinc 3 1, 3) := by decide +kernel
theorem dX9_sureFacts_28 : decode cX9_sureFacts 28 = .ok (.goto (-24), 3) := by decide +kernel
theorem dX9_sureFacts_31 : decode cX9_sureFacts 31 = .ok (.iload_n 2, 1) := by decide +kernel
theorem dX9_sureFacts_32 : decode cX9_sureFacts 32 = .ok (.ireturn, 1) := by decide +kernel
theorem bX9_sureFacts_4 {l : Launch} {g : jm_G} {d : Nat} {v1 v2 v3 : Int} (hg : jm_HC g) {mu : jm_M} {Q : Option Value → jm_M → Prop} (h : jm_rg v3 ∧ (6 ≤ v3 → Q (some (jm_i v2)) mu) ∧ (v3 < 6 → jm_R l g d iX9_mostAlike [.ref 41, jm_i v3] mu (jm_qi fun z3 m2 => jm_rg v1 ∧ (¬ z3 = v1 → jm_V l g (d + 1) iX9_sureFacts 4 [(0, .ref 41), (1, jm_i v1), (2, jm_i v2), (3, jm_i (v3 + 1))] [] m2 Q) ∧ (z3 = v1 → ∀ x7, x7 = (jm_or v2 (jm_shl 1 v3)) → jm_V l g (d + 1) iX9_sureFacts 4 [(0, .ref 41), (1, jm_i v1), (2, jm_i x7), (3, jm_i (v3 + 1))] [] m2 Q)))) : jm_V l g (d + 1) iX9_sureFacts 4 [(0, .ref 41), (1, jm_i v1), (2, jm_i v2), (3, jm_i v3)] [] mu Q := by
  refine jm_mrI (fun hm0 => ?_)
  refine jm_iload_n (pc := 4) 3 dX9_sureFacts_4 rfl ?_
  refine jm_bipush (pc := 5) dX9_sureFacts_5 (by decide) ?_
  have hg1 := h.1
  have h := h.2
  refine jm_icmp_ge (pc := 7) 31 dX9_sureFacts_7 rfl hg1 ⟨by decide, by decide⟩ (fun q => ?_) (fun q => ?_)
  · have h := h.1 q
    refine jm_iload_n (pc := 31) 2 dX9_sureFacts_31 rfl ?_
    exact jm_iret (pc := 32) dX9_sureFacts_32 rfl h
  · have h := h.2 q
    refine jm_aload_n (pc := 10) 0 dX9_sureFacts_10 rfl ?_
    refine jm_iload_n (pc := 11) 3 dX9_sureFacts_11 rfl ?_
    refine jm_callvi (pc := 12) (As := [_]) (st := []) iX9_mostAlike dX9_sureFacts_12 mX9_124 (cC41 hg) ⟨_, rfl, rfl⟩ rfl rfl (Nat.le_of_ble_eq_true rfl) h (fun z3 m2 hz4 h hm5 => ?_)
    refine jm_iload_n (pc := 15) 1 dX9_sureFacts_15 rfl ?_
    have hg6 := h.1
    have h := h.2
    refine jm_icmp_ne (pc := 16) 25 dX9_sureFacts_16 rfl hz4 hg6 (fun q => ?_) (fun q => ?_)
    · have h := h.1 q
      refine jm_iinc (pc := 25) (lv' := [(3, _), (0, _), (1, _), (2, _)]) 3 dX9_sureFacts_25 rfl (by decide) rfl ?_
      refine jm_goto (pc := 28) 4 dX9_sureFacts_28 rfl ?_
      exact jm_sub [1, 2, 3, 0] rfl h
    · have h := h.2 q
      refine jm_iload_n (pc := 19) 2 dX9_sureFacts_19 rfl ?_
      refine jm_iconst (pc := 20) dX9_sureFacts_20 ?_
      refine jm_iload_n (pc := 21) 3 dX9_sureFacts_21 rfl ?_
      refine jm_ishl (pc := 22) dX9_sureFacts_22 ?_
      refine jm_ior (pc := 23) dX9_sureFacts_23 ?_
      have h := h _ rfl
      refine jm_istore_n (pc := 24) (lv' := [(2, _), (0, _), (1, _), (3, _)]) dX9_sureFacts_24 (by decide) rfl ?_
      refine jm_iinc (pc := 25) (lv' := [(3, _), (2, _), (0, _), (1, _)]) 3 dX9_sureFacts_25 rfl (by decide) rfl ?_
      refine jm_goto (pc := 28) 4 dX9_sureFacts_28 rfl ?_
      exact jm_sub [2, 3, 1, 0] rfl h
theorem eX9_sureFacts {l : Launch} {g : jm_G} {d : Nat} {v1 : Int} (hg : jm_HC g) {mu : jm_M} {Q : Option Value → jm_M → Prop} (h : jm_V l g (d + 1) iX9_sureFacts 4 [(0, .ref 41), (1, jm_i v1), (2, jm_i 0), (3, jm_i 0)] [] mu Q) : jm_R l g (d + 1) iX9_sureFacts [.ref 41, jm_i v1] mu Q := by
  refine jm_enter [(0, .ref 41), (1, jm_i v1)] (by decide) (Nat.le_of_ble_eq_true rfl) rfl ?_
  refine jm_mrI (fun hm0 => ?_)
  refine jm_iconst (pc := 0) dX9_sureFacts_0 ?_
  refine jm_istore_n (pc := 1) (lv' := [(2, _), (0, _), (1, _)]) dX9_sureFacts_1 (by decide) rfl ?_
  refine jm_iconst (pc := 2) dX9_sureFacts_2 ?_
  refine jm_istore_n (pc := 3) (lv' := [(3, _), (2, _), (0, _), (1, _)]) dX9_sureFacts_3 (by decide) rfl ?_
  exact jm_sub [2, 3, 1, 0] rfl h
theorem dX9_tellLiars_0 : decode cX9_tellLiars 0 = .ok (.iconst 0, 1) := by decide +kernel
theorem dX9_tellLiars_1 : decode cX9_tellLiars 1 = .ok (.istore_n 1, 1) := by decide +kernel
theorem dX9_tellLiars_2 : decode cX9_tellLiars 2 = .ok (.iload_n 1, 1) := by decide +kernel
theorem dX9_tellLiars_3 : decode cX9_tellLiars 3 = .ok (.bipush 24, 2) := by decide +kernel
theorem dX9_tellLiars_5 : decode cX9_tellLiars 5 = .ok (.if_icmp .ge 74, 3) := by decide +kernel
theorem dX9_tellLiars_8 : decode cX9_tellLiars 8 = .ok (.aload_n 0, 1) := by decide +kernel
theorem dX9_tellLiars_9 : decode cX9_tellLiars 9 = .ok (.getfield 21, 3) := by decide +kernel
theorem dX9_tellLiars_12 : decode cX9_tellLiars 12 = .ok (.iload_n 1, 1) := by decide +kernel
theorem dX9_tellLiars_13 : decode cX9_tellLiars 13 = .ok (.iconst 0, 1) := by decide +kernel
theorem dX9_tellLiars_14 : decode cX9_tellLiars 14 = .ok (.iastore, 1) := by decide +kernel
theorem dX9_tellLiars_15 : decode cX9_tellLiars 15 = .ok (.aload_n 0, 1) := by decide +kernel
theorem dX9_tellLiars_16 : decode cX9_tellLiars 16 = .ok (.getfield 18, 3) := by decide +kernel
theorem dX9_tellLiars_19 : decode cX9_tellLiars 19 = .ok (.iload_n 1, 1) := by decide +kernel
theorem dX9_tellLiars_20 : decode cX9_tellLiars 20 = .ok (.iconst 0, 1) := by decide +kernel
theorem dX9_tellLiars_21 : decode cX9_tellLiars 21 = .ok (.iastore, 1) := by decide +kernel
theorem dX9_tellLiars_22 : decode cX9_tellLiars 22 = .ok (.iconst 0, 1) := by decide +kernel
theorem dX9_tellLiars_23 : decode cX9_tellLiars 23 = .ok (.istore_n 2, 1) := by decide +kernel
theorem dX9_tellLiars_24 : decode cX9_tellLiars 24 = .ok (.iload_n 2, 1) := by decide +kernel
theorem dX9_tellLiars_25 : decode cX9_tellLiars 25 = .ok (.aload_n 0, 1) := by decide +kernel
theorem dX9_tellLiars_26 : decode cX9_tellLiars 26 = .ok (.getfield 34, 3) := by decide +kernel
theorem dX9_tellLiars_29 : decode cX9_tellLiars 29 = .ok (.getfield 77, 3) := by decide +kernel
theorem dX9_tellLiars_32 : decode cX9_tellLiars 32 = .ok (.if_icmp .ge 41, 3) := by decide +kernel
theorem dX9_tellLiars_35 : decode cX9_tellLiars 35 = .ok (.aload_n 0, 1) := by decide +kernel
theorem dX9_tellLiars_36 : decode cX9_tellLiars 36 = .ok (.getfield 34, 3) := by decide +kernel
theorem dX9_tellLiars_39 : decode cX9_tellLiars 39 = .ok (.iload_n 2, 1) := by decide +kernel
theorem dX9_tellLiars_40 : decode cX9_tellLiars 40 = .ok (.iload_n 1, 1) := by decide +kernel
theorem dX9_tellLiars_41 : decode cX9_tellLiars 41 = .ok (.iconst 4, 1) := by decide +kernel
theorem dX9_tellLiars_42 : decode cX9_tellLiars 42 = .ok (.idiv, 1) := by decide +kernel
theorem dX9_tellLiars_43 : decode cX9_tellLiars 43 = .ok (.invokevirtual 105, 3) := by decide +kernel
theorem dX9_tellLiars_46 : decode cX9_tellLiars 46 = .ok (.iload_n 1, 1) := by decide +kernel
theorem dX9_tellLiars_47 : decode cX9_tellLiars 47 = .ok (.iconst 4, 1) := by decide +kernel
theorem dX9_tellLiars_48 : decode cX9_tellLiars 48 = .ok (.irem, 1) := by decide +kernel
theorem dX9_tellLiars_49 : decode cX9_tellLiars 49 = .ok (.invokestatic 108, 3) := by decide +kernel
theorem dX9_tellLiars_52 : decode cX9_tellLiars 52 = .ok (.ifCond .eq 15, 3) := by decide +kernel
theorem dX9_tellLiars_55 : decode cX9_tellLiars 55 = .ok (.aload_n 0, 1) := by decide +kernel
theorem dX9_tellLiars_56 : decode cX9_tellLiars 56 = .ok (.getfield 18, 3) := by decide +kernel
theorem dX9_tellLiars_59 : decode cX9_tellLiars 59 = .ok (.iload_n 1, 1) := by decide +kernel
theorem dX9_tellLiars_60 : decode cX9_tellLiars 60 = .ok (.dup2, 1) := by decide +kernel
theorem dX9_tellLiars_61 : decode cX9_tellLiars 61 = .ok (.iaload, 1) := by decide +kernel
theorem dX9_tellLiars_62 : decode cX9_tellLiars 62 = .ok (.iconst 1, 1) := by decide +kernel
theorem dX9_tellLiars_63 : decode cX9_tellLiars 63 = .ok (.iload_n 2, 1) := by decide +kernel
theorem dX9_tellLiars_64 : decode cX9_tellLiars 64 = .ok (.ishl, 1) := by decide +kernel
theorem dX9_tellLiars_65 : decode cX9_tellLiars 65 = .ok (.ior, 1) := by decide +kernel
theorem dX9_tellLiars_66 : decode cX9_tellLiars 66 = .ok (.iastore, 1) := by decide +kernel
theorem dX9_tellLiars_67 : decode cX9_tellLiars 67 = .ok (.iinc 2 1, 3) := by decide +kernel
theorem dX9_tellLiars_70 : decode cX9_tellLiars 70 = .ok (.goto (-46), 3) := by decide +kernel
theorem dX9_tellLiars_73 : decode cX9_tellLiars 73 = .ok (.iinc 1 1, 3) := by decide +kernel
theorem dX9_tellLiars_76 : decode cX9_tellLiars 76 = .ok (.goto (-74), 3) := by decide +kernel
theorem dX9_tellLiars_79 : decode cX9_tellLiars 79 = .ok (.return_, 1) := by decide +kernel
theorem bX9_tellLiars_24 {l : Launch} {g : jm_G} {d : Nat} {v1 v2 : Int} (hg : jm_HC g) {mu : jm_M} {Q : Option Value → jm_M → Prop} (h : jm_rg v2 ∧ ((mu.1 6 0) ≤ v2 → jm_V l g (d + 2) iX9_tellLiars 2 [(0, .ref 41), (1, jm_i (v1 + 1))] [] mu Q) ∧ (v2 < (mu.1 6 0) → jm_rg v1 ∧ jm_R l g (d + 1) iX8_claimOf [.ref 6, jm_i v2, jm_i (Int.tdiv v1 4)] mu (jm_qi fun z4 m3 => jm_rg (Int.tmod v1 4) ∧ (¬ z4 = (-1) ∧ ¬ (Int.tmod v1 4) = (-1) ∧ ¬ z4 = (Int.tmod v1 4) → (0 ≤ v1 ∧ v1 < 24) ∧ ∀ m9, m9 = jm_wr m3 44 v1 (jm_or (m3.1 44 v1) (jm_shl 1 v2)) → jm_V l g (d + 2) iX9_tellLiars 24 [(0, .ref 41), (1, jm_i v1), (2, jm_i (v2 + 1))] [] m9 Q) ∧ (¬ (¬ z4 = (-1) ∧ ¬ (Int.tmod v1 4) = (-1) ∧ ¬ z4 = (Int.tmod v1 4)) → jm_V l g (d + 2) iX9_tellLiars 24 [(0, .ref 41), (1, jm_i v1), (2, jm_i (v2 + 1))] [] m3 Q)))) : jm_V l g (d + 2) iX9_tellLiars 24 [(0, .ref 41), (1, jm_i v1), (2, jm_i v2)] [] mu Q := by
  refine jm_mrI (fun hm0 => ?_)
  refine jm_iload_n (pc := 24) 2 dX9_tellLiars_24 rfl ?_
  refine jm_aload_n (pc := 25) 0 dX9_tellLiars_25 rfl ?_
  refine jm_getr (pc := 26) 1 dX9_tellLiars_26 fX9_34 (cC41 hg) rfl ?_
  refine jm_geti (pc := 29) 0 dX9_tellLiars_29 fX9_77 (cC6 hg) rfl ?_
  have hg1 := h.1
  have h := h.2
  refine jm_icmp_ge (pc := 32) 73 dX9_tellLiars_32 rfl hg1 (hm0 _ _) (fun q => ?_) (fun q => ?_)
  · have h := h.1 q
    refine jm_iinc (pc := 73) (lv' := [(1, _), (0, _), (2, _)]) 1 dX9_tellLiars_73 rfl (by decide) rfl ?_
    refine jm_goto (pc := 76) 2 dX9_tellLiars_76 rfl ?_
    exact jm_sub [1, 0] rfl h
  · have h := h.2 q
    refine jm_aload_n (pc := 35) 0 dX9_tellLiars_35 rfl ?_
    refine jm_getr (pc := 36) 1 dX9_tellLiars_36 fX9_34 (cC41 hg) rfl ?_
    refine jm_iload_n (pc := 39) 2 dX9_tellLiars_39 rfl ?_
    refine jm_iload_n (pc := 40) 1 dX9_tellLiars_40 rfl ?_
    refine jm_iconst (pc := 41) dX9_tellLiars_41 ?_
    have hg2 := h.1
    have h := h.2
    refine jm_idiv (pc := 42) hg2 ⟨by decide, by decide⟩ (by decide) dX9_tellLiars_42 ?_
    refine jm_callvi (pc := 43) (As := [_, _]) (st := []) iX8_claimOf dX9_tellLiars_43 mX9_105 (cC6 hg) ⟨_, rfl, rfl⟩ rfl rfl (Nat.le_of_ble_eq_true rfl) h (fun z4 m3 hz5 h hm6 => ?_)
    refine jm_iload_n (pc := 46) 1 dX9_tellLiars_46 rfl ?_
    refine jm_iconst (pc := 47) dX9_tellLiars_47 ?_
    refine jm_irem (pc := 48) hg2 ⟨by decide, by decide⟩ (by decide) dX9_tellLiars_48 ?_
    have hg7 := h.1
    have h := h.2
    refine jm_inlsi (pc := 49) (As := [_, _]) (st := []) iX9_areUnlike dX9_tellLiars_49 mX9_108 rfl rfl (Nat.le_of_ble_eq_true rfl) (pX9_areUnlike hg hz5 hg7 (fun q => jm_kIi ?_) (fun q => jm_kIi ?_))
    · have h := h.1 q
      refine jm_if_eq (pc := 52) 67 dX9_tellLiars_52 rfl ⟨by decide, by decide⟩ (fun q => absurd q (by decide)) (fun q => ?_)
      refine jm_aload_n (pc := 55) 0 dX9_tellLiars_55 rfl ?_
      refine jm_getr (pc := 56) 5 dX9_tellLiars_56 fX9_18 (cC41 hg) rfl ?_
      refine jm_iload_n (pc := 59) 1 dX9_tellLiars_59 rfl ?_
      refine jm_dup2 (pc := 60) _ _ dX9_tellLiars_60 rfl rfl ?_
      have hg8 := h.1
      have h := h.2
      refine jm_iald (pc := 61) dX9_tellLiars_61 (cC44 hg) (by decide) hg8.1 hg8.2 ?_
      refine jm_iconst (pc := 62) dX9_tellLiars_62 ?_
      refine jm_iload_n (pc := 63) 2 dX9_tellLiars_63 rfl ?_
      refine jm_ishl (pc := 64) dX9_tellLiars_64 ?_
      refine jm_ior (pc := 65) dX9_tellLiars_65 ?_
      refine jm_iast (pc := 66) dX9_tellLiars_66 (cC44 hg) (by decide) hg8.1 hg8.2 (jm_rgT _) ?_
      have h := h _ rfl
      refine jm_mrI (fun hm10 => ?_)
      refine jm_iinc (pc := 67) (lv' := [(2, _), (0, _), (1, _)]) 2 dX9_tellLiars_67 rfl (by decide) rfl ?_
      refine jm_goto (pc := 70) 24 dX9_tellLiars_70 rfl ?_
      exact jm_sub [1, 2, 0] rfl h
    · have h := h.2 q
      refine jm_if_eq (pc := 52) 67 dX9_tellLiars_52 rfl ⟨by decide, by decide⟩ (fun q => ?_) (fun q => absurd q (by decide))
      refine jm_iinc (pc := 67) (lv' := [(2, _), (0, _), (1, _)]) 2 dX9_tellLiars_67 rfl (by decide) rfl ?_
      refine jm_goto (pc := 70) 24 dX9_tellLiars_70 rfl ?_
      exact jm_sub [1, 2, 0] rfl h
theorem bX9_tellLiars_2 {l : Launch} {g : jm_G} {d : Nat} {v1 : Int} (hg : jm_HC g) {mu : jm_M} {Q : Option Value → jm_M → Prop} (h : jm_rg v1 ∧ (24 ≤ v1 → Q none mu) ∧ (v1 < 24 → (0 ≤ v1 ∧ v1 < 24) ∧ ∀ m3, m3 = jm_wr mu 45 v1 0 → ∀ m5, m5 = jm_wr m3 44 v1 0 → jm_V l g (d + 2) iX9_tellLiars 24 [(0, .ref 41), (1, jm_i v1), (2, jm_i 0)] [] m5 Q)) : jm_V l g (d + 2) iX9_tellLiars 2 [(0, .ref 41), (1, jm_i v1)] [] mu Q := by
  refine jm_mrI (fun hm0 => ?_)
  refine jm_iload_n (pc := 2) 1 dX9_tellLiars_2 rfl ?_
  refine jm_bipush (pc := 3) dX9_tellLiars_3 (by decide) ?_
  have hg1 := h.1
  have h := h.2
  refine jm_icmp_ge (pc := 5) 79 dX9_tellLiars_5 rfl hg1 ⟨by decide, by decide⟩ (fun q => ?_) (fun q => ?_)
  · have h := h.1 q
    exact jm_vret (pc := 79) dX9_tellLiars_79 rfl h
  · have h := h.2 q
    refine jm_aload_n (pc := 8) 0 dX9_tellLiars_8 rfl ?_
    refine jm_getr (pc := 9) 6 dX9_tellLiars_9 fX9_21 (cC41 hg) rfl ?_
    refine jm_iload_n (pc := 12) 1 dX9_tellLiars_12 rfl ?_
    refine jm_iconst (pc := 13) dX9_tellLiars_13 ?_
    have hg2 := h.1
    have h := h.2
    refine jm_iast (pc := 14) dX9_tellLiars_14 (cC45 hg) (by decide) hg2.1 hg2.2 ⟨by decide, by decide⟩ ?_
    have h := h _ rfl
    refine jm_mrI (fun hm4 => ?_)
    refine jm_aload_n (pc := 15) 0 dX9_tellLiars_15 rfl ?_
    refine jm_getr (pc := 16) 5 dX9_tellLiars_16 fX9_18 (cC41 hg) rfl ?_
    refine jm_iload_n (pc := 19) 1 dX9_tellLiars_19 rfl ?_
    refine jm_iconst (pc := 20) dX9_tellLiars_20 ?_
    refine jm_iast (pc := 21) dX9_tellLiars_21 (cC44 hg) (by decide) hg2.1 hg2.2 ⟨by decide, by decide⟩ ?_
    have h := h _ rfl
    refine jm_mrI (fun hm6 => ?_)
    refine jm_iconst (pc := 22) dX9_tellLiars_22 ?_
    refine jm_istore_n (pc := 23) (lv' := [(2, _), (0, _), (1, _)]) dX9_tellLiars_23 (by decide) rfl ?_
    exact jm_sub [1, 2, 0] rfl h
theorem eX9_tellLiars {l : Launch} {g : jm_G} {d : Nat} (hg : jm_HC g) {mu : jm_M} {Q : Option Value → jm_M → Prop} (h : jm_V l g (d + 2) iX9_tellLiars 2 [(0, .ref 41), (1, jm_i 0)] [] mu Q) : jm_R l g (d + 2) iX9_tellLiars [.ref 41] mu Q := by
  refine jm_enter [(0, .ref 41)] (by decide) (Nat.le_of_ble_eq_true rfl) rfl ?_
  refine jm_mrI (fun hm0 => ?_)
  refine jm_iconst (pc := 0) dX9_tellLiars_0 ?_
  refine jm_istore_n (pc := 1) (lv' := [(1, _), (0, _)]) dX9_tellLiars_1 (by decide) rfl ?_
  exact jm_sub [1, 0] rfl h
theorem dX9_worldsWith_0 : decode cX9_worldsWith 0 = .ok (.aload_n 0, 1) := by decide +kernel
theorem dX9_worldsWith_1 : decode cX9_worldsWith 1 = .ok (.invokevirtual 112, 3) := by decide +kernel
theorem dX9_worldsWith_4 : decode cX9_worldsWith 4 = .ok (.aload_n 0, 1) := by decide +kernel
theorem dX9_worldsWith_5 : decode cX9_worldsWith 5 = .ok (.iconst 0, 1) := by decide +kernel
theorem dX9_worldsWith_6 : decode cX9_worldsWith 6 = .ok (.iconst 0, 1) := by decide +kernel
theorem dX9_worldsWith_7 : decode cX9_worldsWith 7 = .ok (.iload_n 1, 1) := by decide +kernel
theorem dX9_worldsWith_8 : decode cX9_worldsWith 8 = .ok (.invokevirtual 115, 3) := by decide +kernel
theorem dX9_worldsWith_11 : decode cX9_worldsWith 11 = .ok (.istore_n 3, 1) := by decide +kernel
theorem dX9_worldsWith_12 : decode cX9_worldsWith 12 = .ok (.iload_n 2, 1) := by decide +kernel
theorem dX9_worldsWith_13 : decode cX9_worldsWith 13 = .ok (.ifCond .ne 5, 3) := by decide +kernel
theorem dX9_worldsWith_16 : decode cX9_worldsWith 16 = .ok (.iload_n 3, 1) := by decide +kernel
theorem dX9_worldsWith_17 : decode cX9_worldsWith 17 = .ok (.ireturn, 1) := by decide +kernel
theorem dX9_worldsWith_18 : decode cX9_worldsWith 18 = .ok (.iload_n 2, 1) := by decide +kernel
theorem dX9_worldsWith_19 : decode cX9_worldsWith 19 = .ok (.iconst 1, 1) := by decide +kernel
theorem dX9_worldsWith_20 : decode cX9_worldsWith 20 = .ok (.if_icmp .ne 11, 3) := by decide +kernel
theorem dX9_worldsWith_23 : decode cX9_worldsWith 23 = .ok (.aload_n 0, 1) := by decide +kernel
theorem dX9_worldsWith_24 : decode cX9_worldsWith 24 = .ok (.iload_n 3, 1) := by decide +kernel
theorem dX9_worldsWith_25 : decode cX9_worldsWith 25 = .ok (.invokevirtual 118, 3) := by decide +kernel
theorem dX9_worldsWith_28 : decode cX9_worldsWith 28 = .ok (.goto 8, 3) := by decide +kernel
theorem dX9_worldsWith_31 : decode cX9_worldsWith 31 = .ok (.aload_n 0, 1) := by decide +kernel
theorem dX9_worldsWith_32 : decode cX9_worldsWith 32 = .ok (.iload_n 3, 1) := by decide +kernel
theorem dX9_worldsWith_33 : decode cX9_worldsWith 33 = .ok (.invokevirtual 121, 3) := by decide +kernel
theorem dX9_worldsWith_36 : decode cX9_worldsWith 36 = .ok (.ireturn, 1) := by decide +kernel
theorem eX9_worldsWith {l : Launch} {g : jm_G} {d : Nat} {v1 v2 : Int} (hg : jm_HC g) {mu : jm_M} {Q : Option Value → jm_M → Prop} (h : jm_R l g d iX9_tellLiars [.ref 41] mu (jm_qv fun m1 => jm_R l g d iX9_countWorlds [.ref 41, jm_i 0, jm_i 0, jm_i v1] m1 (jm_qi fun z6 m5 => jm_rg v2 ∧ (¬ v2 = 0 → (¬ v2 = 1 → jm_R l g d iX9_factToAsk [.ref 41, jm_i z6] m5 (jm_qi fun z11 m10 => Q (some (jm_i z11)) m10)) ∧ (v2 = 1 → jm_R l g d iX9_sureFacts [.ref 41, jm_i z6] m5 (jm_qi fun z15 m14 => Q (some (jm_i z15)) m14))) ∧ (v2 = 0 → Q (some (jm_i z6)) m5)))) : jm_R l g (d + 1) iX9_worldsWith [.ref 41, jm_i v1, jm_i v2] mu Q := by
  refine jm_enter [(0, .ref 41), (1, jm_i v1), (2, jm_i v2)] (by decide) (Nat.le_of_ble_eq_true rfl) rfl ?_
  refine jm_mrI (fun hm0 => ?_)
  refine jm_aload_n (pc := 0) 0 dX9_worldsWith_0 rfl ?_
  refine jm_callvv (pc := 1) (As := []) (st := []) iX9_tellLiars dX9_worldsWith_1 mX9_112 (cC41 hg) ⟨_, rfl, rfl⟩ rfl rfl (Nat.le_of_ble_eq_true rfl) h (fun m1 h hm4 => ?_)
  refine jm_aload_n (pc := 4) 0 dX9_worldsWith_4 rfl ?_
  refine jm_iconst (pc := 5) dX9_worldsWith_5 ?_
  refine jm_iconst (pc := 6) dX9_worldsWith_6 ?_
  refine jm_iload_n (pc := 7) 1 dX9_worldsWith_7 rfl ?_
  refine jm_callvi (pc := 8) (As := [_, _, _]) (st := []) iX9_countWorlds dX9_worldsWith_8 mX9_115 (cC41 hg) ⟨_, rfl, rfl⟩ rfl rfl (Nat.le_of_ble_eq_true rfl) h (fun z6 m5 hz7 h hm8 => ?_)
  refine jm_istore_n (pc := 11) (lv' := [(3, _), (0, _), (1, _), (2, _)]) dX9_worldsWith_11 (by decide) rfl ?_
  refine jm_iload_n (pc := 12) 3 dX9_worldsWith_12 rfl ?_
  have hg9 := h.1
  have h := h.2
  refine jm_if_ne (pc := 13) 18 dX9_worldsWith_13 rfl hg9 (fun q => ?_) (fun q => ?_)
  · have h := h.1 q
    refine jm_iload_n (pc := 18) 3 dX9_worldsWith_18 rfl ?_
    refine jm_iconst (pc := 19) dX9_worldsWith_19 ?_
    refine jm_icmp_ne (pc := 20) 31 dX9_worldsWith_20 rfl hg9 ⟨by decide, by decide⟩ (fun q => ?_) (fun q => ?_)
    · have h := h.1 q
      refine jm_aload_n (pc := 31) 1 dX9_worldsWith_31 rfl ?_
      refine jm_iload_n (pc := 32) 0 dX9_worldsWith_32 rfl ?_
      refine jm_callvi (pc := 33) (As := [_]) (st := []) iX9_factToAsk dX9_worldsWith_33 mX9_121 (cC41 hg) ⟨_, rfl, rfl⟩ rfl rfl (Nat.le_of_ble_eq_true rfl) h (fun z11 m10 hz12 h hm13 => ?_)
      exact jm_iret (pc := 36) dX9_worldsWith_36 rfl h
    · have h := h.2 q
      refine jm_aload_n (pc := 23) 1 dX9_worldsWith_23 rfl ?_
      refine jm_iload_n (pc := 24) 0 dX9_worldsWith_24 rfl ?_
      refine jm_callvi (pc := 25) (As := [_]) (st := []) iX9_sureFacts dX9_worldsWith_25 mX9_118 (cC41 hg) ⟨_, rfl, rfl⟩ rfl rfl (Nat.le_of_ble_eq_true rfl) h (fun z15 m14 hz16 h hm17 => ?_)
      refine jm_goto (pc := 28) 36 dX9_worldsWith_28 rfl ?_
      exact jm_iret (pc := 36) dX9_worldsWith_36 rfl h
  · have h := h.2 q
    refine jm_iload_n (pc := 16) 0 dX9_worldsWith_16 rfl ?_
    exact jm_iret (pc := 17) dX9_worldsWith_17 rfl h
theorem dX11_worlds_0 : decode cX11_worlds 0 = .ok (.iload_n 1, 1) := by decide +kernel
theorem dX11_worlds_1 : decode cX11_worlds 1 = .ok (.iconst 0, 1) := by decide +kernel
theorem dX11_worlds_2 : decode cX11_worlds 2 = .ok (.bipush 8, 2) := by decide +kernel
theorem dX11_worlds_4 : decode cX11_worlds 4 = .ok (.invokestatic 123, 3) := by decide +kernel
theorem dX11_worlds_7 : decode cX11_worlds 7 = .ok (.ifCond .eq 12, 3) := by decide +kernel
theorem dX11_worlds_10 : decode cX11_worlds 10 = .ok (.iload_n 2, 1) := by decide +kernel
theorem dX11_worlds_11 : decode cX11_worlds 11 = .ok (.iconst 0, 1) := by decide +kernel
theorem dX11_worlds_12 : decode cX11_worlds 12 = .ok (.iconst 2, 1) := by decide +kernel
theorem dX11_worlds_13 : decode cX11_worlds 13 = .ok (.invokestatic 123, 3) := by decide +kernel
theorem dX11_worlds_16 : decode cX11_worlds 16 = .ok (.ifCond .ne 5, 3) := by decide +kernel
theorem dX11_worlds_19 : decode cX11_worlds 19 = .ok (.iconst (-1), 1) := by decide +kernel
theorem dX11_worlds_20 : decode cX11_worlds 20 = .ok (.ireturn, 1) := by decide +kernel
theorem dX11_worlds_21 : decode cX11_worlds 21 = .ok (.aload_n 0, 1) := by decide +kernel
theorem dX11_worlds_22 : decode cX11_worlds 22 = .ok (.getfield 58, 3) := by decide +kernel
theorem dX11_worlds_25 : decode cX11_worlds 25 = .ok (.iload_n 1, 1) := by decide +kernel
theorem dX11_worlds_26 : decode cX11_worlds 26 = .ok (.iload_n 2, 1) := by decide +kernel
theorem dX11_worlds_27 : decode cX11_worlds 27 = .ok (.invokevirtual 341, 3) := by decide +kernel
theorem dX11_worlds_30 : decode cX11_worlds 30 = .ok (.ireturn, 1) := by decide +kernel
theorem eX11_worlds {l : Launch} {g : jm_G} {d : Nat} {v1 v2 : Int} (hg : jm_HC g) {mu : jm_M} {Q : Option Value → jm_M → Prop} (h : jm_rg v1 ∧ (0 ≤ v1 ∧ v1 ≤ 8 → jm_rg v2 ∧ (0 ≤ v2 ∧ v2 ≤ 2 → jm_R l g (d + 1) iX9_worldsWith [.ref 41, jm_i v1, jm_i v2] mu (jm_qi fun z4 m3 => Q (some (jm_i z4)) m3)) ∧ (¬ (0 ≤ v2 ∧ v2 ≤ 2) → Q (some (jm_i (-1))) mu)) ∧ (¬ (0 ≤ v1 ∧ v1 ≤ 8) → Q (some (jm_i (-1))) mu)) : jm_R l g (d + 2) iX11_worlds [.ref 0, jm_i v1, jm_i v2] mu Q := by
  refine jm_enter [(0, .ref 0), (1, jm_i v1), (2, jm_i v2)] (by decide) (Nat.le_of_ble_eq_true rfl) rfl ?_
  refine jm_mrI (fun hm0 => ?_)
  refine jm_iload_n (pc := 0) 1 dX11_worlds_0 rfl ?_
  refine jm_iconst (pc := 1) dX11_worlds_1 ?_
  refine jm_bipush (pc := 2) dX11_worlds_2 (by decide) ?_
  have hg1 := h.1
  have h := h.2
  refine jm_inlsi (pc := 4) (As := [_, _, _]) (st := []) iX11_isWithin dX11_worlds_4 mX11_123 rfl rfl (Nat.le_of_ble_eq_true rfl) (pX11_isWithin hg hg1 ⟨by decide, by decide⟩ ⟨by decide, by decide⟩ (fun q => jm_kIi ?_) (fun q => jm_kIi ?_))
  · have h := h.1 q
    refine jm_if_eq (pc := 7) 19 dX11_worlds_7 rfl ⟨by decide, by decide⟩ (fun q => absurd q (by decide)) (fun q => ?_)
    refine jm_iload_n (pc := 10) 2 dX11_worlds_10 rfl ?_
    refine jm_iconst (pc := 11) dX11_worlds_11 ?_
    refine jm_iconst (pc := 12) dX11_worlds_12 ?_
    have hg2 := h.1
    have h := h.2
    refine jm_inlsi (pc := 13) (As := [_, _, _]) (st := []) iX11_isWithin dX11_worlds_13 mX11_123 rfl rfl (Nat.le_of_ble_eq_true rfl) (pX11_isWithin hg hg2 ⟨by decide, by decide⟩ ⟨by decide, by decide⟩ (fun q => jm_kIi ?_) (fun q => jm_kIi ?_))
    · have h := h.1 q
      refine jm_if_ne (pc := 16) 21 dX11_worlds_16 rfl ⟨by decide, by decide⟩ (fun q => ?_) (fun q => absurd q (by decide))
      refine jm_aload_n (pc := 21) 0 dX11_worlds_21 rfl ?_
      refine jm_getr (pc := 22) 6 dX11_worlds_22 fX11_58 (cC0 hg) rfl ?_
      refine jm_iload_n (pc := 25) 1 dX11_worlds_25 rfl ?_
      refine jm_iload_n (pc := 26) 2 dX11_worlds_26 rfl ?_
      refine jm_callvi (pc := 27) (As := [_, _]) (st := []) iX9_worldsWith dX11_worlds_27 mX11_341 (cC41 hg) ⟨_, rfl, rfl⟩ rfl rfl (Nat.le_of_ble_eq_true rfl) h (fun z4 m3 hz5 h hm6 => ?_)
      exact jm_iret (pc := 30) dX11_worlds_30 rfl h
    · have h := h.2 q
      refine jm_if_ne (pc := 16) 21 dX11_worlds_16 rfl ⟨by decide, by decide⟩ (fun q => absurd q (by decide)) (fun q => ?_)
      refine jm_iconst (pc := 19) dX11_worlds_19 ?_
      exact jm_iret (pc := 20) dX11_worlds_20 rfl h
  · have h := h.2 q
    refine jm_if_eq (pc := 7) 19 dX11_worlds_7 rfl ⟨by decide, by decide⟩ (fun q => ?_) (fun q => absurd q (by decide))
    refine jm_iconst (pc := 19) dX11_worlds_19 ?_
    exact jm_iret (pc := 20) dX11_worlds_20 rfl h
theorem dJ13_bitCount_95d88_0 : decode cJ13_bitCount_95d88 0 = .ok (.lload_n 0, 1) := by decide +kernel
theorem dJ13_bitCount_95d88_1 : decode cJ13_bitCount_95d88 1 = .ok (.lload_n 0, 1) := by decide +kernel
theorem dJ13_bitCount_95d88_2 : decode cJ13_bitCount_95d88 2 = .ok (.iconst 1, 1) := by decide +kernel
theorem dJ13_bitCount_95d88_3 : decode cJ13_bitCount_95d88 3 = .ok (.lushr, 1) := by decide +kernel
theorem dJ13_bitCount_95d88_4 : decode cJ13_bitCount_95d88 4 = .ok (.ldc2_w 314, 3) := by decide +kernel
theorem dJ13_bitCount_95d88_7 : decode cJ13_bitCount_95d88 7 = .ok (.land, 1) := by decide +kernel
theorem dJ13_bitCount_95d88_8 : decode cJ13_bitCount_95d88 8 = .ok (.lsub, 1) := by decide +kernel
theorem dJ13_bitCount_95d88_9 : decode cJ13_bitCount_95d88 9 = .ok (.lstore_n 0, 1) := by decide +kernel
theorem dJ13_bitCount_95d88_10 : decode cJ13_bitCount_95d88 10 = .ok (.lload_n 0, 1) := by decide +kernel
theorem dJ13_bitCount_95d88_11 : decode cJ13_bitCount_95d88 11 = .ok (.ldc2_w 316, 3) := by decide +kernel
theorem dJ13_bitCount_95d88_14 : decode cJ13_bitCount_95d88 14 = .ok (.land, 1) := by decide +kernel
theorem dJ13_bitCount_95d88_15 : decode cJ13_bitCount_95d88 15 = .ok (.lload_n 0, 1) := by decide +kernel
theorem dJ13_bitCount_95d88_16 : decode cJ13_bitCount_95d88 16 = .ok (.iconst 2, 1) := by decide +kernel
theorem dJ13_bitCount_95d88_17 : decode cJ13_bitCount_95d88 17 = .ok (.lushr, 1) := by decide +kernel
theorem dJ13_bitCount_95d88_18 : decode cJ13_bitCount_95d88 18 = .ok (.ldc2_w 316, 3) := by decide +kernel
theorem dJ13_bitCount_95d88_21 : decode cJ13_bitCount_95d88 21 = .ok (.land, 1) := by decide +kernel
theorem dJ13_bitCount_95d88_22 : decode cJ13_bitCount_95d88 22 = .ok (.ladd, 1) := by decide +kernel
theorem dJ13_bitCount_95d88_23 : decode cJ13_bitCount_95d88 23 = .ok (.lstore_n 0, 1) := by decide +kernel
theorem dJ13_bitCount_95d88_24 : decode cJ13_bitCount_95d88 24 = .ok (.lload_n 0, 1) := by decide +kernel
theorem dJ13_bitCount_95d88_25 : decode cJ13_bitCount_95d88 25 = .ok (.lload_n 0, 1) := by decide +kernel
theorem dJ13_bitCount_95d88_26 : decode cJ13_bitCount_95d88 26 = .ok (.iconst 4, 1) := by decide +kernel
theorem dJ13_bitCount_95d88_27 : decode cJ13_bitCount_95d88 27 = .ok (.lushr, 1) := by decide +kernel
theorem dJ13_bitCount_95d88_28 : decode cJ13_bitCount_95d88 28 = .ok (.ladd, 1) := by decide +kernel
theorem dJ13_bitCount_95d88_29 : decode cJ13_bitCount_95d88 29 = .ok (.ldc2_w 318, 3) := by decide +kernel
theorem dJ13_bitCount_95d88_32 : decode cJ13_bitCount_95d88 32 = .ok (.land, 1) := by decide +kernel
theorem dJ13_bitCount_95d88_33 : decode cJ13_bitCount_95d88 33 = .ok (.lstore_n 0, 1) := by decide +kernel
theorem dJ13_bitCount_95d88_34 : decode cJ13_bitCount_95d88 34 = .ok (.lload_n 0, 1) := by decide +kernel
theorem dJ13_bitCount_95d88_35 : decode cJ13_bitCount_95d88 35 = .ok (.lload_n 0, 1) := by decide +kernel
theorem dJ13_bitCount_95d88_36 : decode cJ13_bitCount_95d88 36 = .ok (.bipush 8, 2) := by decide +kernel
theorem dJ13_bitCount_95d88_38 : decode cJ13_bitCount_95d88 38 = .ok (.lushr, 1) := by decide +kernel
theorem dJ13_bitCount_95d88_39 : decode cJ13_bitCount_95d88 39 = .ok (.ladd, 1) := by decide +kernel
theorem dJ13_bitCount_95d88_40 : decode cJ13_bitCount_95d88 40 = .ok (.lstore_n 0, 1) := by decide +kernel
theorem dJ13_bitCount_95d88_41 : decode cJ13_bitCount_95d88 41 = .ok (.lload_n 0, 1) := by decide +kernel
theorem dJ13_bitCount_95d88_42 : decode cJ13_bitCount_95d88 42 = .ok (.lload_n 0, 1) := by decide +kernel
theorem dJ13_bitCount_95d88_43 : decode cJ13_bitCount_95d88 43 = .ok (.bipush 16, 2) := by decide +kernel
theorem dJ13_bitCount_95d88_45 : decode cJ13_bitCount_95d88 45 = .ok (.lushr, 1) := by decide +kernel
theorem dJ13_bitCount_95d88_46 : decode cJ13_bitCount_95d88 46 = .ok (.ladd, 1) := by decide +kernel
theorem dJ13_bitCount_95d88_47 : decode cJ13_bitCount_95d88 47 = .ok (.lstore_n 0, 1) := by decide +kernel
theorem dJ13_bitCount_95d88_48 : decode cJ13_bitCount_95d88 48 = .ok (.lload_n 0, 1) := by decide +kernel
theorem dJ13_bitCount_95d88_49 : decode cJ13_bitCount_95d88 49 = .ok (.lload_n 0, 1) := by decide +kernel
theorem dJ13_bitCount_95d88_50 : decode cJ13_bitCount_95d88 50 = .ok (.bipush 32, 2) := by decide +kernel
theorem dJ13_bitCount_95d88_52 : decode cJ13_bitCount_95d88 52 = .ok (.lushr, 1) := by decide +kernel
theorem dJ13_bitCount_95d88_53 : decode cJ13_bitCount_95d88 53 = .ok (.ladd, 1) := by decide +kernel
theorem dJ13_bitCount_95d88_54 : decode cJ13_bitCount_95d88 54 = .ok (.lstore_n 0, 1) := by decide +kernel
theorem dJ13_bitCount_95d88_55 : decode cJ13_bitCount_95d88 55 = .ok (.lload_n 0, 1) := by decide +kernel
theorem dJ13_bitCount_95d88_56 : decode cJ13_bitCount_95d88 56 = .ok (.l2i, 1) := by decide +kernel
theorem dJ13_bitCount_95d88_57 : decode cJ13_bitCount_95d88 57 = .ok (.bipush 127, 2) := by decide +kernel
theorem dJ13_bitCount_95d88_59 : decode cJ13_bitCount_95d88 59 = .ok (.iand, 1) := by decide +kernel
theorem dJ13_bitCount_95d88_60 : decode cJ13_bitCount_95d88 60 = .ok (.ireturn, 1) := by decide +kernel
theorem eJ13_bitCount_95d88 {l : Launch} {g : jm_G} {d : Nat} {v0 : Int64}  {mu : jm_M} {Q : Option Value → jm_M → Prop} (h : ∀ x1, x1 = (v0 - (((v0.toUInt64 >>> ((Int32.ofInt 1).toInt64.toUInt64 &&& Int64.toUInt64 63)).toInt64) &&& (6148914691236517205 : Int64))) → ∀ x2, x2 = ((x1 &&& (3689348814741910323 : Int64)) + (((x1.toUInt64 >>> ((Int32.ofInt 2).toInt64.toUInt64 &&& Int64.toUInt64 63)).toInt64) &&& (3689348814741910323 : Int64))) → ∀ x3, x3 = ((x2 + ((x2.toUInt64 >>> ((Int32.ofInt 4).toInt64.toUInt64 &&& Int64.toUInt64 63)).toInt64)) &&& (1085102592571150095 : Int64)) → ∀ x4, x4 = (x3 + ((x3.toUInt64 >>> ((Int32.ofInt 8).toInt64.toUInt64 &&& Int64.toUInt64 63)).toInt64)) → ∀ x5, x5 = (x4 + ((x4.toUInt64 >>> ((Int32.ofInt 16).toInt64.toUInt64 &&& Int64.toUInt64 63)).toInt64)) → ∀ x6, x6 = (x5 + ((x5.toUInt64 >>> ((Int32.ofInt 32).toInt64.toUInt64 &&& Int64.toUInt64 63)).toInt64)) → Q (some (jm_i (jm_and (Int32.toInt (Int64.toInt32 x6)) 127))) mu) : jm_R l g (d + 1) iJ13_bitCount_95d88 [.long v0] mu Q := by
  refine jm_enter [(0, .long v0)] (by decide) (Nat.le_of_ble_eq_true rfl) rfl ?_
  refine jm_mrI (fun hm0 => ?_)
  refine jm_lload_n (pc := 0) 0 dJ13_bitCount_95d88_0 rfl ?_
  refine jm_lload_n (pc := 1) 0 dJ13_bitCount_95d88_1 rfl ?_
  refine jm_iconst (pc := 2) dJ13_bitCount_95d88_2 ?_
  refine jm_lushr (pc := 3) dJ13_bitCount_95d88_3 ?_
  refine jm_ldc2 (pc := 4) dJ13_bitCount_95d88_4 kJ13_314 ?_
  refine jm_land (pc := 7) dJ13_bitCount_95d88_7 ?_
  refine jm_lsub (pc := 8) dJ13_bitCount_95d88_8 ?_
  have h := h _ rfl
  refine jm_lstore_n (pc := 9) (lv' := [(0, _)]) dJ13_bitCount_95d88_9 (by decide) rfl ?_
  refine jm_lload_n (pc := 10) 0 dJ13_bitCount_95d88_10 rfl ?_
  refine jm_ldc2 (pc := 11) dJ13_bitCount_95d88_11 kJ13_316 ?_
  refine jm_land (pc := 14) dJ13_bitCount_95d88_14 ?_
  refine jm_lload_n (pc := 15) 0 dJ13_bitCount_95d88_15 rfl ?_
  refine jm_iconst (pc := 16) dJ13_bitCount_95d88_16 ?_
  refine jm_lushr (pc := 17) dJ13_bitCount_95d88_17 ?_
  refine jm_ldc2 (pc := 18) dJ13_bitCount_95d88_18 kJ13_316 ?_
  refine jm_land (pc := 21) dJ13_bitCount_95d88_21 ?_
  refine jm_ladd (pc := 22) dJ13_bitCount_95d88_22 ?_
  have h := h _ rfl
  refine jm_lstore_n (pc := 23) (lv' := [(0, _)]) dJ13_bitCount_95d88_23 (by decide) rfl ?_
  refine jm_lload_n (pc := 24) 0 dJ13_bitCount_95d88_24 rfl ?_
  refine jm_lload_n (pc := 25) 0 dJ13_bitCount_95d88_25 rfl ?_
  refine jm_iconst (pc := 26) dJ13_bitCount_95d88_26 ?_
  refine jm_lushr (pc := 27) dJ13_bitCount_95d88_27 ?_
  refine jm_ladd (pc := 28) dJ13_bitCount_95d88_28 ?_
  refine jm_ldc2 (pc := 29) dJ13_bitCount_95d88_29 kJ13_318 ?_
  refine jm_land (pc := 32) dJ13_bitCount_95d88_32 ?_
  have h := h _ rfl
  refine jm_lstore_n (pc := 33) (lv' := [(0, _)]) dJ13_bitCount_95d88_33 (by decide) rfl ?_
  refine jm_lload_n (pc := 34) 0 dJ13_bitCount_95d88_34 rfl ?_
  refine jm_lload_n (pc := 35) 0 dJ13_bitCount_95d88_35 rfl ?_
  refine jm_bipush (pc := 36) dJ13_bitCount_95d88_36 (by decide) ?_
  refine jm_lushr (pc := 38) dJ13_bitCount_95d88_38 ?_
  refine jm_ladd (pc := 39) dJ13_bitCount_95d88_39 ?_
  have h := h _ rfl
  refine jm_lstore_n (pc := 40) (lv' := [(0, _)]) dJ13_bitCount_95d88_40 (by decide) rfl ?_
  refine jm_lload_n (pc := 41) 0 dJ13_bitCount_95d88_41 rfl ?_
  refine jm_lload_n (pc := 42) 0 dJ13_bitCount_95d88_42 rfl ?_
  refine jm_bipush (pc := 43) dJ13_bitCount_95d88_43 (by decide) ?_
  refine jm_lushr (pc := 45) dJ13_bitCount_95d88_45 ?_
  refine jm_ladd (pc := 46) dJ13_bitCount_95d88_46 ?_
  have h := h _ rfl
  refine jm_lstore_n (pc := 47) (lv' := [(0, _)]) dJ13_bitCount_95d88_47 (by decide) rfl ?_
  refine jm_lload_n (pc := 48) 0 dJ13_bitCount_95d88_48 rfl ?_
  refine jm_lload_n (pc := 49) 0 dJ13_bitCount_95d88_49 rfl ?_
  refine jm_bipush (pc := 50) dJ13_bitCount_95d88_50 (by decide) ?_
  refine jm_lushr (pc := 52) dJ13_bitCount_95d88_52 ?_
  refine jm_ladd (pc := 53) dJ13_bitCount_95d88_53 ?_
  have h := h _ rfl
  refine jm_lstore_n (pc := 54) (lv' := [(0, _)]) dJ13_bitCount_95d88_54 (by decide) rfl ?_
  refine jm_lload_n (pc := 55) 0 dJ13_bitCount_95d88_55 rfl ?_
  refine jm_l2i (pc := 56) dJ13_bitCount_95d88_56 ?_
  refine jm_bipush (pc := 57) dJ13_bitCount_95d88_57 (by decide) ?_
  refine jm_iand (pc := 59) dJ13_bitCount_95d88_59 ?_
  exact jm_iret (pc := 60) dJ13_bitCount_95d88_60 rfl h
theorem dX10_chosen_0 : decode cX10_chosen 0 = .ok (.iload_n 0, 1) := by decide +kernel
theorem dX10_chosen_1 : decode cX10_chosen 1 = .ok (.iconst 1, 1) := by decide +kernel
theorem dX10_chosen_2 : decode cX10_chosen 2 = .ok (.if_icmp .ne 5, 3) := by decide +kernel
theorem dX10_chosen_5 : decode cX10_chosen 5 = .ok (.iload_n 1, 1) := by decide +kernel
theorem dX10_chosen_6 : decode cX10_chosen 6 = .ok (.ireturn, 1) := by decide +kernel
theorem dX10_chosen_7 : decode cX10_chosen 7 = .ok (.iload_n 0, 1) := by decide +kernel
theorem dX10_chosen_8 : decode cX10_chosen 8 = .ok (.iconst 2, 1) := by decide +kernel
theorem dX10_chosen_9 : decode cX10_chosen 9 = .ok (.if_icmp .ne 7, 3) := by decide +kernel
theorem dX10_chosen_12 : decode cX10_chosen 12 = .ok (.iload_n 2, 1) := by decide +kernel
theorem dX10_chosen_13 : decode cX10_chosen 13 = .ok (.goto 4, 3) := by decide +kernel
theorem dX10_chosen_16 : decode cX10_chosen 16 = .ok (.iload_n 3, 1) := by decide +kernel
theorem dX10_chosen_17 : decode cX10_chosen 17 = .ok (.ireturn, 1) := by decide +kernel
theorem eX10_chosen {l : Launch} {g : jm_G} {d : Nat} {v0 v1 v2 v3 : Int} (hg : jm_HC g) {mu : jm_M} {Q : Option Value → jm_M → Prop} (h : jm_rg v0 ∧ (¬ v0 = 1 → (¬ v0 = 2 → Q (some (jm_i v3)) mu) ∧ (v0 = 2 → Q (some (jm_i v2)) mu)) ∧ (v0 = 1 → Q (some (jm_i v1)) mu)) : jm_R l g (d + 1) iX10_chosen [jm_i v0, jm_i v1, jm_i v2, jm_i v3] mu Q := by
  refine jm_enter [(0, jm_i v0), (1, jm_i v1), (2, jm_i v2), (3, jm_i v3)] (by decide) (Nat.le_of_ble_eq_true rfl) rfl ?_
  refine jm_mrI (fun hm0 => ?_)
  refine jm_iload_n (pc := 0) 0 dX10_chosen_0 rfl ?_
  refine jm_iconst (pc := 1) dX10_chosen_1 ?_
  have hg1 := h.1
  have h := h.2
  refine jm_icmp_ne (pc := 2) 7 dX10_chosen_2 rfl hg1 ⟨by decide, by decide⟩ (fun q => ?_) (fun q => ?_)
  · have h := h.1 q
    refine jm_iload_n (pc := 7) 0 dX10_chosen_7 rfl ?_
    refine jm_iconst (pc := 8) dX10_chosen_8 ?_
    refine jm_icmp_ne (pc := 9) 16 dX10_chosen_9 rfl hg1 ⟨by decide, by decide⟩ (fun q => ?_) (fun q => ?_)
    · have h := h.1 q
      refine jm_iload_n (pc := 16) 3 dX10_chosen_16 rfl ?_
      exact jm_iret (pc := 17) dX10_chosen_17 rfl h
    · have h := h.2 q
      refine jm_iload_n (pc := 12) 2 dX10_chosen_12 rfl ?_
      refine jm_goto (pc := 13) 17 dX10_chosen_13 rfl ?_
      exact jm_iret (pc := 17) dX10_chosen_17 rfl h
  · have h := h.2 q
    refine jm_iload_n (pc := 5) 1 dX10_chosen_5 rfl ?_
    exact jm_iret (pc := 6) dX10_chosen_6 rfl h
