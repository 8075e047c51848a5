theorem dX12_emitsStep_0 : decode cX12_emitsStep 0 = .ok (.iconst 4, 1) := by decide +kernel
theorem dX12_emitsStep_1 : decode cX12_emitsStep 1 = .ok (.aload_n 0, 1) := by decide +kernel
theorem dX12_emitsStep_2 : decode cX12_emitsStep 2 = .ok (.getfield 259, 3) := by decide +kernel
theorem dX12_emitsStep_5 : decode cX12_emitsStep 5 = .ok (.imul, 1) := by decide +kernel
theorem dX12_emitsStep_6 : decode cX12_emitsStep 6 = .ok (.istore 5, 2) := by decide +kernel
theorem dX12_emitsStep_8 : decode cX12_emitsStep 8 = .ok (.aload_n 0, 1) := by decide +kernel
theorem dX12_emitsStep_9 : decode cX12_emitsStep 9 = .ok (.getfield 65, 3) := by decide +kernel
theorem dX12_emitsStep_12 : decode cX12_emitsStep 12 = .ok (.iload 5, 2) := by decide +kernel
theorem dX12_emitsStep_14 : decode cX12_emitsStep 14 = .ok (.iload_n 1, 1) := by decide +kernel
theorem dX12_emitsStep_15 : decode cX12_emitsStep 15 = .ok (.iastore, 1) := by decide +kernel
theorem dX12_emitsStep_16 : decode cX12_emitsStep 16 = .ok (.aload_n 0, 1) := by decide +kernel
theorem dX12_emitsStep_17 : decode cX12_emitsStep 17 = .ok (.getfield 65, 3) := by decide +kernel
theorem dX12_emitsStep_20 : decode cX12_emitsStep 20 = .ok (.iload 5, 2) := by decide +kernel
theorem dX12_emitsStep_22 : decode cX12_emitsStep 22 = .ok (.iconst 1, 1) := by decide +kernel
theorem dX12_emitsStep_23 : decode cX12_emitsStep 23 = .ok (.iadd, 1) := by decide +kernel
theorem dX12_emitsStep_24 : decode cX12_emitsStep 24 = .ok (.iload_n 2, 1) := by decide +kernel
theorem dX12_emitsStep_25 : decode cX12_emitsStep 25 = .ok (.iastore, 1) := by decide +kernel
theorem dX12_emitsStep_26 : decode cX12_emitsStep 26 = .ok (.aload_n 0, 1) := by decide +kernel
theorem dX12_emitsStep_27 : decode cX12_emitsStep 27 = .ok (.getfield 65, 3) := by decide +kernel
theorem dX12_emitsStep_30 : decode cX12_emitsStep 30 = .ok (.iload 5, 2) := by decide +kernel
theorem dX12_emitsStep_32 : decode cX12_emitsStep 32 = .ok (.iconst 2, 1) := by decide +kernel
theorem dX12_emitsStep_33 : decode cX12_emitsStep 33 = .ok (.iadd, 1) := by decide +kernel
theorem dX12_emitsStep_34 : decode cX12_emitsStep 34 = .ok (.iload_n 3, 1) := by decide +kernel
theorem dX12_emitsStep_35 : decode cX12_emitsStep 35 = .ok (.iastore, 1) := by decide +kernel
theorem dX12_emitsStep_36 : decode cX12_emitsStep 36 = .ok (.aload_n 0, 1) := by decide +kernel
theorem dX12_emitsStep_37 : decode cX12_emitsStep 37 = .ok (.getfield 65, 3) := by decide +kernel
theorem dX12_emitsStep_40 : decode cX12_emitsStep 40 = .ok (.iload 5, 2) := by decide +kernel
theorem dX12_emitsStep_42 : decode cX12_emitsStep 42 = .ok (.iconst 3, 1) := by decide +kernel
theorem dX12_emitsStep_43 : decode cX12_emitsStep 43 = .ok (.iadd, 1) := by decide +kernel
theorem dX12_emitsStep_44 : decode cX12_emitsStep 44 = .ok (.iload 4, 2) := by decide +kernel
theorem dX12_emitsStep_46 : decode cX12_emitsStep 46 = .ok (.iastore, 1) := by decide +kernel
theorem dX12_emitsStep_47 : decode cX12_emitsStep 47 = .ok (.aload_n 0, 1) := by decide +kernel
theorem dX12_emitsStep_48 : decode cX12_emitsStep 48 = .ok (.aload_n 0, 1) := by decide +kernel
theorem dX12_emitsStep_49 : decode cX12_emitsStep 49 = .ok (.getfield 259, 3) := by decide +kernel
theorem dX12_emitsStep_52 : decode cX12_emitsStep 52 = .ok (.iconst 1, 1) := by decide +kernel
theorem dX12_emitsStep_53 : decode cX12_emitsStep 53 = .ok (.iadd, 1) := by decide +kernel
theorem dX12_emitsStep_54 : decode cX12_emitsStep 54 = .ok (.putfield 259, 3) := by decide +kernel
theorem dX12_emitsStep_57 : decode cX12_emitsStep 57 = .ok (.return_, 1) := by decide +kernel
theorem eX12_emitsStep {l : Launch} {g : jm_G} {d : Nat} {v1 v2 v3 v4 : Int} (hg : jm_HR g) {mu : jm_M} {Q : Option Value → jm_M → Prop} (h : ∀ x1, x1 = (4 * (mu.1 0 38)) → (0 ≤ x1 ∧ x1 < 800) ∧ jm_rg v1 ∧ ∀ m4, m4 = jm_wr mu 18 x1 v1 → (0 ≤ (x1 + 1) ∧ (x1 + 1) < 800) ∧ jm_rg v2 ∧ ∀ m8, m8 = jm_wr m4 18 (x1 + 1) v2 → (0 ≤ (x1 + 2) ∧ (x1 + 2) < 800) ∧ jm_rg v3 ∧ ∀ m12, m12 = jm_wr m8 18 (x1 + 2) v3 → (0 ≤ (x1 + 3) ∧ (x1 + 3) < 800) ∧ jm_rg v4 ∧ ∀ m16, m16 = jm_wr m12 18 (x1 + 3) v4 → jm_rg ((m16.1 0 38) + 1) ∧ ∀ m19, m19 = jm_wr m16 0 38 ((m16.1 0 38) + 1) → Q none m19) : jm_R l g (d + 1) iX12_emitsStep [.ref 0, jm_i v1, jm_i v2, jm_i v3, jm_i v4] mu Q := by
  refine jm_enter [(0, .ref 0), (1, jm_i v1), (2, jm_i v2), (3, jm_i v3), (4, jm_i v4)] (by decide) (Nat.le_of_ble_eq_true rfl) rfl ?_
  refine jm_mrI (fun hm0 => ?_)
  refine jm_iconst (pc := 0) dX12_emitsStep_0 ?_
  refine jm_aload_n (pc := 1) 0 dX12_emitsStep_1 rfl ?_
  refine jm_geti (pc := 2) 38 dX12_emitsStep_2 fX12_259 (cR0 hg) rfl ?_
  refine jm_imul (pc := 5) dX12_emitsStep_5 ?_
  have h := h _ rfl
  refine jm_istore (pc := 6) (lv' := [(5, _), (0, _), (1, _), (2, _), (3, _), (4, _)]) dX12_emitsStep_6 (by decide) rfl ?_
  refine jm_aload_n (pc := 8) 1 dX12_emitsStep_8 rfl ?_
  refine jm_getr (pc := 9) 37 dX12_emitsStep_9 fX12_65 (cR0 hg) rfl ?_
  refine jm_iload (pc := 12) 0 dX12_emitsStep_12 rfl ?_
  refine jm_iload_n (pc := 14) 2 dX12_emitsStep_14 rfl ?_
  have hg2 := h.1
  have h := h.2
  have hg3 := h.1
  have h := h.2
  refine jm_iast (pc := 15) dX12_emitsStep_15 (cR18 hg) (by decide) hg2.1 hg2.2 hg3 ?_
  have h := h _ rfl
  refine jm_mrI (fun hm5 => ?_)
  refine jm_aload_n (pc := 16) 1 dX12_emitsStep_16 rfl ?_
  refine jm_getr (pc := 17) 37 dX12_emitsStep_17 fX12_65 (cR0 hg) rfl ?_
  refine jm_iload (pc := 20) 0 dX12_emitsStep_20 rfl ?_
  refine jm_iconst (pc := 22) dX12_emitsStep_22 ?_
  refine jm_iadd (pc := 23) dX12_emitsStep_23 ?_
  refine jm_iload_n (pc := 24) 3 dX12_emitsStep_24 rfl ?_
  have hg6 := h.1
  have h := h.2
  have hg7 := h.1
  have h := h.2
  refine jm_iast (pc := 25) dX12_emitsStep_25 (cR18 hg) (by decide) hg6.1 hg6.2 hg7 ?_
  have h := h _ rfl
  refine jm_mrI (fun hm9 => ?_)
  refine jm_aload_n (pc := 26) 1 dX12_emitsStep_26 rfl ?_
  refine jm_getr (pc := 27) 37 dX12_emitsStep_27 fX12_65 (cR0 hg) rfl ?_
  refine jm_iload (pc := 30) 0 dX12_emitsStep_30 rfl ?_
  refine jm_iconst (pc := 32) dX12_emitsStep_32 ?_
  refine jm_iadd (pc := 33) dX12_emitsStep_33 ?_
  refine jm_iload_n (pc := 34) 4 dX12_emitsStep_34 rfl ?_
  have hg10 := h.1
  have h := h.2
  have hg11 := h.1
  have h := h.2
  refine jm_iast (pc := 35) dX12_emitsStep_35 (cR18 hg) (by decide) hg10.1 hg10.2 hg11 ?_
  have h := h _ rfl
  refine jm_mrI (fun hm13 => ?_)
  refine jm_aload_n (pc := 36) 1 dX12_emitsStep_36 rfl ?_
  refine jm_getr (pc := 37) 37 dX12_emitsStep_37 fX12_65 (cR0 hg) rfl ?_
  refine jm_iload (pc := 40) 0 dX12_emitsStep_40 rfl ?_
  refine jm_iconst (pc := 42) dX12_emitsStep_42 ?_
  refine jm_iadd (pc := 43) dX12_emitsStep_43 ?_
  refine jm_iload (pc := 44) 5 dX12_emitsStep_44 rfl ?_
  have hg14 := h.1
  have h := h.2
  have hg15 := h.1
  have h := h.2
  refine jm_iast (pc := 46) dX12_emitsStep_46 (cR18 hg) (by decide) hg14.1 hg14.2 hg15 ?_
  have h := h _ rfl
  refine jm_mrI (fun hm17 => ?_)
  refine jm_aload_n (pc := 47) 1 dX12_emitsStep_47 rfl ?_
  refine jm_aload_n (pc := 48) 1 dX12_emitsStep_48 rfl ?_
  refine jm_geti (pc := 49) 38 dX12_emitsStep_49 fX12_259 (cR0 hg) rfl ?_
  refine jm_iconst (pc := 52) dX12_emitsStep_52 ?_
  refine jm_iadd (pc := 53) dX12_emitsStep_53 ?_
  have hg18 := h.1
  have h := h.2
  refine jm_put (pc := 54) 38 dX12_emitsStep_54 fX12_259 ftX12 (fun q h => by cases h; rfl) (jm_nI _) (jm_fI _) (cR0 hg) rfl hg18 ?_
  have h := h _ rfl
  refine jm_mrI (fun hm20 => ?_)
  exact jm_vret (pc := 57) dX12_emitsStep_57 rfl h
theorem dX12_readCall_0 : decode cX12_readCall 0 = .ok (.aload_n 0, 1) := by decide +kernel
theorem dX12_readCall_1 : decode cX12_readCall 1 = .ok (.bipush 22, 2) := by decide +kernel
theorem dX12_readCall_3 : decode cX12_readCall 3 = .ok (.iconst 0, 1) := by decide +kernel
theorem dX12_readCall_4 : decode cX12_readCall 4 = .ok (.aload_n 0, 1) := by decide +kernel
theorem dX12_readCall_5 : decode cX12_readCall 5 = .ok (.getfield 121, 3) := by decide +kernel
theorem dX12_readCall_8 : decode cX12_readCall 8 = .ok (.iconst 1, 1) := by decide +kernel
theorem dX12_readCall_9 : decode cX12_readCall 9 = .ok (.isub, 1) := by decide +kernel
theorem dX12_readCall_10 : decode cX12_readCall 10 = .ok (.invokevirtual 247, 3) := by decide +kernel
theorem dX12_readCall_13 : decode cX12_readCall 13 = .ok (.istore_n 1, 1) := by decide +kernel
theorem dX12_readCall_14 : decode cX12_readCall 14 = .ok (.iload_n 1, 1) := by decide +kernel
theorem dX12_readCall_15 : decode cX12_readCall 15 = .ok (.iconst (-1), 1) := by decide +kernel
theorem dX12_readCall_16 : decode cX12_readCall 16 = .ok (.if_icmp .ne 5, 3) := by decide +kernel
theorem dX12_readCall_19 : decode cX12_readCall 19 = .ok (.iconst (-1), 1) := by decide +kernel
theorem dX12_readCall_20 : decode cX12_readCall 20 = .ok (.ireturn, 1) := by decide +kernel
theorem dX12_readCall_21 : decode cX12_readCall 21 = .ok (.aload_n 0, 1) := by decide +kernel
theorem dX12_readCall_22 : decode cX12_readCall 22 = .ok (.bipush 23, 2) := by decide +kernel
theorem dX12_readCall_24 : decode cX12_readCall 24 = .ok (.iconst 0, 1) := by decide +kernel
theorem dX12_readCall_25 : decode cX12_readCall 25 = .ok (.iconst 5, 1) := by decide +kernel
theorem dX12_readCall_26 : decode cX12_readCall 26 = .ok (.invokevirtual 247, 3) := by decide +kernel
theorem dX12_readCall_29 : decode cX12_readCall 29 = .ok (.istore_n 2, 1) := by decide +kernel
theorem dX12_readCall_30 : decode cX12_readCall 30 = .ok (.iload_n 2, 1) := by decide +kernel
theorem dX12_readCall_31 : decode cX12_readCall 31 = .ok (.iconst (-1), 1) := by decide +kernel
theorem dX12_readCall_32 : decode cX12_readCall 32 = .ok (.if_icmp .ne 5, 3) := by decide +kernel
theorem dX12_readCall_35 : decode cX12_readCall 35 = .ok (.iconst (-1), 1) := by decide +kernel
theorem dX12_readCall_36 : decode cX12_readCall 36 = .ok (.ireturn, 1) := by decide +kernel
theorem dX12_readCall_37 : decode cX12_readCall 37 = .ok (.aload_n 0, 1) := by decide +kernel
theorem dX12_readCall_38 : decode cX12_readCall 38 = .ok (.bipush 24, 2) := by decide +kernel
theorem dX12_readCall_40 : decode cX12_readCall 40 = .ok (.iconst 0, 1) := by decide +kernel
theorem dX12_readCall_41 : decode cX12_readCall 41 = .ok (.bipush 59, 2) := by decide +kernel
theorem dX12_readCall_43 : decode cX12_readCall 43 = .ok (.invokevirtual 247, 3) := by decide +kernel
theorem dX12_readCall_46 : decode cX12_readCall 46 = .ok (.istore_n 3, 1) := by decide +kernel
theorem dX12_readCall_47 : decode cX12_readCall 47 = .ok (.iload_n 3, 1) := by decide +kernel
theorem dX12_readCall_48 : decode cX12_readCall 48 = .ok (.iconst (-1), 1) := by decide +kernel
theorem dX12_readCall_49 : decode cX12_readCall 49 = .ok (.if_icmp .ne 5, 3) := by decide +kernel
theorem dX12_readCall_52 : decode cX12_readCall 52 = .ok (.iconst (-1), 1) := by decide +kernel
theorem dX12_readCall_53 : decode cX12_readCall 53 = .ok (.ireturn, 1) := by decide +kernel
theorem dX12_readCall_54 : decode cX12_readCall 54 = .ok (.aload_n 0, 1) := by decide +kernel
theorem dX12_readCall_55 : decode cX12_readCall 55 = .ok (.iconst 0, 1) := by decide +kernel
theorem dX12_readCall_56 : decode cX12_readCall 56 = .ok (.iload_n 1, 1) := by decide +kernel
theorem dX12_readCall_57 : decode cX12_readCall 57 = .ok (.iload_n 2, 1) := by decide +kernel
theorem dX12_readCall_58 : decode cX12_readCall 58 = .ok (.iload_n 3, 1) := by decide +kernel
theorem dX12_readCall_59 : decode cX12_readCall 59 = .ok (.invokevirtual 262, 3) := by decide +kernel
theorem dX12_readCall_62 : decode cX12_readCall 62 = .ok (.iconst 0, 1) := by decide +kernel
theorem dX12_readCall_63 : decode cX12_readCall 63 = .ok (.ireturn, 1) := by decide +kernel
theorem eX12_readCall {l : Launch} {g : jm_G} {d : Nat} (hg : jm_HR g) {mu : jm_M} {Q : Option Value → jm_M → Prop} (h : jm_R l g d iX12_readTold [.ref 0, jm_i 22, jm_i 0, jm_i ((mu.1 0 4) - 1)] mu (jm_qi fun z2 m1 => (¬ z2 = (-1) → jm_R l g d iX12_readTold [.ref 0, jm_i 23, jm_i 0, jm_i 5] m1 (jm_qi fun z6 m5 => (¬ z6 = (-1) → jm_R l g d iX12_readTold [.ref 0, jm_i 24, jm_i 0, jm_i 59] m5 (jm_qi fun z10 m9 => (¬ z10 = (-1) → jm_R l g d iX12_emitsStep [.ref 0, jm_i 0, jm_i z2, jm_i z6, jm_i z10] m9 (jm_qv fun m13 => Q (some (jm_i 0)) m13)) ∧ (z10 = (-1) → Q (some (jm_i (-1))) m9))) ∧ (z6 = (-1) → Q (some (jm_i (-1))) m5))) ∧ (z2 = (-1) → Q (some (jm_i (-1))) m1))) : jm_R l g (d + 1) iX12_readCall [.ref 0] mu Q := by
  refine jm_enter [(0, .ref 0)] (by decide) (Nat.le_of_ble_eq_true rfl) rfl ?_
  refine jm_mrI (fun hm0 => ?_)
  refine jm_aload_n (pc := 0) 0 dX12_readCall_0 rfl ?_
  refine jm_bipush (pc := 1) dX12_readCall_1 (by decide) ?_
  refine jm_iconst (pc := 3) dX12_readCall_3 ?_
  refine jm_aload_n (pc := 4) 0 dX12_readCall_4 rfl ?_
  refine jm_geti (pc := 5) 4 dX12_readCall_5 fX12_121 (cR0 hg) rfl ?_
  refine jm_iconst (pc := 8) dX12_readCall_8 ?_
  refine jm_isub (pc := 9) dX12_readCall_9 ?_
  refine jm_callvi (pc := 10) (As := [_, _, _]) (st := []) iX12_readTold dX12_readCall_10 mX12_247 (cR0 hg) ⟨_, rfl, rfl⟩ rfl rfl (Nat.le_of_ble_eq_true rfl) h (fun z2 m1 hz3 h hm4 => ?_)
  refine jm_istore_n (pc := 13) (lv' := [(1, _), (0, _)]) dX12_readCall_13 (by decide) rfl ?_
  refine jm_iload_n (pc := 14) 0 dX12_readCall_14 rfl ?_
  refine jm_iconst (pc := 15) dX12_readCall_15 ?_
  refine jm_icmp_ne (pc := 16) 21 dX12_readCall_16 rfl hz3 ⟨by decide, by decide⟩ (fun q => ?_) (fun q => ?_)
  · have h := h.1 q
    refine jm_aload_n (pc := 21) 1 dX12_readCall_21 rfl ?_
    refine jm_bipush (pc := 22) dX12_readCall_22 (by decide) ?_
    refine jm_iconst (pc := 24) dX12_readCall_24 ?_
    refine jm_iconst (pc := 25) dX12_readCall_25 ?_
    refine jm_callvi (pc := 26) (As := [_, _, _]) (st := []) iX12_readTold dX12_readCall_26 mX12_247 (cR0 hg) ⟨_, rfl, rfl⟩ rfl rfl (Nat.le_of_ble_eq_true rfl) h (fun z6 m5 hz7 h hm8 => ?_)
    refine jm_istore_n (pc := 29) (lv' := [(2, _), (1, _), (0, _)]) dX12_readCall_29 (by decide) rfl ?_
    refine jm_iload_n (pc := 30) 0 dX12_readCall_30 rfl ?_
    refine jm_iconst (pc := 31) dX12_readCall_31 ?_
    refine jm_icmp_ne (pc := 32) 37 dX12_readCall_32 rfl hz7 ⟨by decide, by decide⟩ (fun q => ?_) (fun q => ?_)
    · have h := h.1 q
      refine jm_aload_n (pc := 37) 2 dX12_readCall_37 rfl ?_
      refine jm_bipush (pc := 38) dX12_readCall_38 (by decide) ?_
      refine jm_iconst (pc := 40) dX12_readCall_40 ?_
      refine jm_bipush (pc := 41) dX12_readCall_41 (by decide) ?_
      refine jm_callvi (pc := 43) (As := [_, _, _]) (st := []) iX12_readTold dX12_readCall_43 mX12_247 (cR0 hg) ⟨_, rfl, rfl⟩ rfl rfl (Nat.le_of_ble_eq_true rfl) h (fun z10 m9 hz11 h hm12 => ?_)
      refine jm_istore_n (pc := 46) (lv' := [(3, _), (2, _), (1, _), (0, _)]) dX12_readCall_46 (by decide) rfl ?_
      refine jm_iload_n (pc := 47) 0 dX12_readCall_47 rfl ?_
      refine jm_iconst (pc := 48) dX12_readCall_48 ?_
      refine jm_icmp_ne (pc := 49) 54 dX12_readCall_49 rfl hz11 ⟨by decide, by decide⟩ (fun q => ?_) (fun q => ?_)
      · have h := h.1 q
        refine jm_aload_n (pc := 54) 3 dX12_readCall_54 rfl ?_
        refine jm_iconst (pc := 55) dX12_readCall_55 ?_
        refine jm_iload_n (pc := 56) 2 dX12_readCall_56 rfl ?_
        refine jm_iload_n (pc := 57) 1 dX12_readCall_57 rfl ?_
        refine jm_iload_n (pc := 58) 0 dX12_readCall_58 rfl ?_
        refine jm_callvv (pc := 59) (As := [_, _, _, _]) (st := []) iX12_emitsStep dX12_readCall_59 mX12_262 (cR0 hg) ⟨_, rfl, rfl⟩ rfl rfl (Nat.le_of_ble_eq_true rfl) h (fun m13 h hm16 => ?_)
        refine jm_iconst (pc := 62) dX12_readCall_62 ?_
        exact jm_iret (pc := 63) dX12_readCall_63 rfl h
      · have h := h.2 q
        refine jm_iconst (pc := 52) dX12_readCall_52 ?_
        exact jm_iret (pc := 53) dX12_readCall_53 rfl h
    · have h := h.2 q
      refine jm_iconst (pc := 35) dX12_readCall_35 ?_
      exact jm_iret (pc := 36) dX12_readCall_36 rfl h
  · have h := h.2 q
    refine jm_iconst (pc := 19) dX12_readCall_19 ?_
    exact jm_iret (pc := 20) dX12_readCall_20 rfl h
theorem dX12_readCross_0 : decode cX12_readCross 0 = .ok (.aload_n 0, 1) := by decide +kernel
theorem dX12_readCross_1 : decode cX12_readCross 1 = .ok (.bipush 25, 2) := by decide +kernel
theorem dX12_readCross_3 : decode cX12_readCross 3 = .ok (.iconst 0, 1) := by decide +kernel
theorem dX12_readCross_4 : decode cX12_readCross 4 = .ok (.aload_n 0, 1) := by decide +kernel
theorem dX12_readCross_5 : decode cX12_readCross 5 = .ok (.getfield 121, 3) := by decide +kernel
theorem dX12_readCross_8 : decode cX12_readCross 8 = .ok (.iconst 1, 1) := by decide +kernel
theorem dX12_readCross_9 : decode cX12_readCross 9 = .ok (.isub, 1) := by decide +kernel
theorem dX12_readCross_10 : decode cX12_readCross 10 = .ok (.invokevirtual 247, 3) := by decide +kernel
theorem dX12_readCross_13 : decode cX12_readCross 13 = .ok (.istore_n 1, 1) := by decide +kernel
theorem dX12_readCross_14 : decode cX12_readCross 14 = .ok (.iload_n 1, 1) := by decide +kernel
theorem dX12_readCross_15 : decode cX12_readCross 15 = .ok (.iconst (-1), 1) := by decide +kernel
theorem dX12_readCross_16 : decode cX12_readCross 16 = .ok (.if_icmp .ne 5, 3) := by decide +kernel
theorem dX12_readCross_19 : decode cX12_readCross 19 = .ok (.iconst (-1), 1) := by decide +kernel
theorem dX12_readCross_20 : decode cX12_readCross 20 = .ok (.ireturn, 1) := by decide +kernel
theorem dX12_readCross_21 : decode cX12_readCross 21 = .ok (.aload_n 0, 1) := by decide +kernel
theorem dX12_readCross_22 : decode cX12_readCross 22 = .ok (.iconst 1, 1) := by decide +kernel
theorem dX12_readCross_23 : decode cX12_readCross 23 = .ok (.iload_n 1, 1) := by decide +kernel
theorem dX12_readCross_24 : decode cX12_readCross 24 = .ok (.iconst 0, 1) := by decide +kernel
theorem dX12_readCross_25 : decode cX12_readCross 25 = .ok (.iconst 0, 1) := by decide +kernel
theorem dX12_readCross_26 : decode cX12_readCross 26 = .ok (.invokevirtual 262, 3) := by decide +kernel
theorem dX12_readCross_29 : decode cX12_readCross 29 = .ok (.iconst 0, 1) := by decide +kernel
theorem dX12_readCross_30 : decode cX12_readCross 30 = .ok (.ireturn, 1) := by decide +kernel
theorem eX12_readCross {l : Launch} {g : jm_G} {d : Nat} (hg : jm_HR g) {mu : jm_M} {Q : Option Value → jm_M → Prop} (h : jm_R l g d iX12_readTold [.ref 0, jm_i 25, jm_i 0, jm_i ((mu.1 0 4) - 1)] mu (jm_qi fun z2 m1 => (¬ z2 = (-1) → jm_R l g d iX12_emitsStep [.ref 0, jm_i 1, jm_i z2, jm_i 0, jm_i 0] m1 (jm_qv fun m5 => Q (some (jm_i 0)) m5)) ∧ (z2 = (-1) → Q (some (jm_i (-1))) m1))) : jm_R l g (d + 1) iX12_readCross [.ref 0] mu Q := by
  refine jm_enter [(0, .ref 0)] (by decide) (Nat.le_of_ble_eq_true rfl) rfl ?_
  refine jm_mrI (fun hm0 => ?_)
  refine jm_aload_n (pc := 0) 0 dX12_readCross_0 rfl ?_
  refine jm_bipush (pc := 1) dX12_readCross_1 (by decide) ?_
  refine jm_iconst (pc := 3) dX12_readCross_3 ?_
  refine jm_aload_n (pc := 4) 0 dX12_readCross_4 rfl ?_
  refine jm_geti (pc := 5) 4 dX12_readCross_5 fX12_121 (cR0 hg) rfl ?_
  refine jm_iconst (pc := 8) dX12_readCross_8 ?_
  refine jm_isub (pc := 9) dX12_readCross_9 ?_
  refine jm_callvi (pc := 10) (As := [_, _, _]) (st := []) iX12_readTold dX12_readCross_10 mX12_247 (cR0 hg) ⟨_, rfl, rfl⟩ rfl rfl (Nat.le_of_ble_eq_true rfl) h (fun z2 m1 hz3 h hm4 => ?_)
  refine jm_istore_n (pc := 13) (lv' := [(1, _), (0, _)]) dX12_readCross_13 (by decide) rfl ?_
  refine jm_iload_n (pc := 14) 0 dX12_readCross_14 rfl ?_
  refine jm_iconst (pc := 15) dX12_readCross_15 ?_
  refine jm_icmp_ne (pc := 16) 21 dX12_readCross_16 rfl hz3 ⟨by decide, by decide⟩ (fun q => ?_) (fun q => ?_)
  · have h := h.1 q
    refine jm_aload_n (pc := 21) 1 dX12_readCross_21 rfl ?_
    refine jm_iconst (pc := 22) dX12_readCross_22 ?_
    refine jm_iload_n (pc := 23) 0 dX12_readCross_23 rfl ?_
    refine jm_iconst (pc := 24) dX12_readCross_24 ?_
    refine jm_iconst (pc := 25) dX12_readCross_25 ?_
    refine jm_callvv (pc := 26) (As := [_, _, _, _]) (st := []) iX12_emitsStep dX12_readCross_26 mX12_262 (cR0 hg) ⟨_, rfl, rfl⟩ rfl rfl (Nat.le_of_ble_eq_true rfl) h (fun m5 h hm8 => ?_)
    refine jm_iconst (pc := 29) dX12_readCross_29 ?_
    exact jm_iret (pc := 30) dX12_readCross_30 rfl h
  · have h := h.2 q
    refine jm_iconst (pc := 19) dX12_readCross_19 ?_
    exact jm_iret (pc := 20) dX12_readCross_20 rfl h
theorem dX12_readAgain_0 : decode cX12_readAgain 0 = .ok (.aload_n 0, 1) := by decide +kernel
theorem dX12_readAgain_1 : decode cX12_readAgain 1 = .ok (.getfield 219, 3) := by decide +kernel
theorem dX12_readAgain_4 : decode cX12_readAgain 4 = .ok (.iconst 4, 1) := by decide +kernel
theorem dX12_readAgain_5 : decode cX12_readAgain 5 = .ok (.if_icmp .ne 9, 3) := by decide +kernel
theorem dX12_readAgain_8 : decode cX12_readAgain 8 = .ok (.aload_n 0, 1) := by decide +kernel
theorem dX12_readAgain_9 : decode cX12_readAgain 9 = .ok (.iconst 3, 1) := by decide +kernel
theorem dX12_readAgain_10 : decode cX12_readAgain 10 = .ok (.invokevirtual 194, 3) := by decide +kernel
theorem dX12_readAgain_13 : decode cX12_readAgain 13 = .ok (.ireturn, 1) := by decide +kernel
theorem dX12_readAgain_14 : decode cX12_readAgain 14 = .ok (.aload_n 0, 1) := by decide +kernel
theorem dX12_readAgain_15 : decode cX12_readAgain 15 = .ok (.aload_n 0, 1) := by decide +kernel
theorem dX12_readAgain_16 : decode cX12_readAgain 16 = .ok (.getfield 219, 3) := by decide +kernel
theorem dX12_readAgain_19 : decode cX12_readAgain 19 = .ok (.iconst 1, 1) := by decide +kernel
theorem dX12_readAgain_20 : decode cX12_readAgain 20 = .ok (.iadd, 1) := by decide +kernel
theorem dX12_readAgain_21 : decode cX12_readAgain 21 = .ok (.putfield 219, 3) := by decide +kernel
theorem dX12_readAgain_24 : decode cX12_readAgain 24 = .ok (.aload_n 0, 1) := by decide +kernel
theorem dX12_readAgain_25 : decode cX12_readAgain 25 = .ok (.bipush 27, 2) := by decide +kernel
theorem dX12_readAgain_27 : decode cX12_readAgain 27 = .ok (.iconst 1, 1) := by decide +kernel
theorem dX12_readAgain_28 : decode cX12_readAgain 28 = .ok (.bipush 9, 2) := by decide +kernel
theorem dX12_readAgain_30 : decode cX12_readAgain 30 = .ok (.invokevirtual 247, 3) := by decide +kernel
theorem dX12_readAgain_33 : decode cX12_readAgain 33 = .ok (.istore_n 1, 1) := by decide +kernel
theorem dX12_readAgain_34 : decode cX12_readAgain 34 = .ok (.iload_n 1, 1) := by decide +kernel
theorem dX12_readAgain_35 : decode cX12_readAgain 35 = .ok (.iconst (-1), 1) := by decide +kernel
theorem dX12_readAgain_36 : decode cX12_readAgain 36 = .ok (.if_icmp .eq 13, 3) := by decide +kernel
theorem dX12_readAgain_39 : decode cX12_readAgain 39 = .ok (.aload_n 0, 1) := by decide +kernel
theorem dX12_readAgain_40 : decode cX12_readAgain 40 = .ok (.bipush 40, 2) := by decide +kernel
theorem dX12_readAgain_42 : decode cX12_readAgain 42 = .ok (.invokevirtual 253, 3) := by decide +kernel
theorem dX12_readAgain_45 : decode cX12_readAgain 45 = .ok (.iconst (-1), 1) := by decide +kernel
theorem dX12_readAgain_46 : decode cX12_readAgain 46 = .ok (.if_icmp .ne 5, 3) := by decide +kernel
theorem dX12_readAgain_49 : decode cX12_readAgain 49 = .ok (.iconst (-1), 1) := by decide +kernel
theorem dX12_readAgain_50 : decode cX12_readAgain 50 = .ok (.ireturn, 1) := by decide +kernel
theorem dX12_readAgain_51 : decode cX12_readAgain 51 = .ok (.aload_n 0, 1) := by decide +kernel
theorem dX12_readAgain_52 : decode cX12_readAgain 52 = .ok (.iconst 3, 1) := by decide +kernel
theorem dX12_readAgain_53 : decode cX12_readAgain 53 = .ok (.iload_n 1, 1) := by decide +kernel
theorem dX12_readAgain_54 : decode cX12_readAgain 54 = .ok (.iconst 0, 1) := by decide +kernel
theorem dX12_readAgain_55 : decode cX12_readAgain 55 = .ok (.iconst 0, 1) := by decide +kernel
theorem dX12_readAgain_56 : decode cX12_readAgain 56 = .ok (.invokevirtual 262, 3) := by decide +kernel
theorem dX12_readAgain_59 : decode cX12_readAgain 59 = .ok (.iconst 0, 1) := by decide +kernel
theorem dX12_readAgain_60 : decode cX12_readAgain 60 = .ok (.ireturn, 1) := by decide +kernel
theorem eX12_readAgain {l : Launch} {g : jm_G} {d : Nat} (hg : jm_HR g) {mu : jm_M} {Q : Option Value → jm_M → Prop} (h : (¬ (mu.1 0 28) = 4 → jm_rg ((mu.1 0 28) + 1) ∧ ∀ m2, m2 = jm_wr mu 0 28 ((mu.1 0 28) + 1) → jm_R l g (d + 1) iX12_readTold [.ref 0, jm_i 27, jm_i 1, jm_i 9] m2 (jm_qi fun z5 m4 => (z5 = (-1) → Q (some (jm_i (-1))) m4) ∧ (¬ z5 = (-1) → jm_R l g (d + 1) iX12_readMark [.ref 0, jm_i 40] m4 (jm_qi fun z9 m8 => (¬ z9 = (-1) → jm_R l g (d + 1) iX12_emitsStep [.ref 0, jm_i 3, jm_i z5, jm_i 0, jm_i 0] m8 (jm_qv fun m12 => Q (some (jm_i 0)) m12)) ∧ (z9 = (-1) → Q (some (jm_i (-1))) m8))))) ∧ ((mu.1 0 28) = 4 → ∀ m16, m16 = (jm_wr (jm_wr mu 0 31 3) 0 32 ((jm_wr mu 0 31 3).1 0 15)) → Q (some (jm_i (-1))) m16)) : jm_R l g (d + 2) iX12_readAgain [.ref 0] mu Q := by
  refine jm_enter [(0, .ref 0)] (by decide) (Nat.le_of_ble_eq_true rfl) rfl ?_
  refine jm_mrI (fun hm0 => ?_)
  refine jm_aload_n (pc := 0) 0 dX12_readAgain_0 rfl ?_
  refine jm_geti (pc := 1) 28 dX12_readAgain_1 fX12_219 (cR0 hg) rfl ?_
  refine jm_iconst (pc := 4) dX12_readAgain_4 ?_
  refine jm_icmp_ne (pc := 5) 14 dX12_readAgain_5 rfl (hm0 _ _) ⟨by decide, by decide⟩ (fun q => ?_) (fun q => ?_)
  · have h := h.1 q
    refine jm_aload_n (pc := 14) 0 dX12_readAgain_14 rfl ?_
    refine jm_aload_n (pc := 15) 0 dX12_readAgain_15 rfl ?_
    refine jm_geti (pc := 16) 28 dX12_readAgain_16 fX12_219 (cR0 hg) rfl ?_
    refine jm_iconst (pc := 19) dX12_readAgain_19 ?_
    refine jm_iadd (pc := 20) dX12_readAgain_20 ?_
    have hg1 := h.1
    have h := h.2
    refine jm_put (pc := 21) 28 dX12_readAgain_21 fX12_219 ftX12 (fun q h => by cases h; rfl) (jm_nI _) (jm_fI _) (cR0 hg) rfl hg1 ?_
    have h := h _ rfl
    refine jm_mrI (fun hm3 => ?_)
    refine jm_aload_n (pc := 24) 0 dX12_readAgain_24 rfl ?_
    refine jm_bipush (pc := 25) dX12_readAgain_25 (by decide) ?_
    refine jm_iconst (pc := 27) dX12_readAgain_27 ?_
    refine jm_bipush (pc := 28) dX12_readAgain_28 (by decide) ?_
    refine jm_callvi (pc := 30) (As := [_, _, _]) (st := []) iX12_readTold dX12_readAgain_30 mX12_247 (cR0 hg) ⟨_, rfl, rfl⟩ rfl rfl (Nat.le_of_ble_eq_true rfl) h (fun z5 m4 hz6 h hm7 => ?_)
    refine jm_istore_n (pc := 33) (lv' := [(1, _), (0, _)]) dX12_readAgain_33 (by decide) rfl ?_
    refine jm_iload_n (pc := 34) 0 dX12_readAgain_34 rfl ?_
    refine jm_iconst (pc := 35) dX12_readAgain_35 ?_
    refine jm_icmp_eq (pc := 36) 49 dX12_readAgain_36 rfl hz6 ⟨by decide, by decide⟩ (fun q => ?_) (fun q => ?_)
    · have h := h.1 q
      refine jm_iconst (pc := 49) dX12_readAgain_49 ?_
      exact jm_iret (pc := 50) dX12_readAgain_50 rfl h
    · have h := h.2 q
      refine jm_aload_n (pc := 39) 1 dX12_readAgain_39 rfl ?_
      refine jm_bipush (pc := 40) dX12_readAgain_40 (by decide) ?_
      refine jm_callvi (pc := 42) (As := [_]) (st := []) iX12_readMark dX12_readAgain_42 mX12_253 (cR0 hg) ⟨_, rfl, rfl⟩ rfl rfl (Nat.le_of_ble_eq_true rfl) h (fun z9 m8 hz10 h hm11 => ?_)
      refine jm_iconst (pc := 45) dX12_readAgain_45 ?_
      refine jm_icmp_ne (pc := 46) 51 dX12_readAgain_46 rfl hz10 ⟨by decide, by decide⟩ (fun q => ?_) (fun q => ?_)
      · have h := h.1 q
        refine jm_aload_n (pc := 51) 1 dX12_readAgain_51 rfl ?_
        refine jm_iconst (pc := 52) dX12_readAgain_52 ?_
        refine jm_iload_n (pc := 53) 0 dX12_readAgain_53 rfl ?_
        refine jm_iconst (pc := 54) dX12_readAgain_54 ?_
        refine jm_iconst (pc := 55) dX12_readAgain_55 ?_
        refine jm_callvv (pc := 56) (As := [_, _, _, _]) (st := []) iX12_emitsStep dX12_readAgain_56 mX12_262 (cR0 hg) ⟨_, rfl, rfl⟩ rfl rfl (Nat.le_of_ble_eq_true rfl) h (fun m12 h hm15 => ?_)
        refine jm_iconst (pc := 59) dX12_readAgain_59 ?_
        exact jm_iret (pc := 60) dX12_readAgain_60 rfl h
      · have h := h.2 q
        refine jm_iconst (pc := 49) dX12_readAgain_49 ?_
        exact jm_iret (pc := 50) dX12_readAgain_50 rfl h
  · have h := h.2 q
    refine jm_aload_n (pc := 8) 0 dX12_readAgain_8 rfl ?_
    refine jm_iconst (pc := 9) dX12_readAgain_9 ?_
    refine jm_inlvi (pc := 10) (As := [_]) (st := []) iX12_errs dX12_readAgain_10 mX12_194 (cR0 hg) ⟨_, rfl, rfl⟩ rfl rfl (Nat.le_of_ble_eq_true rfl) (pX12_errs hg ⟨by decide, by decide⟩ (jm_kIi ?_))
    have h := h _ rfl
    refine jm_mrI (fun hm17 => ?_)
    exact jm_iret (pc := 13) dX12_readAgain_13 rfl h
theorem dX12_readOther_0 : decode cX12_readOther 0 = .ok (.aload_n 0, 1) := by decide +kernel
theorem dX12_readOther_1 : decode cX12_readOther 1 = .ok (.bipush 26, 2) := by decide +kernel
theorem dX12_readOther_3 : decode cX12_readOther 3 = .ok (.invokevirtual 222, 3) := by decide +kernel
theorem dX12_readOther_6 : decode cX12_readOther 6 = .ok (.istore_n 1, 1) := by decide +kernel
theorem dX12_readOther_7 : decode cX12_readOther 7 = .ok (.iload_n 1, 1) := by decide +kernel
theorem dX12_readOther_8 : decode cX12_readOther 8 = .ok (.ifCond .ne 13, 3) := by decide +kernel
theorem dX12_readOther_11 : decode cX12_readOther 11 = .ok (.aload_n 0, 1) := by decide +kernel
theorem dX12_readOther_12 : decode cX12_readOther 12 = .ok (.aload_n 0, 1) := by decide +kernel
theorem dX12_readOther_13 : decode cX12_readOther 13 = .ok (.getfield 219, 3) := by decide +kernel
theorem dX12_readOther_16 : decode cX12_readOther 16 = .ok (.iconst 1, 1) := by decide +kernel
theorem dX12_readOther_17 : decode cX12_readOther 17 = .ok (.isub, 1) := by decide +kernel
theorem dX12_readOther_18 : decode cX12_readOther 18 = .ok (.putfield 219, 3) := by decide +kernel
theorem dX12_readOther_21 : decode cX12_readOther 21 = .ok (.aload_n 0, 1) := by decide +kernel
theorem dX12_readOther_22 : decode cX12_readOther 22 = .ok (.iload_n 1, 1) := by decide +kernel
theorem dX12_readOther_23 : decode cX12_readOther 23 = .ok (.ifCond .eq 7, 3) := by decide +kernel
theorem dX12_readOther_26 : decode cX12_readOther 26 = .ok (.iconst 2, 1) := by decide +kernel
theorem dX12_readOther_27 : decode cX12_readOther 27 = .ok (.goto 4, 3) := by decide +kernel
theorem dX12_readOther_30 : decode cX12_readOther 30 = .ok (.iconst 4, 1) := by decide +kernel
theorem dX12_readOther_31 : decode cX12_readOther 31 = .ok (.iconst 0, 1) := by decide +kernel
theorem dX12_readOther_32 : decode cX12_readOther 32 = .ok (.iconst 0, 1) := by decide +kernel
theorem dX12_readOther_33 : decode cX12_readOther 33 = .ok (.iconst 0, 1) := by decide +kernel
theorem dX12_readOther_34 : decode cX12_readOther 34 = .ok (.invokevirtual 262, 3) := by decide +kernel
theorem dX12_readOther_37 : decode cX12_readOther 37 = .ok (.aload_n 0, 1) := by decide +kernel
theorem dX12_readOther_38 : decode cX12_readOther 38 = .ok (.invokevirtual 200, 3) := by decide +kernel
theorem dX12_readOther_41 : decode cX12_readOther 41 = .ok (.iconst 0, 1) := by decide +kernel
theorem dX12_readOther_42 : decode cX12_readOther 42 = .ok (.ireturn, 1) := by decide +kernel
theorem bX12_readOther_31 {l : Launch} {g : jm_G} {d : Nat} {s0 : Int} (hg : jm_HR g) {mu : jm_M} {Q : Option Value → jm_M → Prop} (h : jm_R l g (d + 1) iX12_emitsStep [.ref 0, jm_i s0, jm_i 0, jm_i 0, jm_i 0] mu (jm_qv fun m1 => jm_R l g (d + 1) iX12_reads [.ref 0] m1 (jm_qv fun m5 => Q (some (jm_i 0)) m5))) : jm_V l g (d + 2) iX12_readOther 31 [(0, .ref 0)] [jm_i s0, .ref 0] mu Q := by
  refine jm_mrI (fun hm0 => ?_)
  refine jm_iconst (pc := 31) dX12_readOther_31 ?_
  refine jm_iconst (pc := 32) dX12_readOther_32 ?_
  refine jm_iconst (pc := 33) dX12_readOther_33 ?_
  refine jm_callvv (pc := 34) (As := [_, _, _, _]) (st := []) iX12_emitsStep dX12_readOther_34 mX12_262 (cR0 hg) ⟨_, rfl, rfl⟩ rfl rfl (Nat.le_of_ble_eq_true rfl) h (fun m1 h hm4 => ?_)
  refine jm_aload_n (pc := 37) 0 dX12_readOther_37 rfl ?_
  refine jm_callvv (pc := 38) (As := []) (st := []) iX12_reads dX12_readOther_38 mX12_200 (cR0 hg) ⟨_, rfl, rfl⟩ rfl rfl (Nat.le_of_ble_eq_true rfl) h (fun m5 h hm8 => ?_)
  refine jm_iconst (pc := 41) dX12_readOther_41 ?_
  exact jm_iret (pc := 42) dX12_readOther_42 rfl h
theorem eX12_readOther {l : Launch} {g : jm_G} {d : Nat} (hg : jm_HR g) {mu : jm_M} {Q : Option Value → jm_M → Prop} (h : ((mu.1 0 16) = 2 ∧ (mu.1 0 17) = 26 → jm_V l g (d + 2) iX12_readOther 31 [(0, .ref 0)] [jm_i 2, .ref 0] mu Q) ∧ (¬ ((mu.1 0 16) = 2 ∧ (mu.1 0 17) = 26) → jm_rg ((mu.1 0 28) - 1) ∧ ∀ m2, m2 = jm_wr mu 0 28 ((mu.1 0 28) - 1) → jm_V l g (d + 2) iX12_readOther 31 [(0, .ref 0)] [jm_i 4, .ref 0] m2 Q)) : jm_R l g (d + 2) iX12_readOther [.ref 0] mu Q := by
  refine jm_enter [(0, .ref 0)] (by decide) (Nat.le_of_ble_eq_true rfl) rfl ?_
  refine jm_mrI (fun hm0 => ?_)
  refine jm_aload_n (pc := 0) 0 dX12_readOther_0 rfl ?_
  refine jm_bipush (pc := 1) dX12_readOther_1 (by decide) ?_
  refine jm_inlvi (pc := 3) (As := [_]) (st := []) iX12_isWord dX12_readOther_3 mX12_222 (cR0 hg) ⟨_, rfl, rfl⟩ rfl rfl (Nat.le_of_ble_eq_true rfl) (pX12_isWord hg ⟨by decide, by decide⟩ (fun q => jm_kIi ?_) (fun q => jm_kIi ?_))
  · have h := h.1 q
    refine jm_istore_n (pc := 6) (lv' := [(1, _), (0, _)]) dX12_readOther_6 (by decide) rfl ?_
    refine jm_iload_n (pc := 7) 0 dX12_readOther_7 rfl ?_
    refine jm_if_ne (pc := 8) 21 dX12_readOther_8 rfl ⟨by decide, by decide⟩ (fun q => ?_) (fun q => absurd q (by decide))
    refine jm_aload_n (pc := 21) 1 dX12_readOther_21 rfl ?_
    refine jm_iload_n (pc := 22) 0 dX12_readOther_22 rfl ?_
    refine jm_if_eq (pc := 23) 30 dX12_readOther_23 rfl ⟨by decide, by decide⟩ (fun q => absurd q (by decide)) (fun q => ?_)
    refine jm_iconst (pc := 26) dX12_readOther_26 ?_
    refine jm_goto (pc := 27) 31 dX12_readOther_27 rfl ?_
    exact jm_sub [1] rfl h
  · have h := h.2 q
    refine jm_istore_n (pc := 6) (lv' := [(1, _), (0, _)]) dX12_readOther_6 (by decide) rfl ?_
    refine jm_iload_n (pc := 7) 0 dX12_readOther_7 rfl ?_
    refine jm_if_ne (pc := 8) 21 dX12_readOther_8 rfl ⟨by decide, by decide⟩ (fun q => absurd q (by decide)) (fun q => ?_)
    refine jm_aload_n (pc := 11) 1 dX12_readOther_11 rfl ?_
    refine jm_aload_n (pc := 12) 1 dX12_readOther_12 rfl ?_
    refine jm_geti (pc := 13) 28 dX12_readOther_13 fX12_219 (cR0 hg) rfl ?_
    refine jm_iconst (pc := 16) dX12_readOther_16 ?_
    refine jm_isub (pc := 17) dX12_readOther_17 ?_
    have hg1 := h.1
    have h := h.2
    refine jm_put (pc := 18) 28 dX12_readOther_18 fX12_219 ftX12 (fun q h => by cases h; rfl) (jm_nI _) (jm_fI _) (cR0 hg) rfl hg1 ?_
    have h := h _ rfl
    refine jm_mrI (fun hm3 => ?_)
    refine jm_aload_n (pc := 21) 1 dX12_readOther_21 rfl ?_
    refine jm_iload_n (pc := 22) 0 dX12_readOther_22 rfl ?_
    refine jm_if_eq (pc := 23) 30 dX12_readOther_23 rfl ⟨by decide, by decide⟩ (fun q => ?_) (fun q => absurd q (by decide))
    refine jm_iconst (pc := 30) dX12_readOther_30 ?_
    exact jm_sub [1] rfl h
theorem dX12_readSteps_0 : decode cX12_readSteps 0 = .ok (.aload_n 0, 1) := by decide +kernel
theorem dX12_readSteps_1 : decode cX12_readSteps 1 = .ok (.iconst 0, 1) := by decide +kernel
theorem dX12_readSteps_2 : decode cX12_readSteps 2 = .ok (.putfield 259, 3) := by decide +kernel
theorem dX12_readSteps_5 : decode cX12_readSteps 5 = .ok (.aload_n 0, 1) := by decide +kernel
theorem dX12_readSteps_6 : decode cX12_readSteps 6 = .ok (.bipush 22, 2) := by decide +kernel
theorem dX12_readSteps_8 : decode cX12_readSteps 8 = .ok (.invokevirtual 222, 3) := by decide +kernel
theorem dX12_readSteps_11 : decode cX12_readSteps 11 = .ok (.ifCond .ne 46, 3) := by decide +kernel
theorem dX12_readSteps_14 : decode cX12_readSteps 14 = .ok (.aload_n 0, 1) := by decide +kernel
theorem dX12_readSteps_15 : decode cX12_readSteps 15 = .ok (.bipush 25, 2) := by decide +kernel
theorem dX12_readSteps_17 : decode cX12_readSteps 17 = .ok (.invokevirtual 222, 3) := by decide +kernel
theorem dX12_readSteps_20 : decode cX12_readSteps 20 = .ok (.ifCond .ne 37, 3) := by decide +kernel
theorem dX12_readSteps_23 : decode cX12_readSteps 23 = .ok (.aload_n 0, 1) := by decide +kernel
theorem dX12_readSteps_24 : decode cX12_readSteps 24 = .ok (.bipush 26, 2) := by decide +kernel
theorem dX12_readSteps_26 : decode cX12_readSteps 26 = .ok (.invokevirtual 222, 3) := by decide +kernel
theorem dX12_readSteps_29 : decode cX12_readSteps 29 = .ok (.ifCond .ne 28, 3) := by decide +kernel
theorem dX12_readSteps_32 : decode cX12_readSteps 32 = .ok (.aload_n 0, 1) := by decide +kernel
theorem dX12_readSteps_33 : decode cX12_readSteps 33 = .ok (.bipush 27, 2) := by decide +kernel
theorem dX12_readSteps_35 : decode cX12_readSteps 35 = .ok (.invokevirtual 222, 3) := by decide +kernel
theorem dX12_readSteps_38 : decode cX12_readSteps 38 = .ok (.ifCond .ne 19, 3) := by decide +kernel
theorem dX12_readSteps_41 : decode cX12_readSteps 41 = .ok (.aload_n 0, 1) := by decide +kernel
theorem dX12_readSteps_42 : decode cX12_readSteps 42 = .ok (.getfield 219, 3) := by decide +kernel
theorem dX12_readSteps_45 : decode cX12_readSteps 45 = .ok (.ifCond .le 75, 3) := by decide +kernel
theorem dX12_readSteps_48 : decode cX12_readSteps 48 = .ok (.aload_n 0, 1) := by decide +kernel
theorem dX12_readSteps_49 : decode cX12_readSteps 49 = .ok (.bipush 41, 2) := by decide +kernel
theorem dX12_readSteps_51 : decode cX12_readSteps 51 = .ok (.invokevirtual 207, 3) := by decide +kernel
theorem dX12_readSteps_54 : decode cX12_readSteps 54 = .ok (.ifCond .eq 66, 3) := by decide +kernel
theorem dX12_readSteps_57 : decode cX12_readSteps 57 = .ok (.aload_n 0, 1) := by decide +kernel
theorem dX12_readSteps_58 : decode cX12_readSteps 58 = .ok (.bipush 22, 2) := by decide +kernel
theorem dX12_readSteps_60 : decode cX12_readSteps 60 = .ok (.invokevirtual 222, 3) := by decide +kernel
theorem dX12_readSteps_63 : decode cX12_readSteps 63 = .ok (.ifCond .eq 10, 3) := by decide +kernel
theorem dX12_readSteps_66 : decode cX12_readSteps 66 = .ok (.aload_n 0, 1) := by decide +kernel
theorem dX12_readSteps_67 : decode cX12_readSteps 67 = .ok (.invokevirtual 266, 3) := by decide +kernel
theorem dX12_readSteps_70 : decode cX12_readSteps 70 = .ok (.goto 39, 3) := by decide +kernel
theorem dX12_readSteps_73 : decode cX12_readSteps 73 = .ok (.aload_n 0, 1) := by decide +kernel
theorem dX12_readSteps_74 : decode cX12_readSteps 74 = .ok (.bipush 25, 2) := by decide +kernel
theorem dX12_readSteps_76 : decode cX12_readSteps 76 = .ok (.invokevirtual 222, 3) := by decide +kernel
theorem dX12_readSteps_79 : decode cX12_readSteps 79 = .ok (.ifCond .eq 10, 3) := by decide +kernel
theorem dX12_readSteps_82 : decode cX12_readSteps 82 = .ok (.aload_n 0, 1) := by decide +kernel
theorem dX12_readSteps_83 : decode cX12_readSteps 83 = .ok (.invokevirtual 269, 3) := by decide +kernel
theorem dX12_readSteps_86 : decode cX12_readSteps 86 = .ok (.goto 23, 3) := by decide +kernel
theorem dX12_readSteps_89 : decode cX12_readSteps 89 = .ok (.aload_n 0, 1) := by decide +kernel
theorem dX12_readSteps_90 : decode cX12_readSteps 90 = .ok (.bipush 27, 2) := by decide +kernel
theorem dX12_readSteps_92 : decode cX12_readSteps 92 = .ok (.invokevirtual 222, 3) := by decide +kernel
theorem dX12_readSteps_95 : decode cX12_readSteps 95 = .ok (.ifCond .eq 10, 3) := by decide +kernel
theorem dX12_readSteps_98 : decode cX12_readSteps 98 = .ok (.aload_n 0, 1) := by decide +kernel
theorem dX12_readSteps_99 : decode cX12_readSteps 99 = .ok (.invokevirtual 272, 3) := by decide +kernel
theorem dX12_readSteps_102 : decode cX12_readSteps 102 = .ok (.goto 7, 3) := by decide +kernel
theorem dX12_readSteps_105 : decode cX12_readSteps 105 = .ok (.aload_n 0, 1) := by decide +kernel
theorem dX12_readSteps_106 : decode cX12_readSteps 106 = .ok (.invokevirtual 275, 3) := by decide +kernel
theorem dX12_readSteps_109 : decode cX12_readSteps 109 = .ok (.istore_n 1, 1) := by decide +kernel
theorem dX12_readSteps_110 : decode cX12_readSteps 110 = .ok (.iload_n 1, 1) := by decide +kernel
theorem dX12_readSteps_111 : decode cX12_readSteps 111 = .ok (.iconst (-1), 1) := by decide +kernel
theorem dX12_readSteps_112 : decode cX12_readSteps 112 = .ok (.if_icmp .ne 5, 3) := by decide +kernel
theorem dX12_readSteps_115 : decode cX12_readSteps 115 = .ok (.iconst (-1), 1) := by decide +kernel
theorem dX12_readSteps_116 : decode cX12_readSteps 116 = .ok (.ireturn, 1) := by decide +kernel
theorem dX12_readSteps_117 : decode cX12_readSteps 117 = .ok (.goto (-112), 3) := by decide +kernel
theorem dX12_readSteps_120 : decode cX12_readSteps 120 = .ok (.aload_n 0, 1) := by decide +kernel
theorem dX12_readSteps_121 : decode cX12_readSteps 121 = .ok (.getfield 219, 3) := by decide +kernel
theorem dX12_readSteps_124 : decode cX12_readSteps 124 = .ok (.ifCond .ne 14, 3) := by decide +kernel
theorem dX12_readSteps_127 : decode cX12_readSteps 127 = .ok (.aload_n 0, 1) := by decide +kernel
theorem dX12_readSteps_128 : decode cX12_readSteps 128 = .ok (.getfield 163, 3) := by decide +kernel
theorem dX12_readSteps_131 : decode cX12_readSteps 131 = .ok (.ifCond .ne 7, 3) := by decide +kernel
theorem dX12_readSteps_134 : decode cX12_readSteps 134 = .ok (.iconst 0, 1) := by decide +kernel
theorem dX12_readSteps_135 : decode cX12_readSteps 135 = .ok (.goto 8, 3) := by decide +kernel
theorem dX12_readSteps_138 : decode cX12_readSteps 138 = .ok (.aload_n 0, 1) := by decide +kernel
theorem dX12_readSteps_139 : decode cX12_readSteps 139 = .ok (.iconst 1, 1) := by decide +kernel
theorem dX12_readSteps_140 : decode cX12_readSteps 140 = .ok (.invokevirtual 194, 3) := by decide +kernel
theorem dX12_readSteps_143 : decode cX12_readSteps 143 = .ok (.ireturn, 1) := by decide +kernel
theorem bX12_readSteps_120 {l : Launch} {g : jm_G} {d : Nat} (hg : jm_HR g) {mu : jm_M} {Q : Option Value → jm_M → Prop} (h : (¬ (mu.1 0 28) = 0 → ∀ m1, m1 = (jm_wr (jm_wr mu 0 31 1) 0 32 ((jm_wr mu 0 31 1).1 0 15)) → Q (some (jm_i (-1))) m1) ∧ ((mu.1 0 28) = 0 → (¬ (mu.1 0 16) = 0 → ∀ m3, m3 = (jm_wr (jm_wr mu 0 31 1) 0 32 ((jm_wr mu 0 31 1).1 0 15)) → Q (some (jm_i (-1))) m3) ∧ ((mu.1 0 16) = 0 → Q (some (jm_i 0)) mu))) : jm_V l g (d + 2) iX12_readSteps 120 [(0, .ref 0)] [] mu Q := by
  refine jm_mrI (fun hm0 => ?_)
  refine jm_aload_n (pc := 120) 0 dX12_readSteps_120 rfl ?_
  refine jm_geti (pc := 121) 28 dX12_readSteps_121 fX12_219 (cR0 hg) rfl ?_
  refine jm_if_ne (pc := 124) 138 dX12_readSteps_124 rfl (hm0 _ _) (fun q => ?_) (fun q => ?_)
  · have h := h.1 q
    refine jm_aload_n (pc := 138) 0 dX12_readSteps_138 rfl ?_
    refine jm_iconst (pc := 139) dX12_readSteps_139 ?_
    refine jm_inlvi (pc := 140) (As := [_]) (st := []) iX12_errs dX12_readSteps_140 mX12_194 (cR0 hg) ⟨_, rfl, rfl⟩ rfl rfl (Nat.le_of_ble_eq_true rfl) (pX12_errs hg ⟨by decide, by decide⟩ (jm_kIi ?_))
    have h := h _ rfl
    refine jm_mrI (fun hm2 => ?_)
    exact jm_iret (pc := 143) dX12_readSteps_143 rfl h
  · have h := h.2 q
    refine jm_aload_n (pc := 127) 0 dX12_readSteps_127 rfl ?_
    refine jm_geti (pc := 128) 16 dX12_readSteps_128 fX12_163 (cR0 hg) rfl ?_
    refine jm_if_ne (pc := 131) 138 dX12_readSteps_131 rfl (hm0 _ _) (fun q => ?_) (fun q => ?_)
    · have h := h.1 q
      refine jm_aload_n (pc := 138) 0 dX12_readSteps_138 rfl ?_
      refine jm_iconst (pc := 139) dX12_readSteps_139 ?_
      refine jm_inlvi (pc := 140) (As := [_]) (st := []) iX12_errs dX12_readSteps_140 mX12_194 (cR0 hg) ⟨_, rfl, rfl⟩ rfl rfl (Nat.le_of_ble_eq_true rfl) (pX12_errs hg ⟨by decide, by decide⟩ (jm_kIi ?_))
      have h := h _ rfl
      refine jm_mrI (fun hm4 => ?_)
      exact jm_iret (pc := 143) dX12_readSteps_143 rfl h
    · have h := h.2 q
      refine jm_iconst (pc := 134) dX12_readSteps_134 ?_
      refine jm_goto (pc := 135) 143 dX12_readSteps_135 rfl ?_
      exact jm_iret (pc := 143) dX12_readSteps_143 rfl h
theorem bX12_readSteps_57 {l : Launch} {g : jm_G} {d : Nat} (hg : jm_HR g) {mu : jm_M} {Q : Option Value → jm_M → Prop} (h : ((mu.1 0 16) = 2 ∧ (mu.1 0 17) = 22 → jm_R l g (d + 1) iX12_readCall [.ref 0] mu (jm_qi fun z2 m1 => (¬ z2 = (-1) → jm_V l g (d + 2) iX12_readSteps 5 [(0, .ref 0)] [] m1 Q) ∧ (z2 = (-1) → Q (some (jm_i (-1))) m1))) ∧ (¬ ((mu.1 0 16) = 2 ∧ (mu.1 0 17) = 22) → ((mu.1 0 16) = 2 ∧ (mu.1 0 17) = 25 → jm_R l g (d + 1) iX12_readCross [.ref 0] mu (jm_qi fun z6 m5 => (¬ z6 = (-1) → jm_V l g (d + 2) iX12_readSteps 5 [(0, .ref 0)] [] m5 Q) ∧ (z6 = (-1) → Q (some (jm_i (-1))) m5))) ∧ (¬ ((mu.1 0 16) = 2 ∧ (mu.1 0 17) = 25) → ((mu.1 0 16) = 2 ∧ (mu.1 0 17) = 27 → jm_R l g (d + 1) iX12_readAgain [.ref 0] mu (jm_qi fun z10 m9 => (¬ z10 = (-1) → jm_V l g (d + 2) iX12_readSteps 5 [(0, .ref 0)] [] m9 Q) ∧ (z10 = (-1) → Q (some (jm_i (-1))) m9))) ∧ (¬ ((mu.1 0 16) = 2 ∧ (mu.1 0 17) = 27) → jm_R l g (d + 1) iX12_readOther [.ref 0] mu (jm_qi fun z14 m13 => (¬ z14 = (-1) → jm_V l g (d + 2) iX12_readSteps 5 [(0, .ref 0)] [] m13 Q) ∧ (z14 = (-1) → Q (some (jm_i (-1))) m13)))))) : jm_V l g (d + 2) iX12_readSteps 57 [(0, .ref 0)] [] mu Q := by
  refine jm_mrI (fun hm0 => ?_)
  refine jm_aload_n (pc := 57) 0 dX12_readSteps_57 rfl ?_
  refine jm_bipush (pc := 58) dX12_readSteps_58 (by decide) ?_
  refine jm_inlvi (pc := 60) (As := [_]) (st := []) iX12_isWord dX12_readSteps_60 mX12_222 (cR0 hg) ⟨_, rfl, rfl⟩ rfl rfl (Nat.le_of_ble_eq_true rfl) (pX12_isWord hg ⟨by decide, by decide⟩ (fun q => jm_kIi ?_) (fun q => jm_kIi ?_))
  · have h := h.1 q
    refine jm_if_eq (pc := 63) 73 dX12_readSteps_63 rfl ⟨by decide, by decide⟩ (fun q => absurd q (by decide)) (fun q => ?_)
    refine jm_aload_n (pc := 66) 0 dX12_readSteps_66 rfl ?_
    refine jm_callvi (pc := 67) (As := []) (st := []) iX12_readCall dX12_readSteps_67 mX12_266 (cR0 hg) ⟨_, rfl, rfl⟩ rfl rfl (Nat.le_of_ble_eq_true rfl) h (fun z2 m1 hz3 h hm4 => ?_)
    refine jm_goto (pc := 70) 109 dX12_readSteps_70 rfl ?_
    refine jm_istore_n (pc := 109) (lv' := [(1, _), (0, _)]) dX12_readSteps_109 (by decide) rfl ?_
    refine jm_iload_n (pc := 110) 0 dX12_readSteps_110 rfl ?_
    refine jm_iconst (pc := 111) dX12_readSteps_111 ?_
    refine jm_icmp_ne (pc := 112) 117 dX12_readSteps_112 rfl hz3 ⟨by decide, by decide⟩ (fun q => ?_) (fun q => ?_)
    · have h := h.1 q
      refine jm_goto (pc := 117) 5 dX12_readSteps_117 rfl ?_
      exact jm_sub [1] rfl h
    · have h := h.2 q
      refine jm_iconst (pc := 115) dX12_readSteps_115 ?_
      exact jm_iret (pc := 116) dX12_readSteps_116 rfl h
  · have h := h.2 q
    refine jm_if_eq (pc := 63) 73 dX12_readSteps_63 rfl ⟨by decide, by decide⟩ (fun q => ?_) (fun q => absurd q (by decide))
    refine jm_aload_n (pc := 73) 0 dX12_readSteps_73 rfl ?_
    refine jm_bipush (pc := 74) dX12_readSteps_74 (by decide) ?_
    refine jm_inlvi (pc := 76) (As := [_]) (st := []) iX12_isWord dX12_readSteps_76 mX12_222 (cR0 hg) ⟨_, rfl, rfl⟩ rfl rfl (Nat.le_of_ble_eq_true rfl) (pX12_isWord hg ⟨by decide, by decide⟩ (fun q => jm_kIi ?_) (fun q => jm_kIi ?_))
    · have h := h.1 q
      refine jm_if_eq (pc := 79) 89 dX12_readSteps_79 rfl ⟨by decide, by decide⟩ (fun q => absurd q (by decide)) (fun q => ?_)
      refine jm_aload_n (pc := 82) 0 dX12_readSteps_82 rfl ?_
      refine jm_callvi (pc := 83) (As := []) (st := []) iX12_readCross dX12_readSteps_83 mX12_269 (cR0 hg) ⟨_, rfl, rfl⟩ rfl rfl (Nat.le_of_ble_eq_true rfl) h (fun z6 m5 hz7 h hm8 => ?_)
      refine jm_goto (pc := 86) 109 dX12_readSteps_86 rfl ?_
      refine jm_istore_n (pc := 109) (lv' := [(1, _), (0, _)]) dX12_readSteps_109 (by decide) rfl ?_
      refine jm_iload_n (pc := 110) 0 dX12_readSteps_110 rfl ?_
      refine jm_iconst (pc := 111) dX12_readSteps_111 ?_
      refine jm_icmp_ne (pc := 112) 117 dX12_readSteps_112 rfl hz7 ⟨by decide, by decide⟩ (fun q => ?_) (fun q => ?_)
      · have h := h.1 q
        refine jm_goto (pc := 117) 5 dX12_readSteps_117 rfl ?_
        exact jm_sub [1] rfl h
      · have h := h.2 q
        refine jm_iconst (pc := 115) dX12_readSteps_115 ?_
        exact jm_iret (pc := 116) dX12_readSteps_116 rfl h
    · have h := h.2 q
      refine jm_if_eq (pc := 79) 89 dX12_readSteps_79 rfl ⟨by decide, by decide⟩ (fun q => ?_) (fun q => absurd q (by decide))
      refine jm_aload_n (pc := 89) 0 dX12_readSteps_89 rfl ?_
      refine jm_bipush (pc := 90) dX12_readSteps_90 (by decide) ?_
      refine jm_inlvi (pc := 92) (As := [_]) (st := []) iX12_isWord dX12_readSteps_92 mX12_222 (cR0 hg) ⟨_, rfl, rfl⟩ rfl rfl (Nat.le_of_ble_eq_true rfl) (pX12_isWord hg ⟨by decide, by decide⟩ (fun q => jm_kIi ?_) (fun q => jm_kIi ?_))
      · have h := h.1 q
        refine jm_if_eq (pc := 95) 105 dX12_readSteps_95 rfl ⟨by decide, by decide⟩ (fun q => absurd q (by decide)) (fun q => ?_)
        refine jm_aload_n (pc := 98) 0 dX12_readSteps_98 rfl ?_
        refine jm_callvi (pc := 99) (As := []) (st := []) iX12_readAgain dX12_readSteps_99 mX12_272 (cR0 hg) ⟨_, rfl, rfl⟩ rfl rfl (Nat.le_of_ble_eq_true rfl) h (fun z10 m9 hz11 h hm12 => ?_)
        refine jm_goto (pc := 102) 109 dX12_readSteps_102 rfl ?_
        refine jm_istore_n (pc := 109) (lv' := [(1, _), (0, _)]) dX12_readSteps_109 (by decide) rfl ?_
        refine jm_iload_n (pc := 110) 0 dX12_readSteps_110 rfl ?_
        refine jm_iconst (pc := 111) dX12_readSteps_111 ?_
        refine jm_icmp_ne (pc := 112) 117 dX12_readSteps_112 rfl hz11 ⟨by decide, by decide⟩ (fun q => ?_) (fun q => ?_)
        · have h := h.1 q
          refine jm_goto (pc := 117) 5 dX12_readSteps_117 rfl ?_
          exact jm_sub [1] rfl h
        · have h := h.2 q
          refine jm_iconst (pc := 115) dX12_readSteps_115 ?_
          exact jm_iret (pc := 116) dX12_readSteps_116 rfl h
      · have h := h.2 q
        refine jm_if_eq (pc := 95) 105 dX12_readSteps_95 rfl ⟨by decide, by decide⟩ (fun q => ?_) (fun q => absurd q (by decide))
        refine jm_aload_n (pc := 105) 0 dX12_readSteps_105 rfl ?_
        refine jm_callvi (pc := 106) (As := []) (st := []) iX12_readOther dX12_readSteps_106 mX12_275 (cR0 hg) ⟨_, rfl, rfl⟩ rfl rfl (Nat.le_of_ble_eq_true rfl) h (fun z14 m13 hz15 h hm16 => ?_)
        refine jm_istore_n (pc := 109) (lv' := [(1, _), (0, _)]) dX12_readSteps_109 (by decide) rfl ?_
        refine jm_iload_n (pc := 110) 0 dX12_readSteps_110 rfl ?_
        refine jm_iconst (pc := 111) dX12_readSteps_111 ?_
        refine jm_icmp_ne (pc := 112) 117 dX12_readSteps_112 rfl hz15 ⟨by decide, by decide⟩ (fun q => ?_) (fun q => ?_)
        · have h := h.1 q
          refine jm_goto (pc := 117) 5 dX12_readSteps_117 rfl ?_
          exact jm_sub [1] rfl h
        · have h := h.2 q
          refine jm_iconst (pc := 115) dX12_readSteps_115 ?_
          exact jm_iret (pc := 116) dX12_readSteps_116 rfl h
theorem bX12_readSteps_5 {l : Launch} {g : jm_G} {d : Nat} (hg : jm_HR g) {mu : jm_M} {Q : Option Value → jm_M → Prop} (h : ((mu.1 0 16) = 2 ∧ (mu.1 0 17) = 22 → jm_V l g (d + 2) iX12_readSteps 57 [(0, .ref 0)] [] mu Q) ∧ (¬ ((mu.1 0 16) = 2 ∧ (mu.1 0 17) = 22) → ((mu.1 0 16) = 2 ∧ (mu.1 0 17) = 25 → jm_V l g (d + 2) iX12_readSteps 57 [(0, .ref 0)] [] mu Q) ∧ (¬ ((mu.1 0 16) = 2 ∧ (mu.1 0 17) = 25) → ((mu.1 0 16) = 2 ∧ (mu.1 0 17) = 26 → jm_V l g (d + 2) iX12_readSteps 57 [(0, .ref 0)] [] mu Q) ∧ (¬ ((mu.1 0 16) = 2 ∧ (mu.1 0 17) = 26) → ((mu.1 0 16) = 2 ∧ (mu.1 0 17) = 27 → jm_V l g (d + 2) iX12_readSteps 57 [(0, .ref 0)] [] mu Q) ∧ (¬ ((mu.1 0 16) = 2 ∧ (mu.1 0 17) = 27) → ((mu.1 0 28) ≤ 0 → jm_V l g (d + 2) iX12_readSteps 120 [(0, .ref 0)] [] mu Q) ∧ (0 < (mu.1 0 28) → ((mu.1 0 16) = 4 ∧ (mu.1 0 17) = 41 → jm_V l g (d + 2) iX12_readSteps 57 [(0, .ref 0)] [] mu Q) ∧ (¬ ((mu.1 0 16) = 4 ∧ (mu.1 0 17) = 41) → jm_V l g (d + 2) iX12_readSteps 120 [(0, .ref 0)] [] mu Q))))))) : jm_V l g (d + 2) iX12_readSteps 5 [(0, .ref 0)] [] mu Q := by
  refine jm_mrI (fun hm0 => ?_)
  refine jm_aload_n (pc := 5) 0 dX12_readSteps_5 rfl ?_
  refine jm_bipush (pc := 6) dX12_readSteps_6 (by decide) ?_
  refine jm_inlvi (pc := 8) (As := [_]) (st := []) iX12_isWord dX12_readSteps_8 mX12_222 (cR0 hg) ⟨_, rfl, rfl⟩ rfl rfl (Nat.le_of_ble_eq_true rfl) (pX12_isWord hg ⟨by decide, by decide⟩ (fun q => jm_kIi ?_) (fun q => jm_kIi ?_))
  · have h := h.1 q
    refine jm_if_ne (pc := 11) 57 dX12_readSteps_11 rfl ⟨by decide, by decide⟩ (fun q => ?_) (fun q => absurd q (by decide))
    exact jm_sub [0] rfl h
  · have h := h.2 q
    refine jm_if_ne (pc := 11) 57 dX12_readSteps_11 rfl ⟨by decide, by decide⟩ (fun q => absurd q (by decide)) (fun q => ?_)
    refine jm_aload_n (pc := 14) 0 dX12_readSteps_14 rfl ?_
    refine jm_bipush (pc := 15) dX12_readSteps_15 (by decide) ?_
    refine jm_inlvi (pc := 17) (As := [_]) (st := []) iX12_isWord dX12_readSteps_17 mX12_222 (cR0 hg) ⟨_, rfl, rfl⟩ rfl rfl (Nat.le_of_ble_eq_true rfl) (pX12_isWord hg ⟨by decide, by decide⟩ (fun q => jm_kIi ?_) (fun q => jm_kIi ?_))
    · have h := h.1 q
      refine jm_if_ne (pc := 20) 57 dX12_readSteps_20 rfl ⟨by decide, by decide⟩ (fun q => ?_) (fun q => absurd q (by decide))
      exact jm_sub [0] rfl h
    · have h := h.2 q
      refine jm_if_ne (pc := 20) 57 dX12_readSteps_20 rfl ⟨by decide, by decide⟩ (fun q => absurd q (by decide)) (fun q => ?_)
      refine jm_aload_n (pc := 23) 0 dX12_readSteps_23 rfl ?_
      refine jm_bipush (pc := 24) dX12_readSteps_24 (by decide) ?_
      refine jm_inlvi (pc := 26) (As := [_]) (st := []) iX12_isWord dX12_readSteps_26 mX12_222 (cR0 hg) ⟨_, rfl, rfl⟩ rfl rfl (Nat.le_of_ble_eq_true rfl) (pX12_isWord hg ⟨by decide, by decide⟩ (fun q => jm_kIi ?_) (fun q => jm_kIi ?_))
      · have h := h.1 q
        refine jm_if_ne (pc := 29) 57 dX12_readSteps_29 rfl ⟨by decide, by decide⟩ (fun q => ?_) (fun q => absurd q (by decide))
        exact jm_sub [0] rfl h
      · have h := h.2 q
        refine jm_if_ne (pc := 29) 57 dX12_readSteps_29 rfl ⟨by decide, by decide⟩ (fun q => absurd q (by decide)) (fun q => ?_)
        refine jm_aload_n (pc := 32) 0 dX12_readSteps_32 rfl ?_
        refine jm_bipush (pc := 33) dX12_readSteps_33 (by decide) ?_
        refine jm_inlvi (pc := 35) (As := [_]) (st := []) iX12_isWord dX12_readSteps_35 mX12_222 (cR0 hg) ⟨_, rfl, rfl⟩ rfl rfl (Nat.le_of_ble_eq_true rfl) (pX12_isWord hg ⟨by decide, by decide⟩ (fun q => jm_kIi ?_) (fun q => jm_kIi ?_))
        · have h := h.1 q
          refine jm_if_ne (pc := 38) 57 dX12_readSteps_38 rfl ⟨by decide, by decide⟩ (fun q => ?_) (fun q => absurd q (by decide))
          exact jm_sub [0] rfl h
        · have h := h.2 q
          refine jm_if_ne (pc := 38) 57 dX12_readSteps_38 rfl ⟨by decide, by decide⟩ (fun q => absurd q (by decide)) (fun q => ?_)
          refine jm_aload_n (pc := 41) 0 dX12_readSteps_41 rfl ?_
          refine jm_geti (pc := 42) 28 dX12_readSteps_42 fX12_219 (cR0 hg) rfl ?_
          refine jm_if_le (pc := 45) 120 dX12_readSteps_45 rfl (hm0 _ _) (fun q => ?_) (fun q => ?_)
          · have h := h.1 q
            exact jm_sub [0] rfl h
          · have h := h.2 q
            refine jm_aload_n (pc := 48) 0 dX12_readSteps_48 rfl ?_
            refine jm_bipush (pc := 49) dX12_readSteps_49 (by decide) ?_
            refine jm_inlvi (pc := 51) (As := [_]) (st := []) iX12_isSign dX12_readSteps_51 mX12_207 (cR0 hg) ⟨_, rfl, rfl⟩ rfl rfl (Nat.le_of_ble_eq_true rfl) (pX12_isSign hg ⟨by decide, by decide⟩ (fun q => jm_kIi ?_) (fun q => jm_kIi ?_))
            · have h := h.1 q
              refine jm_if_eq (pc := 54) 120 dX12_readSteps_54 rfl ⟨by decide, by decide⟩ (fun q => absurd q (by decide)) (fun q => ?_)
              exact jm_sub [0] rfl h
            · have h := h.2 q
              refine jm_if_eq (pc := 54) 120 dX12_readSteps_54 rfl ⟨by decide, by decide⟩ (fun q => ?_) (fun q => absurd q (by decide))
              exact jm_sub [0] rfl h
theorem eX12_readSteps {l : Launch} {g : jm_G} {d : Nat} (hg : jm_HR g) {mu : jm_M} {Q : Option Value → jm_M → Prop} (h : ∀ m1, m1 = jm_wr mu 0 38 0 → jm_V l g (d + 2) iX12_readSteps 5 [(0, .ref 0)] [] m1 Q) : jm_R l g (d + 2) iX12_readSteps [.ref 0] mu Q := by
  refine jm_enter [(0, .ref 0)] (by decide) (Nat.le_of_ble_eq_true rfl) rfl ?_
  refine jm_mrI (fun hm0 => ?_)
  refine jm_aload_n (pc := 0) 0 dX12_readSteps_0 rfl ?_
  refine jm_iconst (pc := 1) dX12_readSteps_1 ?_
  refine jm_put (pc := 2) 38 dX12_readSteps_2 fX12_259 ftX12 (fun q h => by cases h; rfl) (jm_nI _) (jm_fI _) (cR0 hg) rfl ⟨by decide, by decide⟩ ?_
  have h := h _ rfl
  refine jm_mrI (fun hm2 => ?_)
  exact jm_sub [0] rfl h
theorem dX12_laysDeeds_0 : decode cX12_laysDeeds 0 = .ok (.iconst 0, 1) := by decide +kernel
theorem dX12_laysDeeds_1 : decode cX12_laysDeeds 1 = .ok (.istore_n 1, 1) := by decide +kernel
theorem dX12_laysDeeds_2 : decode cX12_laysDeeds 2 = .ok (.iconst 0, 1) := by decide +kernel
theorem dX12_laysDeeds_3 : decode cX12_laysDeeds 3 = .ok (.istore_n 2, 1) := by decide +kernel
theorem dX12_laysDeeds_4 : decode cX12_laysDeeds 4 = .ok (.iconst 0, 1) := by decide +kernel
theorem dX12_laysDeeds_5 : decode cX12_laysDeeds 5 = .ok (.istore_n 3, 1) := by decide +kernel
theorem dX12_laysDeeds_6 : decode cX12_laysDeeds 6 = .ok (.iload_n 3, 1) := by decide +kernel
theorem dX12_laysDeeds_7 : decode cX12_laysDeeds 7 = .ok (.aload_n 0, 1) := by decide +kernel
theorem dX12_laysDeeds_8 : decode cX12_laysDeeds 8 = .ok (.getfield 259, 3) := by decide +kernel
theorem dX12_laysDeeds_11 : decode cX12_laysDeeds 11 = .ok (.if_icmp .ge 169, 3) := by decide +kernel
theorem dX12_laysDeeds_14 : decode cX12_laysDeeds 14 = .ok (.iconst 4, 1) := by decide +kernel
theorem dX12_laysDeeds_15 : decode cX12_laysDeeds 15 = .ok (.iload_n 3, 1) := by decide +kernel
theorem dX12_laysDeeds_16 : decode cX12_laysDeeds 16 = .ok (.imul, 1) := by decide +kernel
theorem dX12_laysDeeds_17 : decode cX12_laysDeeds 17 = .ok (.istore 4, 2) := by decide +kernel
theorem dX12_laysDeeds_19 : decode cX12_laysDeeds 19 = .ok (.aload_n 0, 1) := by decide +kernel
theorem dX12_laysDeeds_20 : decode cX12_laysDeeds 20 = .ok (.getfield 65, 3) := by decide +kernel
theorem dX12_laysDeeds_23 : decode cX12_laysDeeds 23 = .ok (.iload 4, 2) := by decide +kernel
theorem dX12_laysDeeds_25 : decode cX12_laysDeeds 25 = .ok (.iaload, 1) := by decide +kernel
theorem dX12_laysDeeds_26 : decode cX12_laysDeeds 26 = .ok (.iconst 3, 1) := by decide +kernel
theorem dX12_laysDeeds_27 : decode cX12_laysDeeds 27 = .ok (.if_icmp .ne 32, 3) := by decide +kernel
theorem dX12_laysDeeds_30 : decode cX12_laysDeeds 30 = .ok (.aload_n 0, 1) := by decide +kernel
theorem dX12_laysDeeds_31 : decode cX12_laysDeeds 31 = .ok (.getfield 71, 3) := by decide +kernel
theorem dX12_laysDeeds_34 : decode cX12_laysDeeds 34 = .ok (.iload_n 2, 1) := by decide +kernel
theorem dX12_laysDeeds_35 : decode cX12_laysDeeds 35 = .ok (.iload_n 3, 1) := by decide +kernel
theorem dX12_laysDeeds_36 : decode cX12_laysDeeds 36 = .ok (.iastore, 1) := by decide +kernel
theorem dX12_laysDeeds_37 : decode cX12_laysDeeds 37 = .ok (.aload_n 0, 1) := by decide +kernel
theorem dX12_laysDeeds_38 : decode cX12_laysDeeds 38 = .ok (.getfield 74, 3) := by decide +kernel
theorem dX12_laysDeeds_41 : decode cX12_laysDeeds 41 = .ok (.iload_n 2, 1) := by decide +kernel
theorem dX12_laysDeeds_42 : decode cX12_laysDeeds 42 = .ok (.aload_n 0, 1) := by decide +kernel
theorem dX12_laysDeeds_43 : decode cX12_laysDeeds 43 = .ok (.getfield 65, 3) := by decide +kernel
theorem dX12_laysDeeds_46 : decode cX12_laysDeeds 46 = .ok (.iload 4, 2) := by decide +kernel
theorem dX12_laysDeeds_48 : decode cX12_laysDeeds 48 = .ok (.iconst 1, 1) := by decide +kernel
theorem dX12_laysDeeds_49 : decode cX12_laysDeeds 49 = .ok (.iadd, 1) := by decide +kernel
theorem dX12_laysDeeds_50 : decode cX12_laysDeeds 50 = .ok (.iaload, 1) := by decide +kernel
theorem dX12_laysDeeds_51 : decode cX12_laysDeeds 51 = .ok (.iastore, 1) := by decide +kernel
theorem dX12_laysDeeds_52 : decode cX12_laysDeeds 52 = .ok (.iload_n 2, 1) := by decide +kernel
theorem dX12_laysDeeds_53 : decode cX12_laysDeeds 53 = .ok (.iconst 1, 1) := by decide +kernel
theorem dX12_laysDeeds_54 : decode cX12_laysDeeds 54 = .ok (.iadd, 1) := by decide +kernel
theorem dX12_laysDeeds_55 : decode cX12_laysDeeds 55 = .ok (.istore_n 2, 1) := by decide +kernel
theorem dX12_laysDeeds_56 : decode cX12_laysDeeds 56 = .ok (.goto 118, 3) := by decide +kernel
theorem dX12_laysDeeds_59 : decode cX12_laysDeeds 59 = .ok (.aload_n 0, 1) := by decide +kernel
theorem dX12_laysDeeds_60 : decode cX12_laysDeeds 60 = .ok (.getfield 65, 3) := by decide +kernel
theorem dX12_laysDeeds_63 : decode cX12_laysDeeds 63 = .ok (.iload 4, 2) := by decide +kernel
theorem dX12_laysDeeds_65 : decode cX12_laysDeeds 65 = .ok (.iaload, 1) := by decide +kernel
theorem dX12_laysDeeds_66 : decode cX12_laysDeeds 66 = .ok (.iconst 4, 1) := by decide +kernel
theorem dX12_laysDeeds_67 : decode cX12_laysDeeds 67 = .ok (.if_icmp .ne 51, 3) := by decide +kernel
theorem dX12_laysDeeds_70 : decode cX12_laysDeeds 70 = .ok (.aload_n 0, 1) := by decide +kernel
theorem dX12_laysDeeds_71 : decode cX12_laysDeeds 71 = .ok (.getfield 74, 3) := by decide +kernel
theorem dX12_laysDeeds_74 : decode cX12_laysDeeds 74 = .ok (.iload_n 2, 1) := by decide +kernel
theorem dX12_laysDeeds_75 : decode cX12_laysDeeds 75 = .ok (.iconst 1, 1) := by decide +kernel
theorem dX12_laysDeeds_76 : decode cX12_laysDeeds 76 = .ok (.isub, 1) := by decide +kernel
theorem dX12_laysDeeds_77 : decode cX12_laysDeeds 77 = .ok (.aload_n 0, 1) := by decide +kernel
theorem dX12_laysDeeds_78 : decode cX12_laysDeeds 78 = .ok (.getfield 74, 3) := by decide +kernel
theorem dX12_laysDeeds_81 : decode cX12_laysDeeds 81 = .ok (.iload_n 2, 1) := by decide +kernel
theorem dX12_laysDeeds_82 : decode cX12_laysDeeds 82 = .ok (.iconst 1, 1) := by decide +kernel
theorem dX12_laysDeeds_83 : decode cX12_laysDeeds 83 = .ok (.isub, 1) := by decide +kernel
theorem dX12_laysDeeds_84 : decode cX12_laysDeeds 84 = .ok (.iaload, 1) := by decide +kernel
theorem dX12_laysDeeds_85 : decode cX12_laysDeeds 85 = .ok (.iconst 1, 1) := by decide +kernel
theorem dX12_laysDeeds_86 : decode cX12_laysDeeds 86 = .ok (.isub, 1) := by decide +kernel
theorem dX12_laysDeeds_87 : decode cX12_laysDeeds 87 = .ok (.iastore, 1) := by decide +kernel
theorem dX12_laysDeeds_88 : decode cX12_laysDeeds 88 = .ok (.aload_n 0, 1) := by decide +kernel
theorem dX12_laysDeeds_89 : decode cX12_laysDeeds 89 = .ok (.getfield 74, 3) := by decide +kernel
theorem dX12_laysDeeds_92 : decode cX12_laysDeeds 92 = .ok (.iload_n 2, 1) := by decide +kernel
theorem dX12_laysDeeds_93 : decode cX12_laysDeeds 93 = .ok (.iconst 1, 1) := by decide +kernel
theorem dX12_laysDeeds_94 : decode cX12_laysDeeds 94 = .ok (.isub, 1) := by decide +kernel
theorem dX12_laysDeeds_95 : decode cX12_laysDeeds 95 = .ok (.iaload, 1) := by decide +kernel
theorem dX12_laysDeeds_96 : decode cX12_laysDeeds 96 = .ok (.ifCond .le 15, 3) := by decide +kernel
theorem dX12_laysDeeds_99 : decode cX12_laysDeeds 99 = .ok (.aload_n 0, 1) := by decide +kernel
theorem dX12_laysDeeds_100 : decode cX12_laysDeeds 100 = .ok (.getfield 71, 3) := by decide +kernel
theorem dX12_laysDeeds_103 : decode cX12_laysDeeds 103 = .ok (.iload_n 2, 1) := by decide +kernel
theorem dX12_laysDeeds_104 : decode cX12_laysDeeds 104 = .ok (.iconst 1, 1) := by decide +kernel
theorem dX12_laysDeeds_105 : decode cX12_laysDeeds 105 = .ok (.isub, 1) := by decide +kernel
theorem dX12_laysDeeds_106 : decode cX12_laysDeeds 106 = .ok (.iaload, 1) := by decide +kernel
theorem dX12_laysDeeds_107 : decode cX12_laysDeeds 107 = .ok (.istore_n 3, 1) := by decide +kernel
theorem dX12_laysDeeds_108 : decode cX12_laysDeeds 108 = .ok (.goto 66, 3) := by decide +kernel
theorem dX12_laysDeeds_111 : decode cX12_laysDeeds 111 = .ok (.iload_n 2, 1) := by decide +kernel
theorem dX12_laysDeeds_112 : decode cX12_laysDeeds 112 = .ok (.iconst 1, 1) := by decide +kernel
theorem dX12_laysDeeds_113 : decode cX12_laysDeeds 113 = .ok (.isub, 1) := by decide +kernel
theorem dX12_laysDeeds_114 : decode cX12_laysDeeds 114 = .ok (.istore_n 2, 1) := by decide +kernel
theorem dX12_laysDeeds_115 : decode cX12_laysDeeds 115 = .ok (.goto 59, 3) := by decide +kernel
theorem dX12_laysDeeds_118 : decode cX12_laysDeeds 118 = .ok (.iload_n 1, 1) := by decide +kernel
theorem dX12_laysDeeds_119 : decode cX12_laysDeeds 119 = .ok (.bipush 60, 2) := by decide +kernel
theorem dX12_laysDeeds_121 : decode cX12_laysDeeds 121 = .ok (.if_icmp .ne 9, 3) := by decide +kernel
theorem dX12_laysDeeds_124 : decode cX12_laysDeeds 124 = .ok (.aload_n 0, 1) := by decide +kernel
theorem dX12_laysDeeds_125 : decode cX12_laysDeeds 125 = .ok (.iconst 4, 1) := by decide +kernel
theorem dX12_laysDeeds_126 : decode cX12_laysDeeds 126 = .ok (.invokevirtual 194, 3) := by decide +kernel
theorem dX12_laysDeeds_129 : decode cX12_laysDeeds 129 = .ok (.ireturn, 1) := by decide +kernel
theorem dX12_laysDeeds_130 : decode cX12_laysDeeds 130 = .ok (.iconst 0, 1) := by decide +kernel
theorem dX12_laysDeeds_131 : decode cX12_laysDeeds 131 = .ok (.istore 5, 2) := by decide +kernel
theorem dX12_laysDeeds_133 : decode cX12_laysDeeds 133 = .ok (.iload 5, 2) := by decide +kernel
theorem dX12_laysDeeds_135 : decode cX12_laysDeeds 135 = .ok (.iconst 4, 1) := by decide +kernel
theorem dX12_laysDeeds_136 : decode cX12_laysDeeds 136 = .ok (.if_icmp .ge 34, 3) := by decide +kernel
theorem dX12_laysDeeds_139 : decode cX12_laysDeeds 139 = .ok (.aload_n 0, 1) := by decide +kernel
theorem dX12_laysDeeds_140 : decode cX12_laysDeeds 140 = .ok (.getfield 68, 3) := by decide +kernel
theorem dX12_laysDeeds_143 : decode cX12_laysDeeds 143 = .ok (.sipush 240, 3) := by decide +kernel
theorem dX12_laysDeeds_146 : decode cX12_laysDeeds 146 = .ok (.iconst 4, 1) := by decide +kernel
theorem dX12_laysDeeds_147 : decode cX12_laysDeeds 147 = .ok (.iload_n 1, 1) := by decide +kernel
theorem dX12_laysDeeds_148 : decode cX12_laysDeeds 148 = .ok (.imul, 1) := by decide +kernel
theorem dX12_laysDeeds_149 : decode cX12_laysDeeds 149 = .ok (.iadd, 1) := by decide +kernel
theorem dX12_laysDeeds_150 : decode cX12_laysDeeds 150 = .ok (.iload 5, 2) := by decide +kernel
theorem dX12_laysDeeds_152 : decode cX12_laysDeeds 152 = .ok (.iadd, 1) := by decide +kernel
theorem dX12_laysDeeds_153 : decode cX12_laysDeeds 153 = .ok (.aload_n 0, 1) := by decide +kernel
theorem dX12_laysDeeds_154 : decode cX12_laysDeeds 154 = .ok (.getfield 65, 3) := by decide +kernel
theorem dX12_laysDeeds_157 : decode cX12_laysDeeds 157 = .ok (.iload 4, 2) := by decide +kernel
theorem dX12_laysDeeds_159 : decode cX12_laysDeeds 159 = .ok (.iload 5, 2) := by decide +kernel
theorem dX12_laysDeeds_161 : decode cX12_laysDeeds 161 = .ok (.iadd, 1) := by decide +kernel
theorem dX12_laysDeeds_162 : decode cX12_laysDeeds 162 = .ok (.iaload, 1) := by decide +kernel
theorem dX12_laysDeeds_163 : decode cX12_laysDeeds 163 = .ok (.iastore, 1) := by decide +kernel
theorem dX12_laysDeeds_164 : decode cX12_laysDeeds 164 = .ok (.iinc 5 1, 3) := by decide +kernel
theorem dX12_laysDeeds_167 : decode cX12_laysDeeds 167 = .ok (.goto (-34), 3) := by decide +kernel
theorem dX12_laysDeeds_170 : decode cX12_laysDeeds 170 = .ok (.iload_n 1, 1) := by decide +kernel
theorem dX12_laysDeeds_171 : decode cX12_laysDeeds 171 = .ok (.iconst 1, 1) := by decide +kernel
theorem dX12_laysDeeds_172 : decode cX12_laysDeeds 172 = .ok (.iadd, 1) := by decide +kernel
theorem dX12_laysDeeds_173 : decode cX12_laysDeeds 173 = .ok (.istore_n 1, 1) := by decide +kernel
theorem dX12_laysDeeds_174 : decode cX12_laysDeeds 174 = .ok (.iinc 3 1, 3) := by decide +kernel
theorem dX12_laysDeeds_177 : decode cX12_laysDeeds 177 = .ok (.goto (-171), 3) := by decide +kernel
theorem dX12_laysDeeds_180 : decode cX12_laysDeeds 180 = .ok (.iload_n 1, 1) := by decide +kernel
theorem dX12_laysDeeds_181 : decode cX12_laysDeeds 181 = .ok (.ireturn, 1) := by decide +kernel
theorem bX12_laysDeeds_133 {l : Launch} {g : jm_G} {d : Nat} {v1 v2 v3 v4 v5 : Int} (hg : jm_HR g) {mu : jm_M} {Q : Option Value → jm_M → Prop} (h : jm_rg v5 ∧ (4 ≤ v5 → ∀ x2, x2 = (v1 + 1) → jm_V l g (d + 2) iX12_laysDeeds 6 [(0, .ref 0), (1, jm_i x2), (2, jm_i v2), (3, jm_i (v3 + 1))] [] mu Q) ∧ (v5 < 4 → (0 ≤ (v4 + v5) ∧ (v4 + v5) < 800) ∧ (0 ≤ ((240 + (4 * v1)) + v5) ∧ ((240 + (4 * v1)) + v5) < 480) ∧ ∀ m5, m5 = jm_wr mu 19 ((240 + (4 * v1)) + v5) (mu.1 18 (v4 + v5)) → jm_V l g (d + 2) iX12_laysDeeds 133 [(0, .ref 0), (1, jm_i v1), (2, jm_i v2), (3, jm_i v3), (4, jm_i v4), (5, jm_i (v5 + 1))] [] m5 Q)) : jm_V l g (d + 2) iX12_laysDeeds 133 [(0, .ref 0), (1, jm_i v1), (2, jm_i v2), (3, jm_i v3), (4, jm_i v4), (5, jm_i v5)] [] mu Q := by
  refine jm_mrI (fun hm0 => ?_)
  refine jm_iload (pc := 133) 5 dX12_laysDeeds_133 rfl ?_
  refine jm_iconst (pc := 135) dX12_laysDeeds_135 ?_
  have hg1 := h.1
  have h := h.2
  refine jm_icmp_ge (pc := 136) 170 dX12_laysDeeds_136 rfl hg1 ⟨by decide, by decide⟩ (fun q => ?_) (fun q => ?_)
  · have h := h.1 q
    refine jm_iload_n (pc := 170) 1 dX12_laysDeeds_170 rfl ?_
    refine jm_iconst (pc := 171) dX12_laysDeeds_171 ?_
    refine jm_iadd (pc := 172) dX12_laysDeeds_172 ?_
    have h := h _ rfl
    refine jm_istore_n (pc := 173) (lv' := [(1, _), (0, _), (2, _), (3, _), (4, _), (5, _)]) dX12_laysDeeds_173 (by decide) rfl ?_
    refine jm_iinc (pc := 174) (lv' := [(3, _), (1, _), (0, _), (2, _), (4, _), (5, _)]) 3 dX12_laysDeeds_174 rfl (by decide) rfl ?_
    refine jm_goto (pc := 177) 6 dX12_laysDeeds_177 rfl ?_
    exact jm_sub [2, 1, 3, 0] rfl h
  · have h := h.2 q
    refine jm_aload_n (pc := 139) 0 dX12_laysDeeds_139 rfl ?_
    refine jm_getr (pc := 140) 40 dX12_laysDeeds_140 fX12_68 (cR0 hg) rfl ?_
    refine jm_sipush (pc := 143) dX12_laysDeeds_143 (by decide) ?_
    refine jm_iconst (pc := 146) dX12_laysDeeds_146 ?_
    refine jm_iload_n (pc := 147) 1 dX12_laysDeeds_147 rfl ?_
    refine jm_imul (pc := 148) dX12_laysDeeds_148 ?_
    refine jm_iadd (pc := 149) dX12_laysDeeds_149 ?_
    refine jm_iload (pc := 150) 5 dX12_laysDeeds_150 rfl ?_
    refine jm_iadd (pc := 152) dX12_laysDeeds_152 ?_
    refine jm_aload_n (pc := 153) 0 dX12_laysDeeds_153 rfl ?_
    refine jm_getr (pc := 154) 37 dX12_laysDeeds_154 fX12_65 (cR0 hg) rfl ?_
    refine jm_iload (pc := 157) 4 dX12_laysDeeds_157 rfl ?_
    refine jm_iload (pc := 159) 5 dX12_laysDeeds_159 rfl ?_
    refine jm_iadd (pc := 161) dX12_laysDeeds_161 ?_
    have hg3 := h.1
    have h := h.2
    refine jm_iald (pc := 162) dX12_laysDeeds_162 (cR18 hg) (by decide) hg3.1 hg3.2 ?_
    have hg4 := h.1
    have h := h.2
    refine jm_iast (pc := 163) dX12_laysDeeds_163 (cR19 hg) (by decide) hg4.1 hg4.2 (hm0 _ _) ?_
    have h := h _ rfl
    refine jm_mrI (fun hm6 => ?_)
    refine jm_iinc (pc := 164) (lv' := [(5, _), (0, _), (1, _), (2, _), (3, _), (4, _)]) 5 dX12_laysDeeds_164 rfl (by decide) rfl ?_
    refine jm_goto (pc := 167) 133 dX12_laysDeeds_167 rfl ?_
    exact jm_sub [1, 2, 3, 4, 5, 0] rfl h
theorem bX12_laysDeeds_6 {l : Launch} {g : jm_G} {d : Nat} {v1 v2 v3 : Int} (hg : jm_HR g) {mu : jm_M} {Q : Option Value → jm_M → Prop} (h : jm_rg v3 ∧ ((mu.1 0 38) ≤ v3 → Q (some (jm_i v1)) mu) ∧ (v3 < (mu.1 0 38) → ∀ x2, x2 = (4 * v3) → (0 ≤ x2 ∧ x2 < 800) ∧ (¬ (mu.1 18 x2) = 3 → (¬ (mu.1 18 x2) = 4 → jm_rg v1 ∧ (¬ v1 = 60 → jm_V l g (d + 2) iX12_laysDeeds 133 [(0, .ref 0), (1, jm_i v1), (2, jm_i v2), (3, jm_i v3), (4, jm_i x2), (5, jm_i 0)] [] mu Q) ∧ (v1 = 60 → ∀ m5, m5 = (jm_wr (jm_wr mu 0 31 4) 0 32 ((jm_wr mu 0 31 4).1 0 15)) → Q (some (jm_i (-1))) m5)) ∧ ((mu.1 18 x2) = 4 → (0 ≤ (v2 - 1) ∧ (v2 - 1) < 4) ∧ jm_rg ((mu.1 21 (v2 - 1)) - 1) ∧ ∀ m9, m9 = jm_wr mu 21 (v2 - 1) ((mu.1 21 (v2 - 1)) - 1) → ((m9.1 21 (v2 - 1)) ≤ 0 → ∀ x11, x11 = (v2 - 1) → jm_V l g (d + 2) iX12_laysDeeds 6 [(0, .ref 0), (1, jm_i v1), (2, jm_i x11), (3, jm_i (v3 + 1))] [] m9 Q) ∧ (0 < (m9.1 21 (v2 - 1)) → ∀ x12, x12 = (m9.1 20 (v2 - 1)) → jm_V l g (d + 2) iX12_laysDeeds 6 [(0, .ref 0), (1, jm_i v1), (2, jm_i v2), (3, jm_i (x12 + 1))] [] m9 Q))) ∧ ((mu.1 18 x2) = 3 → (0 ≤ v2 ∧ v2 < 4) ∧ ∀ m14, m14 = jm_wr mu 20 v2 v3 → (0 ≤ (x2 + 1) ∧ (x2 + 1) < 800) ∧ ∀ m17, m17 = jm_wr m14 21 v2 (m14.1 18 (x2 + 1)) → ∀ x19, x19 = (v2 + 1) → jm_V l g (d + 2) iX12_laysDeeds 6 [(0, .ref 0), (1, jm_i v1), (2, jm_i x19), (3, jm_i (v3 + 1))] [] m17 Q))) : jm_V l g (d + 2) iX12_laysDeeds 6 [(0, .ref 0), (1, jm_i v1), (2, jm_i v2), (3, jm_i v3)] [] mu Q := by
  refine jm_mrI (fun hm0 => ?_)
  refine jm_iload_n (pc := 6) 3 dX12_laysDeeds_6 rfl ?_
  refine jm_aload_n (pc := 7) 0 dX12_laysDeeds_7 rfl ?_
  refine jm_geti (pc := 8) 38 dX12_laysDeeds_8 fX12_259 (cR0 hg) rfl ?_
  have hg1 := h.1
  have h := h.2
  refine jm_icmp_ge (pc := 11) 180 dX12_laysDeeds_11 rfl hg1 (hm0 _ _) (fun q => ?_) (fun q => ?_)
  · have h := h.1 q
    refine jm_iload_n (pc := 180) 1 dX12_laysDeeds_180 rfl ?_
    exact jm_iret (pc := 181) dX12_laysDeeds_181 rfl h
  · have h := h.2 q
    refine jm_iconst (pc := 14) dX12_laysDeeds_14 ?_
    refine jm_iload_n (pc := 15) 3 dX12_laysDeeds_15 rfl ?_
    refine jm_imul (pc := 16) dX12_laysDeeds_16 ?_
    have h := h _ rfl
    refine jm_istore (pc := 17) (lv' := [(4, _), (0, _), (1, _), (2, _), (3, _)]) dX12_laysDeeds_17 (by decide) rfl ?_
    refine jm_aload_n (pc := 19) 1 dX12_laysDeeds_19 rfl ?_
    refine jm_getr (pc := 20) 37 dX12_laysDeeds_20 fX12_65 (cR0 hg) rfl ?_
    refine jm_iload (pc := 23) 0 dX12_laysDeeds_23 rfl ?_
    have hg3 := h.1
    have h := h.2
    refine jm_iald (pc := 25) dX12_laysDeeds_25 (cR18 hg) (by decide) hg3.1 hg3.2 ?_
    refine jm_iconst (pc := 26) dX12_laysDeeds_26 ?_
    refine jm_icmp_ne (pc := 27) 59 dX12_laysDeeds_27 rfl (hm0 _ _) ⟨by decide, by decide⟩ (fun q => ?_) (fun q => ?_)
    · have h := h.1 q
      refine jm_aload_n (pc := 59) 1 dX12_laysDeeds_59 rfl ?_
      refine jm_getr (pc := 60) 37 dX12_laysDeeds_60 fX12_65 (cR0 hg) rfl ?_
      refine jm_iload (pc := 63) 0 dX12_laysDeeds_63 rfl ?_
      refine jm_iald (pc := 65) dX12_laysDeeds_65 (cR18 hg) (by decide) hg3.1 hg3.2 ?_
      refine jm_iconst (pc := 66) dX12_laysDeeds_66 ?_
      refine jm_icmp_ne (pc := 67) 118 dX12_laysDeeds_67 rfl (hm0 _ _) ⟨by decide, by decide⟩ (fun q => ?_) (fun q => ?_)
      · have h := h.1 q
        refine jm_iload_n (pc := 118) 2 dX12_laysDeeds_118 rfl ?_
        refine jm_bipush (pc := 119) dX12_laysDeeds_119 (by decide) ?_
        have hg4 := h.1
        have h := h.2
        refine jm_icmp_ne (pc := 121) 130 dX12_laysDeeds_121 rfl hg4 ⟨by decide, by decide⟩ (fun q => ?_) (fun q => ?_)
        · have h := h.1 q
          refine jm_iconst (pc := 130) dX12_laysDeeds_130 ?_
          refine jm_istore (pc := 131) (lv' := [(5, _), (4, _), (0, _), (1, _), (2, _), (3, _)]) dX12_laysDeeds_131 (by decide) rfl ?_
          exact jm_sub [2, 3, 4, 5, 1, 0] rfl h
        · have h := h.2 q
          refine jm_aload_n (pc := 124) 1 dX12_laysDeeds_124 rfl ?_
          refine jm_iconst (pc := 125) dX12_laysDeeds_125 ?_
          refine jm_inlvi (pc := 126) (As := [_]) (st := []) iX12_errs dX12_laysDeeds_126 mX12_194 (cR0 hg) ⟨_, rfl, rfl⟩ rfl rfl (Nat.le_of_ble_eq_true rfl) (pX12_errs hg ⟨by decide, by decide⟩ (jm_kIi ?_))
          have h := h _ rfl
          refine jm_mrI (fun hm6 => ?_)
          exact jm_iret (pc := 129) dX12_laysDeeds_129 rfl h
      · have h := h.2 q
        refine jm_aload_n (pc := 70) 1 dX12_laysDeeds_70 rfl ?_
        refine jm_getr (pc := 71) 42 dX12_laysDeeds_71 fX12_74 (cR0 hg) rfl ?_
        refine jm_iload_n (pc := 74) 3 dX12_laysDeeds_74 rfl ?_
        refine jm_iconst (pc := 75) dX12_laysDeeds_75 ?_
        refine jm_isub (pc := 76) dX12_laysDeeds_76 ?_
        refine jm_aload_n (pc := 77) 1 dX12_laysDeeds_77 rfl ?_
        refine jm_getr (pc := 78) 42 dX12_laysDeeds_78 fX12_74 (cR0 hg) rfl ?_
        refine jm_iload_n (pc := 81) 3 dX12_laysDeeds_81 rfl ?_
        refine jm_iconst (pc := 82) dX12_laysDeeds_82 ?_
        refine jm_isub (pc := 83) dX12_laysDeeds_83 ?_
        have hg7 := h.1
        have h := h.2
        refine jm_iald (pc := 84) dX12_laysDeeds_84 (cR21 hg) (by decide) hg7.1 hg7.2 ?_
        refine jm_iconst (pc := 85) dX12_laysDeeds_85 ?_
        refine jm_isub (pc := 86) dX12_laysDeeds_86 ?_
        have hg8 := h.1
        have h := h.2
        refine jm_iast (pc := 87) dX12_laysDeeds_87 (cR21 hg) (by decide) hg7.1 hg7.2 hg8 ?_
        have h := h _ rfl
        refine jm_mrI (fun hm10 => ?_)
        refine jm_aload_n (pc := 88) 1 dX12_laysDeeds_88 rfl ?_
        refine jm_getr (pc := 89) 42 dX12_laysDeeds_89 fX12_74 (cR0 hg) rfl ?_
        refine jm_iload_n (pc := 92) 3 dX12_laysDeeds_92 rfl ?_
        refine jm_iconst (pc := 93) dX12_laysDeeds_93 ?_
        refine jm_isub (pc := 94) dX12_laysDeeds_94 ?_
        refine jm_iald (pc := 95) dX12_laysDeeds_95 (cR21 hg) (by decide) hg7.1 hg7.2 ?_
        refine jm_if_le (pc := 96) 111 dX12_laysDeeds_96 rfl (hm10 _ _) (fun q => ?_) (fun q => ?_)
        · have h := h.1 q
          refine jm_iload_n (pc := 111) 3 dX12_laysDeeds_111 rfl ?_
          refine jm_iconst (pc := 112) dX12_laysDeeds_112 ?_
          refine jm_isub (pc := 113) dX12_laysDeeds_113 ?_
          have h := h _ rfl
          refine jm_istore_n (pc := 114) (lv' := [(2, _), (4, _), (0, _), (1, _), (3, _)]) dX12_laysDeeds_114 (by decide) rfl ?_
          refine jm_goto (pc := 115) 174 dX12_laysDeeds_115 rfl ?_
          refine jm_iinc (pc := 174) (lv' := [(3, _), (2, _), (4, _), (0, _), (1, _)]) 4 dX12_laysDeeds_174 rfl (by decide) rfl ?_
          refine jm_goto (pc := 177) 6 dX12_laysDeeds_177 rfl ?_
          exact jm_sub [3, 4, 1, 0] rfl h
        · have h := h.2 q
          refine jm_aload_n (pc := 99) 1 dX12_laysDeeds_99 rfl ?_
          refine jm_getr (pc := 100) 41 dX12_laysDeeds_100 fX12_71 (cR0 hg) rfl ?_
          refine jm_iload_n (pc := 103) 3 dX12_laysDeeds_103 rfl ?_
          refine jm_iconst (pc := 104) dX12_laysDeeds_104 ?_
          refine jm_isub (pc := 105) dX12_laysDeeds_105 ?_
          refine jm_iald (pc := 106) dX12_laysDeeds_106 (cR20 hg) (by decide) hg7.1 hg7.2 ?_
          have h := h _ rfl
          refine jm_istore_n (pc := 107) (lv' := [(3, _), (4, _), (0, _), (1, _), (2, _)]) dX12_laysDeeds_107 (by decide) rfl ?_
          refine jm_goto (pc := 108) 174 dX12_laysDeeds_108 rfl ?_
          refine jm_iinc (pc := 174) (lv' := [(3, _), (4, _), (0, _), (1, _), (2, _)]) 0 dX12_laysDeeds_174 rfl (by decide) rfl ?_
          refine jm_goto (pc := 177) 6 dX12_laysDeeds_177 rfl ?_
          exact jm_sub [2, 3, 4, 0] rfl h
    · have h := h.2 q
      refine jm_aload_n (pc := 30) 1 dX12_laysDeeds_30 rfl ?_
      refine jm_getr (pc := 31) 41 dX12_laysDeeds_31 fX12_71 (cR0 hg) rfl ?_
      refine jm_iload_n (pc := 34) 3 dX12_laysDeeds_34 rfl ?_
      refine jm_iload_n (pc := 35) 4 dX12_laysDeeds_35 rfl ?_
      have hg13 := h.1
      have h := h.2
      refine jm_iast (pc := 36) dX12_laysDeeds_36 (cR20 hg) (by decide) hg13.1 hg13.2 hg1 ?_
      have h := h _ rfl
      refine jm_mrI (fun hm15 => ?_)
      refine jm_aload_n (pc := 37) 1 dX12_laysDeeds_37 rfl ?_
      refine jm_getr (pc := 38) 42 dX12_laysDeeds_38 fX12_74 (cR0 hg) rfl ?_
      refine jm_iload_n (pc := 41) 3 dX12_laysDeeds_41 rfl ?_
      refine jm_aload_n (pc := 42) 1 dX12_laysDeeds_42 rfl ?_
      refine jm_getr (pc := 43) 37 dX12_laysDeeds_43 fX12_65 (cR0 hg) rfl ?_
      refine jm_iload (pc := 46) 0 dX12_laysDeeds_46 rfl ?_
      refine jm_iconst (pc := 48) dX12_laysDeeds_48 ?_
      refine jm_iadd (pc := 49) dX12_laysDeeds_49 ?_
      have hg16 := h.1
      have h := h.2
      refine jm_iald (pc := 50) dX12_laysDeeds_50 (cR18 hg) (by decide) hg16.1 hg16.2 ?_
      refine jm_iast (pc := 51) dX12_laysDeeds_51 (cR21 hg) (by decide) hg13.1 hg13.2 (hm15 _ _) ?_
      have h := h _ rfl
      refine jm_mrI (fun hm18 => ?_)
      refine jm_iload_n (pc := 52) 3 dX12_laysDeeds_52 rfl ?_
      refine jm_iconst (pc := 53) dX12_laysDeeds_53 ?_
      refine jm_iadd (pc := 54) dX12_laysDeeds_54 ?_
      have h := h _ rfl
      refine jm_istore_n (pc := 55) (lv' := [(2, _), (4, _), (0, _), (1, _), (3, _)]) dX12_laysDeeds_55 (by decide) rfl ?_
      refine jm_goto (pc := 56) 174 dX12_laysDeeds_56 rfl ?_
      refine jm_iinc (pc := 174) (lv' := [(3, _), (2, _), (4, _), (0, _), (1, _)]) 4 dX12_laysDeeds_174 rfl (by decide) rfl ?_
      refine jm_goto (pc := 177) 6 dX12_laysDeeds_177 rfl ?_
      exact jm_sub [3, 4, 1, 0] rfl h
theorem eX12_laysDeeds {l : Launch} {g : jm_G} {d : Nat} (hg : jm_HR g) {mu : jm_M} {Q : Option Value → jm_M → Prop} (h : jm_V l g (d + 2) iX12_laysDeeds 6 [(0, .ref 0), (1, jm_i 0), (2, jm_i 0), (3, jm_i 0)] [] mu Q) : jm_R l g (d + 2) iX12_laysDeeds [.ref 0] mu Q := by
  refine jm_enter [(0, .ref 0)] (by decide) (Nat.le_of_ble_eq_true rfl) rfl ?_
  refine jm_mrI (fun hm0 => ?_)
  refine jm_iconst (pc := 0) dX12_laysDeeds_0 ?_
  refine jm_istore_n (pc := 1) (lv' := [(1, _), (0, _)]) dX12_laysDeeds_1 (by decide) rfl ?_
  refine jm_iconst (pc := 2) dX12_laysDeeds_2 ?_
  refine jm_istore_n (pc := 3) (lv' := [(2, _), (1, _), (0, _)]) dX12_laysDeeds_3 (by decide) rfl ?_
  refine jm_iconst (pc := 4) dX12_laysDeeds_4 ?_
  refine jm_istore_n (pc := 5) (lv' := [(3, _), (2, _), (1, _), (0, _)]) dX12_laysDeeds_5 (by decide) rfl ?_
  exact jm_sub [3, 2, 1, 0] rfl h
theorem dX12_readsText_0 : decode cX12_readsText 0 = .ok (.aload_n 0, 1) := by decide +kernel
theorem dX12_readsText_1 : decode cX12_readsText 1 = .ok (.iconst 1, 1) := by decide +kernel
theorem dX12_readsText_2 : decode cX12_readsText 2 = .ok (.putfield 241, 3) := by decide +kernel
theorem dX12_readsText_5 : decode cX12_readsText 5 = .ok (.aload_n 0, 1) := by decide +kernel
theorem dX12_readsText_6 : decode cX12_readsText 6 = .ok (.invokevirtual 200, 3) := by decide +kernel
theorem dX12_readsText_9 : decode cX12_readsText 9 = .ok (.iload_n 1, 1) := by decide +kernel
theorem dX12_readsText_10 : decode cX12_readsText 10 = .ok (.ifCond .ne 8, 3) := by decide +kernel
theorem dX12_readsText_13 : decode cX12_readsText 13 = .ok (.aload_n 0, 1) := by decide +kernel
theorem dX12_readsText_14 : decode cX12_readsText 14 = .ok (.invokevirtual 278, 3) := by decide +kernel
theorem dX12_readsText_17 : decode cX12_readsText 17 = .ok (.ireturn, 1) := by decide +kernel
theorem dX12_readsText_18 : decode cX12_readsText 18 = .ok (.iload_n 1, 1) := by decide +kernel
theorem dX12_readsText_19 : decode cX12_readsText 19 = .ok (.iconst 2, 1) := by decide +kernel
theorem dX12_readsText_20 : decode cX12_readsText 20 = .ok (.if_icmp .ne 22, 3) := by decide +kernel
theorem dX12_readsText_23 : decode cX12_readsText 23 = .ok (.aload_n 0, 1) := by decide +kernel
theorem dX12_readsText_24 : decode cX12_readsText 24 = .ok (.invokevirtual 281, 3) := by decide +kernel
theorem dX12_readsText_27 : decode cX12_readsText 27 = .ok (.iconst (-1), 1) := by decide +kernel
theorem dX12_readsText_28 : decode cX12_readsText 28 = .ok (.if_icmp .ne 7, 3) := by decide +kernel
theorem dX12_readsText_31 : decode cX12_readsText 31 = .ok (.iconst (-1), 1) := by decide +kernel
theorem dX12_readsText_32 : decode cX12_readsText 32 = .ok (.goto 14, 3) := by decide +kernel
theorem dX12_readsText_35 : decode cX12_readsText 35 = .ok (.aload_n 0, 1) := by decide +kernel
theorem dX12_readsText_36 : decode cX12_readsText 36 = .ok (.invokevirtual 284, 3) := by decide +kernel
theorem dX12_readsText_39 : decode cX12_readsText 39 = .ok (.goto 7, 3) := by decide +kernel
theorem dX12_readsText_42 : decode cX12_readsText 42 = .ok (.aload_n 0, 1) := by decide +kernel
theorem dX12_readsText_43 : decode cX12_readsText 43 = .ok (.invokevirtual 287, 3) := by decide +kernel
theorem dX12_readsText_46 : decode cX12_readsText 46 = .ok (.ireturn, 1) := by decide +kernel
theorem eX12_readsText {l : Launch} {g : jm_G} {d : Nat} {v1 : Int} (hg : jm_HR g) {mu : jm_M} {Q : Option Value → jm_M → Prop} (h : ∀ m1, m1 = jm_wr mu 0 26 1 → jm_R l g d iX12_reads [.ref 0] m1 (jm_qv fun m3 => jm_rg v1 ∧ (¬ v1 = 0 → (¬ v1 = 2 → jm_R l g d iX12_readLaw [.ref 0] m3 (jm_qi fun z9 m8 => Q (some (jm_i z9)) m8)) ∧ (v1 = 2 → jm_R l g d iX12_readSteps [.ref 0] m3 (jm_qi fun z13 m12 => (¬ z13 = (-1) → jm_R l g d iX12_laysDeeds [.ref 0] m12 (jm_qi fun z17 m16 => Q (some (jm_i z17)) m16)) ∧ (z13 = (-1) → Q (some (jm_i (-1))) m12)))) ∧ (v1 = 0 → jm_R l g d iX12_readMotives [.ref 0] m3 (jm_qi fun z21 m20 => Q (some (jm_i z21)) m20)))) : jm_R l g (d + 1) iX12_readsText [.ref 0, jm_i v1] mu Q := by
  refine jm_enter [(0, .ref 0), (1, jm_i v1)] (by decide) (Nat.le_of_ble_eq_true rfl) rfl ?_
  refine jm_mrI (fun hm0 => ?_)
  refine jm_aload_n (pc := 0) 0 dX12_readsText_0 rfl ?_
  refine jm_iconst (pc := 1) dX12_readsText_1 ?_
  refine jm_put (pc := 2) 26 dX12_readsText_2 fX12_241 ftX12 (fun q h => by cases h; rfl) (jm_nI _) (jm_fI _) (cR0 hg) rfl ⟨by decide, by decide⟩ ?_
  have h := h _ rfl
  refine jm_mrI (fun hm2 => ?_)
  refine jm_aload_n (pc := 5) 0 dX12_readsText_5 rfl ?_
  refine jm_callvv (pc := 6) (As := []) (st := []) iX12_reads dX12_readsText_6 mX12_200 (cR0 hg) ⟨_, rfl, rfl⟩ rfl rfl (Nat.le_of_ble_eq_true rfl) h (fun m3 h hm6 => ?_)
  refine jm_iload_n (pc := 9) 1 dX12_readsText_9 rfl ?_
  have hg7 := h.1
  have h := h.2
  refine jm_if_ne (pc := 10) 18 dX12_readsText_10 rfl hg7 (fun q => ?_) (fun q => ?_)
  · have h := h.1 q
    refine jm_iload_n (pc := 18) 1 dX12_readsText_18 rfl ?_
    refine jm_iconst (pc := 19) dX12_readsText_19 ?_
    refine jm_icmp_ne (pc := 20) 42 dX12_readsText_20 rfl hg7 ⟨by decide, by decide⟩ (fun q => ?_) (fun q => ?_)
    · have h := h.1 q
      refine jm_aload_n (pc := 42) 0 dX12_readsText_42 rfl ?_
      refine jm_callvi (pc := 43) (As := []) (st := []) iX12_readLaw dX12_readsText_43 mX12_287 (cR0 hg) ⟨_, rfl, rfl⟩ rfl rfl (Nat.le_of_ble_eq_true rfl) h (fun z9 m8 hz10 h hm11 => ?_)
      exact jm_iret (pc := 46) dX12_readsText_46 rfl h
    · have h := h.2 q
      refine jm_aload_n (pc := 23) 0 dX12_readsText_23 rfl ?_
      refine jm_callvi (pc := 24) (As := []) (st := []) iX12_readSteps dX12_readsText_24 mX12_281 (cR0 hg) ⟨_, rfl, rfl⟩ rfl rfl (Nat.le_of_ble_eq_true rfl) h (fun z13 m12 hz14 h hm15 => ?_)
      refine jm_iconst (pc := 27) dX12_readsText_27 ?_
      refine jm_icmp_ne (pc := 28) 35 dX12_readsText_28 rfl hz14 ⟨by decide, by decide⟩ (fun q => ?_) (fun q => ?_)
      · have h := h.1 q
        refine jm_aload_n (pc := 35) 0 dX12_readsText_35 rfl ?_
        refine jm_callvi (pc := 36) (As := []) (st := []) iX12_laysDeeds dX12_readsText_36 mX12_284 (cR0 hg) ⟨_, rfl, rfl⟩ rfl rfl (Nat.le_of_ble_eq_true rfl) h (fun z17 m16 hz18 h hm19 => ?_)
        refine jm_goto (pc := 39) 46 dX12_readsText_39 rfl ?_
        exact jm_iret (pc := 46) dX12_readsText_46 rfl h
      · have h := h.2 q
        refine jm_iconst (pc := 31) dX12_readsText_31 ?_
        refine jm_goto (pc := 32) 46 dX12_readsText_32 rfl ?_
        exact jm_iret (pc := 46) dX12_readsText_46 rfl h
  · have h := h.2 q
    refine jm_aload_n (pc := 13) 0 dX12_readsText_13 rfl ?_
    refine jm_callvi (pc := 14) (As := []) (st := []) iX12_readMotives dX12_readsText_14 mX12_278 (cR0 hg) ⟨_, rfl, rfl⟩ rfl rfl (Nat.le_of_ble_eq_true rfl) h (fun z21 m20 hz22 h hm23 => ?_)
    exact jm_iret (pc := 17) dX12_readsText_17 rfl h
theorem dX12_takesOther_0 : decode cX12_takesOther 0 = .ok (.iload_n 1, 1) := by decide +kernel
theorem dX12_takesOther_1 : decode cX12_takesOther 1 = .ok (.ifCond .ne 42, 3) := by decide +kernel
theorem dX12_takesOther_4 : decode cX12_takesOther 4 = .ok (.iconst 0, 1) := by decide +kernel
theorem dX12_takesOther_5 : decode cX12_takesOther 5 = .ok (.istore_n 3, 1) := by decide +kernel
theorem dX12_takesOther_6 : decode cX12_takesOther 6 = .ok (.iload_n 3, 1) := by decide +kernel
theorem dX12_takesOther_7 : decode cX12_takesOther 7 = .ok (.sipush 192, 3) := by decide +kernel
theorem dX12_takesOther_10 : decode cX12_takesOther 10 = .ok (.if_icmp .ge 25, 3) := by decide +kernel
theorem dX12_takesOther_13 : decode cX12_takesOther 13 = .ok (.aload_n 0, 1) := by decide +kernel
theorem dX12_takesOther_14 : decode cX12_takesOther 14 = .ok (.getfield 62, 3) := by decide +kernel
theorem dX12_takesOther_17 : decode cX12_takesOther 17 = .ok (.iload_n 3, 1) := by decide +kernel
theorem dX12_takesOther_18 : decode cX12_takesOther 18 = .ok (.aload_n 0, 1) := by decide +kernel
theorem dX12_takesOther_19 : decode cX12_takesOther 19 = .ok (.getfield 62, 3) := by decide +kernel
theorem dX12_takesOther_22 : decode cX12_takesOther 22 = .ok (.sipush 192, 3) := by decide +kernel
theorem dX12_takesOther_25 : decode cX12_takesOther 25 = .ok (.iload_n 3, 1) := by decide +kernel
theorem dX12_takesOther_26 : decode cX12_takesOther 26 = .ok (.iadd, 1) := by decide +kernel
theorem dX12_takesOther_27 : decode cX12_takesOther 27 = .ok (.iaload, 1) := by decide +kernel
theorem dX12_takesOther_28 : decode cX12_takesOther 28 = .ok (.iastore, 1) := by decide +kernel
theorem dX12_takesOther_29 : decode cX12_takesOther 29 = .ok (.iinc 3 1, 3) := by decide +kernel
theorem dX12_takesOther_32 : decode cX12_takesOther 32 = .ok (.goto (-26), 3) := by decide +kernel
theorem dX12_takesOther_35 : decode cX12_takesOther 35 = .ok (.aload_n 0, 1) := by decide +kernel
theorem dX12_takesOther_36 : decode cX12_takesOther 36 = .ok (.iload_n 2, 1) := by decide +kernel
theorem dX12_takesOther_37 : decode cX12_takesOther 37 = .ok (.putfield 290, 3) := by decide +kernel
theorem dX12_takesOther_40 : decode cX12_takesOther 40 = .ok (.goto 39, 3) := by decide +kernel
theorem dX12_takesOther_43 : decode cX12_takesOther 43 = .ok (.iconst 0, 1) := by decide +kernel
theorem dX12_takesOther_44 : decode cX12_takesOther 44 = .ok (.istore_n 3, 1) := by decide +kernel
theorem dX12_takesOther_45 : decode cX12_takesOther 45 = .ok (.iload_n 3, 1) := by decide +kernel
theorem dX12_takesOther_46 : decode cX12_takesOther 46 = .ok (.iconst 4, 1) := by decide +kernel
theorem dX12_takesOther_47 : decode cX12_takesOther 47 = .ok (.iload_n 2, 1) := by decide +kernel
theorem dX12_takesOther_48 : decode cX12_takesOther 48 = .ok (.imul, 1) := by decide +kernel
theorem dX12_takesOther_49 : decode cX12_takesOther 49 = .ok (.if_icmp .ge 25, 3) := by decide +kernel
theorem dX12_takesOther_52 : decode cX12_takesOther 52 = .ok (.aload_n 0, 1) := by decide +kernel
theorem dX12_takesOther_53 : decode cX12_takesOther 53 = .ok (.getfield 68, 3) := by decide +kernel
theorem dX12_takesOther_56 : decode cX12_takesOther 56 = .ok (.iload_n 3, 1) := by decide +kernel
theorem dX12_takesOther_57 : decode cX12_takesOther 57 = .ok (.aload_n 0, 1) := by decide +kernel
theorem dX12_takesOther_58 : decode cX12_takesOther 58 = .ok (.getfield 68, 3) := by decide +kernel
theorem dX12_takesOther_61 : decode cX12_takesOther 61 = .ok (.sipush 240, 3) := by decide +kernel
theorem dX12_takesOther_64 : decode cX12_takesOther 64 = .ok (.iload_n 3, 1) := by decide +kernel
theorem dX12_takesOther_65 : decode cX12_takesOther 65 = .ok (.iadd, 1) := by decide +kernel
theorem dX12_takesOther_66 : decode cX12_takesOther 66 = .ok (.iaload, 1) := by decide +kernel
theorem dX12_takesOther_67 : decode cX12_takesOther 67 = .ok (.iastore, 1) := by decide +kernel
theorem dX12_takesOther_68 : decode cX12_takesOther 68 = .ok (.iinc 3 1, 3) := by decide +kernel
theorem dX12_takesOther_71 : decode cX12_takesOther 71 = .ok (.goto (-26), 3) := by decide +kernel
theorem dX12_takesOther_74 : decode cX12_takesOther 74 = .ok (.aload_n 0, 1) := by decide +kernel
theorem dX12_takesOther_75 : decode cX12_takesOther 75 = .ok (.iload_n 2, 1) := by decide +kernel
theorem dX12_takesOther_76 : decode cX12_takesOther 76 = .ok (.putfield 293, 3) := by decide +kernel
theorem dX12_takesOther_79 : decode cX12_takesOther 79 = .ok (.aload_n 0, 1) := by decide +kernel
theorem dX12_takesOther_80 : decode cX12_takesOther 80 = .ok (.iconst 0, 1) := by decide +kernel
theorem dX12_takesOther_81 : decode cX12_takesOther 81 = .ok (.putfield 107, 3) := by decide +kernel
theorem dX12_takesOther_84 : decode cX12_takesOther 84 = .ok (.return_, 1) := by decide +kernel
theorem bX12_takesOther_45 {l : Launch} {g : jm_G} {d : Nat} {v2 v3 : Int} (hg : jm_HR g) {mu : jm_M} {Q : Option Value → jm_M → Prop} (h : jm_rg v3 ∧ jm_rg (4 * v2) ∧ ((4 * v2) ≤ v3 → jm_rg v2 ∧ ∀ m4, m4 = jm_wr mu 0 39 v2 → ∀ m6, m6 = jm_wr m4 0 3 0 → Q none m6) ∧ (v3 < (4 * v2) → (0 ≤ (240 + v3) ∧ (240 + v3) < 480) ∧ (0 ≤ v3 ∧ v3 < 480) ∧ ∀ m10, m10 = jm_wr mu 19 v3 (mu.1 19 (240 + v3)) → jm_V l g (d + 1) iX12_takesOther 45 [(0, .ref 0), (2, jm_i v2), (3, jm_i (v3 + 1))] [] m10 Q)) : jm_V l g (d + 1) iX12_takesOther 45 [(0, .ref 0), (2, jm_i v2), (3, jm_i v3)] [] mu Q := by
  refine jm_mrI (fun hm0 => ?_)
  refine jm_iload_n (pc := 45) 2 dX12_takesOther_45 rfl ?_
  refine jm_iconst (pc := 46) dX12_takesOther_46 ?_
  refine jm_iload_n (pc := 47) 1 dX12_takesOther_47 rfl ?_
  refine jm_imul (pc := 48) dX12_takesOther_48 ?_
  have hg1 := h.1
  have h := h.2
  have hg2 := h.1
  have h := h.2
  refine jm_icmp_ge (pc := 49) 74 dX12_takesOther_49 rfl hg1 hg2 (fun q => ?_) (fun q => ?_)
  · have h := h.1 q
    refine jm_aload_n (pc := 74) 0 dX12_takesOther_74 rfl ?_
    refine jm_iload_n (pc := 75) 1 dX12_takesOther_75 rfl ?_
    have hg3 := h.1
    have h := h.2
    refine jm_put (pc := 76) 39 dX12_takesOther_76 fX12_293 ftX12 (fun q h => by cases h; rfl) (jm_nI _) (jm_fI _) (cR0 hg) rfl hg3 ?_
    have h := h _ rfl
    refine jm_mrI (fun hm5 => ?_)
    refine jm_aload_n (pc := 79) 0 dX12_takesOther_79 rfl ?_
    refine jm_iconst (pc := 80) dX12_takesOther_80 ?_
    refine jm_put (pc := 81) 3 dX12_takesOther_81 fX12_107 ftX12 (fun q h => by cases h; rfl) (jm_nI _) (jm_fI _) (cR0 hg) rfl ⟨by decide, by decide⟩ ?_
    have h := h _ rfl
    refine jm_mrI (fun hm7 => ?_)
    exact jm_vret (pc := 84) dX12_takesOther_84 rfl h
  · have h := h.2 q
    refine jm_aload_n (pc := 52) 0 dX12_takesOther_52 rfl ?_
    refine jm_getr (pc := 53) 40 dX12_takesOther_53 fX12_68 (cR0 hg) rfl ?_
    refine jm_iload_n (pc := 56) 2 dX12_takesOther_56 rfl ?_
    refine jm_aload_n (pc := 57) 0 dX12_takesOther_57 rfl ?_
    refine jm_getr (pc := 58) 40 dX12_takesOther_58 fX12_68 (cR0 hg) rfl ?_
    refine jm_sipush (pc := 61) dX12_takesOther_61 (by decide) ?_
    refine jm_iload_n (pc := 64) 2 dX12_takesOther_64 rfl ?_
    refine jm_iadd (pc := 65) dX12_takesOther_65 ?_
    have hg8 := h.1
    have h := h.2
    refine jm_iald (pc := 66) dX12_takesOther_66 (cR19 hg) (by decide) hg8.1 hg8.2 ?_
    have hg9 := h.1
    have h := h.2
    refine jm_iast (pc := 67) dX12_takesOther_67 (cR19 hg) (by decide) hg9.1 hg9.2 (hm0 _ _) ?_
    have h := h _ rfl
    refine jm_mrI (fun hm11 => ?_)
    refine jm_iinc (pc := 68) (lv' := [(3, _), (0, _), (2, _)]) 2 dX12_takesOther_68 rfl (by decide) rfl ?_
    refine jm_goto (pc := 71) 45 dX12_takesOther_71 rfl ?_
    exact jm_sub [1, 2, 0] rfl h
theorem bX12_takesOther_6 {l : Launch} {g : jm_G} {d : Nat} {v2 v3 : Int} (hg : jm_HR g) {mu : jm_M} {Q : Option Value → jm_M → Prop} (h : jm_rg v3 ∧ (192 ≤ v3 → jm_rg v2 ∧ ∀ m3, m3 = jm_wr mu 0 35 v2 → ∀ m5, m5 = jm_wr m3 0 3 0 → Q none m5) ∧ (v3 < 192 → (0 ≤ (192 + v3) ∧ (192 + v3) < 384) ∧ (0 ≤ v3 ∧ v3 < 384) ∧ ∀ m9, m9 = jm_wr mu 17 v3 (mu.1 17 (192 + v3)) → jm_V l g (d + 1) iX12_takesOther 6 [(0, .ref 0), (2, jm_i v2), (3, jm_i (v3 + 1))] [] m9 Q)) : jm_V l g (d + 1) iX12_takesOther 6 [(0, .ref 0), (2, jm_i v2), (3, jm_i v3)] [] mu Q := by
  refine jm_mrI (fun hm0 => ?_)
  refine jm_iload_n (pc := 6) 2 dX12_takesOther_6 rfl ?_
  refine jm_sipush (pc := 7) dX12_takesOther_7 (by decide) ?_
  have hg1 := h.1
  have h := h.2
  refine jm_icmp_ge (pc := 10) 35 dX12_takesOther_10 rfl hg1 ⟨by decide, by decide⟩ (fun q => ?_) (fun q => ?_)
  · have h := h.1 q
    refine jm_aload_n (pc := 35) 0 dX12_takesOther_35 rfl ?_
    refine jm_iload_n (pc := 36) 1 dX12_takesOther_36 rfl ?_
    have hg2 := h.1
    have h := h.2
    refine jm_put (pc := 37) 35 dX12_takesOther_37 fX12_290 ftX12 (fun q h => by cases h; rfl) (jm_nI _) (jm_fI _) (cR0 hg) rfl hg2 ?_
    have h := h _ rfl
    refine jm_mrI (fun hm4 => ?_)
    refine jm_goto (pc := 40) 79 dX12_takesOther_40 rfl ?_
    refine jm_aload_n (pc := 79) 0 dX12_takesOther_79 rfl ?_
    refine jm_iconst (pc := 80) dX12_takesOther_80 ?_
    refine jm_put (pc := 81) 3 dX12_takesOther_81 fX12_107 ftX12 (fun q h => by cases h; rfl) (jm_nI _) (jm_fI _) (cR0 hg) rfl ⟨by decide, by decide⟩ ?_
    have h := h _ rfl
    refine jm_mrI (fun hm6 => ?_)
    exact jm_vret (pc := 84) dX12_takesOther_84 rfl h
  · have h := h.2 q
    refine jm_aload_n (pc := 13) 0 dX12_takesOther_13 rfl ?_
    refine jm_getr (pc := 14) 36 dX12_takesOther_14 fX12_62 (cR0 hg) rfl ?_
    refine jm_iload_n (pc := 17) 2 dX12_takesOther_17 rfl ?_
    refine jm_aload_n (pc := 18) 0 dX12_takesOther_18 rfl ?_
    refine jm_getr (pc := 19) 36 dX12_takesOther_19 fX12_62 (cR0 hg) rfl ?_
    refine jm_sipush (pc := 22) dX12_takesOther_22 (by decide) ?_
    refine jm_iload_n (pc := 25) 2 dX12_takesOther_25 rfl ?_
    refine jm_iadd (pc := 26) dX12_takesOther_26 ?_
    have hg7 := h.1
    have h := h.2
    refine jm_iald (pc := 27) dX12_takesOther_27 (cR17 hg) (by decide) hg7.1 hg7.2 ?_
    have hg8 := h.1
    have h := h.2
    refine jm_iast (pc := 28) dX12_takesOther_28 (cR17 hg) (by decide) hg8.1 hg8.2 (hm0 _ _) ?_
    have h := h _ rfl
    refine jm_mrI (fun hm10 => ?_)
    refine jm_iinc (pc := 29) (lv' := [(3, _), (0, _), (2, _)]) 2 dX12_takesOther_29 rfl (by decide) rfl ?_
    refine jm_goto (pc := 32) 6 dX12_takesOther_32 rfl ?_
    exact jm_sub [1, 2, 0] rfl h
theorem eX12_takesOther {l : Launch} {g : jm_G} {d : Nat} {v1 v2 : Int} (hg : jm_HR g) {mu : jm_M} {Q : Option Value → jm_M → Prop} (h : jm_rg v1 ∧ (¬ v1 = 0 → jm_V l g (d + 1) iX12_takesOther 45 [(0, .ref 0), (2, jm_i v2), (3, jm_i 0)] [] mu Q) ∧ (v1 = 0 → jm_V l g (d + 1) iX12_takesOther 6 [(0, .ref 0), (2, jm_i v2), (3, jm_i 0)] [] mu Q)) : jm_R l g (d + 1) iX12_takesOther [.ref 0, jm_i v1, jm_i v2] mu Q := by
  refine jm_enter [(0, .ref 0), (1, jm_i v1), (2, jm_i v2)] (by decide) (Nat.le_of_ble_eq_true rfl) rfl ?_
  refine jm_mrI (fun hm0 => ?_)
  refine jm_iload_n (pc := 0) 1 dX12_takesOther_0 rfl ?_
  have hg1 := h.1
  have h := h.2
  refine jm_if_ne (pc := 1) 43 dX12_takesOther_1 rfl hg1 (fun q => ?_) (fun q => ?_)
  · have h := h.1 q
    refine jm_iconst (pc := 43) dX12_takesOther_43 ?_
    refine jm_istore_n (pc := 44) (lv' := [(3, _), (0, _), (1, _), (2, _)]) dX12_takesOther_44 (by decide) rfl ?_
    exact jm_sub [1, 3, 0] rfl h
  · have h := h.2 q
    refine jm_iconst (pc := 4) dX12_takesOther_4 ?_
    refine jm_istore_n (pc := 5) (lv' := [(3, _), (0, _), (1, _), (2, _)]) dX12_takesOther_5 (by decide) rfl ?_
    exact jm_sub [1, 3, 0] rfl h
theorem dX12_text_0 : decode cX12_text 0 = .ok (.aload_n 0, 1) := by decide +kernel
theorem dX12_text_1 : decode cX12_text 1 = .ok (.iconst 0, 1) := by decide +kernel
theorem dX12_text_2 : decode cX12_text 2 = .ok (.putfield 104, 3) := by decide +kernel
theorem dX12_text_5 : decode cX12_text 5 = .ok (.aload_n 0, 1) := by decide +kernel
theorem dX12_text_6 : decode cX12_text 6 = .ok (.iconst 0, 1) := by decide +kernel
theorem dX12_text_7 : decode cX12_text 7 = .ok (.putfield 296, 3) := by decide +kernel
theorem dX12_text_10 : decode cX12_text 10 = .ok (.aload_n 0, 1) := by decide +kernel
theorem dX12_text_11 : decode cX12_text 11 = .ok (.iconst (-1), 1) := by decide +kernel
theorem dX12_text_12 : decode cX12_text 12 = .ok (.putfield 58, 3) := by decide +kernel
theorem dX12_text_15 : decode cX12_text 15 = .ok (.aload_n 0, 1) := by decide +kernel
theorem dX12_text_16 : decode cX12_text 16 = .ok (.iconst 0, 1) := by decide +kernel
theorem dX12_text_17 : decode cX12_text 17 = .ok (.putfield 153, 3) := by decide +kernel
theorem dX12_text_20 : decode cX12_text 20 = .ok (.aload_n 0, 1) := by decide +kernel
theorem dX12_text_21 : decode cX12_text 21 = .ok (.iconst 0, 1) := by decide +kernel
theorem dX12_text_22 : decode cX12_text 22 = .ok (.putfield 188, 3) := by decide +kernel
theorem dX12_text_25 : decode cX12_text 25 = .ok (.aload_n 0, 1) := by decide +kernel
theorem dX12_text_26 : decode cX12_text 26 = .ok (.iconst 0, 1) := by decide +kernel
theorem dX12_text_27 : decode cX12_text 27 = .ok (.putfield 219, 3) := by decide +kernel
theorem dX12_text_30 : decode cX12_text 30 = .ok (.iconst (-1), 1) := by decide +kernel
theorem dX12_text_31 : decode cX12_text 31 = .ok (.istore_n 2, 1) := by decide +kernel
theorem dX12_text_32 : decode cX12_text 32 = .ok (.aload_n 0, 1) := by decide +kernel
theorem dX12_text_33 : decode cX12_text 33 = .ok (.iload_n 1, 1) := by decide +kernel
theorem dX12_text_34 : decode cX12_text 34 = .ok (.iconst 0, 1) := by decide +kernel
theorem dX12_text_35 : decode cX12_text 35 = .ok (.iconst 2, 1) := by decide +kernel
theorem dX12_text_36 : decode cX12_text 36 = .ok (.invokevirtual 128, 3) := by decide +kernel
theorem dX12_text_39 : decode cX12_text 39 = .ok (.ifCond .eq 30, 3) := by decide +kernel
theorem dX12_text_42 : decode cX12_text 42 = .ok (.aload_n 0, 1) := by decide +kernel
theorem dX12_text_43 : decode cX12_text 43 = .ok (.iload_n 1, 1) := by decide +kernel
theorem dX12_text_44 : decode cX12_text 44 = .ok (.invokevirtual 299, 3) := by decide +kernel
theorem dX12_text_47 : decode cX12_text 47 = .ok (.istore_n 2, 1) := by decide +kernel
theorem dX12_text_48 : decode cX12_text 48 = .ok (.iload_n 2, 1) := by decide +kernel
theorem dX12_text_49 : decode cX12_text 49 = .ok (.iconst (-1), 1) := by decide +kernel
theorem dX12_text_50 : decode cX12_text 50 = .ok (.if_icmp .ne 19, 3) := by decide +kernel
theorem dX12_text_53 : decode cX12_text 53 = .ok (.aload_n 0, 1) := by decide +kernel
theorem dX12_text_54 : decode cX12_text 54 = .ok (.aload_n 0, 1) := by decide +kernel
theorem dX12_text_55 : decode cX12_text 55 = .ok (.getfield 182, 3) := by decide +kernel
theorem dX12_text_58 : decode cX12_text 58 = .ok (.putfield 296, 3) := by decide +kernel
theorem dX12_text_61 : decode cX12_text 61 = .ok (.aload_n 0, 1) := by decide +kernel
theorem dX12_text_62 : decode cX12_text 62 = .ok (.aload_n 0, 1) := by decide +kernel
theorem dX12_text_63 : decode cX12_text 63 = .ok (.getfield 185, 3) := by decide +kernel
theorem dX12_text_66 : decode cX12_text 66 = .ok (.putfield 58, 3) := by decide +kernel
theorem dX12_text_69 : decode cX12_text 69 = .ok (.aload_n 0, 1) := by decide +kernel
theorem dX12_text_70 : decode cX12_text 70 = .ok (.iconst 0, 1) := by decide +kernel
theorem dX12_text_71 : decode cX12_text 71 = .ok (.putfield 146, 3) := by decide +kernel
theorem dX12_text_74 : decode cX12_text 74 = .ok (.iload_n 2, 1) := by decide +kernel
theorem dX12_text_75 : decode cX12_text 75 = .ok (.iconst (-1), 1) := by decide +kernel
theorem dX12_text_76 : decode cX12_text 76 = .ok (.if_icmp .ne 5, 3) := by decide +kernel
theorem dX12_text_79 : decode cX12_text 79 = .ok (.iconst (-1), 1) := by decide +kernel
theorem dX12_text_80 : decode cX12_text 80 = .ok (.ireturn, 1) := by decide +kernel
theorem dX12_text_81 : decode cX12_text 81 = .ok (.iload_n 1, 1) := by decide +kernel
theorem dX12_text_82 : decode cX12_text 82 = .ok (.iconst 1, 1) := by decide +kernel
theorem dX12_text_83 : decode cX12_text 83 = .ok (.if_icmp .ne 11, 3) := by decide +kernel
theorem dX12_text_86 : decode cX12_text 86 = .ok (.aload_n 0, 1) := by decide +kernel
theorem dX12_text_87 : decode cX12_text 87 = .ok (.iload_n 2, 1) := by decide +kernel
theorem dX12_text_88 : decode cX12_text 88 = .ok (.invokevirtual 302, 3) := by decide +kernel
theorem dX12_text_91 : decode cX12_text 91 = .ok (.goto 9, 3) := by decide +kernel
theorem dX12_text_94 : decode cX12_text 94 = .ok (.aload_n 0, 1) := by decide +kernel
theorem dX12_text_95 : decode cX12_text 95 = .ok (.iload_n 1, 1) := by decide +kernel
theorem dX12_text_96 : decode cX12_text 96 = .ok (.iload_n 2, 1) := by decide +kernel
theorem dX12_text_97 : decode cX12_text 97 = .ok (.invokevirtual 305, 3) := by decide +kernel
theorem dX12_text_100 : decode cX12_text 100 = .ok (.iload_n 2, 1) := by decide +kernel
theorem dX12_text_101 : decode cX12_text 101 = .ok (.ireturn, 1) := by decide +kernel
theorem bX12_text_69 {l : Launch} {g : jm_G} {d : Nat} {v1 v2 : Int} (hg : jm_HR g) {mu : jm_M} {Q : Option Value → jm_M → Prop} (h : ∀ m1, m1 = jm_wr mu 0 13 0 → jm_rg v2 ∧ (¬ v2 = (-1) → jm_rg v1 ∧ (¬ v1 = 1 → jm_R l g (d + 1) iX12_takesOther [.ref 0, jm_i v1, jm_i v2] m1 (jm_qv fun m5 => Q (some (jm_i v2)) m5)) ∧ (v1 = 1 → jm_R l g (d + 1) iX12_takesLaw [.ref 0, jm_i v2] m1 (jm_qv fun m9 => Q (some (jm_i v2)) m9))) ∧ (v2 = (-1) → Q (some (jm_i (-1))) m1)) : jm_V l g (d + 2) iX12_text 69 [(0, .ref 0), (1, jm_i v1), (2, jm_i v2)] [] mu Q := by
  refine jm_mrI (fun hm0 => ?_)
  refine jm_aload_n (pc := 69) 0 dX12_text_69 rfl ?_
  refine jm_iconst (pc := 70) dX12_text_70 ?_
  refine jm_put (pc := 71) 13 dX12_text_71 fX12_146 ftX12 (fun q h => by cases h; rfl) (jm_nI _) (jm_fI _) (cR0 hg) rfl ⟨by decide, by decide⟩ ?_
  have h := h _ rfl
  refine jm_mrI (fun hm2 => ?_)
  refine jm_iload_n (pc := 74) 2 dX12_text_74 rfl ?_
  refine jm_iconst (pc := 75) dX12_text_75 ?_
  have hg3 := h.1
  have h := h.2
  refine jm_icmp_ne (pc := 76) 81 dX12_text_76 rfl hg3 ⟨by decide, by decide⟩ (fun q => ?_) (fun q => ?_)
  · have h := h.1 q
    refine jm_iload_n (pc := 81) 1 dX12_text_81 rfl ?_
    refine jm_iconst (pc := 82) dX12_text_82 ?_
    have hg4 := h.1
    have h := h.2
    refine jm_icmp_ne (pc := 83) 94 dX12_text_83 rfl hg4 ⟨by decide, by decide⟩ (fun q => ?_) (fun q => ?_)
    · have h := h.1 q
      refine jm_aload_n (pc := 94) 0 dX12_text_94 rfl ?_
      refine jm_iload_n (pc := 95) 1 dX12_text_95 rfl ?_
      refine jm_iload_n (pc := 96) 2 dX12_text_96 rfl ?_
      refine jm_callvv (pc := 97) (As := [_, _]) (st := []) iX12_takesOther dX12_text_97 mX12_305 (cR0 hg) ⟨_, rfl, rfl⟩ rfl rfl (Nat.le_of_ble_eq_true rfl) h (fun m5 h hm8 => ?_)
      refine jm_iload_n (pc := 100) 2 dX12_text_100 rfl ?_
      exact jm_iret (pc := 101) dX12_text_101 rfl h
    · have h := h.2 q
      refine jm_aload_n (pc := 86) 0 dX12_text_86 rfl ?_
      refine jm_iload_n (pc := 87) 2 dX12_text_87 rfl ?_
      refine jm_callvv (pc := 88) (As := [_]) (st := []) iX12_takesLaw dX12_text_88 mX12_302 (cR0 hg) ⟨_, rfl, rfl⟩ rfl rfl (Nat.le_of_ble_eq_true rfl) h (fun m9 h hm12 => ?_)
      refine jm_goto (pc := 91) 100 dX12_text_91 rfl ?_
      refine jm_iload_n (pc := 100) 2 dX12_text_100 rfl ?_
      exact jm_iret (pc := 101) dX12_text_101 rfl h
  · have h := h.2 q
    refine jm_iconst (pc := 79) dX12_text_79 ?_
    exact jm_iret (pc := 80) dX12_text_80 rfl h
theorem eX12_text {l : Launch} {g : jm_G} {d : Nat} {v1 : Int} (hg : jm_HR g) {mu : jm_M} {Q : Option Value → jm_M → Prop} (h : ∀ m1, m1 = jm_wr mu 0 0 0 → ∀ m3, m3 = jm_wr m1 0 33 0 → ∀ m5, m5 = jm_wr m3 0 34 (-1) → ∀ m7, m7 = jm_wr m5 0 14 0 → ∀ m9, m9 = jm_wr m7 0 27 0 → ∀ m11, m11 = jm_wr m9 0 28 0 → jm_rg v1 ∧ (0 ≤ v1 ∧ v1 ≤ 2 → jm_R l g (d + 1) iX12_readsText [.ref 0, jm_i v1] m11 (jm_qi fun z15 m14 => (¬ z15 = (-1) → jm_V l g (d + 2) iX12_text 69 [(0, .ref 0), (1, jm_i v1), (2, jm_i z15)] [] m14 Q) ∧ (z15 = (-1) → ∀ m18, m18 = jm_wr m14 0 33 (m14.1 0 31) → ∀ m20, m20 = jm_wr m18 0 34 (m18.1 0 32) → jm_V l g (d + 2) iX12_text 69 [(0, .ref 0), (1, jm_i v1), (2, jm_i z15)] [] m20 Q))) ∧ (¬ (0 ≤ v1 ∧ v1 ≤ 2) → jm_V l g (d + 2) iX12_text 69 [(0, .ref 0), (1, jm_i v1), (2, jm_i (-1))] [] m11 Q)) : jm_R l g (d + 2) iX12_text [.ref 0, jm_i v1] mu Q := by
  refine jm_enter [(0, .ref 0), (1, jm_i v1)] (by decide) (Nat.le_of_ble_eq_true rfl) rfl ?_
  refine jm_mrI (fun hm0 => ?_)
  refine jm_aload_n (pc := 0) 0 dX12_text_0 rfl ?_
  refine jm_iconst (pc := 1) dX12_text_1 ?_
  refine jm_put (pc := 2) 0 dX12_text_2 fX12_104 ftX12 (fun q h => by cases h; rfl) (jm_nI _) (jm_fI _) (cR0 hg) rfl ⟨by decide, by decide⟩ ?_
  have h := h _ rfl
  refine jm_mrI (fun hm2 => ?_)
  refine jm_aload_n (pc := 5) 0 dX12_text_5 rfl ?_
  refine jm_iconst (pc := 6) dX12_text_6 ?_
  refine jm_put (pc := 7) 33 dX12_text_7 fX12_296 ftX12 (fun q h => by cases h; rfl) (jm_nI _) (jm_fI _) (cR0 hg) rfl ⟨by decide, by decide⟩ ?_
  have h := h _ rfl
  refine jm_mrI (fun hm4 => ?_)
  refine jm_aload_n (pc := 10) 0 dX12_text_10 rfl ?_
  refine jm_iconst (pc := 11) dX12_text_11 ?_
  refine jm_put (pc := 12) 34 dX12_text_12 fX12_58 ftX12 (fun q h => by cases h; rfl) (jm_nI _) (jm_fI _) (cR0 hg) rfl ⟨by decide, by decide⟩ ?_
  have h := h _ rfl
  refine jm_mrI (fun hm6 => ?_)
  refine jm_aload_n (pc := 15) 0 dX12_text_15 rfl ?_
  refine jm_iconst (pc := 16) dX12_text_16 ?_
  refine jm_put (pc := 17) 14 dX12_text_17 fX12_153 ftX12 (fun q h => by cases h; rfl) (jm_nI _) (jm_fI _) (cR0 hg) rfl ⟨by decide, by decide⟩ ?_
  have h := h _ rfl
  refine jm_mrI (fun hm8 => ?_)
  refine jm_aload_n (pc := 20) 0 dX12_text_20 rfl ?_
  refine jm_iconst (pc := 21) dX12_text_21 ?_
  refine jm_put (pc := 22) 27 dX12_text_22 fX12_188 ftX12 (fun q h => by cases h; rfl) (jm_nI _) (jm_fI _) (cR0 hg) rfl ⟨by decide, by decide⟩ ?_
  have h := h _ rfl
  refine jm_mrI (fun hm10 => ?_)
  refine jm_aload_n (pc := 25) 0 dX12_text_25 rfl ?_
  refine jm_iconst (pc := 26) dX12_text_26 ?_
  refine jm_put (pc := 27) 28 dX12_text_27 fX12_219 ftX12 (fun q h => by cases h; rfl) (jm_nI _) (jm_fI _) (cR0 hg) rfl ⟨by decide, by decide⟩ ?_
  have h := h _ rfl
  refine jm_mrI (fun hm12 => ?_)
  refine jm_iconst (pc := 30) dX12_text_30 ?_
  refine jm_istore_n (pc := 31) (lv' := [(2, _), (0, _), (1, _)]) dX12_text_31 (by decide) rfl ?_
  refine jm_aload_n (pc := 32) 1 dX12_text_32 rfl ?_
  refine jm_iload_n (pc := 33) 2 dX12_text_33 rfl ?_
  refine jm_iconst (pc := 34) dX12_text_34 ?_
  refine jm_iconst (pc := 35) dX12_text_35 ?_
  have hg13 := h.1
  have h := h.2
  refine jm_inlvi (pc := 36) (As := [_, _, _]) (st := []) iX12_isIn dX12_text_36 mX12_128 (cR0 hg) ⟨_, rfl, rfl⟩ rfl rfl (Nat.le_of_ble_eq_true rfl) (pX12_isIn hg hg13 ⟨by decide, by decide⟩ ⟨by decide, by decide⟩ (fun q => jm_kIi ?_) (fun q => jm_kIi ?_))
  · have h := h.1 q
    refine jm_if_eq (pc := 39) 69 dX12_text_39 rfl ⟨by decide, by decide⟩ (fun q => absurd q (by decide)) (fun q => ?_)
    refine jm_aload_n (pc := 42) 1 dX12_text_42 rfl ?_
    refine jm_iload_n (pc := 43) 2 dX12_text_43 rfl ?_
    refine jm_callvi (pc := 44) (As := [_]) (st := []) iX12_readsText dX12_text_44 mX12_299 (cR0 hg) ⟨_, rfl, rfl⟩ rfl rfl (Nat.le_of_ble_eq_true rfl) h (fun z15 m14 hz16 h hm17 => ?_)
    refine jm_istore_n (pc := 47) (lv' := [(2, _), (0, _), (1, _)]) dX12_text_47 (by decide) rfl ?_
    refine jm_iload_n (pc := 48) 0 dX12_text_48 rfl ?_
    refine jm_iconst (pc := 49) dX12_text_49 ?_
    refine jm_icmp_ne (pc := 50) 69 dX12_text_50 rfl hz16 ⟨by decide, by decide⟩ (fun q => ?_) (fun q => ?_)
    · have h := h.1 q
      exact jm_sub [1, 2, 0] rfl h
    · have h := h.2 q
      refine jm_aload_n (pc := 53) 1 dX12_text_53 rfl ?_
      refine jm_aload_n (pc := 54) 1 dX12_text_54 rfl ?_
      refine jm_geti (pc := 55) 31 dX12_text_55 fX12_182 (cR0 hg) rfl ?_
      refine jm_put (pc := 58) 33 dX12_text_58 fX12_296 ftX12 (fun q h => by cases h; rfl) (jm_nI _) (jm_fI _) (cR0 hg) rfl (hm17 _ _) ?_
      have h := h _ rfl
      refine jm_mrI (fun hm19 => ?_)
      refine jm_aload_n (pc := 61) 1 dX12_text_61 rfl ?_
      refine jm_aload_n (pc := 62) 1 dX12_text_62 rfl ?_
      refine jm_geti (pc := 63) 32 dX12_text_63 fX12_185 (cR0 hg) rfl ?_
      refine jm_put (pc := 66) 34 dX12_text_66 fX12_58 ftX12 (fun q h => by cases h; rfl) (jm_nI _) (jm_fI _) (cR0 hg) rfl (hm19 _ _) ?_
      have h := h _ rfl
      refine jm_mrI (fun hm21 => ?_)
      exact jm_sub [1, 2, 0] rfl h
  · have h := h.2 q
    refine jm_if_eq (pc := 39) 69 dX12_text_39 rfl ⟨by decide, by decide⟩ (fun q => ?_) (fun q => absurd q (by decide))
    exact jm_sub [1, 2, 0] rfl h
theorem dX12_fault_0 : decode cX12_fault 0 = .ok (.aload_n 0, 1) := by decide +kernel
theorem dX12_fault_1 : decode cX12_fault 1 = .ok (.iconst 0, 1) := by decide +kernel
theorem dX12_fault_2 : decode cX12_fault 2 = .ok (.putfield 104, 3) := by decide +kernel
theorem dX12_fault_5 : decode cX12_fault 5 = .ok (.iload_n 1, 1) := by decide +kernel
theorem dX12_fault_6 : decode cX12_fault 6 = .ok (.ifCond .ne 10, 3) := by decide +kernel
theorem dX12_fault_9 : decode cX12_fault 9 = .ok (.aload_n 0, 1) := by decide +kernel
theorem dX12_fault_10 : decode cX12_fault 10 = .ok (.getfield 296, 3) := by decide +kernel
theorem dX12_fault_13 : decode cX12_fault 13 = .ok (.goto 16, 3) := by decide +kernel
theorem dX12_fault_16 : decode cX12_fault 16 = .ok (.iload_n 1, 1) := by decide +kernel
theorem dX12_fault_17 : decode cX12_fault 17 = .ok (.iconst 1, 1) := by decide +kernel
theorem dX12_fault_18 : decode cX12_fault 18 = .ok (.if_icmp .ne 10, 3) := by decide +kernel
theorem dX12_fault_21 : decode cX12_fault 21 = .ok (.aload_n 0, 1) := by decide +kernel
theorem dX12_fault_22 : decode cX12_fault 22 = .ok (.getfield 58, 3) := by decide +kernel
theorem dX12_fault_25 : decode cX12_fault 25 = .ok (.goto 4, 3) := by decide +kernel
theorem dX12_fault_28 : decode cX12_fault 28 = .ok (.iconst (-1), 1) := by decide +kernel
theorem dX12_fault_29 : decode cX12_fault 29 = .ok (.ireturn, 1) := by decide +kernel
theorem eX12_fault {l : Launch} {g : jm_G} {d : Nat} {v1 : Int} (hg : jm_HR g) {mu : jm_M} {Q : Option Value → jm_M → Prop} (h : ∀ m1, m1 = jm_wr mu 0 0 0 → jm_rg v1 ∧ (¬ v1 = 0 → (¬ v1 = 1 → Q (some (jm_i (-1))) m1) ∧ (v1 = 1 → Q (some (jm_i (m1.1 0 34))) m1)) ∧ (v1 = 0 → Q (some (jm_i (m1.1 0 33))) m1)) : jm_R l g (d + 1) iX12_fault [.ref 0, jm_i v1] mu Q := by
  refine jm_enter [(0, .ref 0), (1, jm_i v1)] (by decide) (Nat.le_of_ble_eq_true rfl) rfl ?_
  refine jm_mrI (fun hm0 => ?_)
  refine jm_aload_n (pc := 0) 0 dX12_fault_0 rfl ?_
  refine jm_iconst (pc := 1) dX12_fault_1 ?_
  refine jm_put (pc := 2) 0 dX12_fault_2 fX12_104 ftX12 (fun q h => by cases h; rfl) (jm_nI _) (jm_fI _) (cR0 hg) rfl ⟨by decide, by decide⟩ ?_
  have h := h _ rfl
  refine jm_mrI (fun hm2 => ?_)
  refine jm_iload_n (pc := 5) 1 dX12_fault_5 rfl ?_
  have hg3 := h.1
  have h := h.2
  refine jm_if_ne (pc := 6) 16 dX12_fault_6 rfl hg3 (fun q => ?_) (fun q => ?_)
  · have h := h.1 q
    refine jm_iload_n (pc := 16) 1 dX12_fault_16 rfl ?_
    refine jm_iconst (pc := 17) dX12_fault_17 ?_
    refine jm_icmp_ne (pc := 18) 28 dX12_fault_18 rfl hg3 ⟨by decide, by decide⟩ (fun q => ?_) (fun q => ?_)
    · have h := h.1 q
      refine jm_iconst (pc := 28) dX12_fault_28 ?_
      exact jm_iret (pc := 29) dX12_fault_29 rfl h
    · have h := h.2 q
      refine jm_aload_n (pc := 21) 0 dX12_fault_21 rfl ?_
      refine jm_geti (pc := 22) 34 dX12_fault_22 fX12_58 (cR0 hg) rfl ?_
      refine jm_goto (pc := 25) 29 dX12_fault_25 rfl ?_
      exact jm_iret (pc := 29) dX12_fault_29 rfl h
  · have h := h.2 q
    refine jm_aload_n (pc := 9) 0 dX12_fault_9 rfl ?_
    refine jm_geti (pc := 10) 33 dX12_fault_10 fX12_296 (cR0 hg) rfl ?_
    refine jm_goto (pc := 13) 29 dX12_fault_13 rfl ?_
    exact jm_iret (pc := 29) dX12_fault_29 rfl h
theorem dX12_twoOf_0 : decode cX12_twoOf 0 = .ok (.iload_n 1, 1) := by decide +kernel
theorem dX12_twoOf_1 : decode cX12_twoOf 1 = .ok (.iconst 2, 1) := by decide +kernel
theorem dX12_twoOf_2 : decode cX12_twoOf 2 = .ok (.if_icmp .ne 7, 3) := by decide +kernel
theorem dX12_twoOf_5 : decode cX12_twoOf 5 = .ok (.iload_n 2, 1) := by decide +kernel
theorem dX12_twoOf_6 : decode cX12_twoOf 6 = .ok (.iload_n 3, 1) := by decide +kernel
theorem dX12_twoOf_7 : decode cX12_twoOf 7 = .ok (.iadd, 1) := by decide +kernel
theorem dX12_twoOf_8 : decode cX12_twoOf 8 = .ok (.ireturn, 1) := by decide +kernel
theorem dX12_twoOf_9 : decode cX12_twoOf 9 = .ok (.iload_n 1, 1) := by decide +kernel
theorem dX12_twoOf_10 : decode cX12_twoOf 10 = .ok (.iconst 3, 1) := by decide +kernel
theorem dX12_twoOf_11 : decode cX12_twoOf 11 = .ok (.if_icmp .ne 7, 3) := by decide +kernel
theorem dX12_twoOf_14 : decode cX12_twoOf 14 = .ok (.iload_n 2, 1) := by decide +kernel
theorem dX12_twoOf_15 : decode cX12_twoOf 15 = .ok (.iload_n 3, 1) := by decide +kernel
theorem dX12_twoOf_16 : decode cX12_twoOf 16 = .ok (.isub, 1) := by decide +kernel
theorem dX12_twoOf_17 : decode cX12_twoOf 17 = .ok (.ireturn, 1) := by decide +kernel
theorem dX12_twoOf_18 : decode cX12_twoOf 18 = .ok (.iload_n 1, 1) := by decide +kernel
theorem dX12_twoOf_19 : decode cX12_twoOf 19 = .ok (.iconst 4, 1) := by decide +kernel
theorem dX12_twoOf_20 : decode cX12_twoOf 20 = .ok (.if_icmp .ne 7, 3) := by decide +kernel
theorem dX12_twoOf_23 : decode cX12_twoOf 23 = .ok (.iload_n 2, 1) := by decide +kernel
theorem dX12_twoOf_24 : decode cX12_twoOf 24 = .ok (.iload_n 3, 1) := by decide +kernel
theorem dX12_twoOf_25 : decode cX12_twoOf 25 = .ok (.imul, 1) := by decide +kernel
theorem dX12_twoOf_26 : decode cX12_twoOf 26 = .ok (.ireturn, 1) := by decide +kernel
theorem dX12_twoOf_27 : decode cX12_twoOf 27 = .ok (.iload_n 1, 1) := by decide +kernel
theorem dX12_twoOf_28 : decode cX12_twoOf 28 = .ok (.iconst 5, 1) := by decide +kernel
theorem dX12_twoOf_29 : decode cX12_twoOf 29 = .ok (.if_icmp .ne 7, 3) := by decide +kernel
theorem dX12_twoOf_32 : decode cX12_twoOf 32 = .ok (.iload_n 2, 1) := by decide +kernel
theorem dX12_twoOf_33 : decode cX12_twoOf 33 = .ok (.iload_n 3, 1) := by decide +kernel
theorem dX12_twoOf_34 : decode cX12_twoOf 34 = .ok (.idiv, 1) := by decide +kernel
theorem dX12_twoOf_35 : decode cX12_twoOf 35 = .ok (.ireturn, 1) := by decide +kernel
theorem dX12_twoOf_36 : decode cX12_twoOf 36 = .ok (.iload_n 1, 1) := by decide +kernel
theorem dX12_twoOf_37 : decode cX12_twoOf 37 = .ok (.bipush 6, 2) := by decide +kernel
theorem dX12_twoOf_39 : decode cX12_twoOf 39 = .ok (.if_icmp .ne 14, 3) := by decide +kernel
theorem dX12_twoOf_42 : decode cX12_twoOf 42 = .ok (.iload_n 2, 1) := by decide +kernel
theorem dX12_twoOf_43 : decode cX12_twoOf 43 = .ok (.iload_n 3, 1) := by decide +kernel
theorem dX12_twoOf_44 : decode cX12_twoOf 44 = .ok (.if_icmp .ge 7, 3) := by decide +kernel
theorem dX12_twoOf_47 : decode cX12_twoOf 47 = .ok (.iconst 1, 1) := by decide +kernel
theorem dX12_twoOf_48 : decode cX12_twoOf 48 = .ok (.goto 4, 3) := by decide +kernel
theorem dX12_twoOf_51 : decode cX12_twoOf 51 = .ok (.iconst 0, 1) := by decide +kernel
theorem dX12_twoOf_52 : decode cX12_twoOf 52 = .ok (.ireturn, 1) := by decide +kernel
theorem dX12_twoOf_53 : decode cX12_twoOf 53 = .ok (.iload_n 1, 1) := by decide +kernel
theorem dX12_twoOf_54 : decode cX12_twoOf 54 = .ok (.bipush 7, 2) := by decide +kernel
theorem dX12_twoOf_56 : decode cX12_twoOf 56 = .ok (.if_icmp .ne 14, 3) := by decide +kernel
theorem dX12_twoOf_59 : decode cX12_twoOf 59 = .ok (.iload_n 2, 1) := by decide +kernel
theorem dX12_twoOf_60 : decode cX12_twoOf 60 = .ok (.iload_n 3, 1) := by decide +kernel
theorem dX12_twoOf_61 : decode cX12_twoOf 61 = .ok (.if_icmp .ne 7, 3) := by decide +kernel
theorem dX12_twoOf_64 : decode cX12_twoOf 64 = .ok (.iconst 1, 1) := by decide +kernel
theorem dX12_twoOf_65 : decode cX12_twoOf 65 = .ok (.goto 4, 3) := by decide +kernel
theorem dX12_twoOf_68 : decode cX12_twoOf 68 = .ok (.iconst 0, 1) := by decide +kernel
theorem dX12_twoOf_69 : decode cX12_twoOf 69 = .ok (.ireturn, 1) := by decide +kernel
theorem dX12_twoOf_70 : decode cX12_twoOf 70 = .ok (.iload_n 1, 1) := by decide +kernel
theorem dX12_twoOf_71 : decode cX12_twoOf 71 = .ok (.bipush 8, 2) := by decide +kernel
theorem dX12_twoOf_73 : decode cX12_twoOf 73 = .ok (.if_icmp .ne 14, 3) := by decide +kernel
theorem dX12_twoOf_76 : decode cX12_twoOf 76 = .ok (.iload_n 2, 1) := by decide +kernel
theorem dX12_twoOf_77 : decode cX12_twoOf 77 = .ok (.iload_n 3, 1) := by decide +kernel
theorem dX12_twoOf_78 : decode cX12_twoOf 78 = .ok (.if_icmp .le 7, 3) := by decide +kernel
theorem dX12_twoOf_81 : decode cX12_twoOf 81 = .ok (.iconst 1, 1) := by decide +kernel
theorem dX12_twoOf_82 : decode cX12_twoOf 82 = .ok (.goto 4, 3) := by decide +kernel
theorem dX12_twoOf_85 : decode cX12_twoOf 85 = .ok (.iconst 0, 1) := by decide +kernel
theorem dX12_twoOf_86 : decode cX12_twoOf 86 = .ok (.ireturn, 1) := by decide +kernel
theorem dX12_twoOf_87 : decode cX12_twoOf 87 = .ok (.iload_n 1, 1) := by decide +kernel
theorem dX12_twoOf_88 : decode cX12_twoOf 88 = .ok (.bipush 10, 2) := by decide +kernel
theorem dX12_twoOf_90 : decode cX12_twoOf 90 = .ok (.if_icmp .ne 9, 3) := by decide +kernel
theorem dX12_twoOf_93 : decode cX12_twoOf 93 = .ok (.iload_n 2, 1) := by decide +kernel
theorem dX12_twoOf_94 : decode cX12_twoOf 94 = .ok (.iload_n 3, 1) := by decide +kernel
theorem dX12_twoOf_95 : decode cX12_twoOf 95 = .ok (.imul, 1) := by decide +kernel
theorem dX12_twoOf_96 : decode cX12_twoOf 96 = .ok (.goto 14, 3) := by decide +kernel
theorem dX12_twoOf_99 : decode cX12_twoOf 99 = .ok (.iload_n 2, 1) := by decide +kernel
theorem dX12_twoOf_100 : decode cX12_twoOf 100 = .ok (.iload_n 3, 1) := by decide +kernel
theorem dX12_twoOf_101 : decode cX12_twoOf 101 = .ok (.iadd, 1) := by decide +kernel
theorem dX12_twoOf_102 : decode cX12_twoOf 102 = .ok (.ifCond .le 7, 3) := by decide +kernel
theorem dX12_twoOf_105 : decode cX12_twoOf 105 = .ok (.iconst 1, 1) := by decide +kernel
theorem dX12_twoOf_106 : decode cX12_twoOf 106 = .ok (.goto 4, 3) := by decide +kernel
theorem dX12_twoOf_109 : decode cX12_twoOf 109 = .ok (.iconst 0, 1) := by decide +kernel
theorem dX12_twoOf_110 : decode cX12_twoOf 110 = .ok (.ireturn, 1) := by decide +kernel
theorem eX12_twoOf {l : Launch} {g : jm_G} {d : Nat} {v1 v2 v3 : Int} (hg : jm_HR g) {mu : jm_M} {Q : Option Value → jm_M → Prop} (h : jm_rg v1 ∧ (¬ v1 = 2 → (¬ v1 = 3 → (¬ v1 = 4 → (¬ v1 = 5 → (¬ v1 = 6 → (¬ v1 = 7 → (¬ v1 = 8 → (¬ v1 = 10 → jm_rg (v2 + v3) ∧ ((v2 + v3) ≤ 0 → Q (some (jm_i 0)) mu) ∧ (0 < (v2 + v3) → Q (some (jm_i 1)) mu)) ∧ (v1 = 10 → Q (some (jm_i (v2 * v3))) mu)) ∧ (v1 = 8 → jm_rg v2 ∧ jm_rg v3 ∧ (v2 ≤ v3 → Q (some (jm_i 0)) mu) ∧ (v3 < v2 → Q (some (jm_i 1)) mu))) ∧ (v1 = 7 → jm_rg v2 ∧ jm_rg v3 ∧ (¬ v2 = v3 → Q (some (jm_i 0)) mu) ∧ (v2 = v3 → Q (some (jm_i 1)) mu))) ∧ (v1 = 6 → jm_rg v2 ∧ jm_rg v3 ∧ (v3 ≤ v2 → Q (some (jm_i 0)) mu) ∧ (v2 < v3 → Q (some (jm_i 1)) mu))) ∧ (v1 = 5 → jm_rg v2 ∧ jm_rg v3 ∧ ¬ v3 = 0 ∧ Q (some (jm_i (Int.tdiv v2 v3))) mu)) ∧ (v1 = 4 → Q (some (jm_i (v2 * v3))) mu)) ∧ (v1 = 3 → Q (some (jm_i (v2 - v3))) mu)) ∧ (v1 = 2 → Q (some (jm_i (v2 + v3))) mu)) : jm_R l g (d + 1) iX12_twoOf [.ref 0, jm_i v1, jm_i v2, jm_i v3] mu Q := by
  refine jm_enter [(0, .ref 0), (1, jm_i v1), (2, jm_i v2), (3, jm_i v3)] (by decide) (Nat.le_of_ble_eq_true rfl) rfl ?_
  refine jm_mrI (fun hm0 => ?_)
  refine jm_iload_n (pc := 0) 1 dX12_twoOf_0 rfl ?_
  refine jm_iconst (pc := 1) dX12_twoOf_1 ?_
  have hg1 := h.1
  have h := h.2
  refine jm_icmp_ne (pc := 2) 9 dX12_twoOf_2 rfl hg1 ⟨by decide, by decide⟩ (fun q => ?_) (fun q => ?_)
  · have h := h.1 q
    refine jm_iload_n (pc := 9) 1 dX12_twoOf_9 rfl ?_
    refine jm_iconst (pc := 10) dX12_twoOf_10 ?_
    refine jm_icmp_ne (pc := 11) 18 dX12_twoOf_11 rfl hg1 ⟨by decide, by decide⟩ (fun q => ?_) (fun q => ?_)
    · have h := h.1 q
      refine jm_iload_n (pc := 18) 1 dX12_twoOf_18 rfl ?_
      refine jm_iconst (pc := 19) dX12_twoOf_19 ?_
      refine jm_icmp_ne (pc := 20) 27 dX12_twoOf_20 rfl hg1 ⟨by decide, by decide⟩ (fun q => ?_) (fun q => ?_)
      · have h := h.1 q
        refine jm_iload_n (pc := 27) 1 dX12_twoOf_27 rfl ?_
        refine jm_iconst (pc := 28) dX12_twoOf_28 ?_
        refine jm_icmp_ne (pc := 29) 36 dX12_twoOf_29 rfl hg1 ⟨by decide, by decide⟩ (fun q => ?_) (fun q => ?_)
        · have h := h.1 q
          refine jm_iload_n (pc := 36) 1 dX12_twoOf_36 rfl ?_
          refine jm_bipush (pc := 37) dX12_twoOf_37 (by decide) ?_
          refine jm_icmp_ne (pc := 39) 53 dX12_twoOf_39 rfl hg1 ⟨by decide, by decide⟩ (fun q => ?_) (fun q => ?_)
          · have h := h.1 q
            refine jm_iload_n (pc := 53) 1 dX12_twoOf_53 rfl ?_
            refine jm_bipush (pc := 54) dX12_twoOf_54 (by decide) ?_
            refine jm_icmp_ne (pc := 56) 70 dX12_twoOf_56 rfl hg1 ⟨by decide, by decide⟩ (fun q => ?_) (fun q => ?_)
            · have h := h.1 q
              refine jm_iload_n (pc := 70) 1 dX12_twoOf_70 rfl ?_
              refine jm_bipush (pc := 71) dX12_twoOf_71 (by decide) ?_
              refine jm_icmp_ne (pc := 73) 87 dX12_twoOf_73 rfl hg1 ⟨by decide, by decide⟩ (fun q => ?_) (fun q => ?_)
              · have h := h.1 q
                refine jm_iload_n (pc := 87) 1 dX12_twoOf_87 rfl ?_
                refine jm_bipush (pc := 88) dX12_twoOf_88 (by decide) ?_
                refine jm_icmp_ne (pc := 90) 99 dX12_twoOf_90 rfl hg1 ⟨by decide, by decide⟩ (fun q => ?_) (fun q => ?_)
                · have h := h.1 q
                  refine jm_iload_n (pc := 99) 2 dX12_twoOf_99 rfl ?_
                  refine jm_iload_n (pc := 100) 3 dX12_twoOf_100 rfl ?_
                  refine jm_iadd (pc := 101) dX12_twoOf_101 ?_
                  have hg2 := h.1
                  have h := h.2
                  refine jm_if_le (pc := 102) 109 dX12_twoOf_102 rfl hg2 (fun q => ?_) (fun q => ?_)
                  · have h := h.1 q
                    refine jm_iconst (pc := 109) dX12_twoOf_109 ?_
                    exact jm_iret (pc := 110) dX12_twoOf_110 rfl h
                  · have h := h.2 q
                    refine jm_iconst (pc := 105) dX12_twoOf_105 ?_
                    refine jm_goto (pc := 106) 110 dX12_twoOf_106 rfl ?_
                    exact jm_iret (pc := 110) dX12_twoOf_110 rfl h
                · have h := h.2 q
                  refine jm_iload_n (pc := 93) 2 dX12_twoOf_93 rfl ?_
                  refine jm_iload_n (pc := 94) 3 dX12_twoOf_94 rfl ?_
                  refine jm_imul (pc := 95) dX12_twoOf_95 ?_
                  refine jm_goto (pc := 96) 110 dX12_twoOf_96 rfl ?_
                  exact jm_iret (pc := 110) dX12_twoOf_110 rfl h
              · have h := h.2 q
                refine jm_iload_n (pc := 76) 2 dX12_twoOf_76 rfl ?_
                refine jm_iload_n (pc := 77) 3 dX12_twoOf_77 rfl ?_
                have hg3 := h.1
                have h := h.2
                have hg4 := h.1
                have h := h.2
                refine jm_icmp_le (pc := 78) 85 dX12_twoOf_78 rfl hg3 hg4 (fun q => ?_) (fun q => ?_)
                · have h := h.1 q
                  refine jm_iconst (pc := 85) dX12_twoOf_85 ?_
                  exact jm_iret (pc := 86) dX12_twoOf_86 rfl h
                · have h := h.2 q
                  refine jm_iconst (pc := 81) dX12_twoOf_81 ?_
                  refine jm_goto (pc := 82) 86 dX12_twoOf_82 rfl ?_
                  exact jm_iret (pc := 86) dX12_twoOf_86 rfl h
            · have h := h.2 q
              refine jm_iload_n (pc := 59) 2 dX12_twoOf_59 rfl ?_
              refine jm_iload_n (pc := 60) 3 dX12_twoOf_60 rfl ?_
              have hg5 := h.1
              have h := h.2
              have hg6 := h.1
              have h := h.2
              refine jm_icmp_ne (pc := 61) 68 dX12_twoOf_61 rfl hg5 hg6 (fun q => ?_) (fun q => ?_)
              · have h := h.1 q
                refine jm_iconst (pc := 68) dX12_twoOf_68 ?_
                exact jm_iret (pc := 69) dX12_twoOf_69 rfl h
              · have h := h.2 q
                refine jm_iconst (pc := 64) dX12_twoOf_64 ?_
                refine jm_goto (pc := 65) 69 dX12_twoOf_65 rfl ?_
                exact jm_iret (pc := 69) dX12_twoOf_69 rfl h
          · have h := h.2 q
            refine jm_iload_n (pc := 42) 2 dX12_twoOf_42 rfl ?_
            refine jm_iload_n (pc := 43) 3 dX12_twoOf_43 rfl ?_
            have hg7 := h.1
            have h := h.2
            have hg8 := h.1
            have h := h.2
            refine jm_icmp_ge (pc := 44) 51 dX12_twoOf_44 rfl hg7 hg8 (fun q => ?_) (fun q => ?_)
            · have h := h.1 q
              refine jm_iconst (pc := 51) dX12_twoOf_51 ?_
              exact jm_iret (pc := 52) dX12_twoOf_52 rfl h
            · have h := h.2 q
              refine jm_iconst (pc := 47) dX12_twoOf_47 ?_
              refine jm_goto (pc := 48) 52 dX12_twoOf_48 rfl ?_
              exact jm_iret (pc := 52) dX12_twoOf_52 rfl h
        · have h := h.2 q
          refine jm_iload_n (pc := 32) 2 dX12_twoOf_32 rfl ?_
          refine jm_iload_n (pc := 33) 3 dX12_twoOf_33 rfl ?_
          have hg9 := h.1
          have h := h.2
          have hg10 := h.1
          have h := h.2
          have hg11 := h.1
          have h := h.2
          refine jm_idiv (pc := 34) hg9 hg10 hg11 dX12_twoOf_34 ?_
          exact jm_iret (pc := 35) dX12_twoOf_35 rfl h
      · have h := h.2 q
        refine jm_iload_n (pc := 23) 2 dX12_twoOf_23 rfl ?_
        refine jm_iload_n (pc := 24) 3 dX12_twoOf_24 rfl ?_
        refine jm_imul (pc := 25) dX12_twoOf_25 ?_
        exact jm_iret (pc := 26) dX12_twoOf_26 rfl h
    · have h := h.2 q
      refine jm_iload_n (pc := 14) 2 dX12_twoOf_14 rfl ?_
      refine jm_iload_n (pc := 15) 3 dX12_twoOf_15 rfl ?_
      refine jm_isub (pc := 16) dX12_twoOf_16 ?_
      exact jm_iret (pc := 17) dX12_twoOf_17 rfl h
  · have h := h.2 q
    refine jm_iload_n (pc := 5) 2 dX12_twoOf_5 rfl ?_
    refine jm_iload_n (pc := 6) 3 dX12_twoOf_6 rfl ?_
    refine jm_iadd (pc := 7) dX12_twoOf_7 ?_
    exact jm_iret (pc := 8) dX12_twoOf_8 rfl h
theorem dX12_runs_0 : decode cX12_runs 0 = .ok (.iconst 0, 1) := by decide +kernel
theorem dX12_runs_1 : decode cX12_runs 1 = .ok (.istore 4, 2) := by decide +kernel
theorem dX12_runs_3 : decode cX12_runs 3 = .ok (.sipush 400, 3) := by decide +kernel
theorem dX12_runs_6 : decode cX12_runs 6 = .ok (.iload_n 1, 1) := by decide +kernel
theorem dX12_runs_7 : decode cX12_runs 7 = .ok (.imul, 1) := by decide +kernel
theorem dX12_runs_8 : decode cX12_runs 8 = .ok (.iload_n 2, 1) := by decide +kernel
theorem dX12_runs_9 : decode cX12_runs 9 = .ok (.iadd, 1) := by decide +kernel
theorem dX12_runs_10 : decode cX12_runs 10 = .ok (.istore 5, 2) := by decide +kernel
theorem dX12_runs_12 : decode cX12_runs 12 = .ok (.iload 5, 2) := by decide +kernel
theorem dX12_runs_14 : decode cX12_runs 14 = .ok (.sipush 400, 3) := by decide +kernel
theorem dX12_runs_17 : decode cX12_runs 17 = .ok (.iload_n 1, 1) := by decide +kernel
theorem dX12_runs_18 : decode cX12_runs 18 = .ok (.imul, 1) := by decide +kernel
theorem dX12_runs_19 : decode cX12_runs 19 = .ok (.iload_n 3, 1) := by decide +kernel
theorem dX12_runs_20 : decode cX12_runs 20 = .ok (.iadd, 1) := by decide +kernel
theorem dX12_runs_21 : decode cX12_runs 21 = .ok (.if_icmp .ge 155, 3) := by decide +kernel
theorem dX12_runs_24 : decode cX12_runs 24 = .ok (.aload_n 0, 1) := by decide +kernel
theorem dX12_runs_25 : decode cX12_runs 25 = .ok (.getfield 49, 3) := by decide +kernel
theorem dX12_runs_28 : decode cX12_runs 28 = .ok (.iload 5, 2) := by decide +kernel
theorem dX12_runs_30 : decode cX12_runs 30 = .ok (.iaload, 1) := by decide +kernel
theorem dX12_runs_31 : decode cX12_runs 31 = .ok (.ifCond .eq 14, 3) := by decide +kernel
theorem dX12_runs_34 : decode cX12_runs 34 = .ok (.aload_n 0, 1) := by decide +kernel
theorem dX12_runs_35 : decode cX12_runs 35 = .ok (.getfield 49, 3) := by decide +kernel
theorem dX12_runs_38 : decode cX12_runs 38 = .ok (.iload 5, 2) := by decide +kernel
theorem dX12_runs_40 : decode cX12_runs 40 = .ok (.iaload, 1) := by decide +kernel
theorem dX12_runs_41 : decode cX12_runs 41 = .ok (.iconst 1, 1) := by decide +kernel
theorem dX12_runs_42 : decode cX12_runs 42 = .ok (.if_icmp .ne 51, 3) := by decide +kernel
theorem dX12_runs_45 : decode cX12_runs 45 = .ok (.aload_n 0, 1) := by decide +kernel
theorem dX12_runs_46 : decode cX12_runs 46 = .ok (.getfield 80, 3) := by decide +kernel
theorem dX12_runs_49 : decode cX12_runs 49 = .ok (.iload 4, 2) := by decide +kernel
theorem dX12_runs_51 : decode cX12_runs 51 = .ok (.aload_n 0, 1) := by decide +kernel
theorem dX12_runs_52 : decode cX12_runs 52 = .ok (.getfield 49, 3) := by decide +kernel
theorem dX12_runs_55 : decode cX12_runs 55 = .ok (.iload 5, 2) := by decide +kernel
theorem dX12_runs_57 : decode cX12_runs 57 = .ok (.iaload, 1) := by decide +kernel
theorem dX12_runs_58 : decode cX12_runs 58 = .ok (.ifCond .ne 13, 3) := by decide +kernel
theorem dX12_runs_61 : decode cX12_runs 61 = .ok (.aload_n 0, 1) := by decide +kernel
theorem dX12_runs_62 : decode cX12_runs 62 = .ok (.getfield 52, 3) := by decide +kernel
theorem dX12_runs_65 : decode cX12_runs 65 = .ok (.iload 5, 2) := by decide +kernel
theorem dX12_runs_67 : decode cX12_runs 67 = .ok (.iaload, 1) := by decide +kernel
theorem dX12_runs_68 : decode cX12_runs 68 = .ok (.goto 15, 3) := by decide +kernel
theorem dX12_runs_71 : decode cX12_runs 71 = .ok (.aload_n 0, 1) := by decide +kernel
theorem dX12_runs_72 : decode cX12_runs 72 = .ok (.getfield 77, 3) := by decide +kernel
theorem dX12_runs_75 : decode cX12_runs 75 = .ok (.aload_n 0, 1) := by decide +kernel
theorem dX12_runs_76 : decode cX12_runs 76 = .ok (.getfield 52, 3) := by decide +kernel
theorem dX12_runs_79 : decode cX12_runs 79 = .ok (.iload 5, 2) := by decide +kernel
theorem dX12_runs_81 : decode cX12_runs 81 = .ok (.iaload, 1) := by decide +kernel
theorem dX12_runs_82 : decode cX12_runs 82 = .ok (.iaload, 1) := by decide +kernel
theorem dX12_runs_83 : decode cX12_runs 83 = .ok (.iastore, 1) := by decide +kernel
theorem dX12_runs_84 : decode cX12_runs 84 = .ok (.iload 4, 2) := by decide +kernel
theorem dX12_runs_86 : decode cX12_runs 86 = .ok (.iconst 1, 1) := by decide +kernel
theorem dX12_runs_87 : decode cX12_runs 87 = .ok (.iadd, 1) := by decide +kernel
theorem dX12_runs_88 : decode cX12_runs 88 = .ok (.istore 4, 2) := by decide +kernel
theorem dX12_runs_90 : decode cX12_runs 90 = .ok (.goto 80, 3) := by decide +kernel
theorem dX12_runs_93 : decode cX12_runs 93 = .ok (.aload_n 0, 1) := by decide +kernel
theorem dX12_runs_94 : decode cX12_runs 94 = .ok (.getfield 49, 3) := by decide +kernel
theorem dX12_runs_97 : decode cX12_runs 97 = .ok (.iload 5, 2) := by decide +kernel
theorem dX12_runs_99 : decode cX12_runs 99 = .ok (.iaload, 1) := by decide +kernel
theorem dX12_runs_100 : decode cX12_runs 100 = .ok (.bipush 9, 2) := by decide +kernel
theorem dX12_runs_102 : decode cX12_runs 102 = .ok (.if_icmp .ne 26, 3) := by decide +kernel
theorem dX12_runs_105 : decode cX12_runs 105 = .ok (.aload_n 0, 1) := by decide +kernel
theorem dX12_runs_106 : decode cX12_runs 106 = .ok (.getfield 80, 3) := by decide +kernel
theorem dX12_runs_109 : decode cX12_runs 109 = .ok (.iload 4, 2) := by decide +kernel
theorem dX12_runs_111 : decode cX12_runs 111 = .ok (.iconst 1, 1) := by decide +kernel
theorem dX12_runs_112 : decode cX12_runs 112 = .ok (.isub, 1) := by decide +kernel
theorem dX12_runs_113 : decode cX12_runs 113 = .ok (.iconst 1, 1) := by decide +kernel
theorem dX12_runs_114 : decode cX12_runs 114 = .ok (.aload_n 0, 1) := by decide +kernel
theorem dX12_runs_115 : decode cX12_runs 115 = .ok (.getfield 80, 3) := by decide +kernel
theorem dX12_runs_118 : decode cX12_runs 118 = .ok (.iload 4, 2) := by decide +kernel
theorem dX12_runs_120 : decode cX12_runs 120 = .ok (.iconst 1, 1) := by decide +kernel
theorem dX12_runs_121 : decode cX12_runs 121 = .ok (.isub, 1) := by decide +kernel
theorem dX12_runs_122 : decode cX12_runs 122 = .ok (.iaload, 1) := by decide +kernel
theorem dX12_runs_123 : decode cX12_runs 123 = .ok (.isub, 1) := by decide +kernel
theorem dX12_runs_124 : decode cX12_runs 124 = .ok (.iastore, 1) := by decide +kernel
theorem dX12_runs_125 : decode cX12_runs 125 = .ok (.goto 45, 3) := by decide +kernel
theorem dX12_runs_128 : decode cX12_runs 128 = .ok (.iload 4, 2) := by decide +kernel
theorem dX12_runs_130 : decode cX12_runs 130 = .ok (.iconst 1, 1) := by decide +kernel
theorem dX12_runs_131 : decode cX12_runs 131 = .ok (.isub, 1) := by decide +kernel
theorem dX12_runs_132 : decode cX12_runs 132 = .ok (.istore 4, 2) := by decide +kernel
theorem dX12_runs_134 : decode cX12_runs 134 = .ok (.aload_n 0, 1) := by decide +kernel
theorem dX12_runs_135 : decode cX12_runs 135 = .ok (.getfield 80, 3) := by decide +kernel
theorem dX12_runs_138 : decode cX12_runs 138 = .ok (.iload 4, 2) := by decide +kernel
theorem dX12_runs_140 : decode cX12_runs 140 = .ok (.iconst 1, 1) := by decide +kernel
theorem dX12_runs_141 : decode cX12_runs 141 = .ok (.isub, 1) := by decide +kernel
theorem dX12_runs_142 : decode cX12_runs 142 = .ok (.aload_n 0, 1) := by decide +kernel
theorem dX12_runs_143 : decode cX12_runs 143 = .ok (.aload_n 0, 1) := by decide +kernel
theorem dX12_runs_144 : decode cX12_runs 144 = .ok (.getfield 49, 3) := by decide +kernel
theorem dX12_runs_147 : decode cX12_runs 147 = .ok (.iload 5, 2) := by decide +kernel
theorem dX12_runs_149 : decode cX12_runs 149 = .ok (.iaload, 1) := by decide +kernel
theorem dX12_runs_150 : decode cX12_runs 150 = .ok (.aload_n 0, 1) := by decide +kernel
theorem dX12_runs_151 : decode cX12_runs 151 = .ok (.getfield 80, 3) := by decide +kernel
theorem dX12_runs_154 : decode cX12_runs 154 = .ok (.iload 4, 2) := by decide +kernel
theorem dX12_runs_156 : decode cX12_runs 156 = .ok (.iconst 1, 1) := by decide +kernel
theorem dX12_runs_157 : decode cX12_runs 157 = .ok (.isub, 1) := by decide +kernel
theorem dX12_runs_158 : decode cX12_runs 158 = .ok (.iaload, 1) := by decide +kernel
theorem dX12_runs_159 : decode cX12_runs 159 = .ok (.aload_n 0, 1) := by decide +kernel
theorem dX12_runs_160 : decode cX12_runs 160 = .ok (.getfield 80, 3) := by decide +kernel
theorem dX12_runs_163 : decode cX12_runs 163 = .ok (.iload 4, 2) := by decide +kernel
theorem dX12_runs_165 : decode cX12_runs 165 = .ok (.iaload, 1) := by decide +kernel
theorem dX12_runs_166 : decode cX12_runs 166 = .ok (.invokevirtual 308, 3) := by decide +kernel
theorem dX12_runs_169 : decode cX12_runs 169 = .ok (.iastore, 1) := by decide +kernel
theorem dX12_runs_170 : decode cX12_runs 170 = .ok (.iinc 5 1, 3) := by decide +kernel
theorem dX12_runs_173 : decode cX12_runs 173 = .ok (.goto (-161), 3) := by decide +kernel
theorem dX12_runs_176 : decode cX12_runs 176 = .ok (.aload_n 0, 1) := by decide +kernel
theorem dX12_runs_177 : decode cX12_runs 177 = .ok (.getfield 80, 3) := by decide +kernel
theorem dX12_runs_180 : decode cX12_runs 180 = .ok (.iconst 0, 1) := by decide +kernel
theorem dX12_runs_181 : decode cX12_runs 181 = .ok (.iaload, 1) := by decide +kernel
theorem dX12_runs_182 : decode cX12_runs 182 = .ok (.ireturn, 1) := by decide +kernel
theorem bX12_runs_45 {l : Launch} {g : jm_G} {d : Nat} {v1 v3 v4 v5 : Int} (hg : jm_HR g) {mu : jm_M} {Q : Option Value → jm_M → Prop} (h : (0 ≤ v5 ∧ v5 < 1200) ∧ (¬ (mu.1 14 v5) = 0 → (0 ≤ (mu.1 15 v5) ∧ (mu.1 15 v5) < 11) ∧ (0 ≤ v4 ∧ v4 < 420) ∧ ∀ m4, m4 = jm_wr mu 23 v4 (mu.1 22 (mu.1 15 v5)) → ∀ x6, x6 = (v4 + 1) → jm_V l g (d + 1) iX12_runs 12 [(0, .ref 0), (1, jm_i v1), (3, jm_i v3), (4, jm_i x6), (5, jm_i (v5 + 1))] [] m4 Q) ∧ ((mu.1 14 v5) = 0 → (0 ≤ v4 ∧ v4 < 420) ∧ ∀ m8, m8 = jm_wr mu 23 v4 (mu.1 15 v5) → ∀ x10, x10 = (v4 + 1) → jm_V l g (d + 1) iX12_runs 12 [(0, .ref 0), (1, jm_i v1), (3, jm_i v3), (4, jm_i x10), (5, jm_i (v5 + 1))] [] m8 Q)) : jm_V l g (d + 1) iX12_runs 45 [(0, .ref 0), (1, jm_i v1), (3, jm_i v3), (4, jm_i v4), (5, jm_i v5)] [] mu Q := by
  refine jm_mrI (fun hm0 => ?_)
  refine jm_aload_n (pc := 45) 0 dX12_runs_45 rfl ?_
  refine jm_getr (pc := 46) 44 dX12_runs_46 fX12_80 (cR0 hg) rfl ?_
  refine jm_iload (pc := 49) 3 dX12_runs_49 rfl ?_
  refine jm_aload_n (pc := 51) 0 dX12_runs_51 rfl ?_
  refine jm_getr (pc := 52) 24 dX12_runs_52 fX12_49 (cR0 hg) rfl ?_
  refine jm_iload (pc := 55) 4 dX12_runs_55 rfl ?_
  have hg1 := h.1
  have h := h.2
  refine jm_iald (pc := 57) dX12_runs_57 (cR14 hg) (by decide) hg1.1 hg1.2 ?_
  refine jm_if_ne (pc := 58) 71 dX12_runs_58 rfl (hm0 _ _) (fun q => ?_) (fun q => ?_)
  · have h := h.1 q
    refine jm_aload_n (pc := 71) 0 dX12_runs_71 rfl ?_
    refine jm_getr (pc := 72) 43 dX12_runs_72 fX12_77 (cR0 hg) rfl ?_
    refine jm_aload_n (pc := 75) 0 dX12_runs_75 rfl ?_
    refine jm_getr (pc := 76) 25 dX12_runs_76 fX12_52 (cR0 hg) rfl ?_
    refine jm_iload (pc := 79) 4 dX12_runs_79 rfl ?_
    refine jm_iald (pc := 81) dX12_runs_81 (cR15 hg) (by decide) hg1.1 hg1.2 ?_
    have hg2 := h.1
    have h := h.2
    refine jm_iald (pc := 82) dX12_runs_82 (cR22 hg) (by decide) hg2.1 hg2.2 ?_
    have hg3 := h.1
    have h := h.2
    refine jm_iast (pc := 83) dX12_runs_83 (cR23 hg) (by decide) hg3.1 hg3.2 (hm0 _ _) ?_
    have h := h _ rfl
    refine jm_mrI (fun hm5 => ?_)
    refine jm_iload (pc := 84) 3 dX12_runs_84 rfl ?_
    refine jm_iconst (pc := 86) dX12_runs_86 ?_
    refine jm_iadd (pc := 87) dX12_runs_87 ?_
    have h := h _ rfl
    refine jm_istore (pc := 88) (lv' := [(4, _), (0, _), (1, _), (3, _), (5, _)]) dX12_runs_88 (by decide) rfl ?_
    refine jm_goto (pc := 90) 170 dX12_runs_90 rfl ?_
    refine jm_iinc (pc := 170) (lv' := [(5, _), (4, _), (0, _), (1, _), (3, _)]) 4 dX12_runs_170 rfl (by decide) rfl ?_
    refine jm_goto (pc := 173) 12 dX12_runs_173 rfl ?_
    exact jm_sub [2, 3, 4, 1, 0] rfl h
  · have h := h.2 q
    refine jm_aload_n (pc := 61) 0 dX12_runs_61 rfl ?_
    refine jm_getr (pc := 62) 25 dX12_runs_62 fX12_52 (cR0 hg) rfl ?_
    refine jm_iload (pc := 65) 4 dX12_runs_65 rfl ?_
    refine jm_iald (pc := 67) dX12_runs_67 (cR15 hg) (by decide) hg1.1 hg1.2 ?_
    refine jm_goto (pc := 68) 83 dX12_runs_68 rfl ?_
    have hg7 := h.1
    have h := h.2
    refine jm_iast (pc := 83) dX12_runs_83 (cR23 hg) (by decide) hg7.1 hg7.2 (hm0 _ _) ?_
    have h := h _ rfl
    refine jm_mrI (fun hm9 => ?_)
    refine jm_iload (pc := 84) 3 dX12_runs_84 rfl ?_
    refine jm_iconst (pc := 86) dX12_runs_86 ?_
    refine jm_iadd (pc := 87) dX12_runs_87 ?_
    have h := h _ rfl
    refine jm_istore (pc := 88) (lv' := [(4, _), (0, _), (1, _), (3, _), (5, _)]) dX12_runs_88 (by decide) rfl ?_
    refine jm_goto (pc := 90) 170 dX12_runs_90 rfl ?_
    refine jm_iinc (pc := 170) (lv' := [(5, _), (4, _), (0, _), (1, _), (3, _)]) 4 dX12_runs_170 rfl (by decide) rfl ?_
    refine jm_goto (pc := 173) 12 dX12_runs_173 rfl ?_
    exact jm_sub [2, 3, 4, 1, 0] rfl h
theorem bX12_runs_12 {l : Launch} {g : jm_G} {d : Nat} {v1 v3 v4 v5 : Int} (hg : jm_HR g) {mu : jm_M} {Q : Option Value → jm_M → Prop} (h : jm_rg v5 ∧ jm_rg ((400 * v1) + v3) ∧ (((400 * v1) + v3) ≤ v5 → Q (some (jm_i (mu.1 23 0))) mu) ∧ (v5 < ((400 * v1) + v3) → (0 ≤ v5 ∧ v5 < 1200) ∧ ((mu.1 14 v5) = 0 → jm_V l g (d + 1) iX12_runs 45 [(0, .ref 0), (1, jm_i v1), (3, jm_i v3), (4, jm_i v4), (5, jm_i v5)] [] mu Q) ∧ (¬ (mu.1 14 v5) = 0 → (¬ (mu.1 14 v5) = 1 → (¬ (mu.1 14 v5) = 9 → ∀ x4, x4 = (v4 - 1) → (0 ≤ (x4 - 1) ∧ (x4 - 1) < 420) ∧ (0 ≤ x4 ∧ x4 < 420) ∧ jm_R l g d iX12_twoOf [.ref 0, jm_i (mu.1 14 v5), jm_i (mu.1 23 (x4 - 1)), jm_i (mu.1 23 x4)] mu (jm_qi fun z8 m7 => ∀ m11, m11 = jm_wr m7 23 (x4 - 1) z8 → jm_V l g (d + 1) iX12_runs 12 [(0, .ref 0), (1, jm_i v1), (3, jm_i v3), (4, jm_i x4), (5, jm_i (v5 + 1))] [] m11 Q)) ∧ ((mu.1 14 v5) = 9 → (0 ≤ (v4 - 1) ∧ (v4 - 1) < 420) ∧ jm_rg (1 - (mu.1 23 (v4 - 1))) ∧ ∀ m15, m15 = jm_wr mu 23 (v4 - 1) (1 - (mu.1 23 (v4 - 1))) → jm_V l g (d + 1) iX12_runs 12 [(0, .ref 0), (1, jm_i v1), (3, jm_i v3), (4, jm_i v4), (5, jm_i (v5 + 1))] [] m15 Q)) ∧ ((mu.1 14 v5) = 1 → jm_V l g (d + 1) iX12_runs 45 [(0, .ref 0), (1, jm_i v1), (3, jm_i v3), (4, jm_i v4), (5, jm_i v5)] [] mu Q)))) : jm_V l g (d + 1) iX12_runs 12 [(0, .ref 0), (1, jm_i v1), (3, jm_i v3), (4, jm_i v4), (5, jm_i v5)] [] mu Q := by
  refine jm_mrI (fun hm0 => ?_)
  refine jm_iload (pc := 12) 4 dX12_runs_12 rfl ?_
  refine jm_sipush (pc := 14) dX12_runs_14 (by decide) ?_
  refine jm_iload_n (pc := 17) 1 dX12_runs_17 rfl ?_
  refine jm_imul (pc := 18) dX12_runs_18 ?_
  refine jm_iload_n (pc := 19) 2 dX12_runs_19 rfl ?_
  refine jm_iadd (pc := 20) dX12_runs_20 ?_
  have hg1 := h.1
  have h := h.2
  have hg2 := h.1
  have h := h.2
  refine jm_icmp_ge (pc := 21) 176 dX12_runs_21 rfl hg1 hg2 (fun q => ?_) (fun q => ?_)
  · have h := h.1 q
    refine jm_aload_n (pc := 176) 0 dX12_runs_176 rfl ?_
    refine jm_getr (pc := 177) 44 dX12_runs_177 fX12_80 (cR0 hg) rfl ?_
    refine jm_iconst (pc := 180) dX12_runs_180 ?_
    refine jm_iald (pc := 181) dX12_runs_181 (cR23 hg) (by decide) (by decide) (by decide) ?_
    exact jm_iret (pc := 182) dX12_runs_182 rfl h
  · have h := h.2 q
    refine jm_aload_n (pc := 24) 0 dX12_runs_24 rfl ?_
    refine jm_getr (pc := 25) 24 dX12_runs_25 fX12_49 (cR0 hg) rfl ?_
    refine jm_iload (pc := 28) 4 dX12_runs_28 rfl ?_
    have hg3 := h.1
    have h := h.2
    refine jm_iald (pc := 30) dX12_runs_30 (cR14 hg) (by decide) hg3.1 hg3.2 ?_
    refine jm_if_eq (pc := 31) 45 dX12_runs_31 rfl (hm0 _ _) (fun q => ?_) (fun q => ?_)
    · have h := h.1 q
      exact jm_sub [0, 1, 2, 3, 4] rfl h
    · have h := h.2 q
      refine jm_aload_n (pc := 34) 0 dX12_runs_34 rfl ?_
      refine jm_getr (pc := 35) 24 dX12_runs_35 fX12_49 (cR0 hg) rfl ?_
      refine jm_iload (pc := 38) 4 dX12_runs_38 rfl ?_
      refine jm_iald (pc := 40) dX12_runs_40 (cR14 hg) (by decide) hg3.1 hg3.2 ?_
      refine jm_iconst (pc := 41) dX12_runs_41 ?_
      refine jm_icmp_ne (pc := 42) 93 dX12_runs_42 rfl (hm0 _ _) ⟨by decide, by decide⟩ (fun q => ?_) (fun q => ?_)
      · have h := h.1 q
        refine jm_aload_n (pc := 93) 0 dX12_runs_93 rfl ?_
        refine jm_getr (pc := 94) 24 dX12_runs_94 fX12_49 (cR0 hg) rfl ?_
        refine jm_iload (pc := 97) 4 dX12_runs_97 rfl ?_
        refine jm_iald (pc := 99) dX12_runs_99 (cR14 hg) (by decide) hg3.1 hg3.2 ?_
        refine jm_bipush (pc := 100) dX12_runs_100 (by decide) ?_
        refine jm_icmp_ne (pc := 102) 128 dX12_runs_102 rfl (hm0 _ _) ⟨by decide, by decide⟩ (fun q => ?_) (fun q => ?_)
        · have h := h.1 q
          refine jm_iload (pc := 128) 3 dX12_runs_128 rfl ?_
          refine jm_iconst (pc := 130) dX12_runs_130 ?_
          refine jm_isub (pc := 131) dX12_runs_131 ?_
          have h := h _ rfl
          refine jm_istore (pc := 132) (lv' := [(4, _), (0, _), (1, _), (3, _), (5, _)]) dX12_runs_132 (by decide) rfl ?_
          refine jm_aload_n (pc := 134) 1 dX12_runs_134 rfl ?_
          refine jm_getr (pc := 135) 44 dX12_runs_135 fX12_80 (cR0 hg) rfl ?_
          refine jm_iload (pc := 138) 0 dX12_runs_138 rfl ?_
          refine jm_iconst (pc := 140) dX12_runs_140 ?_
          refine jm_isub (pc := 141) dX12_runs_141 ?_
          refine jm_aload_n (pc := 142) 1 dX12_runs_142 rfl ?_
          refine jm_aload_n (pc := 143) 1 dX12_runs_143 rfl ?_
          refine jm_getr (pc := 144) 24 dX12_runs_144 fX12_49 (cR0 hg) rfl ?_
          refine jm_iload (pc := 147) 4 dX12_runs_147 rfl ?_
          refine jm_iald (pc := 149) dX12_runs_149 (cR14 hg) (by decide) hg3.1 hg3.2 ?_
          refine jm_aload_n (pc := 150) 1 dX12_runs_150 rfl ?_
          refine jm_getr (pc := 151) 44 dX12_runs_151 fX12_80 (cR0 hg) rfl ?_
          refine jm_iload (pc := 154) 0 dX12_runs_154 rfl ?_
          refine jm_iconst (pc := 156) dX12_runs_156 ?_
          refine jm_isub (pc := 157) dX12_runs_157 ?_
          have hg5 := h.1
          have h := h.2
          refine jm_iald (pc := 158) dX12_runs_158 (cR23 hg) (by decide) hg5.1 hg5.2 ?_
          refine jm_aload_n (pc := 159) 1 dX12_runs_159 rfl ?_
          refine jm_getr (pc := 160) 44 dX12_runs_160 fX12_80 (cR0 hg) rfl ?_
          refine jm_iload (pc := 163) 0 dX12_runs_163 rfl ?_
          have hg6 := h.1
          have h := h.2
          refine jm_iald (pc := 165) dX12_runs_165 (cR23 hg) (by decide) hg6.1 hg6.2 ?_
          refine jm_callvi (pc := 166) (As := [_, _, _]) (st := [_, _]) iX12_twoOf dX12_runs_166 mX12_308 (cR0 hg) ⟨_, rfl, rfl⟩ rfl rfl (Nat.le_of_ble_eq_true rfl) h (fun z8 m7 hz9 h hm10 => ?_)
          refine jm_iast (pc := 169) dX12_runs_169 (cR23 hg) (by decide) hg5.1 hg5.2 hz9 ?_
          have h := h _ rfl
          refine jm_mrI (fun hm12 => ?_)
          refine jm_iinc (pc := 170) (lv' := [(5, _), (4, _), (0, _), (1, _), (3, _)]) 4 dX12_runs_170 rfl (by decide) rfl ?_
          refine jm_goto (pc := 173) 12 dX12_runs_173 rfl ?_
          exact jm_sub [2, 3, 4, 1, 0] rfl h
        · have h := h.2 q
          refine jm_aload_n (pc := 105) 0 dX12_runs_105 rfl ?_
          refine jm_getr (pc := 106) 44 dX12_runs_106 fX12_80 (cR0 hg) rfl ?_
          refine jm_iload (pc := 109) 3 dX12_runs_109 rfl ?_
          refine jm_iconst (pc := 111) dX12_runs_111 ?_
          refine jm_isub (pc := 112) dX12_runs_112 ?_
          refine jm_iconst (pc := 113) dX12_runs_113 ?_
          refine jm_aload_n (pc := 114) 0 dX12_runs_114 rfl ?_
          refine jm_getr (pc := 115) 44 dX12_runs_115 fX12_80 (cR0 hg) rfl ?_
          refine jm_iload (pc := 118) 3 dX12_runs_118 rfl ?_
          refine jm_iconst (pc := 120) dX12_runs_120 ?_
          refine jm_isub (pc := 121) dX12_runs_121 ?_
          have hg13 := h.1
          have h := h.2
          refine jm_iald (pc := 122) dX12_runs_122 (cR23 hg) (by decide) hg13.1 hg13.2 ?_
          refine jm_isub (pc := 123) dX12_runs_123 ?_
          have hg14 := h.1
          have h := h.2
          refine jm_iast (pc := 124) dX12_runs_124 (cR23 hg) (by decide) hg13.1 hg13.2 hg14 ?_
          have h := h _ rfl
          refine jm_mrI (fun hm16 => ?_)
          refine jm_goto (pc := 125) 170 dX12_runs_125 rfl ?_
          refine jm_iinc (pc := 170) (lv' := [(5, _), (0, _), (1, _), (3, _), (4, _)]) 4 dX12_runs_170 rfl (by decide) rfl ?_
          refine jm_goto (pc := 173) 12 dX12_runs_173 rfl ?_
          exact jm_sub [1, 2, 3, 4, 0] rfl h
      · have h := h.2 q
        exact jm_sub [0, 1, 2, 3, 4] rfl h
theorem eX12_runs {l : Launch} {g : jm_G} {d : Nat} {v1 v2 v3 : Int} (hg : jm_HR g) {mu : jm_M} {Q : Option Value → jm_M → Prop} (h : ∀ x1, x1 = ((400 * v1) + v2) → jm_V l g (d + 1) iX12_runs 12 [(0, .ref 0), (1, jm_i v1), (3, jm_i v3), (4, jm_i 0), (5, jm_i x1)] [] mu Q) : jm_R l g (d + 1) iX12_runs [.ref 0, jm_i v1, jm_i v2, jm_i v3] mu Q := by
  refine jm_enter [(0, .ref 0), (1, jm_i v1), (2, jm_i v2), (3, jm_i v3)] (by decide) (Nat.le_of_ble_eq_true rfl) rfl ?_
  refine jm_mrI (fun hm0 => ?_)
  refine jm_iconst (pc := 0) dX12_runs_0 ?_
  refine jm_istore (pc := 1) (lv' := [(4, _), (0, _), (1, _), (2, _), (3, _)]) dX12_runs_1 (by decide) rfl ?_
  refine jm_sipush (pc := 3) dX12_runs_3 (by decide) ?_
  refine jm_iload_n (pc := 6) 2 dX12_runs_6 rfl ?_
  refine jm_imul (pc := 7) dX12_runs_7 ?_
  refine jm_iload_n (pc := 8) 3 dX12_runs_8 rfl ?_
  refine jm_iadd (pc := 9) dX12_runs_9 ?_
  have h := h _ rfl
  refine jm_istore (pc := 10) (lv' := [(5, _), (4, _), (0, _), (1, _), (2, _), (3, _)]) dX12_runs_10 (by decide) rfl ?_
  exact jm_sub [2, 3, 5, 1, 0] rfl h
theorem dX12_lineOf_0 : decode cX12_lineOf 0 = .ok (.iconst 0, 1) := by decide +kernel
theorem dX12_lineOf_1 : decode cX12_lineOf 1 = .ok (.istore_n 2, 1) := by decide +kernel
theorem dX12_lineOf_2 : decode cX12_lineOf 2 = .ok (.iload_n 2, 1) := by decide +kernel
theorem dX12_lineOf_3 : decode cX12_lineOf 3 = .ok (.aload_n 0, 1) := by decide +kernel
theorem dX12_lineOf_4 : decode cX12_lineOf 4 = .ok (.getfield 34, 3) := by decide +kernel
theorem dX12_lineOf_7 : decode cX12_lineOf 7 = .ok (.iconst 1, 1) := by decide +kernel
theorem dX12_lineOf_8 : decode cX12_lineOf 8 = .ok (.iaload, 1) := by decide +kernel
theorem dX12_lineOf_9 : decode cX12_lineOf 9 = .ok (.if_icmp .ge 61, 3) := by decide +kernel
theorem dX12_lineOf_12 : decode cX12_lineOf 12 = .ok (.bipush 16, 2) := by decide +kernel
theorem dX12_lineOf_14 : decode cX12_lineOf 14 = .ok (.iload_n 2, 1) := by decide +kernel
theorem dX12_lineOf_15 : decode cX12_lineOf 15 = .ok (.iadd, 1) := by decide +kernel
theorem dX12_lineOf_16 : decode cX12_lineOf 16 = .ok (.istore_n 3, 1) := by decide +kernel
theorem dX12_lineOf_17 : decode cX12_lineOf 17 = .ok (.aload_n 0, 1) := by decide +kernel
theorem dX12_lineOf_18 : decode cX12_lineOf 18 = .ok (.getfield 37, 3) := by decide +kernel
theorem dX12_lineOf_21 : decode cX12_lineOf 21 = .ok (.iload_n 3, 1) := by decide +kernel
theorem dX12_lineOf_22 : decode cX12_lineOf 22 = .ok (.iaload, 1) := by decide +kernel
theorem dX12_lineOf_23 : decode cX12_lineOf 23 = .ok (.iload_n 1, 1) := by decide +kernel
theorem dX12_lineOf_24 : decode cX12_lineOf 24 = .ok (.if_icmp .ne 40, 3) := by decide +kernel
theorem dX12_lineOf_27 : decode cX12_lineOf 27 = .ok (.aload_n 0, 1) := by decide +kernel
theorem dX12_lineOf_28 : decode cX12_lineOf 28 = .ok (.getfield 43, 3) := by decide +kernel
theorem dX12_lineOf_31 : decode cX12_lineOf 31 = .ok (.iload_n 3, 1) := by decide +kernel
theorem dX12_lineOf_32 : decode cX12_lineOf 32 = .ok (.iaload, 1) := by decide +kernel
theorem dX12_lineOf_33 : decode cX12_lineOf 33 = .ok (.aload_n 0, 1) := by decide +kernel
theorem dX12_lineOf_34 : decode cX12_lineOf 34 = .ok (.getfield 46, 3) := by decide +kernel
theorem dX12_lineOf_37 : decode cX12_lineOf 37 = .ok (.iload_n 3, 1) := by decide +kernel
theorem dX12_lineOf_38 : decode cX12_lineOf 38 = .ok (.iaload, 1) := by decide +kernel
theorem dX12_lineOf_39 : decode cX12_lineOf 39 = .ok (.if_icmp .eq 23, 3) := by decide +kernel
theorem dX12_lineOf_42 : decode cX12_lineOf 42 = .ok (.aload_n 0, 1) := by decide +kernel
theorem dX12_lineOf_43 : decode cX12_lineOf 43 = .ok (.iconst 1, 1) := by decide +kernel
theorem dX12_lineOf_44 : decode cX12_lineOf 44 = .ok (.aload_n 0, 1) := by decide +kernel
theorem dX12_lineOf_45 : decode cX12_lineOf 45 = .ok (.getfield 43, 3) := by decide +kernel
theorem dX12_lineOf_48 : decode cX12_lineOf 48 = .ok (.iload_n 3, 1) := by decide +kernel
theorem dX12_lineOf_49 : decode cX12_lineOf 49 = .ok (.iaload, 1) := by decide +kernel
theorem dX12_lineOf_50 : decode cX12_lineOf 50 = .ok (.aload_n 0, 1) := by decide +kernel
theorem dX12_lineOf_51 : decode cX12_lineOf 51 = .ok (.getfield 46, 3) := by decide +kernel
theorem dX12_lineOf_54 : decode cX12_lineOf 54 = .ok (.iload_n 3, 1) := by decide +kernel
theorem dX12_lineOf_55 : decode cX12_lineOf 55 = .ok (.iaload, 1) := by decide +kernel
theorem dX12_lineOf_56 : decode cX12_lineOf 56 = .ok (.invokevirtual 311, 3) := by decide +kernel
theorem dX12_lineOf_59 : decode cX12_lineOf 59 = .ok (.ifCond .eq 5, 3) := by decide +kernel
theorem dX12_lineOf_62 : decode cX12_lineOf 62 = .ok (.iload_n 3, 1) := by decide +kernel
theorem dX12_lineOf_63 : decode cX12_lineOf 63 = .ok (.ireturn, 1) := by decide +kernel
theorem dX12_lineOf_64 : decode cX12_lineOf 64 = .ok (.iinc 2 1, 3) := by decide +kernel
theorem dX12_lineOf_67 : decode cX12_lineOf 67 = .ok (.goto (-65), 3) := by decide +kernel
theorem dX12_lineOf_70 : decode cX12_lineOf 70 = .ok (.iconst (-1), 1) := by decide +kernel
theorem dX12_lineOf_71 : decode cX12_lineOf 71 = .ok (.ireturn, 1) := by decide +kernel
theorem bX12_lineOf_2 {l : Launch} {g : jm_G} {d : Nat} {v1 v2 : Int} (hg : jm_HR g) {mu : jm_M} {Q : Option Value → jm_M → Prop} (h : jm_rg v2 ∧ ((mu.1 9 1) ≤ v2 → Q (some (jm_i (-1))) mu) ∧ (v2 < (mu.1 9 1) → ∀ x2, x2 = (16 + v2) → (0 ≤ x2 ∧ x2 < 48) ∧ jm_rg v1 ∧ (¬ (mu.1 10 x2) = v1 → jm_V l g (d + 1) iX12_lineOf 2 [(0, .ref 0), (1, jm_i v1), (2, jm_i (v2 + 1))] [] mu Q) ∧ ((mu.1 10 x2) = v1 → ((mu.1 12 x2) = (mu.1 13 x2) → Q (some (jm_i x2)) mu) ∧ (¬ (mu.1 12 x2) = (mu.1 13 x2) → jm_R l g d iX12_runs [.ref 0, jm_i 1, jm_i (mu.1 12 x2), jm_i (mu.1 13 x2)] mu (jm_qi fun z6 m5 => (z6 = 0 → jm_V l g (d + 1) iX12_lineOf 2 [(0, .ref 0), (1, jm_i v1), (2, jm_i (v2 + 1))] [] m5 Q) ∧ (¬ z6 = 0 → Q (some (jm_i x2)) m5)))))) : jm_V l g (d + 1) iX12_lineOf 2 [(0, .ref 0), (1, jm_i v1), (2, jm_i v2)] [] mu Q := by
  refine jm_mrI (fun hm0 => ?_)
  refine jm_iload_n (pc := 2) 2 dX12_lineOf_2 rfl ?_
  refine jm_aload_n (pc := 3) 0 dX12_lineOf_3 rfl ?_
  refine jm_getr (pc := 4) 19 dX12_lineOf_4 fX12_34 (cR0 hg) rfl ?_
  refine jm_iconst (pc := 7) dX12_lineOf_7 ?_
  refine jm_iald (pc := 8) dX12_lineOf_8 (cR9 hg) (by decide) (by decide) (by decide) ?_
  have hg1 := h.1
  have h := h.2
  refine jm_icmp_ge (pc := 9) 70 dX12_lineOf_9 rfl hg1 (hm0 _ _) (fun q => ?_) (fun q => ?_)
  · have h := h.1 q
    refine jm_iconst (pc := 70) dX12_lineOf_70 ?_
    exact jm_iret (pc := 71) dX12_lineOf_71 rfl h
  · have h := h.2 q
    refine jm_bipush (pc := 12) dX12_lineOf_12 (by decide) ?_
    refine jm_iload_n (pc := 14) 2 dX12_lineOf_14 rfl ?_
    refine jm_iadd (pc := 15) dX12_lineOf_15 ?_
    have h := h _ rfl
    refine jm_istore_n (pc := 16) (lv' := [(3, _), (0, _), (1, _), (2, _)]) dX12_lineOf_16 (by decide) rfl ?_
    refine jm_aload_n (pc := 17) 1 dX12_lineOf_17 rfl ?_
    refine jm_getr (pc := 18) 20 dX12_lineOf_18 fX12_37 (cR0 hg) rfl ?_
    refine jm_iload_n (pc := 21) 0 dX12_lineOf_21 rfl ?_
    have hg3 := h.1
    have h := h.2
    refine jm_iald (pc := 22) dX12_lineOf_22 (cR10 hg) (by decide) hg3.1 hg3.2 ?_
    refine jm_iload_n (pc := 23) 2 dX12_lineOf_23 rfl ?_
    have hg4 := h.1
    have h := h.2
    refine jm_icmp_ne (pc := 24) 64 dX12_lineOf_24 rfl (hm0 _ _) hg4 (fun q => ?_) (fun q => ?_)
    · have h := h.1 q
      refine jm_iinc (pc := 64) (lv' := [(2, _), (3, _), (0, _), (1, _)]) 3 dX12_lineOf_64 rfl (by decide) rfl ?_
      refine jm_goto (pc := 67) 2 dX12_lineOf_67 rfl ?_
      exact jm_sub [2, 3, 0] rfl h
    · have h := h.2 q
      refine jm_aload_n (pc := 27) 1 dX12_lineOf_27 rfl ?_
      refine jm_getr (pc := 28) 22 dX12_lineOf_28 fX12_43 (cR0 hg) rfl ?_
      refine jm_iload_n (pc := 31) 0 dX12_lineOf_31 rfl ?_
      refine jm_iald (pc := 32) dX12_lineOf_32 (cR12 hg) (by decide) hg3.1 hg3.2 ?_
      refine jm_aload_n (pc := 33) 1 dX12_lineOf_33 rfl ?_
      refine jm_getr (pc := 34) 23 dX12_lineOf_34 fX12_46 (cR0 hg) rfl ?_
      refine jm_iload_n (pc := 37) 0 dX12_lineOf_37 rfl ?_
      refine jm_iald (pc := 38) dX12_lineOf_38 (cR13 hg) (by decide) hg3.1 hg3.2 ?_
      refine jm_icmp_eq (pc := 39) 62 dX12_lineOf_39 rfl (hm0 _ _) (hm0 _ _) (fun q => ?_) (fun q => ?_)
      · have h := h.1 q
        refine jm_iload_n (pc := 62) 0 dX12_lineOf_62 rfl ?_
        exact jm_iret (pc := 63) dX12_lineOf_63 rfl h
      · have h := h.2 q
        refine jm_aload_n (pc := 42) 1 dX12_lineOf_42 rfl ?_
        refine jm_iconst (pc := 43) dX12_lineOf_43 ?_
        refine jm_aload_n (pc := 44) 1 dX12_lineOf_44 rfl ?_
        refine jm_getr (pc := 45) 22 dX12_lineOf_45 fX12_43 (cR0 hg) rfl ?_
        refine jm_iload_n (pc := 48) 0 dX12_lineOf_48 rfl ?_
        refine jm_iald (pc := 49) dX12_lineOf_49 (cR12 hg) (by decide) hg3.1 hg3.2 ?_
        refine jm_aload_n (pc := 50) 1 dX12_lineOf_50 rfl ?_
        refine jm_getr (pc := 51) 23 dX12_lineOf_51 fX12_46 (cR0 hg) rfl ?_
        refine jm_iload_n (pc := 54) 0 dX12_lineOf_54 rfl ?_
        refine jm_iald (pc := 55) dX12_lineOf_55 (cR13 hg) (by decide) hg3.1 hg3.2 ?_
        refine jm_callvi (pc := 56) (As := [_, _, _]) (st := []) iX12_runs dX12_lineOf_56 mX12_311 (cR0 hg) ⟨_, rfl, rfl⟩ rfl rfl (Nat.le_of_ble_eq_true rfl) h (fun z6 m5 hz7 h hm8 => ?_)
        refine jm_if_eq (pc := 59) 64 dX12_lineOf_59 rfl hz7 (fun q => ?_) (fun q => ?_)
        · have h := h.1 q
          refine jm_iinc (pc := 64) (lv' := [(2, _), (3, _), (0, _), (1, _)]) 3 dX12_lineOf_64 rfl (by decide) rfl ?_
          refine jm_goto (pc := 67) 2 dX12_lineOf_67 rfl ?_
          exact jm_sub [2, 3, 0] rfl h
        · have h := h.2 q
          refine jm_iload_n (pc := 62) 0 dX12_lineOf_62 rfl ?_
          exact jm_iret (pc := 63) dX12_lineOf_63 rfl h
theorem eX12_lineOf {l : Launch} {g : jm_G} {d : Nat} {v1 : Int} (hg : jm_HR g) {mu : jm_M} {Q : Option Value → jm_M → Prop} (h : jm_V l g (d + 1) iX12_lineOf 2 [(0, .ref 0), (1, jm_i v1), (2, jm_i 0)] [] mu Q) : jm_R l g (d + 1) iX12_lineOf [.ref 0, jm_i v1] mu Q := by
  refine jm_enter [(0, .ref 0), (1, jm_i v1)] (by decide) (Nat.le_of_ble_eq_true rfl) rfl ?_
  refine jm_mrI (fun hm0 => ?_)
  refine jm_iconst (pc := 0) dX12_lineOf_0 ?_
  refine jm_istore_n (pc := 1) (lv' := [(2, _), (0, _), (1, _)]) dX12_lineOf_1 (by decide) rfl ?_
  exact jm_sub [1, 2, 0] rfl h
theorem dX12_ofTestimony_0 : decode cX12_ofTestimony 0 = .ok (.aload_n 0, 1) := by decide +kernel
theorem dX12_ofTestimony_1 : decode cX12_ofTestimony 1 = .ok (.getfield 83, 3) := by decide +kernel
theorem dX12_ofTestimony_4 : decode cX12_ofTestimony 4 = .ok (.bipush 6, 2) := by decide +kernel
theorem dX12_ofTestimony_6 : decode cX12_ofTestimony 6 = .ok (.iload_n 1, 1) := by decide +kernel
theorem dX12_ofTestimony_7 : decode cX12_ofTestimony 7 = .ok (.imul, 1) := by decide +kernel
theorem dX12_ofTestimony_8 : decode cX12_ofTestimony 8 = .ok (.iload_n 2, 1) := by decide +kernel
theorem dX12_ofTestimony_9 : decode cX12_ofTestimony 9 = .ok (.iadd, 1) := by decide +kernel
theorem dX12_ofTestimony_10 : decode cX12_ofTestimony 10 = .ok (.iaload, 1) := by decide +kernel
theorem dX12_ofTestimony_11 : decode cX12_ofTestimony 11 = .ok (.ireturn, 1) := by decide +kernel
theorem eX12_ofTestimony {l : Launch} {g : jm_G} {d : Nat} {v1 v2 : Int} (hg : jm_HR g) {mu : jm_M} {Q : Option Value → jm_M → Prop} (h : (0 ≤ ((6 * v1) + v2) ∧ ((6 * v1) + v2) < 120) ∧ Q (some (jm_i (mu.1 24 ((6 * v1) + v2)))) mu) : jm_R l g (d + 1) iX12_ofTestimony [.ref 0, jm_i v1, jm_i v2] mu Q := by
  refine jm_enter [(0, .ref 0), (1, jm_i v1), (2, jm_i v2)] (by decide) (Nat.le_of_ble_eq_true rfl) rfl ?_
  refine jm_mrI (fun hm0 => ?_)
  refine jm_aload_n (pc := 0) 0 dX12_ofTestimony_0 rfl ?_
  refine jm_getr (pc := 1) 45 dX12_ofTestimony_1 fX12_83 (cR0 hg) rfl ?_
  refine jm_bipush (pc := 4) dX12_ofTestimony_4 (by decide) ?_
  refine jm_iload_n (pc := 6) 1 dX12_ofTestimony_6 rfl ?_
  refine jm_imul (pc := 7) dX12_ofTestimony_7 ?_
  refine jm_iload_n (pc := 8) 2 dX12_ofTestimony_8 rfl ?_
  refine jm_iadd (pc := 9) dX12_ofTestimony_9 ?_
  have hg1 := h.1
  have h := h.2
  refine jm_iald (pc := 10) dX12_ofTestimony_10 (cR24 hg) (by decide) hg1.1 hg1.2 ?_
  exact jm_iret (pc := 11) dX12_ofTestimony_11 rfl h
theorem pX12_ofTestimony {l : Launch} {g : jm_G} {d : Nat} {v1 v2 : Int} (hg : jm_HR g) {mu : jm_M} {Q : Option Value → jm_M → Prop} (o0 : 0 ≤ ((6 * v1) + v2) ∧ ((6 * v1) + v2) < 120) (h : Q (some (jm_i (mu.1 24 ((6 * v1) + v2)))) mu) : jm_R l g (d + 1) iX12_ofTestimony [.ref 0, jm_i v1, jm_i v2] mu Q := by
  refine eX12_ofTestimony hg ?_
  refine ⟨o0, ?_⟩
  exact h
theorem dX12_isTestimony_0 : decode cX12_isTestimony 0 = .ok (.iload_n 1, 1) := by decide +kernel
theorem dX12_isTestimony_1 : decode cX12_isTestimony 1 = .ok (.ifCond .lt 17, 3) := by decide +kernel
theorem dX12_isTestimony_4 : decode cX12_isTestimony 4 = .ok (.iload_n 1, 1) := by decide +kernel
theorem dX12_isTestimony_5 : decode cX12_isTestimony 5 = .ok (.aload_n 0, 1) := by decide +kernel
theorem dX12_isTestimony_6 : decode cX12_isTestimony 6 = .ok (.getfield 7, 3) := by decide +kernel
theorem dX12_isTestimony_9 : decode cX12_isTestimony 9 = .ok (.iconst 4, 1) := by decide +kernel
theorem dX12_isTestimony_10 : decode cX12_isTestimony 10 = .ok (.iaload, 1) := by decide +kernel
theorem dX12_isTestimony_11 : decode cX12_isTestimony 11 = .ok (.if_icmp .ge 7, 3) := by decide +kernel
theorem dX12_isTestimony_14 : decode cX12_isTestimony 14 = .ok (.iconst 1, 1) := by decide +kernel
theorem dX12_isTestimony_15 : decode cX12_isTestimony 15 = .ok (.goto 4, 3) := by decide +kernel
theorem dX12_isTestimony_18 : decode cX12_isTestimony 18 = .ok (.iconst 0, 1) := by decide +kernel
theorem dX12_isTestimony_19 : decode cX12_isTestimony 19 = .ok (.ireturn, 1) := by decide +kernel
theorem eX12_isTestimony {l : Launch} {g : jm_G} {d : Nat} {v1 : Int} (hg : jm_HR g) {mu : jm_M} {Q : Option Value → jm_M → Prop} (h : jm_rg v1 ∧ (v1 < 0 → Q (some (jm_i 0)) mu) ∧ (0 ≤ v1 → ((mu.1 1 4) ≤ v1 → Q (some (jm_i 0)) mu) ∧ (v1 < (mu.1 1 4) → Q (some (jm_i 1)) mu))) : jm_R l g (d + 1) iX12_isTestimony [.ref 0, jm_i v1] mu Q := by
  refine jm_enter [(0, .ref 0), (1, jm_i v1)] (by decide) (Nat.le_of_ble_eq_true rfl) rfl ?_
  refine jm_mrI (fun hm0 => ?_)
  refine jm_iload_n (pc := 0) 1 dX12_isTestimony_0 rfl ?_
  have hg1 := h.1
  have h := h.2
  refine jm_if_lt (pc := 1) 18 dX12_isTestimony_1 rfl hg1 (fun q => ?_) (fun q => ?_)
  · have h := h.1 q
    refine jm_iconst (pc := 18) dX12_isTestimony_18 ?_
    exact jm_zret (pc := 19) dX12_isTestimony_19 rfl (Or.inl rfl) h
  · have h := h.2 q
    refine jm_iload_n (pc := 4) 1 dX12_isTestimony_4 rfl ?_
    refine jm_aload_n (pc := 5) 0 dX12_isTestimony_5 rfl ?_
    refine jm_getr (pc := 6) 1 dX12_isTestimony_6 fX12_7 (cR0 hg) rfl ?_
    refine jm_iconst (pc := 9) dX12_isTestimony_9 ?_
    refine jm_iald (pc := 10) dX12_isTestimony_10 (cR1 hg) (by decide) (by decide) (by decide) ?_
    refine jm_icmp_ge (pc := 11) 18 dX12_isTestimony_11 rfl hg1 (hm0 _ _) (fun q => ?_) (fun q => ?_)
    · have h := h.1 q
      refine jm_iconst (pc := 18) dX12_isTestimony_18 ?_
      exact jm_zret (pc := 19) dX12_isTestimony_19 rfl (Or.inl rfl) h
    · have h := h.2 q
      refine jm_iconst (pc := 14) dX12_isTestimony_14 ?_
      refine jm_goto (pc := 15) 19 dX12_isTestimony_15 rfl ?_
      exact jm_zret (pc := 19) dX12_isTestimony_19 rfl (Or.inr rfl) h
theorem pX12_isTestimony {l : Launch} {g : jm_G} {d : Nat} {v1 : Int} (hg : jm_HR g) {mu : jm_M} {Q : Option Value → jm_M → Prop} (o0 : jm_rg v1) (h1 : 0 ≤ v1 ∧ v1 < (mu.1 1 4) → Q (some (jm_i 1)) mu) (h0 : ¬ (0 ≤ v1 ∧ v1 < (mu.1 1 4)) → Q (some (jm_i 0)) mu) : jm_R l g (d + 1) iX12_isTestimony [.ref 0, jm_i v1] mu Q := by
  refine eX12_isTestimony hg ?_
  refine ⟨o0, ?_⟩
  refine ⟨fun q0 => ?_, fun q0 => ?_⟩
  · exact h0 (by omega)
  · refine ⟨fun q1 => ?_, fun q1 => ?_⟩
    · exact h0 (by omega)
    · exact h1 (⟨q0, q1⟩)
theorem dX12_isStruck_0 : decode cX12_isStruck 0 = .ok (.aload_n 0, 1) := by decide +kernel
theorem dX12_isStruck_1 : decode cX12_isStruck 1 = .ok (.getfield 7, 3) := by decide +kernel
theorem dX12_isStruck_4 : decode cX12_isStruck 4 = .ok (.iconst 5, 1) := by decide +kernel
theorem dX12_isStruck_5 : decode cX12_isStruck 5 = .ok (.iaload, 1) := by decide +kernel
theorem dX12_isStruck_6 : decode cX12_isStruck 6 = .ok (.iload_n 1, 1) := by decide +kernel
theorem dX12_isStruck_7 : decode cX12_isStruck 7 = .ok (.ishr, 1) := by decide +kernel
theorem dX12_isStruck_8 : decode cX12_isStruck 8 = .ok (.iconst 1, 1) := by decide +kernel
theorem dX12_isStruck_9 : decode cX12_isStruck 9 = .ok (.iand, 1) := by decide +kernel
theorem dX12_isStruck_10 : decode cX12_isStruck 10 = .ok (.iconst 1, 1) := by decide +kernel
theorem dX12_isStruck_11 : decode cX12_isStruck 11 = .ok (.if_icmp .ne 7, 3) := by decide +kernel
theorem dX12_isStruck_14 : decode cX12_isStruck 14 = .ok (.iconst 1, 1) := by decide +kernel
theorem dX12_isStruck_15 : decode cX12_isStruck 15 = .ok (.goto 4, 3) := by decide +kernel
theorem dX12_isStruck_18 : decode cX12_isStruck 18 = .ok (.iconst 0, 1) := by decide +kernel
theorem dX12_isStruck_19 : decode cX12_isStruck 19 = .ok (.ireturn, 1) := by decide +kernel
theorem eX12_isStruck {l : Launch} {g : jm_G} {d : Nat} {v1 : Int} (hg : jm_HR g) {mu : jm_M} {Q : Option Value → jm_M → Prop} (h : (¬ (jm_and (jm_shr (mu.1 1 5) v1) 1) = 1 → Q (some (jm_i 0)) mu) ∧ ((jm_and (jm_shr (mu.1 1 5) v1) 1) = 1 → Q (some (jm_i 1)) mu)) : jm_R l g (d + 1) iX12_isStruck [.ref 0, jm_i v1] mu Q := by
  refine jm_enter [(0, .ref 0), (1, jm_i v1)] (by decide) (Nat.le_of_ble_eq_true rfl) rfl ?_
  refine jm_mrI (fun hm0 => ?_)
  refine jm_aload_n (pc := 0) 0 dX12_isStruck_0 rfl ?_
  refine jm_getr (pc := 1) 1 dX12_isStruck_1 fX12_7 (cR0 hg) rfl ?_
  refine jm_iconst (pc := 4) dX12_isStruck_4 ?_
  refine jm_iald (pc := 5) dX12_isStruck_5 (cR1 hg) (by decide) (by decide) (by decide) ?_
  refine jm_iload_n (pc := 6) 1 dX12_isStruck_6 rfl ?_
  refine jm_ishr (pc := 7) dX12_isStruck_7 ?_
  refine jm_iconst (pc := 8) dX12_isStruck_8 ?_
  refine jm_iand (pc := 9) dX12_isStruck_9 ?_
  refine jm_iconst (pc := 10) dX12_isStruck_10 ?_
  refine jm_icmp_ne (pc := 11) 18 dX12_isStruck_11 rfl (jm_rgT _) ⟨by decide, by decide⟩ (fun q => ?_) (fun q => ?_)
  · have h := h.1 q
    refine jm_iconst (pc := 18) dX12_isStruck_18 ?_
    exact jm_zret (pc := 19) dX12_isStruck_19 rfl (Or.inl rfl) h
  · have h := h.2 q
    refine jm_iconst (pc := 14) dX12_isStruck_14 ?_
    refine jm_goto (pc := 15) 19 dX12_isStruck_15 rfl ?_
    exact jm_zret (pc := 19) dX12_isStruck_19 rfl (Or.inr rfl) h
theorem pX12_isStruck {l : Launch} {g : jm_G} {d : Nat} {v1 : Int} (hg : jm_HR g) {mu : jm_M} {Q : Option Value → jm_M → Prop} (h1 : (jm_and (jm_shr (mu.1 1 5) v1) 1) = 1 → Q (some (jm_i 1)) mu) (h0 : ¬ ((jm_and (jm_shr (mu.1 1 5) v1) 1) = 1) → Q (some (jm_i 0)) mu) : jm_R l g (d + 1) iX12_isStruck [.ref 0, jm_i v1] mu Q := by
  refine eX12_isStruck hg ?_
  refine ⟨fun q0 => ?_, fun q0 => ?_⟩
  · exact h0 (by omega)
  · exact h1 (q0)
theorem dX12_sungBy_0 : decode cX12_sungBy 0 = .ok (.iconst 0, 1) := by decide +kernel
theorem dX12_sungBy_1 : decode cX12_sungBy 1 = .ok (.istore_n 2, 1) := by decide +kernel
theorem dX12_sungBy_2 : decode cX12_sungBy 2 = .ok (.iconst 0, 1) := by decide +kernel
theorem dX12_sungBy_3 : decode cX12_sungBy 3 = .ok (.istore_n 3, 1) := by decide +kernel
theorem dX12_sungBy_4 : decode cX12_sungBy 4 = .ok (.iload_n 3, 1) := by decide +kernel
theorem dX12_sungBy_5 : decode cX12_sungBy 5 = .ok (.aload_n 0, 1) := by decide +kernel
theorem dX12_sungBy_6 : decode cX12_sungBy 6 = .ok (.getfield 7, 3) := by decide +kernel
theorem dX12_sungBy_9 : decode cX12_sungBy 9 = .ok (.iconst 4, 1) := by decide +kernel
theorem dX12_sungBy_10 : decode cX12_sungBy 10 = .ok (.iaload, 1) := by decide +kernel
theorem dX12_sungBy_11 : decode cX12_sungBy 11 = .ok (.if_icmp .ge 23, 3) := by decide +kernel
theorem dX12_sungBy_14 : decode cX12_sungBy 14 = .ok (.aload_n 0, 1) := by decide +kernel
theorem dX12_sungBy_15 : decode cX12_sungBy 15 = .ok (.iload_n 3, 1) := by decide +kernel
theorem dX12_sungBy_16 : decode cX12_sungBy 16 = .ok (.iconst 0, 1) := by decide +kernel
theorem dX12_sungBy_17 : decode cX12_sungBy 17 = .ok (.invokevirtual 314, 3) := by decide +kernel
theorem dX12_sungBy_20 : decode cX12_sungBy 20 = .ok (.iload_n 1, 1) := by decide +kernel
theorem dX12_sungBy_21 : decode cX12_sungBy 21 = .ok (.if_icmp .ne 7, 3) := by decide +kernel
theorem dX12_sungBy_24 : decode cX12_sungBy 24 = .ok (.iload_n 2, 1) := by decide +kernel
theorem dX12_sungBy_25 : decode cX12_sungBy 25 = .ok (.iconst 1, 1) := by decide +kernel
theorem dX12_sungBy_26 : decode cX12_sungBy 26 = .ok (.iadd, 1) := by decide +kernel
theorem dX12_sungBy_27 : decode cX12_sungBy 27 = .ok (.istore_n 2, 1) := by decide +kernel
theorem dX12_sungBy_28 : decode cX12_sungBy 28 = .ok (.iinc 3 1, 3) := by decide +kernel
theorem dX12_sungBy_31 : decode cX12_sungBy 31 = .ok (.goto (-27), 3) := by decide +kernel
theorem dX12_sungBy_34 : decode cX12_sungBy 34 = .ok (.iload_n 2, 1) := by decide +kernel
theorem dX12_sungBy_35 : decode cX12_sungBy 35 = .ok (.ireturn, 1) := by decide +kernel
theorem bX12_sungBy_4 {l : Launch} {g : jm_G} {d : Nat} {v1 v2 v3 : Int} (hg : jm_HR g) {mu : jm_M} {Q : Option Value → jm_M → Prop} (h : jm_rg v3 ∧ ((mu.1 1 4) ≤ v3 → Q (some (jm_i v2)) mu) ∧ (v3 < (mu.1 1 4) → (0 ≤ ((6 * v3) + 0) ∧ ((6 * v3) + 0) < 120) ∧ jm_rg v1 ∧ (¬ (mu.1 24 ((6 * v3) + 0)) = v1 → jm_V l g (d + 2) iX12_sungBy 4 [(0, .ref 0), (1, jm_i v1), (2, jm_i v2), (3, jm_i (v3 + 1))] [] mu Q) ∧ ((mu.1 24 ((6 * v3) + 0)) = v1 → ∀ x4, x4 = (v2 + 1) → jm_V l g (d + 2) iX12_sungBy 4 [(0, .ref 0), (1, jm_i v1), (2, jm_i x4), (3, jm_i (v3 + 1))] [] mu Q))) : jm_V l g (d + 2) iX12_sungBy 4 [(0, .ref 0), (1, jm_i v1), (2, jm_i v2), (3, jm_i v3)] [] mu Q := by
  refine jm_mrI (fun hm0 => ?_)
  refine jm_iload_n (pc := 4) 3 dX12_sungBy_4 rfl ?_
  refine jm_aload_n (pc := 5) 0 dX12_sungBy_5 rfl ?_
  refine jm_getr (pc := 6) 1 dX12_sungBy_6 fX12_7 (cR0 hg) rfl ?_
  refine jm_iconst (pc := 9) dX12_sungBy_9 ?_
  refine jm_iald (pc := 10) dX12_sungBy_10 (cR1 hg) (by decide) (by decide) (by decide) ?_
  have hg1 := h.1
  have h := h.2
  refine jm_icmp_ge (pc := 11) 34 dX12_sungBy_11 rfl hg1 (hm0 _ _) (fun q => ?_) (fun q => ?_)
  · have h := h.1 q
    refine jm_iload_n (pc := 34) 2 dX12_sungBy_34 rfl ?_
    exact jm_iret (pc := 35) dX12_sungBy_35 rfl h
  · have h := h.2 q
    refine jm_aload_n (pc := 14) 0 dX12_sungBy_14 rfl ?_
    refine jm_iload_n (pc := 15) 3 dX12_sungBy_15 rfl ?_
    refine jm_iconst (pc := 16) dX12_sungBy_16 ?_
    have hg2 := h.1
    have h := h.2
    refine jm_inlvi (pc := 17) (As := [_, _]) (st := []) iX12_ofTestimony dX12_sungBy_17 mX12_314 (cR0 hg) ⟨_, rfl, rfl⟩ rfl rfl (Nat.le_of_ble_eq_true rfl) (pX12_ofTestimony hg hg2 (jm_kIi ?_))
    refine jm_iload_n (pc := 20) 1 dX12_sungBy_20 rfl ?_
    have hg3 := h.1
    have h := h.2
    refine jm_icmp_ne (pc := 21) 28 dX12_sungBy_21 rfl (hm0 _ _) hg3 (fun q => ?_) (fun q => ?_)
    · have h := h.1 q
      refine jm_iinc (pc := 28) (lv' := [(3, _), (0, _), (1, _), (2, _)]) 3 dX12_sungBy_28 rfl (by decide) rfl ?_
      refine jm_goto (pc := 31) 4 dX12_sungBy_31 rfl ?_
      exact jm_sub [1, 2, 3, 0] rfl h
    · have h := h.2 q
      refine jm_iload_n (pc := 24) 2 dX12_sungBy_24 rfl ?_
      refine jm_iconst (pc := 25) dX12_sungBy_25 ?_
      refine jm_iadd (pc := 26) dX12_sungBy_26 ?_
      have h := h _ rfl
      refine jm_istore_n (pc := 27) (lv' := [(2, _), (0, _), (1, _), (3, _)]) dX12_sungBy_27 (by decide) rfl ?_
      refine jm_iinc (pc := 28) (lv' := [(3, _), (2, _), (0, _), (1, _)]) 3 dX12_sungBy_28 rfl (by decide) rfl ?_
      refine jm_goto (pc := 31) 4 dX12_sungBy_31 rfl ?_
      exact jm_sub [2, 3, 1, 0] rfl h
theorem eX12_sungBy {l : Launch} {g : jm_G} {d : Nat} {v1 : Int} (hg : jm_HR g) {mu : jm_M} {Q : Option Value → jm_M → Prop} (h : jm_V l g (d + 2) iX12_sungBy 4 [(0, .ref 0), (1, jm_i v1), (2, jm_i 0), (3, jm_i 0)] [] mu Q) : jm_R l g (d + 2) iX12_sungBy [.ref 0, jm_i v1] mu Q := by
  refine jm_enter [(0, .ref 0), (1, jm_i v1)] (by decide) (Nat.le_of_ble_eq_true rfl) rfl ?_
  refine jm_mrI (fun hm0 => ?_)
  refine jm_iconst (pc := 0) dX12_sungBy_0 ?_
  refine jm_istore_n (pc := 1) (lv' := [(2, _), (0, _), (1, _)]) dX12_sungBy_1 (by decide) rfl ?_
  refine jm_iconst (pc := 2) dX12_sungBy_2 ?_
  refine jm_istore_n (pc := 3) (lv' := [(3, _), (2, _), (0, _), (1, _)]) dX12_sungBy_3 (by decide) rfl ?_
  exact jm_sub [2, 3, 1, 0] rfl h
