theorem dX12_notes_0 : decode cX12_notes 0 = .ok (.aload_n 0, 1) := by decide +kernel
theorem dX12_notes_1 : decode cX12_notes 1 = .ok (.getfield 7, 3) := by decide +kernel
theorem dX12_notes_4 : decode cX12_notes 4 = .ok (.iconst 2, 1) := by decide +kernel
theorem dX12_notes_5 : decode cX12_notes 5 = .ok (.iaload, 1) := by decide +kernel
theorem dX12_notes_6 : decode cX12_notes 6 = .ok (.bipush 120, 2) := by decide +kernel
theorem dX12_notes_8 : decode cX12_notes 8 = .ok (.if_icmp .ne 4, 3) := by decide +kernel
theorem dX12_notes_11 : decode cX12_notes 11 = .ok (.return_, 1) := by decide +kernel
theorem dX12_notes_12 : decode cX12_notes 12 = .ok (.iconst 5, 1) := by decide +kernel
theorem dX12_notes_13 : decode cX12_notes 13 = .ok (.aload_n 0, 1) := by decide +kernel
theorem dX12_notes_14 : decode cX12_notes 14 = .ok (.getfield 7, 3) := by decide +kernel
theorem dX12_notes_17 : decode cX12_notes 17 = .ok (.iconst 2, 1) := by decide +kernel
theorem dX12_notes_18 : decode cX12_notes 18 = .ok (.iaload, 1) := by decide +kernel
theorem dX12_notes_19 : decode cX12_notes 19 = .ok (.imul, 1) := by decide +kernel
theorem dX12_notes_20 : decode cX12_notes 20 = .ok (.istore 5, 2) := by decide +kernel
theorem dX12_notes_22 : decode cX12_notes 22 = .ok (.aload_n 0, 1) := by decide +kernel
theorem dX12_notes_23 : decode cX12_notes 23 = .ok (.getfield 89, 3) := by decide +kernel
theorem dX12_notes_26 : decode cX12_notes 26 = .ok (.iload 5, 2) := by decide +kernel
theorem dX12_notes_28 : decode cX12_notes 28 = .ok (.aload_n 0, 1) := by decide +kernel
theorem dX12_notes_29 : decode cX12_notes 29 = .ok (.getfield 7, 3) := by decide +kernel
theorem dX12_notes_32 : decode cX12_notes 32 = .ok (.iconst 0, 1) := by decide +kernel
theorem dX12_notes_33 : decode cX12_notes 33 = .ok (.iaload, 1) := by decide +kernel
theorem dX12_notes_34 : decode cX12_notes 34 = .ok (.iastore, 1) := by decide +kernel
theorem dX12_notes_35 : decode cX12_notes 35 = .ok (.aload_n 0, 1) := by decide +kernel
theorem dX12_notes_36 : decode cX12_notes 36 = .ok (.getfield 89, 3) := by decide +kernel
theorem dX12_notes_39 : decode cX12_notes 39 = .ok (.iload 5, 2) := by decide +kernel
theorem dX12_notes_41 : decode cX12_notes 41 = .ok (.iconst 1, 1) := by decide +kernel
theorem dX12_notes_42 : decode cX12_notes 42 = .ok (.iadd, 1) := by decide +kernel
theorem dX12_notes_43 : decode cX12_notes 43 = .ok (.iload_n 1, 1) := by decide +kernel
theorem dX12_notes_44 : decode cX12_notes 44 = .ok (.iastore, 1) := by decide +kernel
theorem dX12_notes_45 : decode cX12_notes 45 = .ok (.aload_n 0, 1) := by decide +kernel
theorem dX12_notes_46 : decode cX12_notes 46 = .ok (.getfield 89, 3) := by decide +kernel
theorem dX12_notes_49 : decode cX12_notes 49 = .ok (.iload 5, 2) := by decide +kernel
theorem dX12_notes_51 : decode cX12_notes 51 = .ok (.iconst 2, 1) := by decide +kernel
theorem dX12_notes_52 : decode cX12_notes 52 = .ok (.iadd, 1) := by decide +kernel
theorem dX12_notes_53 : decode cX12_notes 53 = .ok (.iload_n 2, 1) := by decide +kernel
theorem dX12_notes_54 : decode cX12_notes 54 = .ok (.iastore, 1) := by decide +kernel
theorem dX12_notes_55 : decode cX12_notes 55 = .ok (.aload_n 0, 1) := by decide +kernel
theorem dX12_notes_56 : decode cX12_notes 56 = .ok (.getfield 89, 3) := by decide +kernel
theorem dX12_notes_59 : decode cX12_notes 59 = .ok (.iload 5, 2) := by decide +kernel
theorem dX12_notes_61 : decode cX12_notes 61 = .ok (.iconst 3, 1) := by decide +kernel
theorem dX12_notes_62 : decode cX12_notes 62 = .ok (.iadd, 1) := by decide +kernel
theorem dX12_notes_63 : decode cX12_notes 63 = .ok (.iload_n 3, 1) := by decide +kernel
theorem dX12_notes_64 : decode cX12_notes 64 = .ok (.iastore, 1) := by decide +kernel
theorem dX12_notes_65 : decode cX12_notes 65 = .ok (.aload_n 0, 1) := by decide +kernel
theorem dX12_notes_66 : decode cX12_notes 66 = .ok (.getfield 89, 3) := by decide +kernel
theorem dX12_notes_69 : decode cX12_notes 69 = .ok (.iload 5, 2) := by decide +kernel
theorem dX12_notes_71 : decode cX12_notes 71 = .ok (.iconst 4, 1) := by decide +kernel
theorem dX12_notes_72 : decode cX12_notes 72 = .ok (.iadd, 1) := by decide +kernel
theorem dX12_notes_73 : decode cX12_notes 73 = .ok (.iload 4, 2) := by decide +kernel
theorem dX12_notes_75 : decode cX12_notes 75 = .ok (.iastore, 1) := by decide +kernel
theorem dX12_notes_76 : decode cX12_notes 76 = .ok (.aload_n 0, 1) := by decide +kernel
theorem dX12_notes_77 : decode cX12_notes 77 = .ok (.getfield 7, 3) := by decide +kernel
theorem dX12_notes_80 : decode cX12_notes 80 = .ok (.iconst 2, 1) := by decide +kernel
theorem dX12_notes_81 : decode cX12_notes 81 = .ok (.aload_n 0, 1) := by decide +kernel
theorem dX12_notes_82 : decode cX12_notes 82 = .ok (.getfield 7, 3) := by decide +kernel
theorem dX12_notes_85 : decode cX12_notes 85 = .ok (.iconst 2, 1) := by decide +kernel
theorem dX12_notes_86 : decode cX12_notes 86 = .ok (.iaload, 1) := by decide +kernel
theorem dX12_notes_87 : decode cX12_notes 87 = .ok (.iconst 1, 1) := by decide +kernel
theorem dX12_notes_88 : decode cX12_notes 88 = .ok (.iadd, 1) := by decide +kernel
theorem dX12_notes_89 : decode cX12_notes 89 = .ok (.iastore, 1) := by decide +kernel
theorem dX12_notes_90 : decode cX12_notes 90 = .ok (.return_, 1) := by decide +kernel
theorem eX12_notes {l : Launch} {g : jm_G} {d : Nat} {v1 v2 v3 v4 : Int} (hg : jm_HR g) {mu : jm_M} {Q : Option Value → jm_M → Prop} (h : (¬ (mu.1 1 2) = 120 → ∀ x1, x1 = (5 * (mu.1 1 2)) → (0 ≤ x1 ∧ x1 < 600) ∧ ∀ m3, m3 = jm_wr mu 26 x1 (mu.1 1 0) → (0 ≤ (x1 + 1) ∧ (x1 + 1) < 600) ∧ jm_rg v1 ∧ ∀ m7, m7 = jm_wr m3 26 (x1 + 1) v1 → (0 ≤ (x1 + 2) ∧ (x1 + 2) < 600) ∧ jm_rg v2 ∧ ∀ m11, m11 = jm_wr m7 26 (x1 + 2) v2 → (0 ≤ (x1 + 3) ∧ (x1 + 3) < 600) ∧ jm_rg v3 ∧ ∀ m15, m15 = jm_wr m11 26 (x1 + 3) v3 → (0 ≤ (x1 + 4) ∧ (x1 + 4) < 600) ∧ jm_rg v4 ∧ ∀ m19, m19 = jm_wr m15 26 (x1 + 4) v4 → jm_rg ((m19.1 1 2) + 1) ∧ ∀ m22, m22 = jm_wr m19 1 2 ((m19.1 1 2) + 1) → Q none m22) ∧ ((mu.1 1 2) = 120 → Q none mu)) : jm_R l g (d + 1) iX12_notes [.ref 0, jm_i v1, jm_i v2, jm_i v3, jm_i v4] mu Q := by
  refine jm_enter [(0, .ref 0), (1, jm_i v1), (2, jm_i v2), (3, jm_i v3), (4, jm_i v4)] (by decide) (Nat.le_of_ble_eq_true rfl) rfl ?_
  refine jm_mrI (fun hm0 => ?_)
  refine jm_aload_n (pc := 0) 0 dX12_notes_0 rfl ?_
  refine jm_getr (pc := 1) 1 dX12_notes_1 fX12_7 (cR0 hg) rfl ?_
  refine jm_iconst (pc := 4) dX12_notes_4 ?_
  refine jm_iald (pc := 5) dX12_notes_5 (cR1 hg) (by decide) (by decide) (by decide) ?_
  refine jm_bipush (pc := 6) dX12_notes_6 (by decide) ?_
  refine jm_icmp_ne (pc := 8) 12 dX12_notes_8 rfl (hm0 _ _) ⟨by decide, by decide⟩ (fun q => ?_) (fun q => ?_)
  · have h := h.1 q
    refine jm_iconst (pc := 12) dX12_notes_12 ?_
    refine jm_aload_n (pc := 13) 0 dX12_notes_13 rfl ?_
    refine jm_getr (pc := 14) 1 dX12_notes_14 fX12_7 (cR0 hg) rfl ?_
    refine jm_iconst (pc := 17) dX12_notes_17 ?_
    refine jm_iald (pc := 18) dX12_notes_18 (cR1 hg) (by decide) (by decide) (by decide) ?_
    refine jm_imul (pc := 19) dX12_notes_19 ?_
    have h := h _ rfl
    refine jm_istore (pc := 20) (lv' := [(5, _), (0, _), (1, _), (2, _), (3, _), (4, _)]) dX12_notes_20 (by decide) rfl ?_
    refine jm_aload_n (pc := 22) 1 dX12_notes_22 rfl ?_
    refine jm_getr (pc := 23) 47 dX12_notes_23 fX12_89 (cR0 hg) rfl ?_
    refine jm_iload (pc := 26) 0 dX12_notes_26 rfl ?_
    refine jm_aload_n (pc := 28) 1 dX12_notes_28 rfl ?_
    refine jm_getr (pc := 29) 1 dX12_notes_29 fX12_7 (cR0 hg) rfl ?_
    refine jm_iconst (pc := 32) dX12_notes_32 ?_
    refine jm_iald (pc := 33) dX12_notes_33 (cR1 hg) (by decide) (by decide) (by decide) ?_
    have hg2 := h.1
    have h := h.2
    refine jm_iast (pc := 34) dX12_notes_34 (cR26 hg) (by decide) hg2.1 hg2.2 (hm0 _ _) ?_
    have h := h _ rfl
    refine jm_mrI (fun hm4 => ?_)
    refine jm_aload_n (pc := 35) 1 dX12_notes_35 rfl ?_
    refine jm_getr (pc := 36) 47 dX12_notes_36 fX12_89 (cR0 hg) rfl ?_
    refine jm_iload (pc := 39) 0 dX12_notes_39 rfl ?_
    refine jm_iconst (pc := 41) dX12_notes_41 ?_
    refine jm_iadd (pc := 42) dX12_notes_42 ?_
    refine jm_iload_n (pc := 43) 2 dX12_notes_43 rfl ?_
    have hg5 := h.1
    have h := h.2
    have hg6 := h.1
    have h := h.2
    refine jm_iast (pc := 44) dX12_notes_44 (cR26 hg) (by decide) hg5.1 hg5.2 hg6 ?_
    have h := h _ rfl
    refine jm_mrI (fun hm8 => ?_)
    refine jm_aload_n (pc := 45) 1 dX12_notes_45 rfl ?_
    refine jm_getr (pc := 46) 47 dX12_notes_46 fX12_89 (cR0 hg) rfl ?_
    refine jm_iload (pc := 49) 0 dX12_notes_49 rfl ?_
    refine jm_iconst (pc := 51) dX12_notes_51 ?_
    refine jm_iadd (pc := 52) dX12_notes_52 ?_
    refine jm_iload_n (pc := 53) 3 dX12_notes_53 rfl ?_
    have hg9 := h.1
    have h := h.2
    have hg10 := h.1
    have h := h.2
    refine jm_iast (pc := 54) dX12_notes_54 (cR26 hg) (by decide) hg9.1 hg9.2 hg10 ?_
    have h := h _ rfl
    refine jm_mrI (fun hm12 => ?_)
    refine jm_aload_n (pc := 55) 1 dX12_notes_55 rfl ?_
    refine jm_getr (pc := 56) 47 dX12_notes_56 fX12_89 (cR0 hg) rfl ?_
    refine jm_iload (pc := 59) 0 dX12_notes_59 rfl ?_
    refine jm_iconst (pc := 61) dX12_notes_61 ?_
    refine jm_iadd (pc := 62) dX12_notes_62 ?_
    refine jm_iload_n (pc := 63) 4 dX12_notes_63 rfl ?_
    have hg13 := h.1
    have h := h.2
    have hg14 := h.1
    have h := h.2
    refine jm_iast (pc := 64) dX12_notes_64 (cR26 hg) (by decide) hg13.1 hg13.2 hg14 ?_
    have h := h _ rfl
    refine jm_mrI (fun hm16 => ?_)
    refine jm_aload_n (pc := 65) 1 dX12_notes_65 rfl ?_
    refine jm_getr (pc := 66) 47 dX12_notes_66 fX12_89 (cR0 hg) rfl ?_
    refine jm_iload (pc := 69) 0 dX12_notes_69 rfl ?_
    refine jm_iconst (pc := 71) dX12_notes_71 ?_
    refine jm_iadd (pc := 72) dX12_notes_72 ?_
    refine jm_iload (pc := 73) 5 dX12_notes_73 rfl ?_
    have hg17 := h.1
    have h := h.2
    have hg18 := h.1
    have h := h.2
    refine jm_iast (pc := 75) dX12_notes_75 (cR26 hg) (by decide) hg17.1 hg17.2 hg18 ?_
    have h := h _ rfl
    refine jm_mrI (fun hm20 => ?_)
    refine jm_aload_n (pc := 76) 1 dX12_notes_76 rfl ?_
    refine jm_getr (pc := 77) 1 dX12_notes_77 fX12_7 (cR0 hg) rfl ?_
    refine jm_iconst (pc := 80) dX12_notes_80 ?_
    refine jm_aload_n (pc := 81) 1 dX12_notes_81 rfl ?_
    refine jm_getr (pc := 82) 1 dX12_notes_82 fX12_7 (cR0 hg) rfl ?_
    refine jm_iconst (pc := 85) dX12_notes_85 ?_
    refine jm_iald (pc := 86) dX12_notes_86 (cR1 hg) (by decide) (by decide) (by decide) ?_
    refine jm_iconst (pc := 87) dX12_notes_87 ?_
    refine jm_iadd (pc := 88) dX12_notes_88 ?_
    have hg21 := h.1
    have h := h.2
    refine jm_iast (pc := 89) dX12_notes_89 (cR1 hg) (by decide) (by decide) (by decide) hg21 ?_
    have h := h _ rfl
    refine jm_mrI (fun hm23 => ?_)
    exact jm_vret (pc := 90) dX12_notes_90 rfl h
  · have h := h.2 q
    exact jm_vret (pc := 11) dX12_notes_11 rfl h
theorem dX12_asks_0 : decode cX12_asks 0 = .ok (.aload_n 0, 1) := by decide +kernel
theorem dX12_asks_1 : decode cX12_asks 1 = .ok (.getfield 77, 3) := by decide +kernel
theorem dX12_asks_4 : decode cX12_asks 4 = .ok (.iconst 0, 1) := by decide +kernel
theorem dX12_asks_5 : decode cX12_asks 5 = .ok (.aload_n 0, 1) := by decide +kernel
theorem dX12_asks_6 : decode cX12_asks 6 = .ok (.iload_n 1, 1) := by decide +kernel
theorem dX12_asks_7 : decode cX12_asks 7 = .ok (.invokevirtual 317, 3) := by decide +kernel
theorem dX12_asks_10 : decode cX12_asks 10 = .ok (.iastore, 1) := by decide +kernel
theorem dX12_asks_11 : decode cX12_asks 11 = .ok (.aload_n 0, 1) := by decide +kernel
theorem dX12_asks_12 : decode cX12_asks 12 = .ok (.getfield 77, 3) := by decide +kernel
theorem dX12_asks_15 : decode cX12_asks 15 = .ok (.iconst 1, 1) := by decide +kernel
theorem dX12_asks_16 : decode cX12_asks 16 = .ok (.aload_n 0, 1) := by decide +kernel
theorem dX12_asks_17 : decode cX12_asks 17 = .ok (.getfield 7, 3) := by decide +kernel
theorem dX12_asks_20 : decode cX12_asks 20 = .ok (.bipush 14, 2) := by decide +kernel
theorem dX12_asks_22 : decode cX12_asks 22 = .ok (.iload_n 1, 1) := by decide +kernel
theorem dX12_asks_23 : decode cX12_asks 23 = .ok (.iadd, 1) := by decide +kernel
theorem dX12_asks_24 : decode cX12_asks 24 = .ok (.iaload, 1) := by decide +kernel
theorem dX12_asks_25 : decode cX12_asks 25 = .ok (.iastore, 1) := by decide +kernel
theorem dX12_asks_26 : decode cX12_asks 26 = .ok (.aload_n 0, 1) := by decide +kernel
theorem dX12_asks_27 : decode cX12_asks 27 = .ok (.getfield 77, 3) := by decide +kernel
theorem dX12_asks_30 : decode cX12_asks 30 = .ok (.iconst 2, 1) := by decide +kernel
theorem dX12_asks_31 : decode cX12_asks 31 = .ok (.aload_n 0, 1) := by decide +kernel
theorem dX12_asks_32 : decode cX12_asks 32 = .ok (.getfield 22, 3) := by decide +kernel
theorem dX12_asks_35 : decode cX12_asks 35 = .ok (.iload_n 1, 1) := by decide +kernel
theorem dX12_asks_36 : decode cX12_asks 36 = .ok (.iaload, 1) := by decide +kernel
theorem dX12_asks_37 : decode cX12_asks 37 = .ok (.iastore, 1) := by decide +kernel
theorem dX12_asks_38 : decode cX12_asks 38 = .ok (.aload_n 0, 1) := by decide +kernel
theorem dX12_asks_39 : decode cX12_asks 39 = .ok (.getfield 77, 3) := by decide +kernel
theorem dX12_asks_42 : decode cX12_asks 42 = .ok (.iconst 3, 1) := by decide +kernel
theorem dX12_asks_43 : decode cX12_asks 43 = .ok (.iconst 0, 1) := by decide +kernel
theorem dX12_asks_44 : decode cX12_asks 44 = .ok (.iastore, 1) := by decide +kernel
theorem dX12_asks_45 : decode cX12_asks 45 = .ok (.aload_n 0, 1) := by decide +kernel
theorem dX12_asks_46 : decode cX12_asks 46 = .ok (.getfield 77, 3) := by decide +kernel
theorem dX12_asks_49 : decode cX12_asks 49 = .ok (.iconst 4, 1) := by decide +kernel
theorem dX12_asks_50 : decode cX12_asks 50 = .ok (.iconst 0, 1) := by decide +kernel
theorem dX12_asks_51 : decode cX12_asks 51 = .ok (.iastore, 1) := by decide +kernel
theorem dX12_asks_52 : decode cX12_asks 52 = .ok (.aload_n 0, 1) := by decide +kernel
theorem dX12_asks_53 : decode cX12_asks 53 = .ok (.getfield 77, 3) := by decide +kernel
theorem dX12_asks_56 : decode cX12_asks 56 = .ok (.iconst 5, 1) := by decide +kernel
theorem dX12_asks_57 : decode cX12_asks 57 = .ok (.iconst 0, 1) := by decide +kernel
theorem dX12_asks_58 : decode cX12_asks 58 = .ok (.iastore, 1) := by decide +kernel
theorem dX12_asks_59 : decode cX12_asks 59 = .ok (.aload_n 0, 1) := by decide +kernel
theorem dX12_asks_60 : decode cX12_asks 60 = .ok (.getfield 77, 3) := by decide +kernel
theorem dX12_asks_63 : decode cX12_asks 63 = .ok (.bipush 6, 2) := by decide +kernel
theorem dX12_asks_65 : decode cX12_asks 65 = .ok (.iload_n 2, 1) := by decide +kernel
theorem dX12_asks_66 : decode cX12_asks 66 = .ok (.iastore, 1) := by decide +kernel
theorem dX12_asks_67 : decode cX12_asks 67 = .ok (.aload_n 0, 1) := by decide +kernel
theorem dX12_asks_68 : decode cX12_asks 68 = .ok (.getfield 77, 3) := by decide +kernel
theorem dX12_asks_71 : decode cX12_asks 71 = .ok (.bipush 7, 2) := by decide +kernel
theorem dX12_asks_73 : decode cX12_asks 73 = .ok (.iload_n 3, 1) := by decide +kernel
theorem dX12_asks_74 : decode cX12_asks 74 = .ok (.iastore, 1) := by decide +kernel
theorem dX12_asks_75 : decode cX12_asks 75 = .ok (.aload_n 0, 1) := by decide +kernel
theorem dX12_asks_76 : decode cX12_asks 76 = .ok (.getfield 77, 3) := by decide +kernel
theorem dX12_asks_79 : decode cX12_asks 79 = .ok (.bipush 8, 2) := by decide +kernel
theorem dX12_asks_81 : decode cX12_asks 81 = .ok (.aload_n 0, 1) := by decide +kernel
theorem dX12_asks_82 : decode cX12_asks 82 = .ok (.getfield 7, 3) := by decide +kernel
theorem dX12_asks_85 : decode cX12_asks 85 = .ok (.iconst 0, 1) := by decide +kernel
theorem dX12_asks_86 : decode cX12_asks 86 = .ok (.iaload, 1) := by decide +kernel
theorem dX12_asks_87 : decode cX12_asks 87 = .ok (.iastore, 1) := by decide +kernel
theorem dX12_asks_88 : decode cX12_asks 88 = .ok (.aload_n 0, 1) := by decide +kernel
theorem dX12_asks_89 : decode cX12_asks 89 = .ok (.getfield 77, 3) := by decide +kernel
theorem dX12_asks_92 : decode cX12_asks 92 = .ok (.bipush 9, 2) := by decide +kernel
theorem dX12_asks_94 : decode cX12_asks 94 = .ok (.aload_n 0, 1) := by decide +kernel
theorem dX12_asks_95 : decode cX12_asks 95 = .ok (.iload_n 1, 1) := by decide +kernel
theorem dX12_asks_96 : decode cX12_asks 96 = .ok (.invokevirtual 320, 3) := by decide +kernel
theorem dX12_asks_99 : decode cX12_asks 99 = .ok (.iastore, 1) := by decide +kernel
theorem dX12_asks_100 : decode cX12_asks 100 = .ok (.aload_n 0, 1) := by decide +kernel
theorem dX12_asks_101 : decode cX12_asks 101 = .ok (.getfield 77, 3) := by decide +kernel
theorem dX12_asks_104 : decode cX12_asks 104 = .ok (.bipush 10, 2) := by decide +kernel
theorem dX12_asks_106 : decode cX12_asks 106 = .ok (.iload 4, 2) := by decide +kernel
theorem dX12_asks_108 : decode cX12_asks 108 = .ok (.iastore, 1) := by decide +kernel
theorem dX12_asks_109 : decode cX12_asks 109 = .ok (.return_, 1) := by decide +kernel
theorem eX12_asks {l : Launch} {g : jm_G} {d : Nat} {v1 v2 v3 v4 : Int} (hg : jm_HR g) {mu : jm_M} {Q : Option Value → jm_M → Prop} (h : (0 ≤ (6 + v1) ∧ (6 + v1) < 22) ∧ jm_rg ((mu.1 1 (6 + v1)) + 50) ∧ ∀ m3, m3 = jm_wr mu 22 0 ((mu.1 1 (6 + v1)) + 50) → (0 ≤ (14 + v1) ∧ (14 + v1) < 22) ∧ ∀ m6, m6 = jm_wr m3 22 1 (m3.1 1 (14 + v1)) → (0 ≤ v1 ∧ v1 < 8) ∧ ∀ m9, m9 = jm_wr m6 22 2 (m6.1 5 v1) → ∀ m11, m11 = jm_wr m9 22 3 0 → ∀ m13, m13 = jm_wr m11 22 4 0 → ∀ m15, m15 = jm_wr m13 22 5 0 → jm_rg v2 ∧ ∀ m18, m18 = jm_wr m15 22 6 v2 → jm_rg v3 ∧ ∀ m21, m21 = jm_wr m18 22 7 v3 → ∀ m23, m23 = jm_wr m21 22 8 (m21.1 1 0) → jm_R l g (d + 1) iX12_sungBy [.ref 0, jm_i v1] m23 (jm_qi fun z26 m25 => ∀ m29, m29 = jm_wr m25 22 9 z26 → jm_rg v4 ∧ ∀ m32, m32 = jm_wr m29 22 10 v4 → Q none m32)) : jm_R l g (d + 2) iX12_asks [.ref 0, jm_i v1, jm_i v2, jm_i v3, jm_i v4] mu Q := by
  refine jm_enter [(0, .ref 0), (1, jm_i v1), (2, jm_i v2), (3, jm_i v3), (4, jm_i v4)] (by decide) (Nat.le_of_ble_eq_true rfl) rfl ?_
  refine jm_mrI (fun hm0 => ?_)
  refine jm_aload_n (pc := 0) 0 dX12_asks_0 rfl ?_
  refine jm_getr (pc := 1) 43 dX12_asks_1 fX12_77 (cR0 hg) rfl ?_
  refine jm_iconst (pc := 4) dX12_asks_4 ?_
  refine jm_aload_n (pc := 5) 0 dX12_asks_5 rfl ?_
  refine jm_iload_n (pc := 6) 1 dX12_asks_6 rfl ?_
  have hg1 := h.1
  have h := h.2
  refine jm_inlvi (pc := 7) (As := [_]) (st := [_, _]) iX12_nerveOf dX12_asks_7 mX12_317 (cR0 hg) ⟨_, rfl, rfl⟩ rfl rfl (Nat.le_of_ble_eq_true rfl) (pX12_nerveOf hg hg1 (jm_kIi ?_))
  have hg2 := h.1
  have h := h.2
  refine jm_iast (pc := 10) dX12_asks_10 (cR22 hg) (by decide) (by decide) (by decide) hg2 ?_
  have h := h _ rfl
  refine jm_mrI (fun hm4 => ?_)
  refine jm_aload_n (pc := 11) 0 dX12_asks_11 rfl ?_
  refine jm_getr (pc := 12) 43 dX12_asks_12 fX12_77 (cR0 hg) rfl ?_
  refine jm_iconst (pc := 15) dX12_asks_15 ?_
  refine jm_aload_n (pc := 16) 0 dX12_asks_16 rfl ?_
  refine jm_getr (pc := 17) 1 dX12_asks_17 fX12_7 (cR0 hg) rfl ?_
  refine jm_bipush (pc := 20) dX12_asks_20 (by decide) ?_
  refine jm_iload_n (pc := 22) 1 dX12_asks_22 rfl ?_
  refine jm_iadd (pc := 23) dX12_asks_23 ?_
  have hg5 := h.1
  have h := h.2
  refine jm_iald (pc := 24) dX12_asks_24 (cR1 hg) (by decide) hg5.1 hg5.2 ?_
  refine jm_iast (pc := 25) dX12_asks_25 (cR22 hg) (by decide) (by decide) (by decide) (hm4 _ _) ?_
  have h := h _ rfl
  refine jm_mrI (fun hm7 => ?_)
  refine jm_aload_n (pc := 26) 0 dX12_asks_26 rfl ?_
  refine jm_getr (pc := 27) 43 dX12_asks_27 fX12_77 (cR0 hg) rfl ?_
  refine jm_iconst (pc := 30) dX12_asks_30 ?_
  refine jm_aload_n (pc := 31) 0 dX12_asks_31 rfl ?_
  refine jm_getr (pc := 32) 7 dX12_asks_32 fX12_22 (cR0 hg) rfl ?_
  refine jm_iload_n (pc := 35) 1 dX12_asks_35 rfl ?_
  have hg8 := h.1
  have h := h.2
  refine jm_iald (pc := 36) dX12_asks_36 (cR5 hg) (by decide) hg8.1 hg8.2 ?_
  refine jm_iast (pc := 37) dX12_asks_37 (cR22 hg) (by decide) (by decide) (by decide) (hm7 _ _) ?_
  have h := h _ rfl
  refine jm_mrI (fun hm10 => ?_)
  refine jm_aload_n (pc := 38) 0 dX12_asks_38 rfl ?_
  refine jm_getr (pc := 39) 43 dX12_asks_39 fX12_77 (cR0 hg) rfl ?_
  refine jm_iconst (pc := 42) dX12_asks_42 ?_
  refine jm_iconst (pc := 43) dX12_asks_43 ?_
  refine jm_iast (pc := 44) dX12_asks_44 (cR22 hg) (by decide) (by decide) (by decide) ⟨by decide, by decide⟩ ?_
  have h := h _ rfl
  refine jm_mrI (fun hm12 => ?_)
  refine jm_aload_n (pc := 45) 0 dX12_asks_45 rfl ?_
  refine jm_getr (pc := 46) 43 dX12_asks_46 fX12_77 (cR0 hg) rfl ?_
  refine jm_iconst (pc := 49) dX12_asks_49 ?_
  refine jm_iconst (pc := 50) dX12_asks_50 ?_
  refine jm_iast (pc := 51) dX12_asks_51 (cR22 hg) (by decide) (by decide) (by decide) ⟨by decide, by decide⟩ ?_
  have h := h _ rfl
  refine jm_mrI (fun hm14 => ?_)
  refine jm_aload_n (pc := 52) 0 dX12_asks_52 rfl ?_
  refine jm_getr (pc := 53) 43 dX12_asks_53 fX12_77 (cR0 hg) rfl ?_
  refine jm_iconst (pc := 56) dX12_asks_56 ?_
  refine jm_iconst (pc := 57) dX12_asks_57 ?_
  refine jm_iast (pc := 58) dX12_asks_58 (cR22 hg) (by decide) (by decide) (by decide) ⟨by decide, by decide⟩ ?_
  have h := h _ rfl
  refine jm_mrI (fun hm16 => ?_)
  refine jm_aload_n (pc := 59) 0 dX12_asks_59 rfl ?_
  refine jm_getr (pc := 60) 43 dX12_asks_60 fX12_77 (cR0 hg) rfl ?_
  refine jm_bipush (pc := 63) dX12_asks_63 (by decide) ?_
  refine jm_iload_n (pc := 65) 2 dX12_asks_65 rfl ?_
  have hg17 := h.1
  have h := h.2
  refine jm_iast (pc := 66) dX12_asks_66 (cR22 hg) (by decide) (by decide) (by decide) hg17 ?_
  have h := h _ rfl
  refine jm_mrI (fun hm19 => ?_)
  refine jm_aload_n (pc := 67) 0 dX12_asks_67 rfl ?_
  refine jm_getr (pc := 68) 43 dX12_asks_68 fX12_77 (cR0 hg) rfl ?_
  refine jm_bipush (pc := 71) dX12_asks_71 (by decide) ?_
  refine jm_iload_n (pc := 73) 3 dX12_asks_73 rfl ?_
  have hg20 := h.1
  have h := h.2
  refine jm_iast (pc := 74) dX12_asks_74 (cR22 hg) (by decide) (by decide) (by decide) hg20 ?_
  have h := h _ rfl
  refine jm_mrI (fun hm22 => ?_)
  refine jm_aload_n (pc := 75) 0 dX12_asks_75 rfl ?_
  refine jm_getr (pc := 76) 43 dX12_asks_76 fX12_77 (cR0 hg) rfl ?_
  refine jm_bipush (pc := 79) dX12_asks_79 (by decide) ?_
  refine jm_aload_n (pc := 81) 0 dX12_asks_81 rfl ?_
  refine jm_getr (pc := 82) 1 dX12_asks_82 fX12_7 (cR0 hg) rfl ?_
  refine jm_iconst (pc := 85) dX12_asks_85 ?_
  refine jm_iald (pc := 86) dX12_asks_86 (cR1 hg) (by decide) (by decide) (by decide) ?_
  refine jm_iast (pc := 87) dX12_asks_87 (cR22 hg) (by decide) (by decide) (by decide) (hm22 _ _) ?_
  have h := h _ rfl
  refine jm_mrI (fun hm24 => ?_)
  refine jm_aload_n (pc := 88) 0 dX12_asks_88 rfl ?_
  refine jm_getr (pc := 89) 43 dX12_asks_89 fX12_77 (cR0 hg) rfl ?_
  refine jm_bipush (pc := 92) dX12_asks_92 (by decide) ?_
  refine jm_aload_n (pc := 94) 0 dX12_asks_94 rfl ?_
  refine jm_iload_n (pc := 95) 1 dX12_asks_95 rfl ?_
  refine jm_callvi (pc := 96) (As := [_]) (st := [_, _]) iX12_sungBy dX12_asks_96 mX12_320 (cR0 hg) ⟨_, rfl, rfl⟩ rfl rfl (Nat.le_of_ble_eq_true rfl) h (fun z26 m25 hz27 h hm28 => ?_)
  refine jm_iast (pc := 99) dX12_asks_99 (cR22 hg) (by decide) (by decide) (by decide) hz27 ?_
  have h := h _ rfl
  refine jm_mrI (fun hm30 => ?_)
  refine jm_aload_n (pc := 100) 0 dX12_asks_100 rfl ?_
  refine jm_getr (pc := 101) 43 dX12_asks_101 fX12_77 (cR0 hg) rfl ?_
  refine jm_bipush (pc := 104) dX12_asks_104 (by decide) ?_
  refine jm_iload (pc := 106) 4 dX12_asks_106 rfl ?_
  have hg31 := h.1
  have h := h.2
  refine jm_iast (pc := 108) dX12_asks_108 (cR22 hg) (by decide) (by decide) (by decide) hg31 ?_
  have h := h _ rfl
  refine jm_mrI (fun hm33 => ?_)
  exact jm_vret (pc := 109) dX12_asks_109 rfl h
theorem dX12_lawTells_0 : decode cX12_lawTells 0 = .ok (.aload_n 0, 1) := by decide +kernel
theorem dX12_lawTells_1 : decode cX12_lawTells 1 = .ok (.iload_n 1, 1) := by decide +kernel
theorem dX12_lawTells_2 : decode cX12_lawTells 2 = .ok (.invokevirtual 323, 3) := by decide +kernel
theorem dX12_lawTells_5 : decode cX12_lawTells 5 = .ok (.istore 4, 2) := by decide +kernel
theorem dX12_lawTells_7 : decode cX12_lawTells 7 = .ok (.aload_n 0, 1) := by decide +kernel
theorem dX12_lawTells_8 : decode cX12_lawTells 8 = .ok (.iload 4, 2) := by decide +kernel
theorem dX12_lawTells_10 : decode cX12_lawTells 10 = .ok (.iconst (-1), 1) := by decide +kernel
theorem dX12_lawTells_11 : decode cX12_lawTells 11 = .ok (.if_icmp .ne 7, 3) := by decide +kernel
theorem dX12_lawTells_14 : decode cX12_lawTells 14 = .ok (.iload_n 2, 1) := by decide +kernel
theorem dX12_lawTells_15 : decode cX12_lawTells 15 = .ok (.goto 22, 3) := by decide +kernel
theorem dX12_lawTells_18 : decode cX12_lawTells 18 = .ok (.aload_n 0, 1) := by decide +kernel
theorem dX12_lawTells_19 : decode cX12_lawTells 19 = .ok (.iconst 1, 1) := by decide +kernel
theorem dX12_lawTells_20 : decode cX12_lawTells 20 = .ok (.aload_n 0, 1) := by decide +kernel
theorem dX12_lawTells_21 : decode cX12_lawTells 21 = .ok (.getfield 40, 3) := by decide +kernel
theorem dX12_lawTells_24 : decode cX12_lawTells 24 = .ok (.iload 4, 2) := by decide +kernel
theorem dX12_lawTells_26 : decode cX12_lawTells 26 = .ok (.iaload, 1) := by decide +kernel
theorem dX12_lawTells_27 : decode cX12_lawTells 27 = .ok (.aload_n 0, 1) := by decide +kernel
theorem dX12_lawTells_28 : decode cX12_lawTells 28 = .ok (.getfield 43, 3) := by decide +kernel
theorem dX12_lawTells_31 : decode cX12_lawTells 31 = .ok (.iload 4, 2) := by decide +kernel
theorem dX12_lawTells_33 : decode cX12_lawTells 33 = .ok (.iaload, 1) := by decide +kernel
theorem dX12_lawTells_34 : decode cX12_lawTells 34 = .ok (.invokevirtual 311, 3) := by decide +kernel
theorem dX12_lawTells_37 : decode cX12_lawTells 37 = .ok (.iconst 0, 1) := by decide +kernel
theorem dX12_lawTells_38 : decode cX12_lawTells 38 = .ok (.iload_n 3, 1) := by decide +kernel
theorem dX12_lawTells_39 : decode cX12_lawTells 39 = .ok (.invokevirtual 124, 3) := by decide +kernel
theorem dX12_lawTells_42 : decode cX12_lawTells 42 = .ok (.ireturn, 1) := by decide +kernel
theorem eX12_lawTells {l : Launch} {g : jm_G} {d : Nat} {v1 v2 v3 : Int} (hg : jm_HR g) {mu : jm_M} {Q : Option Value → jm_M → Prop} (h : jm_R l g d iX12_lineOf [.ref 0, jm_i v1] mu (jm_qi fun z2 m1 => (¬ z2 = (-1) → (0 ≤ z2 ∧ z2 < 48) ∧ jm_R l g d iX12_runs [.ref 0, jm_i 1, jm_i (m1.1 11 z2), jm_i (m1.1 12 z2)] m1 (jm_qi fun z7 m6 => jm_R l g d iX12_held [.ref 0, jm_i z7, jm_i 0, jm_i v3] m6 (jm_qi fun z11 m10 => Q (some (jm_i z11)) m10))) ∧ (z2 = (-1) → jm_R l g d iX12_held [.ref 0, jm_i v2, jm_i 0, jm_i v3] m1 (jm_qi fun z15 m14 => Q (some (jm_i z15)) m14)))) : jm_R l g (d + 1) iX12_lawTells [.ref 0, jm_i v1, jm_i v2, jm_i v3] mu Q := by
  refine jm_enter [(0, .ref 0), (1, jm_i v1), (2, jm_i v2), (3, jm_i v3)] (by decide) (Nat.le_of_ble_eq_true rfl) rfl ?_
  refine jm_mrI (fun hm0 => ?_)
  refine jm_aload_n (pc := 0) 0 dX12_lawTells_0 rfl ?_
  refine jm_iload_n (pc := 1) 1 dX12_lawTells_1 rfl ?_
  refine jm_callvi (pc := 2) (As := [_]) (st := []) iX12_lineOf dX12_lawTells_2 mX12_323 (cR0 hg) ⟨_, rfl, rfl⟩ rfl rfl (Nat.le_of_ble_eq_true rfl) h (fun z2 m1 hz3 h hm4 => ?_)
  refine jm_istore (pc := 5) (lv' := [(4, _), (0, _), (1, _), (2, _), (3, _)]) dX12_lawTells_5 (by decide) rfl ?_
  refine jm_aload_n (pc := 7) 1 dX12_lawTells_7 rfl ?_
  refine jm_iload (pc := 8) 0 dX12_lawTells_8 rfl ?_
  refine jm_iconst (pc := 10) dX12_lawTells_10 ?_
  refine jm_icmp_ne (pc := 11) 18 dX12_lawTells_11 rfl hz3 ⟨by decide, by decide⟩ (fun q => ?_) (fun q => ?_)
  · have h := h.1 q
    refine jm_aload_n (pc := 18) 1 dX12_lawTells_18 rfl ?_
    refine jm_iconst (pc := 19) dX12_lawTells_19 ?_
    refine jm_aload_n (pc := 20) 1 dX12_lawTells_20 rfl ?_
    refine jm_getr (pc := 21) 21 dX12_lawTells_21 fX12_40 (cR0 hg) rfl ?_
    refine jm_iload (pc := 24) 0 dX12_lawTells_24 rfl ?_
    have hg5 := h.1
    have h := h.2
    refine jm_iald (pc := 26) dX12_lawTells_26 (cR11 hg) (by decide) hg5.1 hg5.2 ?_
    refine jm_aload_n (pc := 27) 1 dX12_lawTells_27 rfl ?_
    refine jm_getr (pc := 28) 22 dX12_lawTells_28 fX12_43 (cR0 hg) rfl ?_
    refine jm_iload (pc := 31) 0 dX12_lawTells_31 rfl ?_
    refine jm_iald (pc := 33) dX12_lawTells_33 (cR12 hg) (by decide) hg5.1 hg5.2 ?_
    refine jm_callvi (pc := 34) (As := [_, _, _]) (st := [_]) iX12_runs dX12_lawTells_34 mX12_311 (cR0 hg) ⟨_, rfl, rfl⟩ rfl rfl (Nat.le_of_ble_eq_true rfl) h (fun z7 m6 hz8 h hm9 => ?_)
    refine jm_iconst (pc := 37) dX12_lawTells_37 ?_
    refine jm_iload_n (pc := 38) 4 dX12_lawTells_38 rfl ?_
    refine jm_callvi (pc := 39) (As := [_, _, _]) (st := []) iX12_held dX12_lawTells_39 mX12_124 (cR0 hg) ⟨_, rfl, rfl⟩ rfl rfl (Nat.le_of_ble_eq_true rfl) h (fun z11 m10 hz12 h hm13 => ?_)
    exact jm_iret (pc := 42) dX12_lawTells_42 rfl h
  · have h := h.2 q
    refine jm_iload_n (pc := 14) 3 dX12_lawTells_14 rfl ?_
    refine jm_goto (pc := 15) 37 dX12_lawTells_15 rfl ?_
    refine jm_iconst (pc := 37) dX12_lawTells_37 ?_
    refine jm_iload_n (pc := 38) 4 dX12_lawTells_38 rfl ?_
    refine jm_callvi (pc := 39) (As := [_, _, _]) (st := []) iX12_held dX12_lawTells_39 mX12_124 (cR0 hg) ⟨_, rfl, rfl⟩ rfl rfl (Nat.le_of_ble_eq_true rfl) h (fun z15 m14 hz16 h hm17 => ?_)
    exact jm_iret (pc := 42) dX12_lawTells_42 rfl h
theorem dX12_slipOf_0 : decode cX12_slipOf 0 = .ok (.aload_n 0, 1) := by decide +kernel
theorem dX12_slipOf_1 : decode cX12_slipOf 1 = .ok (.iload_n 1, 1) := by decide +kernel
theorem dX12_slipOf_2 : decode cX12_slipOf 2 = .ok (.iload_n 2, 1) := by decide +kernel
theorem dX12_slipOf_3 : decode cX12_slipOf 3 = .ok (.iload_n 3, 1) := by decide +kernel
theorem dX12_slipOf_4 : decode cX12_slipOf 4 = .ok (.iconst 0, 1) := by decide +kernel
theorem dX12_slipOf_5 : decode cX12_slipOf 5 = .ok (.invokevirtual 326, 3) := by decide +kernel
theorem dX12_slipOf_8 : decode cX12_slipOf 8 = .ok (.aload_n 0, 1) := by decide +kernel
theorem dX12_slipOf_9 : decode cX12_slipOf 9 = .ok (.getfield 77, 3) := by decide +kernel
theorem dX12_slipOf_12 : decode cX12_slipOf 12 = .ok (.iconst 3, 1) := by decide +kernel
theorem dX12_slipOf_13 : decode cX12_slipOf 13 = .ok (.iload 4, 2) := by decide +kernel
theorem dX12_slipOf_15 : decode cX12_slipOf 15 = .ok (.iastore, 1) := by decide +kernel
theorem dX12_slipOf_16 : decode cX12_slipOf 16 = .ok (.aload_n 0, 1) := by decide +kernel
theorem dX12_slipOf_17 : decode cX12_slipOf 17 = .ok (.getfield 77, 3) := by decide +kernel
theorem dX12_slipOf_20 : decode cX12_slipOf 20 = .ok (.iconst 4, 1) := by decide +kernel
theorem dX12_slipOf_21 : decode cX12_slipOf 21 = .ok (.iload 5, 2) := by decide +kernel
theorem dX12_slipOf_23 : decode cX12_slipOf 23 = .ok (.iastore, 1) := by decide +kernel
theorem dX12_slipOf_24 : decode cX12_slipOf 24 = .ok (.aload_n 0, 1) := by decide +kernel
theorem dX12_slipOf_25 : decode cX12_slipOf 25 = .ok (.getfield 77, 3) := by decide +kernel
theorem dX12_slipOf_28 : decode cX12_slipOf 28 = .ok (.iconst 5, 1) := by decide +kernel
theorem dX12_slipOf_29 : decode cX12_slipOf 29 = .ok (.aload_n 0, 1) := by decide +kernel
theorem dX12_slipOf_30 : decode cX12_slipOf 30 = .ok (.getfield 19, 3) := by decide +kernel
theorem dX12_slipOf_33 : decode cX12_slipOf 33 = .ok (.iload_n 1, 1) := by decide +kernel
theorem dX12_slipOf_34 : decode cX12_slipOf 34 = .ok (.iaload, 1) := by decide +kernel
theorem dX12_slipOf_35 : decode cX12_slipOf 35 = .ok (.iload 5, 2) := by decide +kernel
theorem dX12_slipOf_37 : decode cX12_slipOf 37 = .ok (.isub, 1) := by decide +kernel
theorem dX12_slipOf_38 : decode cX12_slipOf 38 = .ok (.iastore, 1) := by decide +kernel
theorem dX12_slipOf_39 : decode cX12_slipOf 39 = .ok (.aload_n 0, 1) := by decide +kernel
theorem dX12_slipOf_40 : decode cX12_slipOf 40 = .ok (.iconst 0, 1) := by decide +kernel
theorem dX12_slipOf_41 : decode cX12_slipOf 41 = .ok (.bipush 99, 2) := by decide +kernel
theorem dX12_slipOf_43 : decode cX12_slipOf 43 = .ok (.aload_n 0, 1) := by decide +kernel
theorem dX12_slipOf_44 : decode cX12_slipOf 44 = .ok (.getfield 77, 3) := by decide +kernel
theorem dX12_slipOf_47 : decode cX12_slipOf 47 = .ok (.iconst 0, 1) := by decide +kernel
theorem dX12_slipOf_48 : decode cX12_slipOf 48 = .ok (.iaload, 1) := by decide +kernel
theorem dX12_slipOf_49 : decode cX12_slipOf 49 = .ok (.isub, 1) := by decide +kernel
theorem dX12_slipOf_50 : decode cX12_slipOf 50 = .ok (.sipush 1000, 3) := by decide +kernel
theorem dX12_slipOf_53 : decode cX12_slipOf 53 = .ok (.invokevirtual 329, 3) := by decide +kernel
theorem dX12_slipOf_56 : decode cX12_slipOf 56 = .ok (.ireturn, 1) := by decide +kernel
theorem eX12_slipOf {l : Launch} {g : jm_G} {d : Nat} {v1 v2 v3 v4 v5 : Int} (hg : jm_HR g) {mu : jm_M} {Q : Option Value → jm_M → Prop} (h : jm_R l g d iX12_asks [.ref 0, jm_i v1, jm_i v2, jm_i v3, jm_i 0] mu (jm_qv fun m1 => jm_rg v4 ∧ ∀ m6, m6 = jm_wr m1 22 3 v4 → jm_rg v5 ∧ ∀ m9, m9 = jm_wr m6 22 4 v5 → (0 ≤ v1 ∧ v1 < 8) ∧ jm_rg ((m9.1 4 v1) - v5) ∧ ∀ m13, m13 = jm_wr m9 22 5 ((m9.1 4 v1) - v5) → jm_R l g d iX12_lawTells [.ref 0, jm_i 0, jm_i (99 - (m13.1 22 0)), jm_i 1000] m13 (jm_qi fun z16 m15 => Q (some (jm_i z16)) m15))) : jm_R l g (d + 1) iX12_slipOf [.ref 0, jm_i v1, jm_i v2, jm_i v3, jm_i v4, jm_i v5] mu Q := by
  refine jm_enter [(0, .ref 0), (1, jm_i v1), (2, jm_i v2), (3, jm_i v3), (4, jm_i v4), (5, jm_i v5)] (by decide) (Nat.le_of_ble_eq_true rfl) rfl ?_
  refine jm_mrI (fun hm0 => ?_)
  refine jm_aload_n (pc := 0) 0 dX12_slipOf_0 rfl ?_
  refine jm_iload_n (pc := 1) 1 dX12_slipOf_1 rfl ?_
  refine jm_iload_n (pc := 2) 2 dX12_slipOf_2 rfl ?_
  refine jm_iload_n (pc := 3) 3 dX12_slipOf_3 rfl ?_
  refine jm_iconst (pc := 4) dX12_slipOf_4 ?_
  refine jm_callvv (pc := 5) (As := [_, _, _, _]) (st := []) iX12_asks dX12_slipOf_5 mX12_326 (cR0 hg) ⟨_, rfl, rfl⟩ rfl rfl (Nat.le_of_ble_eq_true rfl) h (fun m1 h hm4 => ?_)
  refine jm_aload_n (pc := 8) 0 dX12_slipOf_8 rfl ?_
  refine jm_getr (pc := 9) 43 dX12_slipOf_9 fX12_77 (cR0 hg) rfl ?_
  refine jm_iconst (pc := 12) dX12_slipOf_12 ?_
  refine jm_iload (pc := 13) 4 dX12_slipOf_13 rfl ?_
  have hg5 := h.1
  have h := h.2
  refine jm_iast (pc := 15) dX12_slipOf_15 (cR22 hg) (by decide) (by decide) (by decide) hg5 ?_
  have h := h _ rfl
  refine jm_mrI (fun hm7 => ?_)
  refine jm_aload_n (pc := 16) 0 dX12_slipOf_16 rfl ?_
  refine jm_getr (pc := 17) 43 dX12_slipOf_17 fX12_77 (cR0 hg) rfl ?_
  refine jm_iconst (pc := 20) dX12_slipOf_20 ?_
  refine jm_iload (pc := 21) 5 dX12_slipOf_21 rfl ?_
  have hg8 := h.1
  have h := h.2
  refine jm_iast (pc := 23) dX12_slipOf_23 (cR22 hg) (by decide) (by decide) (by decide) hg8 ?_
  have h := h _ rfl
  refine jm_mrI (fun hm10 => ?_)
  refine jm_aload_n (pc := 24) 0 dX12_slipOf_24 rfl ?_
  refine jm_getr (pc := 25) 43 dX12_slipOf_25 fX12_77 (cR0 hg) rfl ?_
  refine jm_iconst (pc := 28) dX12_slipOf_28 ?_
  refine jm_aload_n (pc := 29) 0 dX12_slipOf_29 rfl ?_
  refine jm_getr (pc := 30) 6 dX12_slipOf_30 fX12_19 (cR0 hg) rfl ?_
  refine jm_iload_n (pc := 33) 1 dX12_slipOf_33 rfl ?_
  have hg11 := h.1
  have h := h.2
  refine jm_iald (pc := 34) dX12_slipOf_34 (cR4 hg) (by decide) hg11.1 hg11.2 ?_
  refine jm_iload (pc := 35) 5 dX12_slipOf_35 rfl ?_
  refine jm_isub (pc := 37) dX12_slipOf_37 ?_
  have hg12 := h.1
  have h := h.2
  refine jm_iast (pc := 38) dX12_slipOf_38 (cR22 hg) (by decide) (by decide) (by decide) hg12 ?_
  have h := h _ rfl
  refine jm_mrI (fun hm14 => ?_)
  refine jm_aload_n (pc := 39) 0 dX12_slipOf_39 rfl ?_
  refine jm_iconst (pc := 40) dX12_slipOf_40 ?_
  refine jm_bipush (pc := 41) dX12_slipOf_41 (by decide) ?_
  refine jm_aload_n (pc := 43) 0 dX12_slipOf_43 rfl ?_
  refine jm_getr (pc := 44) 43 dX12_slipOf_44 fX12_77 (cR0 hg) rfl ?_
  refine jm_iconst (pc := 47) dX12_slipOf_47 ?_
  refine jm_iald (pc := 48) dX12_slipOf_48 (cR22 hg) (by decide) (by decide) (by decide) ?_
  refine jm_isub (pc := 49) dX12_slipOf_49 ?_
  refine jm_sipush (pc := 50) dX12_slipOf_50 (by decide) ?_
  refine jm_callvi (pc := 53) (As := [_, _, _]) (st := []) iX12_lawTells dX12_slipOf_53 mX12_329 (cR0 hg) ⟨_, rfl, rfl⟩ rfl rfl (Nat.le_of_ble_eq_true rfl) h (fun z16 m15 hz17 h hm18 => ?_)
  exact jm_iret (pc := 56) dX12_slipOf_56 rfl h
theorem dX12_shakeOf_0 : decode cX12_shakeOf 0 = .ok (.aload_n 0, 1) := by decide +kernel
theorem dX12_shakeOf_1 : decode cX12_shakeOf 1 = .ok (.iload_n 1, 1) := by decide +kernel
theorem dX12_shakeOf_2 : decode cX12_shakeOf 2 = .ok (.iload_n 2, 1) := by decide +kernel
theorem dX12_shakeOf_3 : decode cX12_shakeOf 3 = .ok (.iload_n 3, 1) := by decide +kernel
theorem dX12_shakeOf_4 : decode cX12_shakeOf 4 = .ok (.iconst 0, 1) := by decide +kernel
theorem dX12_shakeOf_5 : decode cX12_shakeOf 5 = .ok (.invokevirtual 326, 3) := by decide +kernel
theorem dX12_shakeOf_8 : decode cX12_shakeOf 8 = .ok (.aload_n 0, 1) := by decide +kernel
theorem dX12_shakeOf_9 : decode cX12_shakeOf 9 = .ok (.iconst 1, 1) := by decide +kernel
theorem dX12_shakeOf_10 : decode cX12_shakeOf 10 = .ok (.iconst 5, 1) := by decide +kernel
theorem dX12_shakeOf_11 : decode cX12_shakeOf 11 = .ok (.bipush 99, 2) := by decide +kernel
theorem dX12_shakeOf_13 : decode cX12_shakeOf 13 = .ok (.invokevirtual 329, 3) := by decide +kernel
theorem dX12_shakeOf_16 : decode cX12_shakeOf 16 = .ok (.ireturn, 1) := by decide +kernel
theorem eX12_shakeOf {l : Launch} {g : jm_G} {d : Nat} {v1 v2 v3 : Int} (hg : jm_HR g) {mu : jm_M} {Q : Option Value → jm_M → Prop} (h : jm_R l g d iX12_asks [.ref 0, jm_i v1, jm_i v2, jm_i v3, jm_i 0] mu (jm_qv fun m1 => jm_R l g d iX12_lawTells [.ref 0, jm_i 1, jm_i 5, jm_i 99] m1 (jm_qi fun z6 m5 => Q (some (jm_i z6)) m5))) : jm_R l g (d + 1) iX12_shakeOf [.ref 0, jm_i v1, jm_i v2, jm_i v3] mu Q := by
  refine jm_enter [(0, .ref 0), (1, jm_i v1), (2, jm_i v2), (3, jm_i v3)] (by decide) (Nat.le_of_ble_eq_true rfl) rfl ?_
  refine jm_mrI (fun hm0 => ?_)
  refine jm_aload_n (pc := 0) 0 dX12_shakeOf_0 rfl ?_
  refine jm_iload_n (pc := 1) 1 dX12_shakeOf_1 rfl ?_
  refine jm_iload_n (pc := 2) 2 dX12_shakeOf_2 rfl ?_
  refine jm_iload_n (pc := 3) 3 dX12_shakeOf_3 rfl ?_
  refine jm_iconst (pc := 4) dX12_shakeOf_4 ?_
  refine jm_callvv (pc := 5) (As := [_, _, _, _]) (st := []) iX12_asks dX12_shakeOf_5 mX12_326 (cR0 hg) ⟨_, rfl, rfl⟩ rfl rfl (Nat.le_of_ble_eq_true rfl) h (fun m1 h hm4 => ?_)
  refine jm_aload_n (pc := 8) 0 dX12_shakeOf_8 rfl ?_
  refine jm_iconst (pc := 9) dX12_shakeOf_9 ?_
  refine jm_iconst (pc := 10) dX12_shakeOf_10 ?_
  refine jm_bipush (pc := 11) dX12_shakeOf_11 (by decide) ?_
  refine jm_callvi (pc := 13) (As := [_, _, _]) (st := []) iX12_lawTells dX12_shakeOf_13 mX12_329 (cR0 hg) ⟨_, rfl, rfl⟩ rfl rfl (Nat.le_of_ble_eq_true rfl) h (fun z6 m5 hz7 h hm8 => ?_)
  exact jm_iret (pc := 16) dX12_shakeOf_16 rfl h
theorem dX12_weighOf_0 : decode cX12_weighOf 0 = .ok (.aload_n 0, 1) := by decide +kernel
theorem dX12_weighOf_1 : decode cX12_weighOf 1 = .ok (.iload_n 1, 1) := by decide +kernel
theorem dX12_weighOf_2 : decode cX12_weighOf 2 = .ok (.iload_n 2, 1) := by decide +kernel
theorem dX12_weighOf_3 : decode cX12_weighOf 3 = .ok (.iload_n 3, 1) := by decide +kernel
theorem dX12_weighOf_4 : decode cX12_weighOf 4 = .ok (.iload 4, 2) := by decide +kernel
theorem dX12_weighOf_6 : decode cX12_weighOf 6 = .ok (.invokevirtual 326, 3) := by decide +kernel
theorem dX12_weighOf_9 : decode cX12_weighOf 9 = .ok (.aload_n 0, 1) := by decide +kernel
theorem dX12_weighOf_10 : decode cX12_weighOf 10 = .ok (.iconst 2, 1) := by decide +kernel
theorem dX12_weighOf_11 : decode cX12_weighOf 11 = .ok (.iconst 4, 1) := by decide +kernel
theorem dX12_weighOf_12 : decode cX12_weighOf 12 = .ok (.iload 4, 2) := by decide +kernel
theorem dX12_weighOf_14 : decode cX12_weighOf 14 = .ok (.isub, 1) := by decide +kernel
theorem dX12_weighOf_15 : decode cX12_weighOf 15 = .ok (.bipush 99, 2) := by decide +kernel
theorem dX12_weighOf_17 : decode cX12_weighOf 17 = .ok (.invokevirtual 329, 3) := by decide +kernel
theorem dX12_weighOf_20 : decode cX12_weighOf 20 = .ok (.istore 5, 2) := by decide +kernel
theorem dX12_weighOf_22 : decode cX12_weighOf 22 = .ok (.aload_n 0, 1) := by decide +kernel
theorem dX12_weighOf_23 : decode cX12_weighOf 23 = .ok (.getfield 7, 3) := by decide +kernel
theorem dX12_weighOf_26 : decode cX12_weighOf 26 = .ok (.bipush 14, 2) := by decide +kernel
theorem dX12_weighOf_28 : decode cX12_weighOf 28 = .ok (.iload_n 1, 1) := by decide +kernel
theorem dX12_weighOf_29 : decode cX12_weighOf 29 = .ok (.iadd, 1) := by decide +kernel
theorem dX12_weighOf_30 : decode cX12_weighOf 30 = .ok (.iaload, 1) := by decide +kernel
theorem dX12_weighOf_31 : decode cX12_weighOf 31 = .ok (.iconst 1, 1) := by decide +kernel
theorem dX12_weighOf_32 : decode cX12_weighOf 32 = .ok (.if_icmp .ne 10, 3) := by decide +kernel
theorem dX12_weighOf_35 : decode cX12_weighOf 35 = .ok (.iload 5, 2) := by decide +kernel
theorem dX12_weighOf_37 : decode cX12_weighOf 37 = .ok (.iconst 2, 1) := by decide +kernel
theorem dX12_weighOf_38 : decode cX12_weighOf 38 = .ok (.idiv, 1) := by decide +kernel
theorem dX12_weighOf_39 : decode cX12_weighOf 39 = .ok (.goto 5, 3) := by decide +kernel
theorem dX12_weighOf_42 : decode cX12_weighOf 42 = .ok (.iload 5, 2) := by decide +kernel
theorem dX12_weighOf_44 : decode cX12_weighOf 44 = .ok (.ireturn, 1) := by decide +kernel
theorem eX12_weighOf {l : Launch} {g : jm_G} {d : Nat} {v1 v2 v3 v4 : Int} (hg : jm_HR g) {mu : jm_M} {Q : Option Value → jm_M → Prop} (h : jm_R l g d iX12_asks [.ref 0, jm_i v1, jm_i v2, jm_i v3, jm_i v4] mu (jm_qv fun m1 => jm_R l g d iX12_lawTells [.ref 0, jm_i 2, jm_i (4 - v4), jm_i 99] m1 (jm_qi fun z6 m5 => (0 ≤ (14 + v1) ∧ (14 + v1) < 22) ∧ (¬ (m5.1 1 (14 + v1)) = 1 → Q (some (jm_i z6)) m5) ∧ ((m5.1 1 (14 + v1)) = 1 → Q (some (jm_i (Int.tdiv z6 2))) m5)))) : jm_R l g (d + 1) iX12_weighOf [.ref 0, jm_i v1, jm_i v2, jm_i v3, jm_i v4] mu Q := by
  refine jm_enter [(0, .ref 0), (1, jm_i v1), (2, jm_i v2), (3, jm_i v3), (4, jm_i v4)] (by decide) (Nat.le_of_ble_eq_true rfl) rfl ?_
  refine jm_mrI (fun hm0 => ?_)
  refine jm_aload_n (pc := 0) 0 dX12_weighOf_0 rfl ?_
  refine jm_iload_n (pc := 1) 1 dX12_weighOf_1 rfl ?_
  refine jm_iload_n (pc := 2) 2 dX12_weighOf_2 rfl ?_
  refine jm_iload_n (pc := 3) 3 dX12_weighOf_3 rfl ?_
  refine jm_iload (pc := 4) 4 dX12_weighOf_4 rfl ?_
  refine jm_callvv (pc := 6) (As := [_, _, _, _]) (st := []) iX12_asks dX12_weighOf_6 mX12_326 (cR0 hg) ⟨_, rfl, rfl⟩ rfl rfl (Nat.le_of_ble_eq_true rfl) h (fun m1 h hm4 => ?_)
  refine jm_aload_n (pc := 9) 0 dX12_weighOf_9 rfl ?_
  refine jm_iconst (pc := 10) dX12_weighOf_10 ?_
  refine jm_iconst (pc := 11) dX12_weighOf_11 ?_
  refine jm_iload (pc := 12) 4 dX12_weighOf_12 rfl ?_
  refine jm_isub (pc := 14) dX12_weighOf_14 ?_
  refine jm_bipush (pc := 15) dX12_weighOf_15 (by decide) ?_
  refine jm_callvi (pc := 17) (As := [_, _, _]) (st := []) iX12_lawTells dX12_weighOf_17 mX12_329 (cR0 hg) ⟨_, rfl, rfl⟩ rfl rfl (Nat.le_of_ble_eq_true rfl) h (fun z6 m5 hz7 h hm8 => ?_)
  refine jm_istore (pc := 20) (lv' := [(5, _), (0, _), (1, _), (2, _), (3, _), (4, _)]) dX12_weighOf_20 (by decide) rfl ?_
  refine jm_aload_n (pc := 22) 1 dX12_weighOf_22 rfl ?_
  refine jm_getr (pc := 23) 1 dX12_weighOf_23 fX12_7 (cR0 hg) rfl ?_
  refine jm_bipush (pc := 26) dX12_weighOf_26 (by decide) ?_
  refine jm_iload_n (pc := 28) 2 dX12_weighOf_28 rfl ?_
  refine jm_iadd (pc := 29) dX12_weighOf_29 ?_
  have hg9 := h.1
  have h := h.2
  refine jm_iald (pc := 30) dX12_weighOf_30 (cR1 hg) (by decide) hg9.1 hg9.2 ?_
  refine jm_iconst (pc := 31) dX12_weighOf_31 ?_
  refine jm_icmp_ne (pc := 32) 42 dX12_weighOf_32 rfl (hm8 _ _) ⟨by decide, by decide⟩ (fun q => ?_) (fun q => ?_)
  · have h := h.1 q
    refine jm_iload (pc := 42) 0 dX12_weighOf_42 rfl ?_
    exact jm_iret (pc := 44) dX12_weighOf_44 rfl h
  · have h := h.2 q
    refine jm_iload (pc := 35) 0 dX12_weighOf_35 rfl ?_
    refine jm_iconst (pc := 37) dX12_weighOf_37 ?_
    refine jm_idiv (pc := 38) hz7 ⟨by decide, by decide⟩ (by decide) dX12_weighOf_38 ?_
    refine jm_goto (pc := 39) 44 dX12_weighOf_39 rfl ?_
    exact jm_iret (pc := 44) dX12_weighOf_44 rfl h
theorem dX12_notesOf_0 : decode cX12_notesOf 0 = .ok (.aload_n 0, 1) := by decide +kernel
theorem dX12_notesOf_1 : decode cX12_notesOf 1 = .ok (.getfield 62, 3) := by decide +kernel
theorem dX12_notesOf_4 : decode cX12_notesOf 4 = .ok (.bipush 8, 2) := by decide +kernel
theorem dX12_notesOf_6 : decode cX12_notesOf 6 = .ok (.iload_n 1, 1) := by decide +kernel
theorem dX12_notesOf_7 : decode cX12_notesOf 7 = .ok (.imul, 1) := by decide +kernel
theorem dX12_notesOf_8 : decode cX12_notesOf 8 = .ok (.iaload, 1) := by decide +kernel
theorem dX12_notesOf_9 : decode cX12_notesOf 9 = .ok (.ireturn, 1) := by decide +kernel
theorem eX12_notesOf {l : Launch} {g : jm_G} {d : Nat} {v1 : Int} (hg : jm_HR g) {mu : jm_M} {Q : Option Value → jm_M → Prop} (h : (0 ≤ (8 * v1) ∧ (8 * v1) < 384) ∧ Q (some (jm_i (mu.1 17 (8 * v1)))) mu) : jm_R l g (d + 1) iX12_notesOf [.ref 0, jm_i v1] mu Q := by
  refine jm_enter [(0, .ref 0), (1, jm_i v1)] (by decide) (Nat.le_of_ble_eq_true rfl) rfl ?_
  refine jm_mrI (fun hm0 => ?_)
  refine jm_aload_n (pc := 0) 0 dX12_notesOf_0 rfl ?_
  refine jm_getr (pc := 1) 36 dX12_notesOf_1 fX12_62 (cR0 hg) rfl ?_
  refine jm_bipush (pc := 4) dX12_notesOf_4 (by decide) ?_
  refine jm_iload_n (pc := 6) 1 dX12_notesOf_6 rfl ?_
  refine jm_imul (pc := 7) dX12_notesOf_7 ?_
  have hg1 := h.1
  have h := h.2
  refine jm_iald (pc := 8) dX12_notesOf_8 (cR17 hg) (by decide) hg1.1 hg1.2 ?_
  exact jm_iret (pc := 9) dX12_notesOf_9 rfl h
theorem pX12_notesOf {l : Launch} {g : jm_G} {d : Nat} {v1 : Int} (hg : jm_HR g) {mu : jm_M} {Q : Option Value → jm_M → Prop} (o0 : 0 ≤ (8 * v1) ∧ (8 * v1) < 384) (h : Q (some (jm_i (mu.1 17 (8 * v1)))) mu) : jm_R l g (d + 1) iX12_notesOf [.ref 0, jm_i v1] mu Q := by
  refine eX12_notesOf hg ?_
  refine ⟨o0, ?_⟩
  exact h
theorem dX12_stepOf_0 : decode cX12_stepOf 0 = .ok (.aload_n 0, 1) := by decide +kernel
theorem dX12_stepOf_1 : decode cX12_stepOf 1 = .ok (.getfield 62, 3) := by decide +kernel
theorem dX12_stepOf_4 : decode cX12_stepOf 4 = .ok (.bipush 8, 2) := by decide +kernel
theorem dX12_stepOf_6 : decode cX12_stepOf 6 = .ok (.iload_n 1, 1) := by decide +kernel
theorem dX12_stepOf_7 : decode cX12_stepOf 7 = .ok (.imul, 1) := by decide +kernel
theorem dX12_stepOf_8 : decode cX12_stepOf 8 = .ok (.iconst 1, 1) := by decide +kernel
theorem dX12_stepOf_9 : decode cX12_stepOf 9 = .ok (.iadd, 1) := by decide +kernel
theorem dX12_stepOf_10 : decode cX12_stepOf 10 = .ok (.iload_n 2, 1) := by decide +kernel
theorem dX12_stepOf_11 : decode cX12_stepOf 11 = .ok (.iadd, 1) := by decide +kernel
theorem dX12_stepOf_12 : decode cX12_stepOf 12 = .ok (.iaload, 1) := by decide +kernel
theorem dX12_stepOf_13 : decode cX12_stepOf 13 = .ok (.ireturn, 1) := by decide +kernel
theorem eX12_stepOf {l : Launch} {g : jm_G} {d : Nat} {v1 v2 : Int} (hg : jm_HR g) {mu : jm_M} {Q : Option Value → jm_M → Prop} (h : (0 ≤ (((8 * v1) + 1) + v2) ∧ (((8 * v1) + 1) + v2) < 384) ∧ Q (some (jm_i (mu.1 17 (((8 * v1) + 1) + v2)))) mu) : jm_R l g (d + 1) iX12_stepOf [.ref 0, jm_i v1, jm_i v2] mu Q := by
  refine jm_enter [(0, .ref 0), (1, jm_i v1), (2, jm_i v2)] (by decide) (Nat.le_of_ble_eq_true rfl) rfl ?_
  refine jm_mrI (fun hm0 => ?_)
  refine jm_aload_n (pc := 0) 0 dX12_stepOf_0 rfl ?_
  refine jm_getr (pc := 1) 36 dX12_stepOf_1 fX12_62 (cR0 hg) rfl ?_
  refine jm_bipush (pc := 4) dX12_stepOf_4 (by decide) ?_
  refine jm_iload_n (pc := 6) 1 dX12_stepOf_6 rfl ?_
  refine jm_imul (pc := 7) dX12_stepOf_7 ?_
  refine jm_iconst (pc := 8) dX12_stepOf_8 ?_
  refine jm_iadd (pc := 9) dX12_stepOf_9 ?_
  refine jm_iload_n (pc := 10) 2 dX12_stepOf_10 rfl ?_
  refine jm_iadd (pc := 11) dX12_stepOf_11 ?_
  have hg1 := h.1
  have h := h.2
  refine jm_iald (pc := 12) dX12_stepOf_12 (cR17 hg) (by decide) hg1.1 hg1.2 ?_
  exact jm_iret (pc := 13) dX12_stepOf_13 rfl h
theorem pX12_stepOf {l : Launch} {g : jm_G} {d : Nat} {v1 v2 : Int} (hg : jm_HR g) {mu : jm_M} {Q : Option Value → jm_M → Prop} (o0 : 0 ≤ (((8 * v1) + 1) + v2) ∧ (((8 * v1) + 1) + v2) < 384) (h : Q (some (jm_i (mu.1 17 (((8 * v1) + 1) + v2)))) mu) : jm_R l g (d + 1) iX12_stepOf [.ref 0, jm_i v1, jm_i v2] mu Q := by
  refine eX12_stepOf hg ?_
  refine ⟨o0, ?_⟩
  exact h
theorem dX12_aboveOf_0 : decode cX12_aboveOf 0 = .ok (.iconst 0, 1) := by decide +kernel
theorem dX12_aboveOf_1 : decode cX12_aboveOf 1 = .ok (.istore_n 3, 1) := by decide +kernel
theorem dX12_aboveOf_2 : decode cX12_aboveOf 2 = .ok (.iconst 0, 1) := by decide +kernel
theorem dX12_aboveOf_3 : decode cX12_aboveOf 3 = .ok (.istore 4, 2) := by decide +kernel
theorem dX12_aboveOf_5 : decode cX12_aboveOf 5 = .ok (.iload 4, 2) := by decide +kernel
theorem dX12_aboveOf_7 : decode cX12_aboveOf 7 = .ok (.iload_n 2, 1) := by decide +kernel
theorem dX12_aboveOf_8 : decode cX12_aboveOf 8 = .ok (.if_icmp .ge 19, 3) := by decide +kernel
theorem dX12_aboveOf_11 : decode cX12_aboveOf 11 = .ok (.iload_n 3, 1) := by decide +kernel
theorem dX12_aboveOf_12 : decode cX12_aboveOf 12 = .ok (.aload_n 0, 1) := by decide +kernel
theorem dX12_aboveOf_13 : decode cX12_aboveOf 13 = .ok (.iload_n 1, 1) := by decide +kernel
theorem dX12_aboveOf_14 : decode cX12_aboveOf 14 = .ok (.iload 4, 2) := by decide +kernel
theorem dX12_aboveOf_16 : decode cX12_aboveOf 16 = .ok (.invokevirtual 332, 3) := by decide +kernel
theorem dX12_aboveOf_19 : decode cX12_aboveOf 19 = .ok (.iadd, 1) := by decide +kernel
theorem dX12_aboveOf_20 : decode cX12_aboveOf 20 = .ok (.istore_n 3, 1) := by decide +kernel
theorem dX12_aboveOf_21 : decode cX12_aboveOf 21 = .ok (.iinc 4 1, 3) := by decide +kernel
theorem dX12_aboveOf_24 : decode cX12_aboveOf 24 = .ok (.goto (-19), 3) := by decide +kernel
theorem dX12_aboveOf_27 : decode cX12_aboveOf 27 = .ok (.iload_n 3, 1) := by decide +kernel
theorem dX12_aboveOf_28 : decode cX12_aboveOf 28 = .ok (.ireturn, 1) := by decide +kernel
theorem bX12_aboveOf_5 {l : Launch} {g : jm_G} {d : Nat} {v1 v2 v3 v4 : Int} (hg : jm_HR g) {mu : jm_M} {Q : Option Value → jm_M → Prop} (h : jm_rg v4 ∧ jm_rg v2 ∧ (v2 ≤ v4 → Q (some (jm_i v3)) mu) ∧ (v4 < v2 → (0 ≤ (((8 * v1) + 1) + v4) ∧ (((8 * v1) + 1) + v4) < 384) ∧ ∀ x4, x4 = (v3 + (mu.1 17 (((8 * v1) + 1) + v4))) → jm_V l g (d + 2) iX12_aboveOf 5 [(0, .ref 0), (1, jm_i v1), (2, jm_i v2), (3, jm_i x4), (4, jm_i (v4 + 1))] [] mu Q)) : jm_V l g (d + 2) iX12_aboveOf 5 [(0, .ref 0), (1, jm_i v1), (2, jm_i v2), (3, jm_i v3), (4, jm_i v4)] [] mu Q := by
  refine jm_mrI (fun hm0 => ?_)
  refine jm_iload (pc := 5) 4 dX12_aboveOf_5 rfl ?_
  refine jm_iload_n (pc := 7) 2 dX12_aboveOf_7 rfl ?_
  have hg1 := h.1
  have h := h.2
  have hg2 := h.1
  have h := h.2
  refine jm_icmp_ge (pc := 8) 27 dX12_aboveOf_8 rfl hg1 hg2 (fun q => ?_) (fun q => ?_)
  · have h := h.1 q
    refine jm_iload_n (pc := 27) 3 dX12_aboveOf_27 rfl ?_
    exact jm_iret (pc := 28) dX12_aboveOf_28 rfl h
  · have h := h.2 q
    refine jm_iload_n (pc := 11) 3 dX12_aboveOf_11 rfl ?_
    refine jm_aload_n (pc := 12) 0 dX12_aboveOf_12 rfl ?_
    refine jm_iload_n (pc := 13) 1 dX12_aboveOf_13 rfl ?_
    refine jm_iload (pc := 14) 4 dX12_aboveOf_14 rfl ?_
    have hg3 := h.1
    have h := h.2
    refine jm_inlvi (pc := 16) (As := [_, _]) (st := [_]) iX12_stepOf dX12_aboveOf_16 mX12_332 (cR0 hg) ⟨_, rfl, rfl⟩ rfl rfl (Nat.le_of_ble_eq_true rfl) (pX12_stepOf hg hg3 (jm_kIi ?_))
    refine jm_iadd (pc := 19) dX12_aboveOf_19 ?_
    have h := h _ rfl
    refine jm_istore_n (pc := 20) (lv' := [(3, _), (0, _), (1, _), (2, _), (4, _)]) dX12_aboveOf_20 (by decide) rfl ?_
    refine jm_iinc (pc := 21) (lv' := [(4, _), (3, _), (0, _), (1, _), (2, _)]) 4 dX12_aboveOf_21 rfl (by decide) rfl ?_
    refine jm_goto (pc := 24) 5 dX12_aboveOf_24 rfl ?_
    exact jm_sub [2, 3, 4, 1, 0] rfl h
theorem eX12_aboveOf {l : Launch} {g : jm_G} {d : Nat} {v1 v2 : Int} (hg : jm_HR g) {mu : jm_M} {Q : Option Value → jm_M → Prop} (h : jm_V l g (d + 2) iX12_aboveOf 5 [(0, .ref 0), (1, jm_i v1), (2, jm_i v2), (3, jm_i 0), (4, jm_i 0)] [] mu Q) : jm_R l g (d + 2) iX12_aboveOf [.ref 0, jm_i v1, jm_i v2] mu Q := by
  refine jm_enter [(0, .ref 0), (1, jm_i v1), (2, jm_i v2)] (by decide) (Nat.le_of_ble_eq_true rfl) rfl ?_
  refine jm_mrI (fun hm0 => ?_)
  refine jm_iconst (pc := 0) dX12_aboveOf_0 ?_
  refine jm_istore_n (pc := 1) (lv' := [(3, _), (0, _), (1, _), (2, _)]) dX12_aboveOf_1 (by decide) rfl ?_
  refine jm_iconst (pc := 2) dX12_aboveOf_2 ?_
  refine jm_istore (pc := 3) (lv' := [(4, _), (3, _), (0, _), (1, _), (2, _)]) dX12_aboveOf_3 (by decide) rfl ?_
  exact jm_sub [2, 3, 4, 1, 0] rfl h
theorem dX12_canSing_0 : decode cX12_canSing 0 = .ok (.iconst 0, 1) := by decide +kernel
theorem dX12_canSing_1 : decode cX12_canSing 1 = .ok (.istore 5, 2) := by decide +kernel
theorem dX12_canSing_3 : decode cX12_canSing 3 = .ok (.iload 5, 2) := by decide +kernel
theorem dX12_canSing_5 : decode cX12_canSing 5 = .ok (.aload_n 0, 1) := by decide +kernel
theorem dX12_canSing_6 : decode cX12_canSing 6 = .ok (.iload_n 1, 1) := by decide +kernel
theorem dX12_canSing_7 : decode cX12_canSing 7 = .ok (.invokevirtual 335, 3) := by decide +kernel
theorem dX12_canSing_10 : decode cX12_canSing 10 = .ok (.if_icmp .ge 32, 3) := by decide +kernel
theorem dX12_canSing_13 : decode cX12_canSing 13 = .ok (.aload_n 0, 1) := by decide +kernel
theorem dX12_canSing_14 : decode cX12_canSing 14 = .ok (.iload_n 2, 1) := by decide +kernel
theorem dX12_canSing_15 : decode cX12_canSing 15 = .ok (.iconst 1, 1) := by decide +kernel
theorem dX12_canSing_16 : decode cX12_canSing 16 = .ok (.iadd, 1) := by decide +kernel
theorem dX12_canSing_17 : decode cX12_canSing 17 = .ok (.aload_n 0, 1) := by decide +kernel
theorem dX12_canSing_18 : decode cX12_canSing 18 = .ok (.iload_n 1, 1) := by decide +kernel
theorem dX12_canSing_19 : decode cX12_canSing 19 = .ok (.iload 5, 2) := by decide +kernel
theorem dX12_canSing_21 : decode cX12_canSing 21 = .ok (.invokevirtual 338, 3) := by decide +kernel
theorem dX12_canSing_24 : decode cX12_canSing 24 = .ok (.iadd, 1) := by decide +kernel
theorem dX12_canSing_25 : decode cX12_canSing 25 = .ok (.iload_n 3, 1) := by decide +kernel
theorem dX12_canSing_26 : decode cX12_canSing 26 = .ok (.iload 4, 2) := by decide +kernel
theorem dX12_canSing_28 : decode cX12_canSing 28 = .ok (.invokevirtual 128, 3) := by decide +kernel
theorem dX12_canSing_31 : decode cX12_canSing 31 = .ok (.ifCond .ne 5, 3) := by decide +kernel
theorem dX12_canSing_34 : decode cX12_canSing 34 = .ok (.iconst 0, 1) := by decide +kernel
theorem dX12_canSing_35 : decode cX12_canSing 35 = .ok (.ireturn, 1) := by decide +kernel
theorem dX12_canSing_36 : decode cX12_canSing 36 = .ok (.iinc 5 1, 3) := by decide +kernel
theorem dX12_canSing_39 : decode cX12_canSing 39 = .ok (.goto (-36), 3) := by decide +kernel
theorem dX12_canSing_42 : decode cX12_canSing 42 = .ok (.aload_n 0, 1) := by decide +kernel
theorem dX12_canSing_43 : decode cX12_canSing 43 = .ok (.iload_n 1, 1) := by decide +kernel
theorem dX12_canSing_44 : decode cX12_canSing 44 = .ok (.invokevirtual 335, 3) := by decide +kernel
theorem dX12_canSing_47 : decode cX12_canSing 47 = .ok (.ifCond .le 7, 3) := by decide +kernel
theorem dX12_canSing_50 : decode cX12_canSing 50 = .ok (.iconst 1, 1) := by decide +kernel
theorem dX12_canSing_51 : decode cX12_canSing 51 = .ok (.goto 4, 3) := by decide +kernel
theorem dX12_canSing_54 : decode cX12_canSing 54 = .ok (.iconst 0, 1) := by decide +kernel
theorem dX12_canSing_55 : decode cX12_canSing 55 = .ok (.ireturn, 1) := by decide +kernel
theorem bX12_canSing_3 {l : Launch} {g : jm_G} {d : Nat} {v1 v2 v3 v4 v5 : Int} (hg : jm_HR g) {mu : jm_M} {Q : Option Value → jm_M → Prop} (h : (0 ≤ (8 * v1) ∧ (8 * v1) < 384) ∧ jm_rg v5 ∧ ((mu.1 17 (8 * v1)) ≤ v5 → (0 ≤ (8 * v1) ∧ (8 * v1) < 384) ∧ ((mu.1 17 (8 * v1)) ≤ 0 → Q (some (jm_i 0)) mu) ∧ (0 < (mu.1 17 (8 * v1)) → Q (some (jm_i 1)) mu)) ∧ (v5 < (mu.1 17 (8 * v1)) → jm_R l g (d + 1) iX12_aboveOf [.ref 0, jm_i v1, jm_i v5] mu (jm_qi fun z5 m4 => jm_rg ((v2 + 1) + z5) ∧ jm_rg v3 ∧ jm_rg v4 ∧ (v3 ≤ ((v2 + 1) + z5) ∧ ((v2 + 1) + z5) ≤ v4 → jm_V l g (d + 2) iX12_canSing 3 [(0, .ref 0), (1, jm_i v1), (2, jm_i v2), (3, jm_i v3), (4, jm_i v4), (5, jm_i (v5 + 1))] [] m4 Q) ∧ (¬ (v3 ≤ ((v2 + 1) + z5) ∧ ((v2 + 1) + z5) ≤ v4) → Q (some (jm_i 0)) m4)))) : jm_V l g (d + 2) iX12_canSing 3 [(0, .ref 0), (1, jm_i v1), (2, jm_i v2), (3, jm_i v3), (4, jm_i v4), (5, jm_i v5)] [] mu Q := by
  refine jm_mrI (fun hm0 => ?_)
  refine jm_iload (pc := 3) 5 dX12_canSing_3 rfl ?_
  refine jm_aload_n (pc := 5) 0 dX12_canSing_5 rfl ?_
  refine jm_iload_n (pc := 6) 1 dX12_canSing_6 rfl ?_
  have hg1 := h.1
  have h := h.2
  refine jm_inlvi (pc := 7) (As := [_]) (st := [_]) iX12_notesOf dX12_canSing_7 mX12_335 (cR0 hg) ⟨_, rfl, rfl⟩ rfl rfl (Nat.le_of_ble_eq_true rfl) (pX12_notesOf hg hg1 (jm_kIi ?_))
  have hg2 := h.1
  have h := h.2
  refine jm_icmp_ge (pc := 10) 42 dX12_canSing_10 rfl hg2 (hm0 _ _) (fun q => ?_) (fun q => ?_)
  · have h := h.1 q
    refine jm_aload_n (pc := 42) 0 dX12_canSing_42 rfl ?_
    refine jm_iload_n (pc := 43) 1 dX12_canSing_43 rfl ?_
    have hg3 := h.1
    have h := h.2
    refine jm_inlvi (pc := 44) (As := [_]) (st := []) iX12_notesOf dX12_canSing_44 mX12_335 (cR0 hg) ⟨_, rfl, rfl⟩ rfl rfl (Nat.le_of_ble_eq_true rfl) (pX12_notesOf hg hg3 (jm_kIi ?_))
    refine jm_if_le (pc := 47) 54 dX12_canSing_47 rfl (hm0 _ _) (fun q => ?_) (fun q => ?_)
    · have h := h.1 q
      refine jm_iconst (pc := 54) dX12_canSing_54 ?_
      exact jm_zret (pc := 55) dX12_canSing_55 rfl (Or.inl rfl) h
    · have h := h.2 q
      refine jm_iconst (pc := 50) dX12_canSing_50 ?_
      refine jm_goto (pc := 51) 55 dX12_canSing_51 rfl ?_
      exact jm_zret (pc := 55) dX12_canSing_55 rfl (Or.inr rfl) h
  · have h := h.2 q
    refine jm_aload_n (pc := 13) 0 dX12_canSing_13 rfl ?_
    refine jm_iload_n (pc := 14) 2 dX12_canSing_14 rfl ?_
    refine jm_iconst (pc := 15) dX12_canSing_15 ?_
    refine jm_iadd (pc := 16) dX12_canSing_16 ?_
    refine jm_aload_n (pc := 17) 0 dX12_canSing_17 rfl ?_
    refine jm_iload_n (pc := 18) 1 dX12_canSing_18 rfl ?_
    refine jm_iload (pc := 19) 5 dX12_canSing_19 rfl ?_
    refine jm_callvi (pc := 21) (As := [_, _]) (st := [_, _]) iX12_aboveOf dX12_canSing_21 mX12_338 (cR0 hg) ⟨_, rfl, rfl⟩ rfl rfl (Nat.le_of_ble_eq_true rfl) h (fun z5 m4 hz6 h hm7 => ?_)
    refine jm_iadd (pc := 24) dX12_canSing_24 ?_
    refine jm_iload_n (pc := 25) 3 dX12_canSing_25 rfl ?_
    refine jm_iload (pc := 26) 4 dX12_canSing_26 rfl ?_
    have hg8 := h.1
    have h := h.2
    have hg9 := h.1
    have h := h.2
    have hg10 := h.1
    have h := h.2
    refine jm_inlvi (pc := 28) (As := [_, _, _]) (st := []) iX12_isIn dX12_canSing_28 mX12_128 (cR0 hg) ⟨_, rfl, rfl⟩ rfl rfl (Nat.le_of_ble_eq_true rfl) (pX12_isIn hg hg8 hg9 hg10 (fun q => jm_kIi ?_) (fun q => jm_kIi ?_))
    · have h := h.1 q
      refine jm_if_ne (pc := 31) 36 dX12_canSing_31 rfl ⟨by decide, by decide⟩ (fun q => ?_) (fun q => absurd q (by decide))
      refine jm_iinc (pc := 36) (lv' := [(5, _), (0, _), (1, _), (2, _), (3, _), (4, _)]) 5 dX12_canSing_36 rfl (by decide) rfl ?_
      refine jm_goto (pc := 39) 3 dX12_canSing_39 rfl ?_
      exact jm_sub [1, 2, 3, 4, 5, 0] rfl h
    · have h := h.2 q
      refine jm_if_ne (pc := 31) 36 dX12_canSing_31 rfl ⟨by decide, by decide⟩ (fun q => absurd q (by decide)) (fun q => ?_)
      refine jm_iconst (pc := 34) dX12_canSing_34 ?_
      exact jm_zret (pc := 35) dX12_canSing_35 rfl (Or.inl rfl) h
theorem eX12_canSing {l : Launch} {g : jm_G} {d : Nat} {v1 v2 v3 v4 : Int} (hg : jm_HR g) {mu : jm_M} {Q : Option Value → jm_M → Prop} (h : jm_V l g (d + 2) iX12_canSing 3 [(0, .ref 0), (1, jm_i v1), (2, jm_i v2), (3, jm_i v3), (4, jm_i v4), (5, jm_i 0)] [] mu Q) : jm_R l g (d + 2) iX12_canSing [.ref 0, jm_i v1, jm_i v2, jm_i v3, jm_i v4] mu Q := by
  refine jm_enter [(0, .ref 0), (1, jm_i v1), (2, jm_i v2), (3, jm_i v3), (4, jm_i v4)] (by decide) (Nat.le_of_ble_eq_true rfl) rfl ?_
  refine jm_mrI (fun hm0 => ?_)
  refine jm_iconst (pc := 0) dX12_canSing_0 ?_
  refine jm_istore (pc := 1) (lv' := [(5, _), (0, _), (1, _), (2, _), (3, _), (4, _)]) dX12_canSing_1 (by decide) rfl ?_
  exact jm_sub [1, 2, 3, 4, 5, 0] rfl h
theorem dX12_motiveOf_0 : decode cX12_motiveOf 0 = .ok (.aload_n 0, 1) := by decide +kernel
theorem dX12_motiveOf_1 : decode cX12_motiveOf 1 = .ok (.iload_n 1, 1) := by decide +kernel
theorem dX12_motiveOf_2 : decode cX12_motiveOf 2 = .ok (.iload_n 2, 1) := by decide +kernel
theorem dX12_motiveOf_3 : decode cX12_motiveOf 3 = .ok (.invokevirtual 341, 3) := by decide +kernel
theorem dX12_motiveOf_6 : decode cX12_motiveOf 6 = .ok (.iconst (-1), 1) := by decide +kernel
theorem dX12_motiveOf_7 : decode cX12_motiveOf 7 = .ok (.if_icmp .eq 20, 3) := by decide +kernel
theorem dX12_motiveOf_10 : decode cX12_motiveOf 10 = .ok (.aload_n 0, 1) := by decide +kernel
theorem dX12_motiveOf_11 : decode cX12_motiveOf 11 = .ok (.iconst 4, 1) := by decide +kernel
theorem dX12_motiveOf_12 : decode cX12_motiveOf 12 = .ok (.iload_n 2, 1) := by decide +kernel
theorem dX12_motiveOf_13 : decode cX12_motiveOf 13 = .ok (.imul, 1) := by decide +kernel
theorem dX12_motiveOf_14 : decode cX12_motiveOf 14 = .ok (.aload_n 0, 1) := by decide +kernel
theorem dX12_motiveOf_15 : decode cX12_motiveOf 15 = .ok (.iload_n 1, 1) := by decide +kernel
theorem dX12_motiveOf_16 : decode cX12_motiveOf 16 = .ok (.iload_n 2, 1) := by decide +kernel
theorem dX12_motiveOf_17 : decode cX12_motiveOf 17 = .ok (.invokevirtual 341, 3) := by decide +kernel
theorem dX12_motiveOf_20 : decode cX12_motiveOf 20 = .ok (.iadd, 1) := by decide +kernel
theorem dX12_motiveOf_21 : decode cX12_motiveOf 21 = .ok (.invokevirtual 335, 3) := by decide +kernel
theorem dX12_motiveOf_24 : decode cX12_motiveOf 24 = .ok (.ifCond .ne 7, 3) := by decide +kernel
theorem dX12_motiveOf_27 : decode cX12_motiveOf 27 = .ok (.iconst (-1), 1) := by decide +kernel
theorem dX12_motiveOf_28 : decode cX12_motiveOf 28 = .ok (.goto 13, 3) := by decide +kernel
theorem dX12_motiveOf_31 : decode cX12_motiveOf 31 = .ok (.iconst 4, 1) := by decide +kernel
theorem dX12_motiveOf_32 : decode cX12_motiveOf 32 = .ok (.iload_n 2, 1) := by decide +kernel
theorem dX12_motiveOf_33 : decode cX12_motiveOf 33 = .ok (.imul, 1) := by decide +kernel
theorem dX12_motiveOf_34 : decode cX12_motiveOf 34 = .ok (.aload_n 0, 1) := by decide +kernel
theorem dX12_motiveOf_35 : decode cX12_motiveOf 35 = .ok (.iload_n 1, 1) := by decide +kernel
theorem dX12_motiveOf_36 : decode cX12_motiveOf 36 = .ok (.iload_n 2, 1) := by decide +kernel
theorem dX12_motiveOf_37 : decode cX12_motiveOf 37 = .ok (.invokevirtual 341, 3) := by decide +kernel
theorem dX12_motiveOf_40 : decode cX12_motiveOf 40 = .ok (.iadd, 1) := by decide +kernel
theorem dX12_motiveOf_41 : decode cX12_motiveOf 41 = .ok (.ireturn, 1) := by decide +kernel
theorem eX12_motiveOf {l : Launch} {g : jm_G} {d : Nat} {v1 v2 : Int} (hg : jm_HR g) {mu : jm_M} {Q : Option Value → jm_M → Prop} (h : (0 ≤ ((6 * v1) + v2) ∧ ((6 * v1) + v2) < 48) ∧ jm_rg ((mu.1 6 ((6 * v1) + v2)) - 1) ∧ (((mu.1 6 ((6 * v1) + v2)) - 1) = (-1) → Q (some (jm_i (-1))) mu) ∧ (¬ ((mu.1 6 ((6 * v1) + v2)) - 1) = (-1) → (0 ≤ ((6 * v1) + v2) ∧ ((6 * v1) + v2) < 48) ∧ (0 ≤ (8 * ((4 * v2) + ((mu.1 6 ((6 * v1) + v2)) - 1))) ∧ (8 * ((4 * v2) + ((mu.1 6 ((6 * v1) + v2)) - 1))) < 384) ∧ (¬ (mu.1 17 (8 * ((4 * v2) + ((mu.1 6 ((6 * v1) + v2)) - 1)))) = 0 → (0 ≤ ((6 * v1) + v2) ∧ ((6 * v1) + v2) < 48) ∧ Q (some (jm_i ((4 * v2) + ((mu.1 6 ((6 * v1) + v2)) - 1)))) mu) ∧ ((mu.1 17 (8 * ((4 * v2) + ((mu.1 6 ((6 * v1) + v2)) - 1)))) = 0 → Q (some (jm_i (-1))) mu))) : jm_R l g (d + 2) iX12_motiveOf [.ref 0, jm_i v1, jm_i v2] mu Q := by
  refine jm_enter [(0, .ref 0), (1, jm_i v1), (2, jm_i v2)] (by decide) (Nat.le_of_ble_eq_true rfl) rfl ?_
  refine jm_mrI (fun hm0 => ?_)
  refine jm_aload_n (pc := 0) 0 dX12_motiveOf_0 rfl ?_
  refine jm_iload_n (pc := 1) 1 dX12_motiveOf_1 rfl ?_
  refine jm_iload_n (pc := 2) 2 dX12_motiveOf_2 rfl ?_
  have hg1 := h.1
  have h := h.2
  refine jm_inlvi (pc := 3) (As := [_, _]) (st := []) iX12_claimOf dX12_motiveOf_3 mX12_341 (cR0 hg) ⟨_, rfl, rfl⟩ rfl rfl (Nat.le_of_ble_eq_true rfl) (pX12_claimOf hg hg1 (jm_kIi ?_))
  refine jm_iconst (pc := 6) dX12_motiveOf_6 ?_
  have hg2 := h.1
  have h := h.2
  refine jm_icmp_eq (pc := 7) 27 dX12_motiveOf_7 rfl hg2 ⟨by decide, by decide⟩ (fun q => ?_) (fun q => ?_)
  · have h := h.1 q
    refine jm_iconst (pc := 27) dX12_motiveOf_27 ?_
    refine jm_goto (pc := 28) 41 dX12_motiveOf_28 rfl ?_
    exact jm_iret (pc := 41) dX12_motiveOf_41 rfl h
  · have h := h.2 q
    refine jm_aload_n (pc := 10) 0 dX12_motiveOf_10 rfl ?_
    refine jm_iconst (pc := 11) dX12_motiveOf_11 ?_
    refine jm_iload_n (pc := 12) 2 dX12_motiveOf_12 rfl ?_
    refine jm_imul (pc := 13) dX12_motiveOf_13 ?_
    refine jm_aload_n (pc := 14) 0 dX12_motiveOf_14 rfl ?_
    refine jm_iload_n (pc := 15) 1 dX12_motiveOf_15 rfl ?_
    refine jm_iload_n (pc := 16) 2 dX12_motiveOf_16 rfl ?_
    have hg3 := h.1
    have h := h.2
    refine jm_inlvi (pc := 17) (As := [_, _]) (st := [_, _]) iX12_claimOf dX12_motiveOf_17 mX12_341 (cR0 hg) ⟨_, rfl, rfl⟩ rfl rfl (Nat.le_of_ble_eq_true rfl) (pX12_claimOf hg hg3 (jm_kIi ?_))
    refine jm_iadd (pc := 20) dX12_motiveOf_20 ?_
    have hg4 := h.1
    have h := h.2
    refine jm_inlvi (pc := 21) (As := [_]) (st := []) iX12_notesOf dX12_motiveOf_21 mX12_335 (cR0 hg) ⟨_, rfl, rfl⟩ rfl rfl (Nat.le_of_ble_eq_true rfl) (pX12_notesOf hg hg4 (jm_kIi ?_))
    refine jm_if_ne (pc := 24) 31 dX12_motiveOf_24 rfl (hm0 _ _) (fun q => ?_) (fun q => ?_)
    · have h := h.1 q
      refine jm_iconst (pc := 31) dX12_motiveOf_31 ?_
      refine jm_iload_n (pc := 32) 2 dX12_motiveOf_32 rfl ?_
      refine jm_imul (pc := 33) dX12_motiveOf_33 ?_
      refine jm_aload_n (pc := 34) 0 dX12_motiveOf_34 rfl ?_
      refine jm_iload_n (pc := 35) 1 dX12_motiveOf_35 rfl ?_
      refine jm_iload_n (pc := 36) 2 dX12_motiveOf_36 rfl ?_
      have hg5 := h.1
      have h := h.2
      refine jm_inlvi (pc := 37) (As := [_, _]) (st := [_]) iX12_claimOf dX12_motiveOf_37 mX12_341 (cR0 hg) ⟨_, rfl, rfl⟩ rfl rfl (Nat.le_of_ble_eq_true rfl) (pX12_claimOf hg hg5 (jm_kIi ?_))
      refine jm_iadd (pc := 40) dX12_motiveOf_40 ?_
      exact jm_iret (pc := 41) dX12_motiveOf_41 rfl h
    · have h := h.2 q
      refine jm_iconst (pc := 27) dX12_motiveOf_27 ?_
      refine jm_goto (pc := 28) 41 dX12_motiveOf_28 rfl ?_
      exact jm_iret (pc := 41) dX12_motiveOf_41 rfl h
theorem dX12_isSung_0 : decode cX12_isSung 0 = .ok (.aload_n 0, 1) := by decide +kernel
theorem dX12_isSung_1 : decode cX12_isSung 1 = .ok (.iload_n 1, 1) := by decide +kernel
theorem dX12_isSung_2 : decode cX12_isSung 2 = .ok (.iload_n 2, 1) := by decide +kernel
theorem dX12_isSung_3 : decode cX12_isSung 3 = .ok (.invokevirtual 344, 3) := by decide +kernel
theorem dX12_isSung_6 : decode cX12_isSung 6 = .ok (.iconst (-1), 1) := by decide +kernel
theorem dX12_isSung_7 : decode cX12_isSung 7 = .ok (.if_icmp .eq 33, 3) := by decide +kernel
theorem dX12_isSung_10 : decode cX12_isSung 10 = .ok (.aload_n 0, 1) := by decide +kernel
theorem dX12_isSung_11 : decode cX12_isSung 11 = .ok (.aload_n 0, 1) := by decide +kernel
theorem dX12_isSung_12 : decode cX12_isSung 12 = .ok (.iload_n 1, 1) := by decide +kernel
theorem dX12_isSung_13 : decode cX12_isSung 13 = .ok (.iload_n 2, 1) := by decide +kernel
theorem dX12_isSung_14 : decode cX12_isSung 14 = .ok (.invokevirtual 344, 3) := by decide +kernel
theorem dX12_isSung_17 : decode cX12_isSung 17 = .ok (.iload_n 3, 1) := by decide +kernel
theorem dX12_isSung_18 : decode cX12_isSung 18 = .ok (.aload_n 0, 1) := by decide +kernel
theorem dX12_isSung_19 : decode cX12_isSung 19 = .ok (.getfield 16, 3) := by decide +kernel
theorem dX12_isSung_22 : decode cX12_isSung 22 = .ok (.iload_n 1, 1) := by decide +kernel
theorem dX12_isSung_23 : decode cX12_isSung 23 = .ok (.iaload, 1) := by decide +kernel
theorem dX12_isSung_24 : decode cX12_isSung 24 = .ok (.aload_n 0, 1) := by decide +kernel
theorem dX12_isSung_25 : decode cX12_isSung 25 = .ok (.getfield 19, 3) := by decide +kernel
theorem dX12_isSung_28 : decode cX12_isSung 28 = .ok (.iload_n 1, 1) := by decide +kernel
theorem dX12_isSung_29 : decode cX12_isSung 29 = .ok (.iaload, 1) := by decide +kernel
theorem dX12_isSung_30 : decode cX12_isSung 30 = .ok (.invokevirtual 347, 3) := by decide +kernel
theorem dX12_isSung_33 : decode cX12_isSung 33 = .ok (.ifCond .eq 7, 3) := by decide +kernel
theorem dX12_isSung_36 : decode cX12_isSung 36 = .ok (.iconst 1, 1) := by decide +kernel
theorem dX12_isSung_37 : decode cX12_isSung 37 = .ok (.goto 4, 3) := by decide +kernel
theorem dX12_isSung_40 : decode cX12_isSung 40 = .ok (.iconst 0, 1) := by decide +kernel
theorem dX12_isSung_41 : decode cX12_isSung 41 = .ok (.ireturn, 1) := by decide +kernel
theorem eX12_isSung {l : Launch} {g : jm_G} {d : Nat} {v1 v2 v3 : Int} (hg : jm_HR g) {mu : jm_M} {Q : Option Value → jm_M → Prop} (h : jm_R l g d iX12_motiveOf [.ref 0, jm_i v1, jm_i v2] mu (jm_qi fun z2 m1 => (z2 = (-1) → Q (some (jm_i 0)) m1) ∧ (¬ z2 = (-1) → jm_R l g d iX12_motiveOf [.ref 0, jm_i v1, jm_i v2] m1 (jm_qi fun z6 m5 => (0 ≤ v1 ∧ v1 < 8) ∧ jm_R l g d iX12_canSing [.ref 0, jm_i z6, jm_i v3, jm_i (m5.1 3 v1), jm_i (m5.1 4 v1)] m5 (jm_qi fun z11 m10 => (z11 = 0 → Q (some (jm_i 0)) m10) ∧ (¬ z11 = 0 → Q (some (jm_i 1)) m10)))))) : jm_R l g (d + 1) iX12_isSung [.ref 0, jm_i v1, jm_i v2, jm_i v3] mu Q := by
  refine jm_enter [(0, .ref 0), (1, jm_i v1), (2, jm_i v2), (3, jm_i v3)] (by decide) (Nat.le_of_ble_eq_true rfl) rfl ?_
  refine jm_mrI (fun hm0 => ?_)
  refine jm_aload_n (pc := 0) 0 dX12_isSung_0 rfl ?_
  refine jm_iload_n (pc := 1) 1 dX12_isSung_1 rfl ?_
  refine jm_iload_n (pc := 2) 2 dX12_isSung_2 rfl ?_
  refine jm_callvi (pc := 3) (As := [_, _]) (st := []) iX12_motiveOf dX12_isSung_3 mX12_344 (cR0 hg) ⟨_, rfl, rfl⟩ rfl rfl (Nat.le_of_ble_eq_true rfl) h (fun z2 m1 hz3 h hm4 => ?_)
  refine jm_iconst (pc := 6) dX12_isSung_6 ?_
  refine jm_icmp_eq (pc := 7) 40 dX12_isSung_7 rfl hz3 ⟨by decide, by decide⟩ (fun q => ?_) (fun q => ?_)
  · have h := h.1 q
    refine jm_iconst (pc := 40) dX12_isSung_40 ?_
    exact jm_zret (pc := 41) dX12_isSung_41 rfl (Or.inl rfl) h
  · have h := h.2 q
    refine jm_aload_n (pc := 10) 0 dX12_isSung_10 rfl ?_
    refine jm_aload_n (pc := 11) 0 dX12_isSung_11 rfl ?_
    refine jm_iload_n (pc := 12) 1 dX12_isSung_12 rfl ?_
    refine jm_iload_n (pc := 13) 2 dX12_isSung_13 rfl ?_
    refine jm_callvi (pc := 14) (As := [_, _]) (st := [_]) iX12_motiveOf dX12_isSung_14 mX12_344 (cR0 hg) ⟨_, rfl, rfl⟩ rfl rfl (Nat.le_of_ble_eq_true rfl) h (fun z6 m5 hz7 h hm8 => ?_)
    refine jm_iload_n (pc := 17) 3 dX12_isSung_17 rfl ?_
    refine jm_aload_n (pc := 18) 0 dX12_isSung_18 rfl ?_
    refine jm_getr (pc := 19) 5 dX12_isSung_19 fX12_16 (cR0 hg) rfl ?_
    refine jm_iload_n (pc := 22) 1 dX12_isSung_22 rfl ?_
    have hg9 := h.1
    have h := h.2
    refine jm_iald (pc := 23) dX12_isSung_23 (cR3 hg) (by decide) hg9.1 hg9.2 ?_
    refine jm_aload_n (pc := 24) 0 dX12_isSung_24 rfl ?_
    refine jm_getr (pc := 25) 6 dX12_isSung_25 fX12_19 (cR0 hg) rfl ?_
    refine jm_iload_n (pc := 28) 1 dX12_isSung_28 rfl ?_
    refine jm_iald (pc := 29) dX12_isSung_29 (cR4 hg) (by decide) hg9.1 hg9.2 ?_
    refine jm_callvi (pc := 30) (As := [_, _, _, _]) (st := []) iX12_canSing dX12_isSung_30 mX12_347 (cR0 hg) ⟨_, rfl, rfl⟩ rfl rfl (Nat.le_of_ble_eq_true rfl) h (fun z11 m10 hz12 h hm13 => ?_)
    refine jm_if_eq (pc := 33) 40 dX12_isSung_33 rfl hz12 (fun q => ?_) (fun q => ?_)
    · have h := h.1 q
      refine jm_iconst (pc := 40) dX12_isSung_40 ?_
      exact jm_zret (pc := 41) dX12_isSung_41 rfl (Or.inl rfl) h
    · have h := h.2 q
      refine jm_iconst (pc := 36) dX12_isSung_36 ?_
      refine jm_goto (pc := 37) 41 dX12_isSung_37 rfl ?_
      exact jm_zret (pc := 41) dX12_isSung_41 rfl (Or.inr rfl) h
theorem dX12_barsFor_0 : decode cX12_barsFor 0 = .ok (.aload_n 0, 1) := by decide +kernel
theorem dX12_barsFor_1 : decode cX12_barsFor 1 = .ok (.iload_n 2, 1) := by decide +kernel
theorem dX12_barsFor_2 : decode cX12_barsFor 2 = .ok (.invokevirtual 335, 3) := by decide +kernel
theorem dX12_barsFor_5 : decode cX12_barsFor 5 = .ok (.aload_n 0, 1) := by decide +kernel
theorem dX12_barsFor_6 : decode cX12_barsFor 6 = .ok (.iload_n 2, 1) := by decide +kernel
theorem dX12_barsFor_7 : decode cX12_barsFor 7 = .ok (.invokevirtual 335, 3) := by decide +kernel
theorem dX12_barsFor_10 : decode cX12_barsFor 10 = .ok (.iconst 1, 1) := by decide +kernel
theorem dX12_barsFor_11 : decode cX12_barsFor 11 = .ok (.isub, 1) := by decide +kernel
theorem dX12_barsFor_12 : decode cX12_barsFor 12 = .ok (.aload_n 0, 1) := by decide +kernel
theorem dX12_barsFor_13 : decode cX12_barsFor 13 = .ok (.getfield 22, 3) := by decide +kernel
theorem dX12_barsFor_16 : decode cX12_barsFor 16 = .ok (.iload_n 1, 1) := by decide +kernel
theorem dX12_barsFor_17 : decode cX12_barsFor 17 = .ok (.iaload, 1) := by decide +kernel
theorem dX12_barsFor_18 : decode cX12_barsFor 18 = .ok (.idiv, 1) := by decide +kernel
theorem dX12_barsFor_19 : decode cX12_barsFor 19 = .ok (.iadd, 1) := by decide +kernel
theorem dX12_barsFor_20 : decode cX12_barsFor 20 = .ok (.ireturn, 1) := by decide +kernel
theorem eX12_barsFor {l : Launch} {g : jm_G} {d : Nat} {v1 v2 : Int} (hg : jm_HR g) {mu : jm_M} {Q : Option Value → jm_M → Prop} (h : (0 ≤ (8 * v2) ∧ (8 * v2) < 384) ∧ (0 ≤ (8 * v2) ∧ (8 * v2) < 384) ∧ (0 ≤ v1 ∧ v1 < 8) ∧ jm_rg ((mu.1 17 (8 * v2)) - 1) ∧ ¬ (mu.1 5 v1) = 0 ∧ Q (some (jm_i ((mu.1 17 (8 * v2)) + (Int.tdiv ((mu.1 17 (8 * v2)) - 1) (mu.1 5 v1))))) mu) : jm_R l g (d + 2) iX12_barsFor [.ref 0, jm_i v1, jm_i v2] mu Q := by
  refine jm_enter [(0, .ref 0), (1, jm_i v1), (2, jm_i v2)] (by decide) (Nat.le_of_ble_eq_true rfl) rfl ?_
  refine jm_mrI (fun hm0 => ?_)
  refine jm_aload_n (pc := 0) 0 dX12_barsFor_0 rfl ?_
  refine jm_iload_n (pc := 1) 2 dX12_barsFor_1 rfl ?_
  have hg1 := h.1
  have h := h.2
  refine jm_inlvi (pc := 2) (As := [_]) (st := []) iX12_notesOf dX12_barsFor_2 mX12_335 (cR0 hg) ⟨_, rfl, rfl⟩ rfl rfl (Nat.le_of_ble_eq_true rfl) (pX12_notesOf hg hg1 (jm_kIi ?_))
  refine jm_aload_n (pc := 5) 0 dX12_barsFor_5 rfl ?_
  refine jm_iload_n (pc := 6) 2 dX12_barsFor_6 rfl ?_
  have hg2 := h.1
  have h := h.2
  refine jm_inlvi (pc := 7) (As := [_]) (st := [_]) iX12_notesOf dX12_barsFor_7 mX12_335 (cR0 hg) ⟨_, rfl, rfl⟩ rfl rfl (Nat.le_of_ble_eq_true rfl) (pX12_notesOf hg hg2 (jm_kIi ?_))
  refine jm_iconst (pc := 10) dX12_barsFor_10 ?_
  refine jm_isub (pc := 11) dX12_barsFor_11 ?_
  refine jm_aload_n (pc := 12) 0 dX12_barsFor_12 rfl ?_
  refine jm_getr (pc := 13) 7 dX12_barsFor_13 fX12_22 (cR0 hg) rfl ?_
  refine jm_iload_n (pc := 16) 1 dX12_barsFor_16 rfl ?_
  have hg3 := h.1
  have h := h.2
  refine jm_iald (pc := 17) dX12_barsFor_17 (cR5 hg) (by decide) hg3.1 hg3.2 ?_
  have hg4 := h.1
  have h := h.2
  have hg5 := h.1
  have h := h.2
  refine jm_idiv (pc := 18) hg4 (hm0 _ _) hg5 dX12_barsFor_18 ?_
  refine jm_iadd (pc := 19) dX12_barsFor_19 ?_
  exact jm_iret (pc := 20) dX12_barsFor_20 rfl h
theorem pX12_barsFor {l : Launch} {g : jm_G} {d : Nat} {v1 v2 : Int} (hg : jm_HR g) {mu : jm_M} {Q : Option Value → jm_M → Prop} (o0 : 0 ≤ (8 * v2) ∧ (8 * v2) < 384) (o1 : 0 ≤ v1 ∧ v1 < 8) (o2 : jm_rg ((mu.1 17 (8 * v2)) - 1)) (o3 : ¬ (mu.1 5 v1) = 0) (h : Q (some (jm_i ((mu.1 17 (8 * v2)) + (Int.tdiv ((mu.1 17 (8 * v2)) - 1) (mu.1 5 v1))))) mu) : jm_R l g (d + 2) iX12_barsFor [.ref 0, jm_i v1, jm_i v2] mu Q := by
  refine eX12_barsFor hg ?_
  refine ⟨o0, ?_⟩
  refine ⟨o0, ?_⟩
  refine ⟨o1, ?_⟩
  refine ⟨o2, ?_⟩
  refine ⟨o3, ?_⟩
  exact h
theorem dX12_canCall_0 : decode cX12_canCall 0 = .ok (.aload_n 0, 1) := by decide +kernel
theorem dX12_canCall_1 : decode cX12_canCall 1 = .ok (.iload_n 1, 1) := by decide +kernel
theorem dX12_canCall_2 : decode cX12_canCall 2 = .ok (.invokevirtual 132, 3) := by decide +kernel
theorem dX12_canCall_5 : decode cX12_canCall 5 = .ok (.ifCond .eq 32, 3) := by decide +kernel
theorem dX12_canCall_8 : decode cX12_canCall 8 = .ok (.aload_n 0, 1) := by decide +kernel
theorem dX12_canCall_9 : decode cX12_canCall 9 = .ok (.iload_n 2, 1) := by decide +kernel
theorem dX12_canCall_10 : decode cX12_canCall 10 = .ok (.invokevirtual 136, 3) := by decide +kernel
theorem dX12_canCall_13 : decode cX12_canCall 13 = .ok (.ifCond .eq 24, 3) := by decide +kernel
theorem dX12_canCall_16 : decode cX12_canCall 16 = .ok (.aload_n 0, 1) := by decide +kernel
theorem dX12_canCall_17 : decode cX12_canCall 17 = .ok (.iload_n 3, 1) := by decide +kernel
theorem dX12_canCall_18 : decode cX12_canCall 18 = .ok (.iconst 0, 1) := by decide +kernel
theorem dX12_canCall_19 : decode cX12_canCall 19 = .ok (.bipush 59, 2) := by decide +kernel
theorem dX12_canCall_21 : decode cX12_canCall 21 = .ok (.invokevirtual 128, 3) := by decide +kernel
theorem dX12_canCall_24 : decode cX12_canCall 24 = .ok (.ifCond .eq 13, 3) := by decide +kernel
theorem dX12_canCall_27 : decode cX12_canCall 27 = .ok (.aload_n 0, 1) := by decide +kernel
theorem dX12_canCall_28 : decode cX12_canCall 28 = .ok (.iload_n 1, 1) := by decide +kernel
theorem dX12_canCall_29 : decode cX12_canCall 29 = .ok (.iload_n 2, 1) := by decide +kernel
theorem dX12_canCall_30 : decode cX12_canCall 30 = .ok (.iload_n 3, 1) := by decide +kernel
theorem dX12_canCall_31 : decode cX12_canCall 31 = .ok (.invokevirtual 351, 3) := by decide +kernel
theorem dX12_canCall_34 : decode cX12_canCall 34 = .ok (.ifCond .ne 5, 3) := by decide +kernel
theorem dX12_canCall_37 : decode cX12_canCall 37 = .ok (.iconst 0, 1) := by decide +kernel
theorem dX12_canCall_38 : decode cX12_canCall 38 = .ok (.ireturn, 1) := by decide +kernel
theorem dX12_canCall_39 : decode cX12_canCall 39 = .ok (.aload_n 0, 1) := by decide +kernel
theorem dX12_canCall_40 : decode cX12_canCall 40 = .ok (.getfield 7, 3) := by decide +kernel
theorem dX12_canCall_43 : decode cX12_canCall 43 = .ok (.iconst 4, 1) := by decide +kernel
theorem dX12_canCall_44 : decode cX12_canCall 44 = .ok (.iaload, 1) := by decide +kernel
theorem dX12_canCall_45 : decode cX12_canCall 45 = .ok (.bipush 20, 2) := by decide +kernel
theorem dX12_canCall_47 : decode cX12_canCall 47 = .ok (.if_icmp .ge 31, 3) := by decide +kernel
theorem dX12_canCall_50 : decode cX12_canCall 50 = .ok (.aload_n 0, 1) := by decide +kernel
theorem dX12_canCall_51 : decode cX12_canCall 51 = .ok (.getfield 7, 3) := by decide +kernel
theorem dX12_canCall_54 : decode cX12_canCall 54 = .ok (.iconst 3, 1) := by decide +kernel
theorem dX12_canCall_55 : decode cX12_canCall 55 = .ok (.iaload, 1) := by decide +kernel
theorem dX12_canCall_56 : decode cX12_canCall 56 = .ok (.aload_n 0, 1) := by decide +kernel
theorem dX12_canCall_57 : decode cX12_canCall 57 = .ok (.iload_n 1, 1) := by decide +kernel
theorem dX12_canCall_58 : decode cX12_canCall 58 = .ok (.aload_n 0, 1) := by decide +kernel
theorem dX12_canCall_59 : decode cX12_canCall 59 = .ok (.iload_n 1, 1) := by decide +kernel
theorem dX12_canCall_60 : decode cX12_canCall 60 = .ok (.iload_n 2, 1) := by decide +kernel
theorem dX12_canCall_61 : decode cX12_canCall 61 = .ok (.invokevirtual 344, 3) := by decide +kernel
theorem dX12_canCall_64 : decode cX12_canCall 64 = .ok (.invokevirtual 354, 3) := by decide +kernel
theorem dX12_canCall_67 : decode cX12_canCall 67 = .ok (.iadd, 1) := by decide +kernel
theorem dX12_canCall_68 : decode cX12_canCall 68 = .ok (.sipush 200, 3) := by decide +kernel
theorem dX12_canCall_71 : decode cX12_canCall 71 = .ok (.if_icmp .gt 7, 3) := by decide +kernel
theorem dX12_canCall_74 : decode cX12_canCall 74 = .ok (.iconst 1, 1) := by decide +kernel
theorem dX12_canCall_75 : decode cX12_canCall 75 = .ok (.goto 4, 3) := by decide +kernel
theorem dX12_canCall_78 : decode cX12_canCall 78 = .ok (.iconst 0, 1) := by decide +kernel
theorem dX12_canCall_79 : decode cX12_canCall 79 = .ok (.ireturn, 1) := by decide +kernel
theorem eX12_canCall {l : Launch} {g : jm_G} {d : Nat} {v1 v2 v3 : Int} (hg : jm_HR g) {mu : jm_M} {Q : Option Value → jm_M → Prop} (h : jm_rg v1 ∧ (0 ≤ v1 ∧ v1 < (mu.1 0 4) → jm_rg v2 ∧ (0 ≤ v2 ∧ v2 < 6 → jm_rg v3 ∧ (0 ≤ v3 ∧ v3 ≤ 59 → jm_R l g (d + 2) iX12_isSung [.ref 0, jm_i v1, jm_i v2, jm_i v3] mu (jm_qi fun z5 m4 => (¬ z5 = 0 → (20 ≤ (m4.1 1 4) → Q (some (jm_i 0)) m4) ∧ ((m4.1 1 4) < 20 → jm_R l g (d + 2) iX12_motiveOf [.ref 0, jm_i v1, jm_i v2] m4 (jm_qi fun z9 m8 => (0 ≤ (8 * z9) ∧ (8 * z9) < 384) ∧ (0 ≤ v1 ∧ v1 < 8) ∧ (jm_rg ((m8.1 17 (8 * z9)) - 1)) ∧ (¬ (m8.1 5 v1) = 0) ∧ jm_rg ((m4.1 1 3) + ((m8.1 17 (8 * z9)) + (Int.tdiv ((m8.1 17 (8 * z9)) - 1) (m8.1 5 v1)))) ∧ (200 < ((m4.1 1 3) + ((m8.1 17 (8 * z9)) + (Int.tdiv ((m8.1 17 (8 * z9)) - 1) (m8.1 5 v1)))) → Q (some (jm_i 0)) m8) ∧ (((m4.1 1 3) + ((m8.1 17 (8 * z9)) + (Int.tdiv ((m8.1 17 (8 * z9)) - 1) (m8.1 5 v1)))) ≤ 200 → Q (some (jm_i 1)) m8)))) ∧ (z5 = 0 → Q (some (jm_i 0)) m4))) ∧ (¬ (0 ≤ v3 ∧ v3 ≤ 59) → Q (some (jm_i 0)) mu)) ∧ (¬ (0 ≤ v2 ∧ v2 < 6) → Q (some (jm_i 0)) mu)) ∧ (¬ (0 ≤ v1 ∧ v1 < (mu.1 0 4)) → Q (some (jm_i 0)) mu)) : jm_R l g (d + 3) iX12_canCall [.ref 0, jm_i v1, jm_i v2, jm_i v3] mu Q := by
  refine jm_enter [(0, .ref 0), (1, jm_i v1), (2, jm_i v2), (3, jm_i v3)] (by decide) (Nat.le_of_ble_eq_true rfl) rfl ?_
  refine jm_mrI (fun hm0 => ?_)
  refine jm_aload_n (pc := 0) 0 dX12_canCall_0 rfl ?_
  refine jm_iload_n (pc := 1) 1 dX12_canCall_1 rfl ?_
  have hg1 := h.1
  have h := h.2
  refine jm_inlvi (pc := 2) (As := [_]) (st := []) iX12_isWitness dX12_canCall_2 mX12_132 (cR0 hg) ⟨_, rfl, rfl⟩ rfl rfl (Nat.le_of_ble_eq_true rfl) (pX12_isWitness hg hg1 (fun q => jm_kIi ?_) (fun q => jm_kIi ?_))
  · have h := h.1 q
    refine jm_if_eq (pc := 5) 37 dX12_canCall_5 rfl ⟨by decide, by decide⟩ (fun q => absurd q (by decide)) (fun q => ?_)
    refine jm_aload_n (pc := 8) 0 dX12_canCall_8 rfl ?_
    refine jm_iload_n (pc := 9) 2 dX12_canCall_9 rfl ?_
    have hg2 := h.1
    have h := h.2
    refine jm_inlvi (pc := 10) (As := [_]) (st := []) iX12_isFact dX12_canCall_10 mX12_136 (cR0 hg) ⟨_, rfl, rfl⟩ rfl rfl (Nat.le_of_ble_eq_true rfl) (pX12_isFact hg hg2 (fun q => jm_kIi ?_) (fun q => jm_kIi ?_))
    · have h := h.1 q
      refine jm_if_eq (pc := 13) 37 dX12_canCall_13 rfl ⟨by decide, by decide⟩ (fun q => absurd q (by decide)) (fun q => ?_)
      refine jm_aload_n (pc := 16) 0 dX12_canCall_16 rfl ?_
      refine jm_iload_n (pc := 17) 3 dX12_canCall_17 rfl ?_
      refine jm_iconst (pc := 18) dX12_canCall_18 ?_
      refine jm_bipush (pc := 19) dX12_canCall_19 (by decide) ?_
      have hg3 := h.1
      have h := h.2
      refine jm_inlvi (pc := 21) (As := [_, _, _]) (st := []) iX12_isIn dX12_canCall_21 mX12_128 (cR0 hg) ⟨_, rfl, rfl⟩ rfl rfl (Nat.le_of_ble_eq_true rfl) (pX12_isIn hg hg3 ⟨by decide, by decide⟩ ⟨by decide, by decide⟩ (fun q => jm_kIi ?_) (fun q => jm_kIi ?_))
      · have h := h.1 q
        refine jm_if_eq (pc := 24) 37 dX12_canCall_24 rfl ⟨by decide, by decide⟩ (fun q => absurd q (by decide)) (fun q => ?_)
        refine jm_aload_n (pc := 27) 0 dX12_canCall_27 rfl ?_
        refine jm_iload_n (pc := 28) 1 dX12_canCall_28 rfl ?_
        refine jm_iload_n (pc := 29) 2 dX12_canCall_29 rfl ?_
        refine jm_iload_n (pc := 30) 3 dX12_canCall_30 rfl ?_
        refine jm_callvi (pc := 31) (As := [_, _, _]) (st := []) iX12_isSung dX12_canCall_31 mX12_351 (cR0 hg) ⟨_, rfl, rfl⟩ rfl rfl (Nat.le_of_ble_eq_true rfl) h (fun z5 m4 hz6 h hm7 => ?_)
        refine jm_if_ne (pc := 34) 39 dX12_canCall_34 rfl hz6 (fun q => ?_) (fun q => ?_)
        · have h := h.1 q
          refine jm_aload_n (pc := 39) 0 dX12_canCall_39 rfl ?_
          refine jm_getr (pc := 40) 1 dX12_canCall_40 fX12_7 (cR0 hg) rfl ?_
          refine jm_iconst (pc := 43) dX12_canCall_43 ?_
          refine jm_iald (pc := 44) dX12_canCall_44 (cR1 hg) (by decide) (by decide) (by decide) ?_
          refine jm_bipush (pc := 45) dX12_canCall_45 (by decide) ?_
          refine jm_icmp_ge (pc := 47) 78 dX12_canCall_47 rfl (hm7 _ _) ⟨by decide, by decide⟩ (fun q => ?_) (fun q => ?_)
          · have h := h.1 q
            refine jm_iconst (pc := 78) dX12_canCall_78 ?_
            exact jm_zret (pc := 79) dX12_canCall_79 rfl (Or.inl rfl) h
          · have h := h.2 q
            refine jm_aload_n (pc := 50) 0 dX12_canCall_50 rfl ?_
            refine jm_getr (pc := 51) 1 dX12_canCall_51 fX12_7 (cR0 hg) rfl ?_
            refine jm_iconst (pc := 54) dX12_canCall_54 ?_
            refine jm_iald (pc := 55) dX12_canCall_55 (cR1 hg) (by decide) (by decide) (by decide) ?_
            refine jm_aload_n (pc := 56) 0 dX12_canCall_56 rfl ?_
            refine jm_iload_n (pc := 57) 1 dX12_canCall_57 rfl ?_
            refine jm_aload_n (pc := 58) 0 dX12_canCall_58 rfl ?_
            refine jm_iload_n (pc := 59) 1 dX12_canCall_59 rfl ?_
            refine jm_iload_n (pc := 60) 2 dX12_canCall_60 rfl ?_
            refine jm_callvi (pc := 61) (As := [_, _]) (st := [_, _, _]) iX12_motiveOf dX12_canCall_61 mX12_344 (cR0 hg) ⟨_, rfl, rfl⟩ rfl rfl (Nat.le_of_ble_eq_true rfl) h (fun z9 m8 hz10 h hm11 => ?_)
            have hg12 := h.1
            have h := h.2
            have hg13 := h.1
            have h := h.2
            have hg14 := h.1
            have h := h.2
            have hg15 := h.1
            have h := h.2
            refine jm_inlvi (pc := 64) (As := [_, _]) (st := [_]) iX12_barsFor dX12_canCall_64 mX12_354 (cR0 hg) ⟨_, rfl, rfl⟩ rfl rfl (Nat.le_of_ble_eq_true rfl) (pX12_barsFor hg hg12 hg13 hg14 hg15 (jm_kIi ?_))
            refine jm_iadd (pc := 67) dX12_canCall_67 ?_
            refine jm_sipush (pc := 68) dX12_canCall_68 (by decide) ?_
            have hg16 := h.1
            have h := h.2
            refine jm_icmp_gt (pc := 71) 78 dX12_canCall_71 rfl hg16 ⟨by decide, by decide⟩ (fun q => ?_) (fun q => ?_)
            · have h := h.1 q
              refine jm_iconst (pc := 78) dX12_canCall_78 ?_
              exact jm_zret (pc := 79) dX12_canCall_79 rfl (Or.inl rfl) h
            · have h := h.2 q
              refine jm_iconst (pc := 74) dX12_canCall_74 ?_
              refine jm_goto (pc := 75) 79 dX12_canCall_75 rfl ?_
              exact jm_zret (pc := 79) dX12_canCall_79 rfl (Or.inr rfl) h
        · have h := h.2 q
          refine jm_iconst (pc := 37) dX12_canCall_37 ?_
          exact jm_zret (pc := 38) dX12_canCall_38 rfl (Or.inl rfl) h
      · have h := h.2 q
        refine jm_if_eq (pc := 24) 37 dX12_canCall_24 rfl ⟨by decide, by decide⟩ (fun q => ?_) (fun q => absurd q (by decide))
        refine jm_iconst (pc := 37) dX12_canCall_37 ?_
        exact jm_zret (pc := 38) dX12_canCall_38 rfl (Or.inl rfl) h
    · have h := h.2 q
      refine jm_if_eq (pc := 13) 37 dX12_canCall_13 rfl ⟨by decide, by decide⟩ (fun q => ?_) (fun q => absurd q (by decide))
      refine jm_iconst (pc := 37) dX12_canCall_37 ?_
      exact jm_zret (pc := 38) dX12_canCall_38 rfl (Or.inl rfl) h
  · have h := h.2 q
    refine jm_if_eq (pc := 5) 37 dX12_canCall_5 rfl ⟨by decide, by decide⟩ (fun q => ?_) (fun q => absurd q (by decide))
    refine jm_iconst (pc := 37) dX12_canCall_37 ?_
    exact jm_zret (pc := 38) dX12_canCall_38 rfl (Or.inl rfl) h
theorem dX12_bars_0 : decode cX12_bars 0 = .ok (.aload_n 0, 1) := by decide +kernel
theorem dX12_bars_1 : decode cX12_bars 1 = .ok (.getfield 86, 3) := by decide +kernel
theorem dX12_bars_4 : decode cX12_bars 4 = .ok (.aload_n 0, 1) := by decide +kernel
theorem dX12_bars_5 : decode cX12_bars 5 = .ok (.getfield 7, 3) := by decide +kernel
theorem dX12_bars_8 : decode cX12_bars 8 = .ok (.iconst 3, 1) := by decide +kernel
theorem dX12_bars_9 : decode cX12_bars 9 = .ok (.iaload, 1) := by decide +kernel
theorem dX12_bars_10 : decode cX12_bars 10 = .ok (.iload_n 1, 1) := by decide +kernel
theorem dX12_bars_11 : decode cX12_bars 11 = .ok (.iastore, 1) := by decide +kernel
theorem dX12_bars_12 : decode cX12_bars 12 = .ok (.aload_n 0, 1) := by decide +kernel
theorem dX12_bars_13 : decode cX12_bars 13 = .ok (.getfield 7, 3) := by decide +kernel
theorem dX12_bars_16 : decode cX12_bars 16 = .ok (.iconst 3, 1) := by decide +kernel
theorem dX12_bars_17 : decode cX12_bars 17 = .ok (.aload_n 0, 1) := by decide +kernel
theorem dX12_bars_18 : decode cX12_bars 18 = .ok (.getfield 7, 3) := by decide +kernel
theorem dX12_bars_21 : decode cX12_bars 21 = .ok (.iconst 3, 1) := by decide +kernel
theorem dX12_bars_22 : decode cX12_bars 22 = .ok (.iaload, 1) := by decide +kernel
theorem dX12_bars_23 : decode cX12_bars 23 = .ok (.iconst 1, 1) := by decide +kernel
theorem dX12_bars_24 : decode cX12_bars 24 = .ok (.iadd, 1) := by decide +kernel
theorem dX12_bars_25 : decode cX12_bars 25 = .ok (.iastore, 1) := by decide +kernel
theorem dX12_bars_26 : decode cX12_bars 26 = .ok (.return_, 1) := by decide +kernel
theorem eX12_bars {l : Launch} {g : jm_G} {d : Nat} {v1 : Int} (hg : jm_HR g) {mu : jm_M} {Q : Option Value → jm_M → Prop} (h : (0 ≤ (mu.1 1 3) ∧ (mu.1 1 3) < 200) ∧ jm_rg v1 ∧ ∀ m3, m3 = jm_wr mu 25 (mu.1 1 3) v1 → jm_rg ((m3.1 1 3) + 1) ∧ ∀ m6, m6 = jm_wr m3 1 3 ((m3.1 1 3) + 1) → Q none m6) : jm_R l g (d + 1) iX12_bars [.ref 0, jm_i v1] mu Q := by
  refine jm_enter [(0, .ref 0), (1, jm_i v1)] (by decide) (Nat.le_of_ble_eq_true rfl) rfl ?_
  refine jm_mrI (fun hm0 => ?_)
  refine jm_aload_n (pc := 0) 0 dX12_bars_0 rfl ?_
  refine jm_getr (pc := 1) 46 dX12_bars_1 fX12_86 (cR0 hg) rfl ?_
  refine jm_aload_n (pc := 4) 0 dX12_bars_4 rfl ?_
  refine jm_getr (pc := 5) 1 dX12_bars_5 fX12_7 (cR0 hg) rfl ?_
  refine jm_iconst (pc := 8) dX12_bars_8 ?_
  refine jm_iald (pc := 9) dX12_bars_9 (cR1 hg) (by decide) (by decide) (by decide) ?_
  refine jm_iload_n (pc := 10) 1 dX12_bars_10 rfl ?_
  have hg1 := h.1
  have h := h.2
  have hg2 := h.1
  have h := h.2
  refine jm_iast (pc := 11) dX12_bars_11 (cR25 hg) (by decide) hg1.1 hg1.2 hg2 ?_
  have h := h _ rfl
  refine jm_mrI (fun hm4 => ?_)
  refine jm_aload_n (pc := 12) 0 dX12_bars_12 rfl ?_
  refine jm_getr (pc := 13) 1 dX12_bars_13 fX12_7 (cR0 hg) rfl ?_
  refine jm_iconst (pc := 16) dX12_bars_16 ?_
  refine jm_aload_n (pc := 17) 0 dX12_bars_17 rfl ?_
  refine jm_getr (pc := 18) 1 dX12_bars_18 fX12_7 (cR0 hg) rfl ?_
  refine jm_iconst (pc := 21) dX12_bars_21 ?_
  refine jm_iald (pc := 22) dX12_bars_22 (cR1 hg) (by decide) (by decide) (by decide) ?_
  refine jm_iconst (pc := 23) dX12_bars_23 ?_
  refine jm_iadd (pc := 24) dX12_bars_24 ?_
  have hg5 := h.1
  have h := h.2
  refine jm_iast (pc := 25) dX12_bars_25 (cR1 hg) (by decide) (by decide) (by decide) hg5 ?_
  have h := h _ rfl
  refine jm_mrI (fun hm7 => ?_)
  exact jm_vret (pc := 26) dX12_bars_26 rfl h
theorem pX12_bars {l : Launch} {g : jm_G} {d : Nat} {v1 : Int} (hg : jm_HR g) {mu : jm_M} {Q : Option Value → jm_M → Prop} (o0 : 0 ≤ (mu.1 1 3) ∧ (mu.1 1 3) < 200) (o1 : jm_rg v1) (o2 : jm_rg (((jm_wr mu 25 (mu.1 1 3) v1).1 1 3) + 1)) (h : Q none (jm_wr (jm_wr mu 25 (mu.1 1 3) v1) 1 3 (((jm_wr mu 25 (mu.1 1 3) v1).1 1 3) + 1))) : jm_R l g (d + 1) iX12_bars [.ref 0, jm_i v1] mu Q := by
  refine eX12_bars hg ?_
  refine ⟨o0, ?_⟩
  refine ⟨o1, ?_⟩
  intro x hx
  subst hx
  refine ⟨o2, ?_⟩
  intro x hx
  subst hx
  exact h
theorem dX12_sings_0 : decode cX12_sings 0 = .ok (.aload_n 0, 1) := by decide +kernel
theorem dX12_sings_1 : decode cX12_sings 1 = .ok (.iload_n 1, 1) := by decide +kernel
theorem dX12_sings_2 : decode cX12_sings 2 = .ok (.iload_n 2, 1) := by decide +kernel
theorem dX12_sings_3 : decode cX12_sings 3 = .ok (.invokevirtual 344, 3) := by decide +kernel
theorem dX12_sings_6 : decode cX12_sings 6 = .ok (.istore 4, 2) := by decide +kernel
theorem dX12_sings_8 : decode cX12_sings 8 = .ok (.aload_n 0, 1) := by decide +kernel
theorem dX12_sings_9 : decode cX12_sings 9 = .ok (.iload_n 1, 1) := by decide +kernel
theorem dX12_sings_10 : decode cX12_sings 10 = .ok (.iload_n 2, 1) := by decide +kernel
theorem dX12_sings_11 : decode cX12_sings 11 = .ok (.invokevirtual 341, 3) := by decide +kernel
theorem dX12_sings_14 : decode cX12_sings 14 = .ok (.istore 5, 2) := by decide +kernel
theorem dX12_sings_16 : decode cX12_sings 16 = .ok (.aload_n 0, 1) := by decide +kernel
theorem dX12_sings_17 : decode cX12_sings 17 = .ok (.getfield 7, 3) := by decide +kernel
theorem dX12_sings_20 : decode cX12_sings 20 = .ok (.iconst 3, 1) := by decide +kernel
theorem dX12_sings_21 : decode cX12_sings 21 = .ok (.iaload, 1) := by decide +kernel
theorem dX12_sings_22 : decode cX12_sings 22 = .ok (.istore 6, 2) := by decide +kernel
theorem dX12_sings_24 : decode cX12_sings 24 = .ok (.iconst 0, 1) := by decide +kernel
theorem dX12_sings_25 : decode cX12_sings 25 = .ok (.istore 7, 2) := by decide +kernel
theorem dX12_sings_27 : decode cX12_sings 27 = .ok (.iconst 0, 1) := by decide +kernel
theorem dX12_sings_28 : decode cX12_sings 28 = .ok (.istore 8, 2) := by decide +kernel
theorem dX12_sings_30 : decode cX12_sings 30 = .ok (.iload 8, 2) := by decide +kernel
theorem dX12_sings_32 : decode cX12_sings 32 = .ok (.aload_n 0, 1) := by decide +kernel
theorem dX12_sings_33 : decode cX12_sings 33 = .ok (.iload 4, 2) := by decide +kernel
theorem dX12_sings_35 : decode cX12_sings 35 = .ok (.invokevirtual 335, 3) := by decide +kernel
theorem dX12_sings_38 : decode cX12_sings 38 = .ok (.if_icmp .ge 103, 3) := by decide +kernel
theorem dX12_sings_41 : decode cX12_sings 41 = .ok (.iload 8, 2) := by decide +kernel
theorem dX12_sings_43 : decode cX12_sings 43 = .ok (.ifCond .le 20, 3) := by decide +kernel
theorem dX12_sings_46 : decode cX12_sings 46 = .ok (.iload 8, 2) := by decide +kernel
theorem dX12_sings_48 : decode cX12_sings 48 = .ok (.aload_n 0, 1) := by decide +kernel
theorem dX12_sings_49 : decode cX12_sings 49 = .ok (.getfield 22, 3) := by decide +kernel
theorem dX12_sings_52 : decode cX12_sings 52 = .ok (.iload_n 1, 1) := by decide +kernel
theorem dX12_sings_53 : decode cX12_sings 53 = .ok (.iaload, 1) := by decide +kernel
theorem dX12_sings_54 : decode cX12_sings 54 = .ok (.irem, 1) := by decide +kernel
theorem dX12_sings_55 : decode cX12_sings 55 = .ok (.ifCond .ne 8, 3) := by decide +kernel
theorem dX12_sings_58 : decode cX12_sings 58 = .ok (.aload_n 0, 1) := by decide +kernel
theorem dX12_sings_59 : decode cX12_sings 59 = .ok (.iconst 0, 1) := by decide +kernel
theorem dX12_sings_60 : decode cX12_sings 60 = .ok (.invokevirtual 357, 3) := by decide +kernel
theorem dX12_sings_63 : decode cX12_sings 63 = .ok (.iload_n 3, 1) := by decide +kernel
theorem dX12_sings_64 : decode cX12_sings 64 = .ok (.iconst 1, 1) := by decide +kernel
theorem dX12_sings_65 : decode cX12_sings 65 = .ok (.iadd, 1) := by decide +kernel
theorem dX12_sings_66 : decode cX12_sings 66 = .ok (.aload_n 0, 1) := by decide +kernel
theorem dX12_sings_67 : decode cX12_sings 67 = .ok (.iload 4, 2) := by decide +kernel
theorem dX12_sings_69 : decode cX12_sings 69 = .ok (.iload 8, 2) := by decide +kernel
theorem dX12_sings_71 : decode cX12_sings 71 = .ok (.invokevirtual 338, 3) := by decide +kernel
theorem dX12_sings_74 : decode cX12_sings 74 = .ok (.iadd, 1) := by decide +kernel
theorem dX12_sings_75 : decode cX12_sings 75 = .ok (.istore 9, 2) := by decide +kernel
theorem dX12_sings_77 : decode cX12_sings 77 = .ok (.aload_n 0, 1) := by decide +kernel
theorem dX12_sings_78 : decode cX12_sings 78 = .ok (.sipush 1000, 3) := by decide +kernel
theorem dX12_sings_81 : decode cX12_sings 81 = .ok (.invokevirtual 360, 3) := by decide +kernel
theorem dX12_sings_84 : decode cX12_sings 84 = .ok (.aload_n 0, 1) := by decide +kernel
theorem dX12_sings_85 : decode cX12_sings 85 = .ok (.iload_n 1, 1) := by decide +kernel
theorem dX12_sings_86 : decode cX12_sings 86 = .ok (.iload_n 2, 1) := by decide +kernel
theorem dX12_sings_87 : decode cX12_sings 87 = .ok (.iload 5, 2) := by decide +kernel
theorem dX12_sings_89 : decode cX12_sings 89 = .ok (.iload 8, 2) := by decide +kernel
theorem dX12_sings_91 : decode cX12_sings 91 = .ok (.iload 9, 2) := by decide +kernel
theorem dX12_sings_93 : decode cX12_sings 93 = .ok (.invokevirtual 363, 3) := by decide +kernel
theorem dX12_sings_96 : decode cX12_sings 96 = .ok (.if_icmp .ge 7, 3) := by decide +kernel
theorem dX12_sings_99 : decode cX12_sings 99 = .ok (.iconst 1, 1) := by decide +kernel
theorem dX12_sings_100 : decode cX12_sings 100 = .ok (.goto 4, 3) := by decide +kernel
theorem dX12_sings_103 : decode cX12_sings 103 = .ok (.iconst 0, 1) := by decide +kernel
theorem dX12_sings_104 : decode cX12_sings 104 = .ok (.istore 10, 2) := by decide +kernel
theorem dX12_sings_106 : decode cX12_sings 106 = .ok (.aload_n 0, 1) := by decide +kernel
theorem dX12_sings_107 : decode cX12_sings 107 = .ok (.iload 10, 2) := by decide +kernel
theorem dX12_sings_109 : decode cX12_sings 109 = .ok (.ifCond .eq 10, 3) := by decide +kernel
theorem dX12_sings_112 : decode cX12_sings 112 = .ok (.iload 9, 2) := by decide +kernel
theorem dX12_sings_114 : decode cX12_sings 114 = .ok (.iconst 1, 1) := by decide +kernel
theorem dX12_sings_115 : decode cX12_sings 115 = .ok (.isub, 1) := by decide +kernel
theorem dX12_sings_116 : decode cX12_sings 116 = .ok (.goto 5, 3) := by decide +kernel
theorem dX12_sings_119 : decode cX12_sings 119 = .ok (.iload 9, 2) := by decide +kernel
theorem dX12_sings_121 : decode cX12_sings 121 = .ok (.invokevirtual 357, 3) := by decide +kernel
theorem dX12_sings_124 : decode cX12_sings 124 = .ok (.iload 10, 2) := by decide +kernel
theorem dX12_sings_126 : decode cX12_sings 126 = .ok (.ifCond .eq 9, 3) := by decide +kernel
theorem dX12_sings_129 : decode cX12_sings 129 = .ok (.iload 7, 2) := by decide +kernel
theorem dX12_sings_131 : decode cX12_sings 131 = .ok (.iconst 1, 1) := by decide +kernel
theorem dX12_sings_132 : decode cX12_sings 132 = .ok (.iadd, 1) := by decide +kernel
theorem dX12_sings_133 : decode cX12_sings 133 = .ok (.istore 7, 2) := by decide +kernel
theorem dX12_sings_135 : decode cX12_sings 135 = .ok (.iinc 8 1, 3) := by decide +kernel
theorem dX12_sings_138 : decode cX12_sings 138 = .ok (.goto (-108), 3) := by decide +kernel
theorem dX12_sings_141 : decode cX12_sings 141 = .ok (.aload_n 0, 1) := by decide +kernel
theorem dX12_sings_142 : decode cX12_sings 142 = .ok (.iload_n 1, 1) := by decide +kernel
theorem dX12_sings_143 : decode cX12_sings 143 = .ok (.aload_n 0, 1) := by decide +kernel
theorem dX12_sings_144 : decode cX12_sings 144 = .ok (.iload_n 1, 1) := by decide +kernel
theorem dX12_sings_145 : decode cX12_sings 145 = .ok (.invokevirtual 317, 3) := by decide +kernel
theorem dX12_sings_148 : decode cX12_sings 148 = .ok (.aload_n 0, 1) := by decide +kernel
theorem dX12_sings_149 : decode cX12_sings 149 = .ok (.iload_n 1, 1) := by decide +kernel
theorem dX12_sings_150 : decode cX12_sings 150 = .ok (.iload_n 2, 1) := by decide +kernel
theorem dX12_sings_151 : decode cX12_sings 151 = .ok (.iload 5, 2) := by decide +kernel
theorem dX12_sings_153 : decode cX12_sings 153 = .ok (.invokevirtual 367, 3) := by decide +kernel
theorem dX12_sings_156 : decode cX12_sings 156 = .ok (.isub, 1) := by decide +kernel
theorem dX12_sings_157 : decode cX12_sings 157 = .ok (.invokevirtual 142, 3) := by decide +kernel
theorem dX12_sings_160 : decode cX12_sings 160 = .ok (.bipush 6, 2) := by decide +kernel
theorem dX12_sings_162 : decode cX12_sings 162 = .ok (.aload_n 0, 1) := by decide +kernel
theorem dX12_sings_163 : decode cX12_sings 163 = .ok (.getfield 7, 3) := by decide +kernel
theorem dX12_sings_166 : decode cX12_sings 166 = .ok (.iconst 4, 1) := by decide +kernel
theorem dX12_sings_167 : decode cX12_sings 167 = .ok (.iaload, 1) := by decide +kernel
theorem dX12_sings_168 : decode cX12_sings 168 = .ok (.imul, 1) := by decide +kernel
theorem dX12_sings_169 : decode cX12_sings 169 = .ok (.istore 8, 2) := by decide +kernel
theorem dX12_sings_171 : decode cX12_sings 171 = .ok (.aload_n 0, 1) := by decide +kernel
theorem dX12_sings_172 : decode cX12_sings 172 = .ok (.getfield 83, 3) := by decide +kernel
theorem dX12_sings_175 : decode cX12_sings 175 = .ok (.iload 8, 2) := by decide +kernel
theorem dX12_sings_177 : decode cX12_sings 177 = .ok (.iconst 0, 1) := by decide +kernel
theorem dX12_sings_178 : decode cX12_sings 178 = .ok (.iadd, 1) := by decide +kernel
theorem dX12_sings_179 : decode cX12_sings 179 = .ok (.iload_n 1, 1) := by decide +kernel
theorem dX12_sings_180 : decode cX12_sings 180 = .ok (.iastore, 1) := by decide +kernel
theorem dX12_sings_181 : decode cX12_sings 181 = .ok (.aload_n 0, 1) := by decide +kernel
theorem dX12_sings_182 : decode cX12_sings 182 = .ok (.getfield 83, 3) := by decide +kernel
theorem dX12_sings_185 : decode cX12_sings 185 = .ok (.iload 8, 2) := by decide +kernel
theorem dX12_sings_187 : decode cX12_sings 187 = .ok (.iconst 1, 1) := by decide +kernel
theorem dX12_sings_188 : decode cX12_sings 188 = .ok (.iadd, 1) := by decide +kernel
theorem dX12_sings_189 : decode cX12_sings 189 = .ok (.iload_n 2, 1) := by decide +kernel
theorem dX12_sings_190 : decode cX12_sings 190 = .ok (.iastore, 1) := by decide +kernel
theorem dX12_sings_191 : decode cX12_sings 191 = .ok (.aload_n 0, 1) := by decide +kernel
theorem dX12_sings_192 : decode cX12_sings 192 = .ok (.getfield 83, 3) := by decide +kernel
theorem dX12_sings_195 : decode cX12_sings 195 = .ok (.iload 8, 2) := by decide +kernel
theorem dX12_sings_197 : decode cX12_sings 197 = .ok (.iconst 2, 1) := by decide +kernel
theorem dX12_sings_198 : decode cX12_sings 198 = .ok (.iadd, 1) := by decide +kernel
theorem dX12_sings_199 : decode cX12_sings 199 = .ok (.iload 5, 2) := by decide +kernel
theorem dX12_sings_201 : decode cX12_sings 201 = .ok (.iastore, 1) := by decide +kernel
theorem dX12_sings_202 : decode cX12_sings 202 = .ok (.aload_n 0, 1) := by decide +kernel
theorem dX12_sings_203 : decode cX12_sings 203 = .ok (.getfield 83, 3) := by decide +kernel
theorem dX12_sings_206 : decode cX12_sings 206 = .ok (.iload 8, 2) := by decide +kernel
theorem dX12_sings_208 : decode cX12_sings 208 = .ok (.iconst 3, 1) := by decide +kernel
theorem dX12_sings_209 : decode cX12_sings 209 = .ok (.iadd, 1) := by decide +kernel
theorem dX12_sings_210 : decode cX12_sings 210 = .ok (.iload 7, 2) := by decide +kernel
theorem dX12_sings_212 : decode cX12_sings 212 = .ok (.iastore, 1) := by decide +kernel
theorem dX12_sings_213 : decode cX12_sings 213 = .ok (.aload_n 0, 1) := by decide +kernel
theorem dX12_sings_214 : decode cX12_sings 214 = .ok (.getfield 83, 3) := by decide +kernel
theorem dX12_sings_217 : decode cX12_sings 217 = .ok (.iload 8, 2) := by decide +kernel
theorem dX12_sings_219 : decode cX12_sings 219 = .ok (.iconst 4, 1) := by decide +kernel
theorem dX12_sings_220 : decode cX12_sings 220 = .ok (.iadd, 1) := by decide +kernel
theorem dX12_sings_221 : decode cX12_sings 221 = .ok (.iload 6, 2) := by decide +kernel
theorem dX12_sings_223 : decode cX12_sings 223 = .ok (.iastore, 1) := by decide +kernel
theorem dX12_sings_224 : decode cX12_sings 224 = .ok (.aload_n 0, 1) := by decide +kernel
theorem dX12_sings_225 : decode cX12_sings 225 = .ok (.getfield 83, 3) := by decide +kernel
theorem dX12_sings_228 : decode cX12_sings 228 = .ok (.iload 8, 2) := by decide +kernel
theorem dX12_sings_230 : decode cX12_sings 230 = .ok (.iconst 5, 1) := by decide +kernel
theorem dX12_sings_231 : decode cX12_sings 231 = .ok (.iadd, 1) := by decide +kernel
theorem dX12_sings_232 : decode cX12_sings 232 = .ok (.aload_n 0, 1) := by decide +kernel
theorem dX12_sings_233 : decode cX12_sings 233 = .ok (.getfield 7, 3) := by decide +kernel
theorem dX12_sings_236 : decode cX12_sings 236 = .ok (.iconst 3, 1) := by decide +kernel
theorem dX12_sings_237 : decode cX12_sings 237 = .ok (.iaload, 1) := by decide +kernel
theorem dX12_sings_238 : decode cX12_sings 238 = .ok (.iload 6, 2) := by decide +kernel
theorem dX12_sings_240 : decode cX12_sings 240 = .ok (.isub, 1) := by decide +kernel
theorem dX12_sings_241 : decode cX12_sings 241 = .ok (.iastore, 1) := by decide +kernel
theorem dX12_sings_242 : decode cX12_sings 242 = .ok (.aload_n 0, 1) := by decide +kernel
theorem dX12_sings_243 : decode cX12_sings 243 = .ok (.getfield 7, 3) := by decide +kernel
theorem dX12_sings_246 : decode cX12_sings 246 = .ok (.iconst 4, 1) := by decide +kernel
theorem dX12_sings_247 : decode cX12_sings 247 = .ok (.aload_n 0, 1) := by decide +kernel
theorem dX12_sings_248 : decode cX12_sings 248 = .ok (.getfield 7, 3) := by decide +kernel
theorem dX12_sings_251 : decode cX12_sings 251 = .ok (.iconst 4, 1) := by decide +kernel
theorem dX12_sings_252 : decode cX12_sings 252 = .ok (.iaload, 1) := by decide +kernel
theorem dX12_sings_253 : decode cX12_sings 253 = .ok (.iconst 1, 1) := by decide +kernel
theorem dX12_sings_254 : decode cX12_sings 254 = .ok (.iadd, 1) := by decide +kernel
theorem dX12_sings_255 : decode cX12_sings 255 = .ok (.iastore, 1) := by decide +kernel
theorem dX12_sings_256 : decode cX12_sings 256 = .ok (.aload_n 0, 1) := by decide +kernel
theorem dX12_sings_257 : decode cX12_sings 257 = .ok (.iconst 0, 1) := by decide +kernel
theorem dX12_sings_258 : decode cX12_sings 258 = .ok (.iload_n 1, 1) := by decide +kernel
theorem dX12_sings_259 : decode cX12_sings 259 = .ok (.iload_n 2, 1) := by decide +kernel
theorem dX12_sings_260 : decode cX12_sings 260 = .ok (.iload 7, 2) := by decide +kernel
theorem dX12_sings_262 : decode cX12_sings 262 = .ok (.invokevirtual 370, 3) := by decide +kernel
theorem dX12_sings_265 : decode cX12_sings 265 = .ok (.iload 7, 2) := by decide +kernel
theorem dX12_sings_267 : decode cX12_sings 267 = .ok (.ireturn, 1) := by decide +kernel
theorem bX12_sings_121 {l : Launch} {g : jm_G} {d : Nat} {v1 v2 v3 v4 v5 v6 v7 v8 v10 s0 : Int} (hg : jm_HR g) {mu : jm_M} {Q : Option Value → jm_M → Prop} (h : (0 ≤ (mu.1 1 3) ∧ (mu.1 1 3) < 200) ∧ jm_rg s0 ∧ (jm_rg (((jm_wr mu 25 (mu.1 1 3) s0).1 1 3) + 1)) ∧ ∀ m4, m4 = (jm_wr (jm_wr mu 25 (mu.1 1 3) s0) 1 3 (((jm_wr mu 25 (mu.1 1 3) s0).1 1 3) + 1)) → jm_rg v10 ∧ (v10 = 0 → jm_V l g (d + 2) iX12_sings 30 [(0, .ref 0), (1, jm_i v1), (2, jm_i v2), (3, jm_i v3), (4, jm_i v4), (5, jm_i v5), (6, jm_i v6), (7, jm_i v7), (8, jm_i (v8 + 1))] [] m4 Q) ∧ (¬ v10 = 0 → ∀ x7, x7 = (v7 + 1) → jm_V l g (d + 2) iX12_sings 30 [(0, .ref 0), (1, jm_i v1), (2, jm_i v2), (3, jm_i v3), (4, jm_i v4), (5, jm_i v5), (6, jm_i v6), (7, jm_i x7), (8, jm_i (v8 + 1))] [] m4 Q)) : jm_V l g (d + 2) iX12_sings 121 [(0, .ref 0), (1, jm_i v1), (2, jm_i v2), (3, jm_i v3), (4, jm_i v4), (5, jm_i v5), (6, jm_i v6), (7, jm_i v7), (8, jm_i v8), (10, jm_i v10)] [jm_i s0, .ref 0] mu Q := by
  refine jm_mrI (fun hm0 => ?_)
  have hg1 := h.1
  have h := h.2
  have hg2 := h.1
  have h := h.2
  have hg3 := h.1
  have h := h.2
  refine jm_inlvv (pc := 121) (As := [_]) (st := []) iX12_bars dX12_sings_121 mX12_357 (cR0 hg) ⟨_, rfl, rfl⟩ rfl rfl (Nat.le_of_ble_eq_true rfl) (pX12_bars hg hg1 hg2 hg3 (jm_kVi ?_))
  have h := h _ rfl
  refine jm_mrI (fun hm5 => ?_)
  refine jm_iload (pc := 124) 9 dX12_sings_124 rfl ?_
  have hg6 := h.1
  have h := h.2
  refine jm_if_eq (pc := 126) 135 dX12_sings_126 rfl hg6 (fun q => ?_) (fun q => ?_)
  · have h := h.1 q
    refine jm_iinc (pc := 135) (lv' := [(8, _), (0, _), (1, _), (2, _), (3, _), (4, _), (5, _), (6, _), (7, _), (10, _)]) 8 dX12_sings_135 rfl (by decide) rfl ?_
    refine jm_goto (pc := 138) 30 dX12_sings_138 rfl ?_
    exact jm_sub [1, 2, 3, 4, 5, 6, 7, 8, 0] rfl h
  · have h := h.2 q
    refine jm_iload (pc := 129) 7 dX12_sings_129 rfl ?_
    refine jm_iconst (pc := 131) dX12_sings_131 ?_
    refine jm_iadd (pc := 132) dX12_sings_132 ?_
    have h := h _ rfl
    refine jm_istore (pc := 133) (lv' := [(7, _), (0, _), (1, _), (2, _), (3, _), (4, _), (5, _), (6, _), (8, _), (10, _)]) dX12_sings_133 (by decide) rfl ?_
    refine jm_iinc (pc := 135) (lv' := [(8, _), (7, _), (0, _), (1, _), (2, _), (3, _), (4, _), (5, _), (6, _), (10, _)]) 8 dX12_sings_135 rfl (by decide) rfl ?_
    refine jm_goto (pc := 138) 30 dX12_sings_138 rfl ?_
    exact jm_sub [2, 3, 4, 5, 6, 7, 8, 1, 0] rfl h
theorem bX12_sings_63 {l : Launch} {g : jm_G} {d : Nat} {v1 v2 v3 v4 v5 v6 v7 v8 : Int} (hg : jm_HR g) {mu : jm_M} {Q : Option Value → jm_M → Prop} (h : jm_R l g (d + 1) iX12_aboveOf [.ref 0, jm_i v4, jm_i v8] mu (jm_qi fun z2 m1 => ∀ x5, x5 = ((v3 + 1) + z2) → ∀ m6, m6 = (jm_wr m1 1 1 (jm_nm ((1664525 * (m1.1 1 1)) + 1013904223))) → jm_R l g (d + 1) iX12_slipOf [.ref 0, jm_i v1, jm_i v2, jm_i v5, jm_i v8, jm_i x5] m6 (jm_qi fun z9 m8 => jm_rg (Int.tmod (jm_ushr ((jm_wr m1 1 1 (jm_nm ((1664525 * (m1.1 1 1)) + 1013904223))).1 1 1) 8) 1000) ∧ (z9 ≤ (Int.tmod (jm_ushr ((jm_wr m1 1 1 (jm_nm ((1664525 * (m1.1 1 1)) + 1013904223))).1 1 1) 8) 1000) → jm_V l g (d + 2) iX12_sings 121 [(0, .ref 0), (1, jm_i v1), (2, jm_i v2), (3, jm_i v3), (4, jm_i v4), (5, jm_i v5), (6, jm_i v6), (7, jm_i v7), (8, jm_i v8), (10, jm_i 0)] [jm_i x5, .ref 0] m8 Q) ∧ ((Int.tmod (jm_ushr ((jm_wr m1 1 1 (jm_nm ((1664525 * (m1.1 1 1)) + 1013904223))).1 1 1) 8) 1000) < z9 → jm_V l g (d + 2) iX12_sings 121 [(0, .ref 0), (1, jm_i v1), (2, jm_i v2), (3, jm_i v3), (4, jm_i v4), (5, jm_i v5), (6, jm_i v6), (7, jm_i v7), (8, jm_i v8), (10, jm_i 1)] [jm_i (x5 - 1), .ref 0] m8 Q)))) : jm_V l g (d + 2) iX12_sings 63 [(0, .ref 0), (1, jm_i v1), (2, jm_i v2), (3, jm_i v3), (4, jm_i v4), (5, jm_i v5), (6, jm_i v6), (7, jm_i v7), (8, jm_i v8)] [] mu Q := by
  refine jm_mrI (fun hm0 => ?_)
  refine jm_iload_n (pc := 63) 3 dX12_sings_63 rfl ?_
  refine jm_iconst (pc := 64) dX12_sings_64 ?_
  refine jm_iadd (pc := 65) dX12_sings_65 ?_
  refine jm_aload_n (pc := 66) 0 dX12_sings_66 rfl ?_
  refine jm_iload (pc := 67) 4 dX12_sings_67 rfl ?_
  refine jm_iload (pc := 69) 8 dX12_sings_69 rfl ?_
  refine jm_callvi (pc := 71) (As := [_, _]) (st := [_]) iX12_aboveOf dX12_sings_71 mX12_338 (cR0 hg) ⟨_, rfl, rfl⟩ rfl rfl (Nat.le_of_ble_eq_true rfl) h (fun z2 m1 hz3 h hm4 => ?_)
  refine jm_iadd (pc := 74) dX12_sings_74 ?_
  have h := h _ rfl
  refine jm_istore (pc := 75) (lv' := [(9, _), (0, _), (1, _), (2, _), (3, _), (4, _), (5, _), (6, _), (7, _), (8, _)]) dX12_sings_75 (by decide) rfl ?_
  refine jm_aload_n (pc := 77) 1 dX12_sings_77 rfl ?_
  refine jm_sipush (pc := 78) dX12_sings_78 (by decide) ?_
  refine jm_inlvi (pc := 81) (As := [_]) (st := []) iX12_draw dX12_sings_81 mX12_360 (cR0 hg) ⟨_, rfl, rfl⟩ rfl rfl (Nat.le_of_ble_eq_true rfl) (pX12_draw hg ⟨by decide, by decide⟩ (by decide) (jm_kIi ?_))
  have h := h _ rfl
  refine jm_mrI (fun hm7 => ?_)
  refine jm_aload_n (pc := 84) 1 dX12_sings_84 rfl ?_
  refine jm_iload_n (pc := 85) 2 dX12_sings_85 rfl ?_
  refine jm_iload_n (pc := 86) 3 dX12_sings_86 rfl ?_
  refine jm_iload (pc := 87) 6 dX12_sings_87 rfl ?_
  refine jm_iload (pc := 89) 9 dX12_sings_89 rfl ?_
  refine jm_iload (pc := 91) 0 dX12_sings_91 rfl ?_
  refine jm_callvi (pc := 93) (As := [_, _, _, _, _]) (st := [_]) iX12_slipOf dX12_sings_93 mX12_363 (cR0 hg) ⟨_, rfl, rfl⟩ rfl rfl (Nat.le_of_ble_eq_true rfl) h (fun z9 m8 hz10 h hm11 => ?_)
  have hg12 := h.1
  have h := h.2
  refine jm_icmp_ge (pc := 96) 103 dX12_sings_96 rfl hg12 hz10 (fun q => ?_) (fun q => ?_)
  · have h := h.1 q
    refine jm_iconst (pc := 103) dX12_sings_103 ?_
    refine jm_istore (pc := 104) (lv' := [(10, _), (9, _), (0, _), (1, _), (2, _), (3, _), (4, _), (5, _), (6, _), (7, _), (8, _)]) dX12_sings_104 (by decide) rfl ?_
    refine jm_aload_n (pc := 106) 2 dX12_sings_106 rfl ?_
    refine jm_iload (pc := 107) 0 dX12_sings_107 rfl ?_
    refine jm_if_eq (pc := 109) 119 dX12_sings_109 rfl ⟨by decide, by decide⟩ (fun q => ?_) (fun q => absurd q (by decide))
    refine jm_iload (pc := 119) 1 dX12_sings_119 rfl ?_
    exact jm_sub [2, 3, 4, 5, 6, 7, 8, 9, 10, 0] rfl h
  · have h := h.2 q
    refine jm_iconst (pc := 99) dX12_sings_99 ?_
    refine jm_goto (pc := 100) 104 dX12_sings_100 rfl ?_
    refine jm_istore (pc := 104) (lv' := [(10, _), (9, _), (0, _), (1, _), (2, _), (3, _), (4, _), (5, _), (6, _), (7, _), (8, _)]) dX12_sings_104 (by decide) rfl ?_
    refine jm_aload_n (pc := 106) 2 dX12_sings_106 rfl ?_
    refine jm_iload (pc := 107) 0 dX12_sings_107 rfl ?_
    refine jm_if_eq (pc := 109) 119 dX12_sings_109 rfl ⟨by decide, by decide⟩ (fun q => absurd q (by decide)) (fun q => ?_)
    refine jm_iload (pc := 112) 1 dX12_sings_112 rfl ?_
    refine jm_iconst (pc := 114) dX12_sings_114 ?_
    refine jm_isub (pc := 115) dX12_sings_115 ?_
    refine jm_goto (pc := 116) 121 dX12_sings_116 rfl ?_
    exact jm_sub [2, 3, 4, 5, 6, 7, 8, 9, 10, 0] rfl h
theorem bX12_sings_30 {l : Launch} {g : jm_G} {d : Nat} {v1 v2 v3 v4 v5 v6 v7 v8 : Int} (hg : jm_HR g) {mu : jm_M} {Q : Option Value → jm_M → Prop} (h : (0 ≤ (8 * v4) ∧ (8 * v4) < 384) ∧ jm_rg v8 ∧ ((mu.1 17 (8 * v4)) ≤ v8 → (0 ≤ (6 + v1) ∧ (6 + v1) < 22) ∧ jm_R l g (d + 1) iX12_shakeOf [.ref 0, jm_i v1, jm_i v2, jm_i v5] mu (jm_qi fun z5 m4 => jm_R l g (d + 1) iX12_nerveBe [.ref 0, jm_i v1, jm_i (((mu.1 1 (6 + v1)) + 50) - z5)] m4 (jm_qv fun m8 => ∀ x12, x12 = (6 * (m8.1 1 4)) → (0 ≤ (x12 + 0) ∧ (x12 + 0) < 120) ∧ jm_rg v1 ∧ ∀ m15, m15 = jm_wr m8 24 (x12 + 0) v1 → (0 ≤ (x12 + 1) ∧ (x12 + 1) < 120) ∧ jm_rg v2 ∧ ∀ m19, m19 = jm_wr m15 24 (x12 + 1) v2 → (0 ≤ (x12 + 2) ∧ (x12 + 2) < 120) ∧ jm_rg v5 ∧ ∀ m23, m23 = jm_wr m19 24 (x12 + 2) v5 → (0 ≤ (x12 + 3) ∧ (x12 + 3) < 120) ∧ jm_rg v7 ∧ ∀ m27, m27 = jm_wr m23 24 (x12 + 3) v7 → (0 ≤ (x12 + 4) ∧ (x12 + 4) < 120) ∧ jm_rg v6 ∧ ∀ m31, m31 = jm_wr m27 24 (x12 + 4) v6 → (0 ≤ (x12 + 5) ∧ (x12 + 5) < 120) ∧ jm_rg ((m31.1 1 3) - v6) ∧ ∀ m35, m35 = jm_wr m31 24 (x12 + 5) ((m31.1 1 3) - v6) → jm_rg ((m35.1 1 4) + 1) ∧ ∀ m38, m38 = jm_wr m35 1 4 ((m35.1 1 4) + 1) → jm_R l g (d + 1) iX12_notes [.ref 0, jm_i 0, jm_i v1, jm_i v2, jm_i v7] m38 (jm_qv fun m40 => Q (some (jm_i v7)) m40)))) ∧ (v8 < (mu.1 17 (8 * v4)) → (v8 ≤ 0 → jm_V l g (d + 2) iX12_sings 63 [(0, .ref 0), (1, jm_i v1), (2, jm_i v2), (3, jm_i v3), (4, jm_i v4), (5, jm_i v5), (6, jm_i v6), (7, jm_i v7), (8, jm_i v8)] [] mu Q) ∧ (0 < v8 → (0 ≤ v1 ∧ v1 < 8) ∧ ¬ (mu.1 5 v1) = 0 ∧ jm_rg (Int.tmod v8 (mu.1 5 v1)) ∧ (¬ (Int.tmod v8 (mu.1 5 v1)) = 0 → jm_V l g (d + 2) iX12_sings 63 [(0, .ref 0), (1, jm_i v1), (2, jm_i v2), (3, jm_i v3), (4, jm_i v4), (5, jm_i v5), (6, jm_i v6), (7, jm_i v7), (8, jm_i v8)] [] mu Q) ∧ ((Int.tmod v8 (mu.1 5 v1)) = 0 → (0 ≤ (mu.1 1 3) ∧ (mu.1 1 3) < 200) ∧ (jm_rg (((jm_wr mu 25 (mu.1 1 3) 0).1 1 3) + 1)) ∧ ∀ m49, m49 = (jm_wr (jm_wr mu 25 (mu.1 1 3) 0) 1 3 (((jm_wr mu 25 (mu.1 1 3) 0).1 1 3) + 1)) → jm_V l g (d + 2) iX12_sings 63 [(0, .ref 0), (1, jm_i v1), (2, jm_i v2), (3, jm_i v3), (4, jm_i v4), (5, jm_i v5), (6, jm_i v6), (7, jm_i v7), (8, jm_i v8)] [] m49 Q)))) : jm_V l g (d + 2) iX12_sings 30 [(0, .ref 0), (1, jm_i v1), (2, jm_i v2), (3, jm_i v3), (4, jm_i v4), (5, jm_i v5), (6, jm_i v6), (7, jm_i v7), (8, jm_i v8)] [] mu Q := by
  refine jm_mrI (fun hm0 => ?_)
  refine jm_iload (pc := 30) 8 dX12_sings_30 rfl ?_
  refine jm_aload_n (pc := 32) 0 dX12_sings_32 rfl ?_
  refine jm_iload (pc := 33) 4 dX12_sings_33 rfl ?_
  have hg1 := h.1
  have h := h.2
  refine jm_inlvi (pc := 35) (As := [_]) (st := [_]) iX12_notesOf dX12_sings_35 mX12_335 (cR0 hg) ⟨_, rfl, rfl⟩ rfl rfl (Nat.le_of_ble_eq_true rfl) (pX12_notesOf hg hg1 (jm_kIi ?_))
  have hg2 := h.1
  have h := h.2
  refine jm_icmp_ge (pc := 38) 141 dX12_sings_38 rfl hg2 (hm0 _ _) (fun q => ?_) (fun q => ?_)
  · have h := h.1 q
    refine jm_aload_n (pc := 141) 0 dX12_sings_141 rfl ?_
    refine jm_iload_n (pc := 142) 1 dX12_sings_142 rfl ?_
    refine jm_aload_n (pc := 143) 0 dX12_sings_143 rfl ?_
    refine jm_iload_n (pc := 144) 1 dX12_sings_144 rfl ?_
    have hg3 := h.1
    have h := h.2
    refine jm_inlvi (pc := 145) (As := [_]) (st := [_, _]) iX12_nerveOf dX12_sings_145 mX12_317 (cR0 hg) ⟨_, rfl, rfl⟩ rfl rfl (Nat.le_of_ble_eq_true rfl) (pX12_nerveOf hg hg3 (jm_kIi ?_))
    refine jm_aload_n (pc := 148) 0 dX12_sings_148 rfl ?_
    refine jm_iload_n (pc := 149) 1 dX12_sings_149 rfl ?_
    refine jm_iload_n (pc := 150) 2 dX12_sings_150 rfl ?_
    refine jm_iload (pc := 151) 5 dX12_sings_151 rfl ?_
    refine jm_callvi (pc := 153) (As := [_, _, _]) (st := [_, _, _]) iX12_shakeOf dX12_sings_153 mX12_367 (cR0 hg) ⟨_, rfl, rfl⟩ rfl rfl (Nat.le_of_ble_eq_true rfl) h (fun z5 m4 hz6 h hm7 => ?_)
    refine jm_isub (pc := 156) dX12_sings_156 ?_
    refine jm_callvv (pc := 157) (As := [_, _]) (st := []) iX12_nerveBe dX12_sings_157 mX12_142 (cR0 hg) ⟨_, rfl, rfl⟩ rfl rfl (Nat.le_of_ble_eq_true rfl) h (fun m8 h hm11 => ?_)
    refine jm_bipush (pc := 160) dX12_sings_160 (by decide) ?_
    refine jm_aload_n (pc := 162) 0 dX12_sings_162 rfl ?_
    refine jm_getr (pc := 163) 1 dX12_sings_163 fX12_7 (cR0 hg) rfl ?_
    refine jm_iconst (pc := 166) dX12_sings_166 ?_
    refine jm_iald (pc := 167) dX12_sings_167 (cR1 hg) (by decide) (by decide) (by decide) ?_
    refine jm_imul (pc := 168) dX12_sings_168 ?_
    have h := h _ rfl
    refine jm_istore (pc := 169) (lv' := [(8, _), (0, _), (1, _), (2, _), (3, _), (4, _), (5, _), (6, _), (7, _)]) dX12_sings_169 (by decide) rfl ?_
    refine jm_aload_n (pc := 171) 1 dX12_sings_171 rfl ?_
    refine jm_getr (pc := 172) 45 dX12_sings_172 fX12_83 (cR0 hg) rfl ?_
    refine jm_iload (pc := 175) 0 dX12_sings_175 rfl ?_
    refine jm_iconst (pc := 177) dX12_sings_177 ?_
    refine jm_iadd (pc := 178) dX12_sings_178 ?_
    refine jm_iload_n (pc := 179) 2 dX12_sings_179 rfl ?_
    have hg13 := h.1
    have h := h.2
    have hg14 := h.1
    have h := h.2
    refine jm_iast (pc := 180) dX12_sings_180 (cR24 hg) (by decide) hg13.1 hg13.2 hg14 ?_
    have h := h _ rfl
    refine jm_mrI (fun hm16 => ?_)
    refine jm_aload_n (pc := 181) 1 dX12_sings_181 rfl ?_
    refine jm_getr (pc := 182) 45 dX12_sings_182 fX12_83 (cR0 hg) rfl ?_
    refine jm_iload (pc := 185) 0 dX12_sings_185 rfl ?_
    refine jm_iconst (pc := 187) dX12_sings_187 ?_
    refine jm_iadd (pc := 188) dX12_sings_188 ?_
    refine jm_iload_n (pc := 189) 3 dX12_sings_189 rfl ?_
    have hg17 := h.1
    have h := h.2
    have hg18 := h.1
    have h := h.2
    refine jm_iast (pc := 190) dX12_sings_190 (cR24 hg) (by decide) hg17.1 hg17.2 hg18 ?_
    have h := h _ rfl
    refine jm_mrI (fun hm20 => ?_)
    refine jm_aload_n (pc := 191) 1 dX12_sings_191 rfl ?_
    refine jm_getr (pc := 192) 45 dX12_sings_192 fX12_83 (cR0 hg) rfl ?_
    refine jm_iload (pc := 195) 0 dX12_sings_195 rfl ?_
    refine jm_iconst (pc := 197) dX12_sings_197 ?_
    refine jm_iadd (pc := 198) dX12_sings_198 ?_
    refine jm_iload (pc := 199) 6 dX12_sings_199 rfl ?_
    have hg21 := h.1
    have h := h.2
    have hg22 := h.1
    have h := h.2
    refine jm_iast (pc := 201) dX12_sings_201 (cR24 hg) (by decide) hg21.1 hg21.2 hg22 ?_
    have h := h _ rfl
    refine jm_mrI (fun hm24 => ?_)
    refine jm_aload_n (pc := 202) 1 dX12_sings_202 rfl ?_
    refine jm_getr (pc := 203) 45 dX12_sings_203 fX12_83 (cR0 hg) rfl ?_
    refine jm_iload (pc := 206) 0 dX12_sings_206 rfl ?_
    refine jm_iconst (pc := 208) dX12_sings_208 ?_
    refine jm_iadd (pc := 209) dX12_sings_209 ?_
    refine jm_iload (pc := 210) 8 dX12_sings_210 rfl ?_
    have hg25 := h.1
    have h := h.2
    have hg26 := h.1
    have h := h.2
    refine jm_iast (pc := 212) dX12_sings_212 (cR24 hg) (by decide) hg25.1 hg25.2 hg26 ?_
    have h := h _ rfl
    refine jm_mrI (fun hm28 => ?_)
    refine jm_aload_n (pc := 213) 1 dX12_sings_213 rfl ?_
    refine jm_getr (pc := 214) 45 dX12_sings_214 fX12_83 (cR0 hg) rfl ?_
    refine jm_iload (pc := 217) 0 dX12_sings_217 rfl ?_
    refine jm_iconst (pc := 219) dX12_sings_219 ?_
    refine jm_iadd (pc := 220) dX12_sings_220 ?_
    refine jm_iload (pc := 221) 7 dX12_sings_221 rfl ?_
    have hg29 := h.1
    have h := h.2
    have hg30 := h.1
    have h := h.2
    refine jm_iast (pc := 223) dX12_sings_223 (cR24 hg) (by decide) hg29.1 hg29.2 hg30 ?_
    have h := h _ rfl
    refine jm_mrI (fun hm32 => ?_)
    refine jm_aload_n (pc := 224) 1 dX12_sings_224 rfl ?_
    refine jm_getr (pc := 225) 45 dX12_sings_225 fX12_83 (cR0 hg) rfl ?_
    refine jm_iload (pc := 228) 0 dX12_sings_228 rfl ?_
    refine jm_iconst (pc := 230) dX12_sings_230 ?_
    refine jm_iadd (pc := 231) dX12_sings_231 ?_
    refine jm_aload_n (pc := 232) 1 dX12_sings_232 rfl ?_
    refine jm_getr (pc := 233) 1 dX12_sings_233 fX12_7 (cR0 hg) rfl ?_
    refine jm_iconst (pc := 236) dX12_sings_236 ?_
    refine jm_iald (pc := 237) dX12_sings_237 (cR1 hg) (by decide) (by decide) (by decide) ?_
    refine jm_iload (pc := 238) 7 dX12_sings_238 rfl ?_
    refine jm_isub (pc := 240) dX12_sings_240 ?_
    have hg33 := h.1
    have h := h.2
    have hg34 := h.1
    have h := h.2
    refine jm_iast (pc := 241) dX12_sings_241 (cR24 hg) (by decide) hg33.1 hg33.2 hg34 ?_
    have h := h _ rfl
    refine jm_mrI (fun hm36 => ?_)
    refine jm_aload_n (pc := 242) 1 dX12_sings_242 rfl ?_
    refine jm_getr (pc := 243) 1 dX12_sings_243 fX12_7 (cR0 hg) rfl ?_
    refine jm_iconst (pc := 246) dX12_sings_246 ?_
    refine jm_aload_n (pc := 247) 1 dX12_sings_247 rfl ?_
    refine jm_getr (pc := 248) 1 dX12_sings_248 fX12_7 (cR0 hg) rfl ?_
    refine jm_iconst (pc := 251) dX12_sings_251 ?_
    refine jm_iald (pc := 252) dX12_sings_252 (cR1 hg) (by decide) (by decide) (by decide) ?_
    refine jm_iconst (pc := 253) dX12_sings_253 ?_
    refine jm_iadd (pc := 254) dX12_sings_254 ?_
    have hg37 := h.1
    have h := h.2
    refine jm_iast (pc := 255) dX12_sings_255 (cR1 hg) (by decide) (by decide) (by decide) hg37 ?_
    have h := h _ rfl
    refine jm_mrI (fun hm39 => ?_)
    refine jm_aload_n (pc := 256) 1 dX12_sings_256 rfl ?_
    refine jm_iconst (pc := 257) dX12_sings_257 ?_
    refine jm_iload_n (pc := 258) 2 dX12_sings_258 rfl ?_
    refine jm_iload_n (pc := 259) 3 dX12_sings_259 rfl ?_
    refine jm_iload (pc := 260) 8 dX12_sings_260 rfl ?_
    refine jm_callvv (pc := 262) (As := [_, _, _, _]) (st := []) iX12_notes dX12_sings_262 mX12_370 (cR0 hg) ⟨_, rfl, rfl⟩ rfl rfl (Nat.le_of_ble_eq_true rfl) h (fun m40 h hm43 => ?_)
    refine jm_iload (pc := 265) 8 dX12_sings_265 rfl ?_
    exact jm_iret (pc := 267) dX12_sings_267 rfl h
  · have h := h.2 q
    refine jm_iload (pc := 41) 8 dX12_sings_41 rfl ?_
    refine jm_if_le (pc := 43) 63 dX12_sings_43 rfl hg2 (fun q => ?_) (fun q => ?_)
    · have h := h.1 q
      exact jm_sub [0, 1, 2, 3, 4, 5, 6, 7, 8] rfl h
    · have h := h.2 q
      refine jm_iload (pc := 46) 8 dX12_sings_46 rfl ?_
      refine jm_aload_n (pc := 48) 0 dX12_sings_48 rfl ?_
      refine jm_getr (pc := 49) 7 dX12_sings_49 fX12_22 (cR0 hg) rfl ?_
      refine jm_iload_n (pc := 52) 1 dX12_sings_52 rfl ?_
      have hg44 := h.1
      have h := h.2
      refine jm_iald (pc := 53) dX12_sings_53 (cR5 hg) (by decide) hg44.1 hg44.2 ?_
      have hg45 := h.1
      have h := h.2
      refine jm_irem (pc := 54) hg2 (hm0 _ _) hg45 dX12_sings_54 ?_
      have hg46 := h.1
      have h := h.2
      refine jm_if_ne (pc := 55) 63 dX12_sings_55 rfl hg46 (fun q => ?_) (fun q => ?_)
      · have h := h.1 q
        exact jm_sub [0, 1, 2, 3, 4, 5, 6, 7, 8] rfl h
      · have h := h.2 q
        refine jm_aload_n (pc := 58) 0 dX12_sings_58 rfl ?_
        refine jm_iconst (pc := 59) dX12_sings_59 ?_
        have hg47 := h.1
        have h := h.2
        have hg48 := h.1
        have h := h.2
        refine jm_inlvv (pc := 60) (As := [_]) (st := []) iX12_bars dX12_sings_60 mX12_357 (cR0 hg) ⟨_, rfl, rfl⟩ rfl rfl (Nat.le_of_ble_eq_true rfl) (pX12_bars hg hg47 ⟨by decide, by decide⟩ hg48 (jm_kVi ?_))
        have h := h _ rfl
        refine jm_mrI (fun hm50 => ?_)
        exact jm_sub [0, 1, 2, 3, 4, 5, 6, 7, 8] rfl h
theorem eX12_sings {l : Launch} {g : jm_G} {d : Nat} {v1 v2 v3 : Int} (hg : jm_HR g) {mu : jm_M} {Q : Option Value → jm_M → Prop} (h : jm_R l g (d + 1) iX12_motiveOf [.ref 0, jm_i v1, jm_i v2] mu (jm_qi fun z2 m1 => (0 ≤ ((6 * v1) + v2) ∧ ((6 * v1) + v2) < 48) ∧ ∀ x6, x6 = ((m1.1 6 ((6 * v1) + v2)) - 1) → ∀ x7, x7 = (m1.1 1 3) → jm_V l g (d + 2) iX12_sings 30 [(0, .ref 0), (1, jm_i v1), (2, jm_i v2), (3, jm_i v3), (4, jm_i z2), (5, jm_i x6), (6, jm_i x7), (7, jm_i 0), (8, jm_i 0)] [] m1 Q)) : jm_R l g (d + 2) iX12_sings [.ref 0, jm_i v1, jm_i v2, jm_i v3] mu Q := by
  refine jm_enter [(0, .ref 0), (1, jm_i v1), (2, jm_i v2), (3, jm_i v3)] (by decide) (Nat.le_of_ble_eq_true rfl) rfl ?_
  refine jm_mrI (fun hm0 => ?_)
  refine jm_aload_n (pc := 0) 0 dX12_sings_0 rfl ?_
  refine jm_iload_n (pc := 1) 1 dX12_sings_1 rfl ?_
  refine jm_iload_n (pc := 2) 2 dX12_sings_2 rfl ?_
  refine jm_callvi (pc := 3) (As := [_, _]) (st := []) iX12_motiveOf dX12_sings_3 mX12_344 (cR0 hg) ⟨_, rfl, rfl⟩ rfl rfl (Nat.le_of_ble_eq_true rfl) h (fun z2 m1 hz3 h hm4 => ?_)
  refine jm_istore (pc := 6) (lv' := [(4, _), (0, _), (1, _), (2, _), (3, _)]) dX12_sings_6 (by decide) rfl ?_
  refine jm_aload_n (pc := 8) 1 dX12_sings_8 rfl ?_
  refine jm_iload_n (pc := 9) 2 dX12_sings_9 rfl ?_
  refine jm_iload_n (pc := 10) 3 dX12_sings_10 rfl ?_
  have hg5 := h.1
  have h := h.2
  refine jm_inlvi (pc := 11) (As := [_, _]) (st := []) iX12_claimOf dX12_sings_11 mX12_341 (cR0 hg) ⟨_, rfl, rfl⟩ rfl rfl (Nat.le_of_ble_eq_true rfl) (pX12_claimOf hg hg5 (jm_kIi ?_))
  have h := h _ rfl
  refine jm_istore (pc := 14) (lv' := [(5, _), (4, _), (0, _), (1, _), (2, _), (3, _)]) dX12_sings_14 (by decide) rfl ?_
  refine jm_aload_n (pc := 16) 2 dX12_sings_16 rfl ?_
  refine jm_getr (pc := 17) 1 dX12_sings_17 fX12_7 (cR0 hg) rfl ?_
  refine jm_iconst (pc := 20) dX12_sings_20 ?_
  refine jm_iald (pc := 21) dX12_sings_21 (cR1 hg) (by decide) (by decide) (by decide) ?_
  have h := h _ rfl
  refine jm_istore (pc := 22) (lv' := [(6, _), (5, _), (4, _), (0, _), (1, _), (2, _), (3, _)]) dX12_sings_22 (by decide) rfl ?_
  refine jm_iconst (pc := 24) dX12_sings_24 ?_
  refine jm_istore (pc := 25) (lv' := [(7, _), (6, _), (5, _), (4, _), (0, _), (1, _), (2, _), (3, _)]) dX12_sings_25 (by decide) rfl ?_
  refine jm_iconst (pc := 27) dX12_sings_27 ?_
  refine jm_istore (pc := 28) (lv' := [(8, _), (7, _), (6, _), (5, _), (4, _), (0, _), (1, _), (2, _), (3, _)]) dX12_sings_28 (by decide) rfl ?_
  exact jm_sub [5, 6, 7, 8, 4, 3, 2, 1, 0] rfl h
theorem dX12_crosses_0 : decode cX12_crosses 0 = .ok (.aload_n 0, 1) := by decide +kernel
theorem dX12_crosses_1 : decode cX12_crosses 1 = .ok (.iload_n 1, 1) := by decide +kernel
theorem dX12_crosses_2 : decode cX12_crosses 2 = .ok (.aload_n 0, 1) := by decide +kernel
theorem dX12_crosses_3 : decode cX12_crosses 3 = .ok (.iload_n 1, 1) := by decide +kernel
theorem dX12_crosses_4 : decode cX12_crosses 4 = .ok (.invokevirtual 317, 3) := by decide +kernel
theorem dX12_crosses_7 : decode cX12_crosses 7 = .ok (.aload_n 0, 1) := by decide +kernel
theorem dX12_crosses_8 : decode cX12_crosses 8 = .ok (.iload_n 1, 1) := by decide +kernel
theorem dX12_crosses_9 : decode cX12_crosses 9 = .ok (.iconst 0, 1) := by decide +kernel
theorem dX12_crosses_10 : decode cX12_crosses 10 = .ok (.iconst 0, 1) := by decide +kernel
theorem dX12_crosses_11 : decode cX12_crosses 11 = .ok (.invokevirtual 367, 3) := by decide +kernel
theorem dX12_crosses_14 : decode cX12_crosses 14 = .ok (.isub, 1) := by decide +kernel
theorem dX12_crosses_15 : decode cX12_crosses 15 = .ok (.bipush 10, 2) := by decide +kernel
theorem dX12_crosses_17 : decode cX12_crosses 17 = .ok (.isub, 1) := by decide +kernel
theorem dX12_crosses_18 : decode cX12_crosses 18 = .ok (.invokevirtual 142, 3) := by decide +kernel
theorem dX12_crosses_21 : decode cX12_crosses 21 = .ok (.aload_n 0, 1) := by decide +kernel
theorem dX12_crosses_22 : decode cX12_crosses 22 = .ok (.iconst 1, 1) := by decide +kernel
theorem dX12_crosses_23 : decode cX12_crosses 23 = .ok (.iload_n 1, 1) := by decide +kernel
theorem dX12_crosses_24 : decode cX12_crosses 24 = .ok (.iconst (-1), 1) := by decide +kernel
theorem dX12_crosses_25 : decode cX12_crosses 25 = .ok (.iconst 0, 1) := by decide +kernel
theorem dX12_crosses_26 : decode cX12_crosses 26 = .ok (.invokevirtual 370, 3) := by decide +kernel
theorem dX12_crosses_29 : decode cX12_crosses 29 = .ok (.aload_n 0, 1) := by decide +kernel
theorem dX12_crosses_30 : decode cX12_crosses 30 = .ok (.iload_n 1, 1) := by decide +kernel
theorem dX12_crosses_31 : decode cX12_crosses 31 = .ok (.invokevirtual 317, 3) := by decide +kernel
theorem dX12_crosses_34 : decode cX12_crosses 34 = .ok (.ireturn, 1) := by decide +kernel
theorem eX12_crosses {l : Launch} {g : jm_G} {d : Nat} {v1 : Int} (hg : jm_HR g) {mu : jm_M} {Q : Option Value → jm_M → Prop} (h : (0 ≤ (6 + v1) ∧ (6 + v1) < 22) ∧ jm_R l g (d + 1) iX12_shakeOf [.ref 0, jm_i v1, jm_i 0, jm_i 0] mu (jm_qi fun z3 m2 => jm_R l g (d + 1) iX12_nerveBe [.ref 0, jm_i v1, jm_i ((((mu.1 1 (6 + v1)) + 50) - z3) - 10)] m2 (jm_qv fun m6 => jm_R l g (d + 1) iX12_notes [.ref 0, jm_i 1, jm_i v1, jm_i (-1), jm_i 0] m6 (jm_qv fun m10 => (0 ≤ (6 + v1) ∧ (6 + v1) < 22) ∧ Q (some (jm_i ((m10.1 1 (6 + v1)) + 50))) m10)))) : jm_R l g (d + 2) iX12_crosses [.ref 0, jm_i v1] mu Q := by
  refine jm_enter [(0, .ref 0), (1, jm_i v1)] (by decide) (Nat.le_of_ble_eq_true rfl) rfl ?_
  refine jm_mrI (fun hm0 => ?_)
  refine jm_aload_n (pc := 0) 0 dX12_crosses_0 rfl ?_
  refine jm_iload_n (pc := 1) 1 dX12_crosses_1 rfl ?_
  refine jm_aload_n (pc := 2) 0 dX12_crosses_2 rfl ?_
  refine jm_iload_n (pc := 3) 1 dX12_crosses_3 rfl ?_
  have hg1 := h.1
  have h := h.2
  refine jm_inlvi (pc := 4) (As := [_]) (st := [_, _]) iX12_nerveOf dX12_crosses_4 mX12_317 (cR0 hg) ⟨_, rfl, rfl⟩ rfl rfl (Nat.le_of_ble_eq_true rfl) (pX12_nerveOf hg hg1 (jm_kIi ?_))
  refine jm_aload_n (pc := 7) 0 dX12_crosses_7 rfl ?_
  refine jm_iload_n (pc := 8) 1 dX12_crosses_8 rfl ?_
  refine jm_iconst (pc := 9) dX12_crosses_9 ?_
  refine jm_iconst (pc := 10) dX12_crosses_10 ?_
  refine jm_callvi (pc := 11) (As := [_, _, _]) (st := [_, _, _]) iX12_shakeOf dX12_crosses_11 mX12_367 (cR0 hg) ⟨_, rfl, rfl⟩ rfl rfl (Nat.le_of_ble_eq_true rfl) h (fun z3 m2 hz4 h hm5 => ?_)
  refine jm_isub (pc := 14) dX12_crosses_14 ?_
  refine jm_bipush (pc := 15) dX12_crosses_15 (by decide) ?_
  refine jm_isub (pc := 17) dX12_crosses_17 ?_
  refine jm_callvv (pc := 18) (As := [_, _]) (st := []) iX12_nerveBe dX12_crosses_18 mX12_142 (cR0 hg) ⟨_, rfl, rfl⟩ rfl rfl (Nat.le_of_ble_eq_true rfl) h (fun m6 h hm9 => ?_)
  refine jm_aload_n (pc := 21) 0 dX12_crosses_21 rfl ?_
  refine jm_iconst (pc := 22) dX12_crosses_22 ?_
  refine jm_iload_n (pc := 23) 1 dX12_crosses_23 rfl ?_
  refine jm_iconst (pc := 24) dX12_crosses_24 ?_
  refine jm_iconst (pc := 25) dX12_crosses_25 ?_
  refine jm_callvv (pc := 26) (As := [_, _, _, _]) (st := []) iX12_notes dX12_crosses_26 mX12_370 (cR0 hg) ⟨_, rfl, rfl⟩ rfl rfl (Nat.le_of_ble_eq_true rfl) h (fun m10 h hm13 => ?_)
  refine jm_aload_n (pc := 29) 0 dX12_crosses_29 rfl ?_
  refine jm_iload_n (pc := 30) 1 dX12_crosses_30 rfl ?_
  have hg14 := h.1
  have h := h.2
  refine jm_inlvi (pc := 31) (As := [_]) (st := []) iX12_nerveOf dX12_crosses_31 mX12_317 (cR0 hg) ⟨_, rfl, rfl⟩ rfl rfl (Nat.le_of_ble_eq_true rfl) (pX12_nerveOf hg hg14 (jm_kIi ?_))
  exact jm_iret (pc := 34) dX12_crosses_34 rfl h
theorem dX12_hoarseMany_0 : decode cX12_hoarseMany 0 = .ok (.iconst 0, 1) := by decide +kernel
theorem dX12_hoarseMany_1 : decode cX12_hoarseMany 1 = .ok (.istore_n 1, 1) := by decide +kernel
theorem dX12_hoarseMany_2 : decode cX12_hoarseMany 2 = .ok (.iconst 0, 1) := by decide +kernel
theorem dX12_hoarseMany_3 : decode cX12_hoarseMany 3 = .ok (.istore_n 2, 1) := by decide +kernel
theorem dX12_hoarseMany_4 : decode cX12_hoarseMany 4 = .ok (.iload_n 2, 1) := by decide +kernel
theorem dX12_hoarseMany_5 : decode cX12_hoarseMany 5 = .ok (.aload_n 0, 1) := by decide +kernel
theorem dX12_hoarseMany_6 : decode cX12_hoarseMany 6 = .ok (.getfield 121, 3) := by decide +kernel
theorem dX12_hoarseMany_9 : decode cX12_hoarseMany 9 = .ok (.if_icmp .ge 21, 3) := by decide +kernel
theorem dX12_hoarseMany_12 : decode cX12_hoarseMany 12 = .ok (.iload_n 1, 1) := by decide +kernel
theorem dX12_hoarseMany_13 : decode cX12_hoarseMany 13 = .ok (.aload_n 0, 1) := by decide +kernel
theorem dX12_hoarseMany_14 : decode cX12_hoarseMany 14 = .ok (.getfield 7, 3) := by decide +kernel
theorem dX12_hoarseMany_17 : decode cX12_hoarseMany 17 = .ok (.bipush 14, 2) := by decide +kernel
theorem dX12_hoarseMany_19 : decode cX12_hoarseMany 19 = .ok (.iload_n 2, 1) := by decide +kernel
theorem dX12_hoarseMany_20 : decode cX12_hoarseMany 20 = .ok (.iadd, 1) := by decide +kernel
theorem dX12_hoarseMany_21 : decode cX12_hoarseMany 21 = .ok (.iaload, 1) := by decide +kernel
theorem dX12_hoarseMany_22 : decode cX12_hoarseMany 22 = .ok (.iadd, 1) := by decide +kernel
theorem dX12_hoarseMany_23 : decode cX12_hoarseMany 23 = .ok (.istore_n 1, 1) := by decide +kernel
theorem dX12_hoarseMany_24 : decode cX12_hoarseMany 24 = .ok (.iinc 2 1, 3) := by decide +kernel
theorem dX12_hoarseMany_27 : decode cX12_hoarseMany 27 = .ok (.goto (-23), 3) := by decide +kernel
theorem dX12_hoarseMany_30 : decode cX12_hoarseMany 30 = .ok (.iload_n 1, 1) := by decide +kernel
theorem dX12_hoarseMany_31 : decode cX12_hoarseMany 31 = .ok (.ireturn, 1) := by decide +kernel
theorem bX12_hoarseMany_4 {l : Launch} {g : jm_G} {d : Nat} {v1 v2 : Int} (hg : jm_HR g) {mu : jm_M} {Q : Option Value → jm_M → Prop} (h : jm_rg v2 ∧ ((mu.1 0 4) ≤ v2 → Q (some (jm_i v1)) mu) ∧ (v2 < (mu.1 0 4) → (0 ≤ (14 + v2) ∧ (14 + v2) < 22) ∧ ∀ x3, x3 = (v1 + (mu.1 1 (14 + v2))) → jm_V l g (d + 1) iX12_hoarseMany 4 [(0, .ref 0), (1, jm_i x3), (2, jm_i (v2 + 1))] [] mu Q)) : jm_V l g (d + 1) iX12_hoarseMany 4 [(0, .ref 0), (1, jm_i v1), (2, jm_i v2)] [] mu Q := by
  refine jm_mrI (fun hm0 => ?_)
  refine jm_iload_n (pc := 4) 2 dX12_hoarseMany_4 rfl ?_
  refine jm_aload_n (pc := 5) 0 dX12_hoarseMany_5 rfl ?_
  refine jm_geti (pc := 6) 4 dX12_hoarseMany_6 fX12_121 (cR0 hg) rfl ?_
  have hg1 := h.1
  have h := h.2
  refine jm_icmp_ge (pc := 9) 30 dX12_hoarseMany_9 rfl hg1 (hm0 _ _) (fun q => ?_) (fun q => ?_)
  · have h := h.1 q
    refine jm_iload_n (pc := 30) 1 dX12_hoarseMany_30 rfl ?_
    exact jm_iret (pc := 31) dX12_hoarseMany_31 rfl h
  · have h := h.2 q
    refine jm_iload_n (pc := 12) 1 dX12_hoarseMany_12 rfl ?_
    refine jm_aload_n (pc := 13) 0 dX12_hoarseMany_13 rfl ?_
    refine jm_getr (pc := 14) 1 dX12_hoarseMany_14 fX12_7 (cR0 hg) rfl ?_
    refine jm_bipush (pc := 17) dX12_hoarseMany_17 (by decide) ?_
    refine jm_iload_n (pc := 19) 2 dX12_hoarseMany_19 rfl ?_
    refine jm_iadd (pc := 20) dX12_hoarseMany_20 ?_
    have hg2 := h.1
    have h := h.2
    refine jm_iald (pc := 21) dX12_hoarseMany_21 (cR1 hg) (by decide) hg2.1 hg2.2 ?_
    refine jm_iadd (pc := 22) dX12_hoarseMany_22 ?_
    have h := h _ rfl
    refine jm_istore_n (pc := 23) (lv' := [(1, _), (0, _), (2, _)]) dX12_hoarseMany_23 (by decide) rfl ?_
    refine jm_iinc (pc := 24) (lv' := [(2, _), (1, _), (0, _)]) 2 dX12_hoarseMany_24 rfl (by decide) rfl ?_
    refine jm_goto (pc := 27) 4 dX12_hoarseMany_27 rfl ?_
    exact jm_sub [2, 1, 0] rfl h
theorem eX12_hoarseMany {l : Launch} {g : jm_G} {d : Nat} (hg : jm_HR g) {mu : jm_M} {Q : Option Value → jm_M → Prop} (h : jm_V l g (d + 1) iX12_hoarseMany 4 [(0, .ref 0), (1, jm_i 0), (2, jm_i 0)] [] mu Q) : jm_R l g (d + 1) iX12_hoarseMany [.ref 0] mu Q := by
  refine jm_enter [(0, .ref 0)] (by decide) (Nat.le_of_ble_eq_true rfl) rfl ?_
  refine jm_mrI (fun hm0 => ?_)
  refine jm_iconst (pc := 0) dX12_hoarseMany_0 ?_
  refine jm_istore_n (pc := 1) (lv' := [(1, _), (0, _)]) dX12_hoarseMany_1 (by decide) rfl ?_
  refine jm_iconst (pc := 2) dX12_hoarseMany_2 ?_
  refine jm_istore_n (pc := 3) (lv' := [(2, _), (1, _), (0, _)]) dX12_hoarseMany_3 (by decide) rfl ?_
  exact jm_sub [2, 1, 0] rfl h
theorem dX12_restsDay_0 : decode cX12_restsDay 0 = .ok (.iconst 0, 1) := by decide +kernel
theorem dX12_restsDay_1 : decode cX12_restsDay 1 = .ok (.istore_n 1, 1) := by decide +kernel
theorem dX12_restsDay_2 : decode cX12_restsDay 2 = .ok (.iload_n 1, 1) := by decide +kernel
theorem dX12_restsDay_3 : decode cX12_restsDay 3 = .ok (.aload_n 0, 1) := by decide +kernel
theorem dX12_restsDay_4 : decode cX12_restsDay 4 = .ok (.getfield 121, 3) := by decide +kernel
theorem dX12_restsDay_7 : decode cX12_restsDay 7 = .ok (.if_icmp .ge 22, 3) := by decide +kernel
theorem dX12_restsDay_10 : decode cX12_restsDay 10 = .ok (.aload_n 0, 1) := by decide +kernel
theorem dX12_restsDay_11 : decode cX12_restsDay 11 = .ok (.iload_n 1, 1) := by decide +kernel
theorem dX12_restsDay_12 : decode cX12_restsDay 12 = .ok (.aload_n 0, 1) := by decide +kernel
theorem dX12_restsDay_13 : decode cX12_restsDay 13 = .ok (.iload_n 1, 1) := by decide +kernel
theorem dX12_restsDay_14 : decode cX12_restsDay 14 = .ok (.invokevirtual 317, 3) := by decide +kernel
theorem dX12_restsDay_17 : decode cX12_restsDay 17 = .ok (.bipush 7, 2) := by decide +kernel
theorem dX12_restsDay_19 : decode cX12_restsDay 19 = .ok (.iadd, 1) := by decide +kernel
theorem dX12_restsDay_20 : decode cX12_restsDay 20 = .ok (.invokevirtual 142, 3) := by decide +kernel
theorem dX12_restsDay_23 : decode cX12_restsDay 23 = .ok (.iinc 1 1, 3) := by decide +kernel
theorem dX12_restsDay_26 : decode cX12_restsDay 26 = .ok (.goto (-24), 3) := by decide +kernel
theorem dX12_restsDay_29 : decode cX12_restsDay 29 = .ok (.iconst 0, 1) := by decide +kernel
theorem dX12_restsDay_30 : decode cX12_restsDay 30 = .ok (.istore_n 1, 1) := by decide +kernel
theorem dX12_restsDay_31 : decode cX12_restsDay 31 = .ok (.iload_n 1, 1) := by decide +kernel
theorem dX12_restsDay_32 : decode cX12_restsDay 32 = .ok (.aload_n 0, 1) := by decide +kernel
theorem dX12_restsDay_33 : decode cX12_restsDay 33 = .ok (.getfield 121, 3) := by decide +kernel
theorem dX12_restsDay_36 : decode cX12_restsDay 36 = .ok (.if_icmp .ge 32, 3) := by decide +kernel
theorem dX12_restsDay_39 : decode cX12_restsDay 39 = .ok (.aload_n 0, 1) := by decide +kernel
theorem dX12_restsDay_40 : decode cX12_restsDay 40 = .ok (.getfield 7, 3) := by decide +kernel
theorem dX12_restsDay_43 : decode cX12_restsDay 43 = .ok (.bipush 14, 2) := by decide +kernel
theorem dX12_restsDay_45 : decode cX12_restsDay 45 = .ok (.iload_n 1, 1) := by decide +kernel
theorem dX12_restsDay_46 : decode cX12_restsDay 46 = .ok (.iadd, 1) := by decide +kernel
theorem dX12_restsDay_47 : decode cX12_restsDay 47 = .ok (.aload_n 0, 1) := by decide +kernel
theorem dX12_restsDay_48 : decode cX12_restsDay 48 = .ok (.bipush 10, 2) := by decide +kernel
theorem dX12_restsDay_50 : decode cX12_restsDay 50 = .ok (.invokevirtual 360, 3) := by decide +kernel
theorem dX12_restsDay_53 : decode cX12_restsDay 53 = .ok (.ifCond .ne 7, 3) := by decide +kernel
theorem dX12_restsDay_56 : decode cX12_restsDay 56 = .ok (.iconst 1, 1) := by decide +kernel
theorem dX12_restsDay_57 : decode cX12_restsDay 57 = .ok (.goto 4, 3) := by decide +kernel
theorem dX12_restsDay_60 : decode cX12_restsDay 60 = .ok (.iconst 0, 1) := by decide +kernel
theorem dX12_restsDay_61 : decode cX12_restsDay 61 = .ok (.iastore, 1) := by decide +kernel
theorem dX12_restsDay_62 : decode cX12_restsDay 62 = .ok (.iinc 1 1, 3) := by decide +kernel
theorem dX12_restsDay_65 : decode cX12_restsDay 65 = .ok (.goto (-34), 3) := by decide +kernel
theorem dX12_restsDay_68 : decode cX12_restsDay 68 = .ok (.aload_n 0, 1) := by decide +kernel
theorem dX12_restsDay_69 : decode cX12_restsDay 69 = .ok (.iconst 3, 1) := by decide +kernel
theorem dX12_restsDay_70 : decode cX12_restsDay 70 = .ok (.iconst (-1), 1) := by decide +kernel
theorem dX12_restsDay_71 : decode cX12_restsDay 71 = .ok (.iconst (-1), 1) := by decide +kernel
theorem dX12_restsDay_72 : decode cX12_restsDay 72 = .ok (.iconst 0, 1) := by decide +kernel
theorem dX12_restsDay_73 : decode cX12_restsDay 73 = .ok (.invokevirtual 370, 3) := by decide +kernel
theorem dX12_restsDay_76 : decode cX12_restsDay 76 = .ok (.aload_n 0, 1) := by decide +kernel
theorem dX12_restsDay_77 : decode cX12_restsDay 77 = .ok (.getfield 7, 3) := by decide +kernel
theorem dX12_restsDay_80 : decode cX12_restsDay 80 = .ok (.iconst 0, 1) := by decide +kernel
theorem dX12_restsDay_81 : decode cX12_restsDay 81 = .ok (.aload_n 0, 1) := by decide +kernel
theorem dX12_restsDay_82 : decode cX12_restsDay 82 = .ok (.getfield 7, 3) := by decide +kernel
theorem dX12_restsDay_85 : decode cX12_restsDay 85 = .ok (.iconst 0, 1) := by decide +kernel
theorem dX12_restsDay_86 : decode cX12_restsDay 86 = .ok (.iaload, 1) := by decide +kernel
theorem dX12_restsDay_87 : decode cX12_restsDay 87 = .ok (.iconst 1, 1) := by decide +kernel
theorem dX12_restsDay_88 : decode cX12_restsDay 88 = .ok (.iadd, 1) := by decide +kernel
theorem dX12_restsDay_89 : decode cX12_restsDay 89 = .ok (.iastore, 1) := by decide +kernel
theorem dX12_restsDay_90 : decode cX12_restsDay 90 = .ok (.return_, 1) := by decide +kernel
theorem bX12_restsDay_31 {l : Launch} {g : jm_G} {d : Nat} {v1 : Int} (hg : jm_HR g) {mu : jm_M} {Q : Option Value → jm_M → Prop} (h : jm_rg v1 ∧ ((mu.1 0 4) ≤ v1 → jm_R l g (d + 1) iX12_notes [.ref 0, jm_i 3, jm_i (-1), jm_i (-1), jm_i 0] mu (jm_qv fun m2 => jm_rg ((m2.1 1 0) + 1) ∧ ∀ m7, m7 = jm_wr m2 1 0 ((m2.1 1 0) + 1) → Q none m7)) ∧ (v1 < (mu.1 0 4) → ∀ m9, m9 = (jm_wr mu 1 1 (jm_nm ((1664525 * (mu.1 1 1)) + 1013904223))) → jm_rg (Int.tmod (jm_ushr ((jm_wr mu 1 1 (jm_nm ((1664525 * (mu.1 1 1)) + 1013904223))).1 1 1) 8) 10) ∧ (¬ (Int.tmod (jm_ushr ((jm_wr mu 1 1 (jm_nm ((1664525 * (mu.1 1 1)) + 1013904223))).1 1 1) 8) 10) = 0 → (0 ≤ (14 + v1) ∧ (14 + v1) < 22) ∧ ∀ m13, m13 = jm_wr m9 1 (14 + v1) 0 → jm_V l g (d + 2) iX12_restsDay 31 [(0, .ref 0), (1, jm_i (v1 + 1))] [] m13 Q) ∧ ((Int.tmod (jm_ushr ((jm_wr mu 1 1 (jm_nm ((1664525 * (mu.1 1 1)) + 1013904223))).1 1 1) 8) 10) = 0 → (0 ≤ (14 + v1) ∧ (14 + v1) < 22) ∧ ∀ m16, m16 = jm_wr m9 1 (14 + v1) 1 → jm_V l g (d + 2) iX12_restsDay 31 [(0, .ref 0), (1, jm_i (v1 + 1))] [] m16 Q))) : jm_V l g (d + 2) iX12_restsDay 31 [(0, .ref 0), (1, jm_i v1)] [] mu Q := by
  refine jm_mrI (fun hm0 => ?_)
  refine jm_iload_n (pc := 31) 1 dX12_restsDay_31 rfl ?_
  refine jm_aload_n (pc := 32) 0 dX12_restsDay_32 rfl ?_
  refine jm_geti (pc := 33) 4 dX12_restsDay_33 fX12_121 (cR0 hg) rfl ?_
  have hg1 := h.1
  have h := h.2
  refine jm_icmp_ge (pc := 36) 68 dX12_restsDay_36 rfl hg1 (hm0 _ _) (fun q => ?_) (fun q => ?_)
  · have h := h.1 q
    refine jm_aload_n (pc := 68) 0 dX12_restsDay_68 rfl ?_
    refine jm_iconst (pc := 69) dX12_restsDay_69 ?_
    refine jm_iconst (pc := 70) dX12_restsDay_70 ?_
    refine jm_iconst (pc := 71) dX12_restsDay_71 ?_
    refine jm_iconst (pc := 72) dX12_restsDay_72 ?_
    refine jm_callvv (pc := 73) (As := [_, _, _, _]) (st := []) iX12_notes dX12_restsDay_73 mX12_370 (cR0 hg) ⟨_, rfl, rfl⟩ rfl rfl (Nat.le_of_ble_eq_true rfl) h (fun m2 h hm5 => ?_)
    refine jm_aload_n (pc := 76) 0 dX12_restsDay_76 rfl ?_
    refine jm_getr (pc := 77) 1 dX12_restsDay_77 fX12_7 (cR0 hg) rfl ?_
    refine jm_iconst (pc := 80) dX12_restsDay_80 ?_
    refine jm_aload_n (pc := 81) 0 dX12_restsDay_81 rfl ?_
    refine jm_getr (pc := 82) 1 dX12_restsDay_82 fX12_7 (cR0 hg) rfl ?_
    refine jm_iconst (pc := 85) dX12_restsDay_85 ?_
    refine jm_iald (pc := 86) dX12_restsDay_86 (cR1 hg) (by decide) (by decide) (by decide) ?_
    refine jm_iconst (pc := 87) dX12_restsDay_87 ?_
    refine jm_iadd (pc := 88) dX12_restsDay_88 ?_
    have hg6 := h.1
    have h := h.2
    refine jm_iast (pc := 89) dX12_restsDay_89 (cR1 hg) (by decide) (by decide) (by decide) hg6 ?_
    have h := h _ rfl
    refine jm_mrI (fun hm8 => ?_)
    exact jm_vret (pc := 90) dX12_restsDay_90 rfl h
  · have h := h.2 q
    refine jm_aload_n (pc := 39) 0 dX12_restsDay_39 rfl ?_
    refine jm_getr (pc := 40) 1 dX12_restsDay_40 fX12_7 (cR0 hg) rfl ?_
    refine jm_bipush (pc := 43) dX12_restsDay_43 (by decide) ?_
    refine jm_iload_n (pc := 45) 1 dX12_restsDay_45 rfl ?_
    refine jm_iadd (pc := 46) dX12_restsDay_46 ?_
    refine jm_aload_n (pc := 47) 0 dX12_restsDay_47 rfl ?_
    refine jm_bipush (pc := 48) dX12_restsDay_48 (by decide) ?_
    refine jm_inlvi (pc := 50) (As := [_]) (st := [_, _]) iX12_draw dX12_restsDay_50 mX12_360 (cR0 hg) ⟨_, rfl, rfl⟩ rfl rfl (Nat.le_of_ble_eq_true rfl) (pX12_draw hg ⟨by decide, by decide⟩ (by decide) (jm_kIi ?_))
    have h := h _ rfl
    refine jm_mrI (fun hm10 => ?_)
    have hg11 := h.1
    have h := h.2
    refine jm_if_ne (pc := 53) 60 dX12_restsDay_53 rfl hg11 (fun q => ?_) (fun q => ?_)
    · have h := h.1 q
      refine jm_iconst (pc := 60) dX12_restsDay_60 ?_
      have hg12 := h.1
      have h := h.2
      refine jm_iast (pc := 61) dX12_restsDay_61 (cR1 hg) (by decide) hg12.1 hg12.2 ⟨by decide, by decide⟩ ?_
      have h := h _ rfl
      refine jm_mrI (fun hm14 => ?_)
      refine jm_iinc (pc := 62) (lv' := [(1, _), (0, _)]) 1 dX12_restsDay_62 rfl (by decide) rfl ?_
      refine jm_goto (pc := 65) 31 dX12_restsDay_65 rfl ?_
      exact jm_sub [1, 0] rfl h
    · have h := h.2 q
      refine jm_iconst (pc := 56) dX12_restsDay_56 ?_
      refine jm_goto (pc := 57) 61 dX12_restsDay_57 rfl ?_
      have hg15 := h.1
      have h := h.2
      refine jm_iast (pc := 61) dX12_restsDay_61 (cR1 hg) (by decide) hg15.1 hg15.2 ⟨by decide, by decide⟩ ?_
      have h := h _ rfl
      refine jm_mrI (fun hm17 => ?_)
      refine jm_iinc (pc := 62) (lv' := [(1, _), (0, _)]) 1 dX12_restsDay_62 rfl (by decide) rfl ?_
      refine jm_goto (pc := 65) 31 dX12_restsDay_65 rfl ?_
      exact jm_sub [1, 0] rfl h
theorem bX12_restsDay_2 {l : Launch} {g : jm_G} {d : Nat} {v1 : Int} (hg : jm_HR g) {mu : jm_M} {Q : Option Value → jm_M → Prop} (h : jm_rg v1 ∧ ((mu.1 0 4) ≤ v1 → jm_V l g (d + 2) iX12_restsDay 31 [(0, .ref 0), (1, jm_i 0)] [] mu Q) ∧ (v1 < (mu.1 0 4) → (0 ≤ (6 + v1) ∧ (6 + v1) < 22) ∧ jm_R l g (d + 1) iX12_nerveBe [.ref 0, jm_i v1, jm_i (((mu.1 1 (6 + v1)) + 50) + 7)] mu (jm_qv fun m3 => jm_V l g (d + 2) iX12_restsDay 2 [(0, .ref 0), (1, jm_i (v1 + 1))] [] m3 Q))) : jm_V l g (d + 2) iX12_restsDay 2 [(0, .ref 0), (1, jm_i v1)] [] mu Q := by
  refine jm_mrI (fun hm0 => ?_)
  refine jm_iload_n (pc := 2) 1 dX12_restsDay_2 rfl ?_
  refine jm_aload_n (pc := 3) 0 dX12_restsDay_3 rfl ?_
  refine jm_geti (pc := 4) 4 dX12_restsDay_4 fX12_121 (cR0 hg) rfl ?_
  have hg1 := h.1
  have h := h.2
  refine jm_icmp_ge (pc := 7) 29 dX12_restsDay_7 rfl hg1 (hm0 _ _) (fun q => ?_) (fun q => ?_)
  · have h := h.1 q
    refine jm_iconst (pc := 29) dX12_restsDay_29 ?_
    refine jm_istore_n (pc := 30) (lv' := [(1, _), (0, _)]) dX12_restsDay_30 (by decide) rfl ?_
    exact jm_sub [1, 0] rfl h
  · have h := h.2 q
    refine jm_aload_n (pc := 10) 0 dX12_restsDay_10 rfl ?_
    refine jm_iload_n (pc := 11) 1 dX12_restsDay_11 rfl ?_
    refine jm_aload_n (pc := 12) 0 dX12_restsDay_12 rfl ?_
    refine jm_iload_n (pc := 13) 1 dX12_restsDay_13 rfl ?_
    have hg2 := h.1
    have h := h.2
    refine jm_inlvi (pc := 14) (As := [_]) (st := [_, _]) iX12_nerveOf dX12_restsDay_14 mX12_317 (cR0 hg) ⟨_, rfl, rfl⟩ rfl rfl (Nat.le_of_ble_eq_true rfl) (pX12_nerveOf hg hg2 (jm_kIi ?_))
    refine jm_bipush (pc := 17) dX12_restsDay_17 (by decide) ?_
    refine jm_iadd (pc := 19) dX12_restsDay_19 ?_
    refine jm_callvv (pc := 20) (As := [_, _]) (st := []) iX12_nerveBe dX12_restsDay_20 mX12_142 (cR0 hg) ⟨_, rfl, rfl⟩ rfl rfl (Nat.le_of_ble_eq_true rfl) h (fun m3 h hm6 => ?_)
    refine jm_iinc (pc := 23) (lv' := [(1, _), (0, _)]) 1 dX12_restsDay_23 rfl (by decide) rfl ?_
    refine jm_goto (pc := 26) 2 dX12_restsDay_26 rfl ?_
    exact jm_sub [1, 0] rfl h
theorem eX12_restsDay {l : Launch} {g : jm_G} {d : Nat} (hg : jm_HR g) {mu : jm_M} {Q : Option Value → jm_M → Prop} (h : jm_V l g (d + 2) iX12_restsDay 2 [(0, .ref 0), (1, jm_i 0)] [] mu Q) : jm_R l g (d + 2) iX12_restsDay [.ref 0] mu Q := by
  refine jm_enter [(0, .ref 0)] (by decide) (Nat.le_of_ble_eq_true rfl) rfl ?_
  refine jm_mrI (fun hm0 => ?_)
  refine jm_iconst (pc := 0) dX12_restsDay_0 ?_
  refine jm_istore_n (pc := 1) (lv' := [(1, _), (0, _)]) dX12_restsDay_1 (by decide) rfl ?_
  exact jm_sub [1, 0] rfl h
theorem dX12_call_0 : decode cX12_call 0 = .ok (.aload_n 0, 1) := by decide +kernel
theorem dX12_call_1 : decode cX12_call 1 = .ok (.iconst 0, 1) := by decide +kernel
theorem dX12_call_2 : decode cX12_call 2 = .ok (.putfield 104, 3) := by decide +kernel
theorem dX12_call_5 : decode cX12_call 5 = .ok (.aload_n 0, 1) := by decide +kernel
theorem dX12_call_6 : decode cX12_call 6 = .ok (.iload_n 1, 1) := by decide +kernel
theorem dX12_call_7 : decode cX12_call 7 = .ok (.iload_n 2, 1) := by decide +kernel
theorem dX12_call_8 : decode cX12_call 8 = .ok (.iload_n 3, 1) := by decide +kernel
theorem dX12_call_9 : decode cX12_call 9 = .ok (.invokevirtual 373, 3) := by decide +kernel
theorem dX12_call_12 : decode cX12_call 12 = .ok (.ifCond .ne 5, 3) := by decide +kernel
theorem dX12_call_15 : decode cX12_call 15 = .ok (.iconst (-1), 1) := by decide +kernel
theorem dX12_call_16 : decode cX12_call 16 = .ok (.ireturn, 1) := by decide +kernel
theorem dX12_call_17 : decode cX12_call 17 = .ok (.aload_n 0, 1) := by decide +kernel
theorem dX12_call_18 : decode cX12_call 18 = .ok (.invokevirtual 376, 3) := by decide +kernel
theorem dX12_call_21 : decode cX12_call 21 = .ok (.aload_n 0, 1) := by decide +kernel
theorem dX12_call_22 : decode cX12_call 22 = .ok (.iload_n 1, 1) := by decide +kernel
theorem dX12_call_23 : decode cX12_call 23 = .ok (.iload_n 2, 1) := by decide +kernel
theorem dX12_call_24 : decode cX12_call 24 = .ok (.iload_n 3, 1) := by decide +kernel
theorem dX12_call_25 : decode cX12_call 25 = .ok (.invokevirtual 379, 3) := by decide +kernel
theorem dX12_call_28 : decode cX12_call 28 = .ok (.ireturn, 1) := by decide +kernel
theorem eX12_call {l : Launch} {g : jm_G} {d : Nat} {v1 v2 v3 : Int} (hg : jm_HR g) {mu : jm_M} {Q : Option Value → jm_M → Prop} (h : ∀ m1, m1 = jm_wr mu 0 0 0 → jm_R l g d iX12_canCall [.ref 0, jm_i v1, jm_i v2, jm_i v3] m1 (jm_qi fun z4 m3 => (¬ z4 = 0 → jm_R l g d iX12_keepsAhead [.ref 0] m3 (jm_qv fun m7 => jm_R l g d iX12_sings [.ref 0, jm_i v1, jm_i v2, jm_i v3] m7 (jm_qi fun z12 m11 => Q (some (jm_i z12)) m11))) ∧ (z4 = 0 → Q (some (jm_i (-1))) m3))) : jm_R l g (d + 1) iX12_call [.ref 0, jm_i v1, jm_i v2, jm_i v3] mu Q := by
  refine jm_enter [(0, .ref 0), (1, jm_i v1), (2, jm_i v2), (3, jm_i v3)] (by decide) (Nat.le_of_ble_eq_true rfl) rfl ?_
  refine jm_mrI (fun hm0 => ?_)
  refine jm_aload_n (pc := 0) 0 dX12_call_0 rfl ?_
  refine jm_iconst (pc := 1) dX12_call_1 ?_
  refine jm_put (pc := 2) 0 dX12_call_2 fX12_104 ftX12 (fun q h => by cases h; rfl) (jm_nI _) (jm_fI _) (cR0 hg) rfl ⟨by decide, by decide⟩ ?_
  have h := h _ rfl
  refine jm_mrI (fun hm2 => ?_)
  refine jm_aload_n (pc := 5) 0 dX12_call_5 rfl ?_
  refine jm_iload_n (pc := 6) 1 dX12_call_6 rfl ?_
  refine jm_iload_n (pc := 7) 2 dX12_call_7 rfl ?_
  refine jm_iload_n (pc := 8) 3 dX12_call_8 rfl ?_
  refine jm_callvi (pc := 9) (As := [_, _, _]) (st := []) iX12_canCall dX12_call_9 mX12_373 (cR0 hg) ⟨_, rfl, rfl⟩ rfl rfl (Nat.le_of_ble_eq_true rfl) h (fun z4 m3 hz5 h hm6 => ?_)
  refine jm_if_ne (pc := 12) 17 dX12_call_12 rfl hz5 (fun q => ?_) (fun q => ?_)
  · have h := h.1 q
    refine jm_aload_n (pc := 17) 0 dX12_call_17 rfl ?_
    refine jm_callvv (pc := 18) (As := []) (st := []) iX12_keepsAhead dX12_call_18 mX12_376 (cR0 hg) ⟨_, rfl, rfl⟩ rfl rfl (Nat.le_of_ble_eq_true rfl) h (fun m7 h hm10 => ?_)
    refine jm_aload_n (pc := 21) 0 dX12_call_21 rfl ?_
    refine jm_iload_n (pc := 22) 1 dX12_call_22 rfl ?_
    refine jm_iload_n (pc := 23) 2 dX12_call_23 rfl ?_
    refine jm_iload_n (pc := 24) 3 dX12_call_24 rfl ?_
    refine jm_callvi (pc := 25) (As := [_, _, _]) (st := []) iX12_sings dX12_call_25 mX12_379 (cR0 hg) ⟨_, rfl, rfl⟩ rfl rfl (Nat.le_of_ble_eq_true rfl) h (fun z12 m11 hz13 h hm14 => ?_)
    exact jm_iret (pc := 28) dX12_call_28 rfl h
  · have h := h.2 q
    refine jm_iconst (pc := 15) dX12_call_15 ?_
    exact jm_iret (pc := 16) dX12_call_16 rfl h
theorem dX12_cross_0 : decode cX12_cross 0 = .ok (.aload_n 0, 1) := by decide +kernel
theorem dX12_cross_1 : decode cX12_cross 1 = .ok (.iconst 0, 1) := by decide +kernel
theorem dX12_cross_2 : decode cX12_cross 2 = .ok (.putfield 104, 3) := by decide +kernel
theorem dX12_cross_5 : decode cX12_cross 5 = .ok (.aload_n 0, 1) := by decide +kernel
theorem dX12_cross_6 : decode cX12_cross 6 = .ok (.iload_n 1, 1) := by decide +kernel
theorem dX12_cross_7 : decode cX12_cross 7 = .ok (.invokevirtual 132, 3) := by decide +kernel
theorem dX12_cross_10 : decode cX12_cross 10 = .ok (.ifCond .ne 5, 3) := by decide +kernel
theorem dX12_cross_13 : decode cX12_cross 13 = .ok (.iconst (-1), 1) := by decide +kernel
theorem dX12_cross_14 : decode cX12_cross 14 = .ok (.ireturn, 1) := by decide +kernel
theorem dX12_cross_15 : decode cX12_cross 15 = .ok (.aload_n 0, 1) := by decide +kernel
theorem dX12_cross_16 : decode cX12_cross 16 = .ok (.invokevirtual 376, 3) := by decide +kernel
theorem dX12_cross_19 : decode cX12_cross 19 = .ok (.aload_n 0, 1) := by decide +kernel
theorem dX12_cross_20 : decode cX12_cross 20 = .ok (.iload_n 1, 1) := by decide +kernel
theorem dX12_cross_21 : decode cX12_cross 21 = .ok (.invokevirtual 382, 3) := by decide +kernel
theorem dX12_cross_24 : decode cX12_cross 24 = .ok (.ireturn, 1) := by decide +kernel
theorem eX12_cross {l : Launch} {g : jm_G} {d : Nat} {v1 : Int} (hg : jm_HR g) {mu : jm_M} {Q : Option Value → jm_M → Prop} (h : ∀ m1, m1 = jm_wr mu 0 0 0 → jm_rg v1 ∧ (0 ≤ v1 ∧ v1 < (m1.1 0 4) → jm_R l g (d + 1) iX12_keepsAhead [.ref 0] m1 (jm_qv fun m4 => jm_R l g (d + 1) iX12_crosses [.ref 0, jm_i v1] m4 (jm_qi fun z9 m8 => Q (some (jm_i z9)) m8))) ∧ (¬ (0 ≤ v1 ∧ v1 < (m1.1 0 4)) → Q (some (jm_i (-1))) m1)) : jm_R l g (d + 2) iX12_cross [.ref 0, jm_i v1] mu Q := by
  refine jm_enter [(0, .ref 0), (1, jm_i v1)] (by decide) (Nat.le_of_ble_eq_true rfl) rfl ?_
  refine jm_mrI (fun hm0 => ?_)
  refine jm_aload_n (pc := 0) 0 dX12_cross_0 rfl ?_
  refine jm_iconst (pc := 1) dX12_cross_1 ?_
  refine jm_put (pc := 2) 0 dX12_cross_2 fX12_104 ftX12 (fun q h => by cases h; rfl) (jm_nI _) (jm_fI _) (cR0 hg) rfl ⟨by decide, by decide⟩ ?_
  have h := h _ rfl
  refine jm_mrI (fun hm2 => ?_)
  refine jm_aload_n (pc := 5) 0 dX12_cross_5 rfl ?_
  refine jm_iload_n (pc := 6) 1 dX12_cross_6 rfl ?_
  have hg3 := h.1
  have h := h.2
  refine jm_inlvi (pc := 7) (As := [_]) (st := []) iX12_isWitness dX12_cross_7 mX12_132 (cR0 hg) ⟨_, rfl, rfl⟩ rfl rfl (Nat.le_of_ble_eq_true rfl) (pX12_isWitness hg hg3 (fun q => jm_kIi ?_) (fun q => jm_kIi ?_))
  · have h := h.1 q
    refine jm_if_ne (pc := 10) 15 dX12_cross_10 rfl ⟨by decide, by decide⟩ (fun q => ?_) (fun q => absurd q (by decide))
    refine jm_aload_n (pc := 15) 0 dX12_cross_15 rfl ?_
    refine jm_callvv (pc := 16) (As := []) (st := []) iX12_keepsAhead dX12_cross_16 mX12_376 (cR0 hg) ⟨_, rfl, rfl⟩ rfl rfl (Nat.le_of_ble_eq_true rfl) h (fun m4 h hm7 => ?_)
    refine jm_aload_n (pc := 19) 0 dX12_cross_19 rfl ?_
    refine jm_iload_n (pc := 20) 1 dX12_cross_20 rfl ?_
    refine jm_callvi (pc := 21) (As := [_]) (st := []) iX12_crosses dX12_cross_21 mX12_382 (cR0 hg) ⟨_, rfl, rfl⟩ rfl rfl (Nat.le_of_ble_eq_true rfl) h (fun z9 m8 hz10 h hm11 => ?_)
    exact jm_iret (pc := 24) dX12_cross_24 rfl h
  · have h := h.2 q
    refine jm_if_ne (pc := 10) 15 dX12_cross_10 rfl ⟨by decide, by decide⟩ (fun q => absurd q (by decide)) (fun q => ?_)
    refine jm_iconst (pc := 13) dX12_cross_13 ?_
    exact jm_iret (pc := 14) dX12_cross_14 rfl h
theorem dX12_strike_0 : decode cX12_strike 0 = .ok (.aload_n 0, 1) := by decide +kernel
theorem dX12_strike_1 : decode cX12_strike 1 = .ok (.iconst 0, 1) := by decide +kernel
theorem dX12_strike_2 : decode cX12_strike 2 = .ok (.putfield 104, 3) := by decide +kernel
theorem dX12_strike_5 : decode cX12_strike 5 = .ok (.aload_n 0, 1) := by decide +kernel
theorem dX12_strike_6 : decode cX12_strike 6 = .ok (.iload_n 1, 1) := by decide +kernel
theorem dX12_strike_7 : decode cX12_strike 7 = .ok (.invokevirtual 385, 3) := by decide +kernel
theorem dX12_strike_10 : decode cX12_strike 10 = .ok (.ifCond .eq 11, 3) := by decide +kernel
theorem dX12_strike_13 : decode cX12_strike 13 = .ok (.aload_n 0, 1) := by decide +kernel
theorem dX12_strike_14 : decode cX12_strike 14 = .ok (.iload_n 1, 1) := by decide +kernel
theorem dX12_strike_15 : decode cX12_strike 15 = .ok (.invokevirtual 388, 3) := by decide +kernel
theorem dX12_strike_18 : decode cX12_strike 18 = .ok (.ifCond .eq 5, 3) := by decide +kernel
theorem dX12_strike_21 : decode cX12_strike 21 = .ok (.iconst 0, 1) := by decide +kernel
theorem dX12_strike_22 : decode cX12_strike 22 = .ok (.ireturn, 1) := by decide +kernel
theorem dX12_strike_23 : decode cX12_strike 23 = .ok (.aload_n 0, 1) := by decide +kernel
theorem dX12_strike_24 : decode cX12_strike 24 = .ok (.invokevirtual 376, 3) := by decide +kernel
theorem dX12_strike_27 : decode cX12_strike 27 = .ok (.aload_n 0, 1) := by decide +kernel
theorem dX12_strike_28 : decode cX12_strike 28 = .ok (.getfield 7, 3) := by decide +kernel
theorem dX12_strike_31 : decode cX12_strike 31 = .ok (.iconst 5, 1) := by decide +kernel
theorem dX12_strike_32 : decode cX12_strike 32 = .ok (.aload_n 0, 1) := by decide +kernel
theorem dX12_strike_33 : decode cX12_strike 33 = .ok (.getfield 7, 3) := by decide +kernel
theorem dX12_strike_36 : decode cX12_strike 36 = .ok (.iconst 5, 1) := by decide +kernel
theorem dX12_strike_37 : decode cX12_strike 37 = .ok (.iaload, 1) := by decide +kernel
theorem dX12_strike_38 : decode cX12_strike 38 = .ok (.iconst 1, 1) := by decide +kernel
theorem dX12_strike_39 : decode cX12_strike 39 = .ok (.iload_n 1, 1) := by decide +kernel
theorem dX12_strike_40 : decode cX12_strike 40 = .ok (.ishl, 1) := by decide +kernel
theorem dX12_strike_41 : decode cX12_strike 41 = .ok (.ior, 1) := by decide +kernel
theorem dX12_strike_42 : decode cX12_strike 42 = .ok (.iastore, 1) := by decide +kernel
theorem dX12_strike_43 : decode cX12_strike 43 = .ok (.aload_n 0, 1) := by decide +kernel
theorem dX12_strike_44 : decode cX12_strike 44 = .ok (.iconst 2, 1) := by decide +kernel
theorem dX12_strike_45 : decode cX12_strike 45 = .ok (.iload_n 1, 1) := by decide +kernel
theorem dX12_strike_46 : decode cX12_strike 46 = .ok (.iconst (-1), 1) := by decide +kernel
theorem dX12_strike_47 : decode cX12_strike 47 = .ok (.iconst 0, 1) := by decide +kernel
theorem dX12_strike_48 : decode cX12_strike 48 = .ok (.invokevirtual 370, 3) := by decide +kernel
theorem dX12_strike_51 : decode cX12_strike 51 = .ok (.iconst 1, 1) := by decide +kernel
theorem dX12_strike_52 : decode cX12_strike 52 = .ok (.ireturn, 1) := by decide +kernel
theorem eX12_strike {l : Launch} {g : jm_G} {d : Nat} {v1 : Int} (hg : jm_HR g) {mu : jm_M} {Q : Option Value → jm_M → Prop} (h : ∀ m1, m1 = jm_wr mu 0 0 0 → jm_rg v1 ∧ (0 ≤ v1 ∧ v1 < (m1.1 1 4) → ((jm_and (jm_shr (m1.1 1 5) v1) 1) = 1 → Q (some (jm_i 0)) m1) ∧ (¬ ((jm_and (jm_shr (m1.1 1 5) v1) 1) = 1) → jm_R l g (d + 1) iX12_keepsAhead [.ref 0] m1 (jm_qv fun m4 => ∀ m8, m8 = jm_wr m4 1 5 (jm_or (m4.1 1 5) (jm_shl 1 v1)) → jm_R l g (d + 1) iX12_notes [.ref 0, jm_i 2, jm_i v1, jm_i (-1), jm_i 0] m8 (jm_qv fun m10 => Q (some (jm_i 1)) m10)))) ∧ (¬ (0 ≤ v1 ∧ v1 < (m1.1 1 4)) → Q (some (jm_i 0)) m1)) : jm_R l g (d + 2) iX12_strike [.ref 0, jm_i v1] mu Q := by
  refine jm_enter [(0, .ref 0), (1, jm_i v1)] (by decide) (Nat.le_of_ble_eq_true rfl) rfl ?_
  refine jm_mrI (fun hm0 => ?_)
  refine jm_aload_n (pc := 0) 0 dX12_strike_0 rfl ?_
  refine jm_iconst (pc := 1) dX12_strike_1 ?_
  refine jm_put (pc := 2) 0 dX12_strike_2 fX12_104 ftX12 (fun q h => by cases h; rfl) (jm_nI _) (jm_fI _) (cR0 hg) rfl ⟨by decide, by decide⟩ ?_
  have h := h _ rfl
  refine jm_mrI (fun hm2 => ?_)
  refine jm_aload_n (pc := 5) 0 dX12_strike_5 rfl ?_
  refine jm_iload_n (pc := 6) 1 dX12_strike_6 rfl ?_
  have hg3 := h.1
  have h := h.2
  refine jm_inlvi (pc := 7) (As := [_]) (st := []) iX12_isTestimony dX12_strike_7 mX12_385 (cR0 hg) ⟨_, rfl, rfl⟩ rfl rfl (Nat.le_of_ble_eq_true rfl) (pX12_isTestimony hg hg3 (fun q => jm_kIi ?_) (fun q => jm_kIi ?_))
  · have h := h.1 q
    refine jm_if_eq (pc := 10) 21 dX12_strike_10 rfl ⟨by decide, by decide⟩ (fun q => absurd q (by decide)) (fun q => ?_)
    refine jm_aload_n (pc := 13) 0 dX12_strike_13 rfl ?_
    refine jm_iload_n (pc := 14) 1 dX12_strike_14 rfl ?_
    refine jm_inlvi (pc := 15) (As := [_]) (st := []) iX12_isStruck dX12_strike_15 mX12_388 (cR0 hg) ⟨_, rfl, rfl⟩ rfl rfl (Nat.le_of_ble_eq_true rfl) (pX12_isStruck hg  (fun q => jm_kIi ?_) (fun q => jm_kIi ?_))
    · have h := h.1 q
      refine jm_if_eq (pc := 18) 23 dX12_strike_18 rfl ⟨by decide, by decide⟩ (fun q => absurd q (by decide)) (fun q => ?_)
      refine jm_iconst (pc := 21) dX12_strike_21 ?_
      exact jm_zret (pc := 22) dX12_strike_22 rfl (Or.inl rfl) h
    · have h := h.2 q
      refine jm_if_eq (pc := 18) 23 dX12_strike_18 rfl ⟨by decide, by decide⟩ (fun q => ?_) (fun q => absurd q (by decide))
      refine jm_aload_n (pc := 23) 0 dX12_strike_23 rfl ?_
      refine jm_callvv (pc := 24) (As := []) (st := []) iX12_keepsAhead dX12_strike_24 mX12_376 (cR0 hg) ⟨_, rfl, rfl⟩ rfl rfl (Nat.le_of_ble_eq_true rfl) h (fun m4 h hm7 => ?_)
      refine jm_aload_n (pc := 27) 0 dX12_strike_27 rfl ?_
      refine jm_getr (pc := 28) 1 dX12_strike_28 fX12_7 (cR0 hg) rfl ?_
      refine jm_iconst (pc := 31) dX12_strike_31 ?_
      refine jm_aload_n (pc := 32) 0 dX12_strike_32 rfl ?_
      refine jm_getr (pc := 33) 1 dX12_strike_33 fX12_7 (cR0 hg) rfl ?_
      refine jm_iconst (pc := 36) dX12_strike_36 ?_
      refine jm_iald (pc := 37) dX12_strike_37 (cR1 hg) (by decide) (by decide) (by decide) ?_
      refine jm_iconst (pc := 38) dX12_strike_38 ?_
      refine jm_iload_n (pc := 39) 1 dX12_strike_39 rfl ?_
      refine jm_ishl (pc := 40) dX12_strike_40 ?_
      refine jm_ior (pc := 41) dX12_strike_41 ?_
      refine jm_iast (pc := 42) dX12_strike_42 (cR1 hg) (by decide) (by decide) (by decide) (jm_rgT _) ?_
      have h := h _ rfl
      refine jm_mrI (fun hm9 => ?_)
      refine jm_aload_n (pc := 43) 0 dX12_strike_43 rfl ?_
      refine jm_iconst (pc := 44) dX12_strike_44 ?_
      refine jm_iload_n (pc := 45) 1 dX12_strike_45 rfl ?_
      refine jm_iconst (pc := 46) dX12_strike_46 ?_
      refine jm_iconst (pc := 47) dX12_strike_47 ?_
      refine jm_callvv (pc := 48) (As := [_, _, _, _]) (st := []) iX12_notes dX12_strike_48 mX12_370 (cR0 hg) ⟨_, rfl, rfl⟩ rfl rfl (Nat.le_of_ble_eq_true rfl) h (fun m10 h hm13 => ?_)
      refine jm_iconst (pc := 51) dX12_strike_51 ?_
      exact jm_zret (pc := 52) dX12_strike_52 rfl (Or.inr rfl) h
  · have h := h.2 q
    refine jm_if_eq (pc := 10) 21 dX12_strike_10 rfl ⟨by decide, by decide⟩ (fun q => ?_) (fun q => absurd q (by decide))
    refine jm_iconst (pc := 21) dX12_strike_21 ?_
    exact jm_zret (pc := 22) dX12_strike_22 rfl (Or.inl rfl) h
theorem dX12_days_0 : decode cX12_days 0 = .ok (.aload_n 0, 1) := by decide +kernel
theorem dX12_days_1 : decode cX12_days 1 = .ok (.iconst 0, 1) := by decide +kernel
theorem dX12_days_2 : decode cX12_days 2 = .ok (.putfield 104, 3) := by decide +kernel
theorem dX12_days_5 : decode cX12_days 5 = .ok (.aload_n 0, 1) := by decide +kernel
theorem dX12_days_6 : decode cX12_days 6 = .ok (.iload_n 1, 1) := by decide +kernel
theorem dX12_days_7 : decode cX12_days 7 = .ok (.iconst 1, 1) := by decide +kernel
theorem dX12_days_8 : decode cX12_days 8 = .ok (.bipush 30, 2) := by decide +kernel
theorem dX12_days_10 : decode cX12_days 10 = .ok (.invokevirtual 128, 3) := by decide +kernel
theorem dX12_days_13 : decode cX12_days 13 = .ok (.ifCond .eq 17, 3) := by decide +kernel
theorem dX12_days_16 : decode cX12_days 16 = .ok (.aload_n 0, 1) := by decide +kernel
theorem dX12_days_17 : decode cX12_days 17 = .ok (.getfield 7, 3) := by decide +kernel
theorem dX12_days_20 : decode cX12_days 20 = .ok (.iconst 0, 1) := by decide +kernel
theorem dX12_days_21 : decode cX12_days 21 = .ok (.iaload, 1) := by decide +kernel
theorem dX12_days_22 : decode cX12_days 22 = .ok (.iload_n 1, 1) := by decide +kernel
theorem dX12_days_23 : decode cX12_days 23 = .ok (.iadd, 1) := by decide +kernel
theorem dX12_days_24 : decode cX12_days 24 = .ok (.sipush 999, 3) := by decide +kernel
theorem dX12_days_27 : decode cX12_days 27 = .ok (.if_icmp .le 5, 3) := by decide +kernel
theorem dX12_days_30 : decode cX12_days 30 = .ok (.iconst (-1), 1) := by decide +kernel
theorem dX12_days_31 : decode cX12_days 31 = .ok (.ireturn, 1) := by decide +kernel
theorem dX12_days_32 : decode cX12_days 32 = .ok (.iconst 0, 1) := by decide +kernel
theorem dX12_days_33 : decode cX12_days 33 = .ok (.istore_n 2, 1) := by decide +kernel
theorem dX12_days_34 : decode cX12_days 34 = .ok (.iload_n 2, 1) := by decide +kernel
theorem dX12_days_35 : decode cX12_days 35 = .ok (.iload_n 1, 1) := by decide +kernel
theorem dX12_days_36 : decode cX12_days 36 = .ok (.if_icmp .ge 17, 3) := by decide +kernel
theorem dX12_days_39 : decode cX12_days 39 = .ok (.aload_n 0, 1) := by decide +kernel
theorem dX12_days_40 : decode cX12_days 40 = .ok (.invokevirtual 376, 3) := by decide +kernel
theorem dX12_days_43 : decode cX12_days 43 = .ok (.aload_n 0, 1) := by decide +kernel
theorem dX12_days_44 : decode cX12_days 44 = .ok (.invokevirtual 391, 3) := by decide +kernel
theorem dX12_days_47 : decode cX12_days 47 = .ok (.iinc 2 1, 3) := by decide +kernel
theorem dX12_days_50 : decode cX12_days 50 = .ok (.goto (-16), 3) := by decide +kernel
theorem dX12_days_53 : decode cX12_days 53 = .ok (.aload_n 0, 1) := by decide +kernel
theorem dX12_days_54 : decode cX12_days 54 = .ok (.invokevirtual 394, 3) := by decide +kernel
theorem dX12_days_57 : decode cX12_days 57 = .ok (.ireturn, 1) := by decide +kernel
theorem bX12_days_34 {l : Launch} {g : jm_G} {d : Nat} {v1 v2 : Int} (hg : jm_HR g) {mu : jm_M} {Q : Option Value → jm_M → Prop} (h : jm_rg v2 ∧ jm_rg v1 ∧ (v1 ≤ v2 → jm_R l g (d + 1) iX12_hoarseMany [.ref 0] mu (jm_qi fun z4 m3 => Q (some (jm_i z4)) m3)) ∧ (v2 < v1 → jm_R l g (d + 1) iX12_keepsAhead [.ref 0] mu (jm_qv fun m7 => jm_R l g (d + 1) iX12_restsDay [.ref 0] m7 (jm_qv fun m11 => jm_V l g (d + 2) iX12_days 34 [(0, .ref 0), (1, jm_i v1), (2, jm_i (v2 + 1))] [] m11 Q)))) : jm_V l g (d + 2) iX12_days 34 [(0, .ref 0), (1, jm_i v1), (2, jm_i v2)] [] mu Q := by
  refine jm_mrI (fun hm0 => ?_)
  refine jm_iload_n (pc := 34) 2 dX12_days_34 rfl ?_
  refine jm_iload_n (pc := 35) 1 dX12_days_35 rfl ?_
  have hg1 := h.1
  have h := h.2
  have hg2 := h.1
  have h := h.2
  refine jm_icmp_ge (pc := 36) 53 dX12_days_36 rfl hg1 hg2 (fun q => ?_) (fun q => ?_)
  · have h := h.1 q
    refine jm_aload_n (pc := 53) 0 dX12_days_53 rfl ?_
    refine jm_callvi (pc := 54) (As := []) (st := []) iX12_hoarseMany dX12_days_54 mX12_394 (cR0 hg) ⟨_, rfl, rfl⟩ rfl rfl (Nat.le_of_ble_eq_true rfl) h (fun z4 m3 hz5 h hm6 => ?_)
    exact jm_iret (pc := 57) dX12_days_57 rfl h
  · have h := h.2 q
    refine jm_aload_n (pc := 39) 0 dX12_days_39 rfl ?_
    refine jm_callvv (pc := 40) (As := []) (st := []) iX12_keepsAhead dX12_days_40 mX12_376 (cR0 hg) ⟨_, rfl, rfl⟩ rfl rfl (Nat.le_of_ble_eq_true rfl) h (fun m7 h hm10 => ?_)
    refine jm_aload_n (pc := 43) 0 dX12_days_43 rfl ?_
    refine jm_callvv (pc := 44) (As := []) (st := []) iX12_restsDay dX12_days_44 mX12_391 (cR0 hg) ⟨_, rfl, rfl⟩ rfl rfl (Nat.le_of_ble_eq_true rfl) h (fun m11 h hm14 => ?_)
    refine jm_iinc (pc := 47) (lv' := [(2, _), (0, _), (1, _)]) 2 dX12_days_47 rfl (by decide) rfl ?_
    refine jm_goto (pc := 50) 34 dX12_days_50 rfl ?_
    exact jm_sub [1, 2, 0] rfl h
theorem eX12_days {l : Launch} {g : jm_G} {d : Nat} {v1 : Int} (hg : jm_HR g) {mu : jm_M} {Q : Option Value → jm_M → Prop} (h : ∀ m1, m1 = jm_wr mu 0 0 0 → jm_rg v1 ∧ (1 ≤ v1 ∧ v1 ≤ 30 → jm_rg ((m1.1 1 0) + v1) ∧ (((m1.1 1 0) + v1) ≤ 999 → jm_V l g (d + 2) iX12_days 34 [(0, .ref 0), (1, jm_i v1), (2, jm_i 0)] [] m1 Q) ∧ (999 < ((m1.1 1 0) + v1) → Q (some (jm_i (-1))) m1)) ∧ (¬ (1 ≤ v1 ∧ v1 ≤ 30) → Q (some (jm_i (-1))) m1)) : jm_R l g (d + 2) iX12_days [.ref 0, jm_i v1] mu Q := by
  refine jm_enter [(0, .ref 0), (1, jm_i v1)] (by decide) (Nat.le_of_ble_eq_true rfl) rfl ?_
  refine jm_mrI (fun hm0 => ?_)
  refine jm_aload_n (pc := 0) 0 dX12_days_0 rfl ?_
  refine jm_iconst (pc := 1) dX12_days_1 ?_
  refine jm_put (pc := 2) 0 dX12_days_2 fX12_104 ftX12 (fun q h => by cases h; rfl) (jm_nI _) (jm_fI _) (cR0 hg) rfl ⟨by decide, by decide⟩ ?_
  have h := h _ rfl
  refine jm_mrI (fun hm2 => ?_)
  refine jm_aload_n (pc := 5) 0 dX12_days_5 rfl ?_
  refine jm_iload_n (pc := 6) 1 dX12_days_6 rfl ?_
  refine jm_iconst (pc := 7) dX12_days_7 ?_
  refine jm_bipush (pc := 8) dX12_days_8 (by decide) ?_
  have hg3 := h.1
  have h := h.2
  refine jm_inlvi (pc := 10) (As := [_, _, _]) (st := []) iX12_isIn dX12_days_10 mX12_128 (cR0 hg) ⟨_, rfl, rfl⟩ rfl rfl (Nat.le_of_ble_eq_true rfl) (pX12_isIn hg hg3 ⟨by decide, by decide⟩ ⟨by decide, by decide⟩ (fun q => jm_kIi ?_) (fun q => jm_kIi ?_))
  · have h := h.1 q
    refine jm_if_eq (pc := 13) 30 dX12_days_13 rfl ⟨by decide, by decide⟩ (fun q => absurd q (by decide)) (fun q => ?_)
    refine jm_aload_n (pc := 16) 0 dX12_days_16 rfl ?_
    refine jm_getr (pc := 17) 1 dX12_days_17 fX12_7 (cR0 hg) rfl ?_
    refine jm_iconst (pc := 20) dX12_days_20 ?_
    refine jm_iald (pc := 21) dX12_days_21 (cR1 hg) (by decide) (by decide) (by decide) ?_
    refine jm_iload_n (pc := 22) 1 dX12_days_22 rfl ?_
    refine jm_iadd (pc := 23) dX12_days_23 ?_
    refine jm_sipush (pc := 24) dX12_days_24 (by decide) ?_
    have hg4 := h.1
    have h := h.2
    refine jm_icmp_le (pc := 27) 32 dX12_days_27 rfl hg4 ⟨by decide, by decide⟩ (fun q => ?_) (fun q => ?_)
    · have h := h.1 q
      refine jm_iconst (pc := 32) dX12_days_32 ?_
      refine jm_istore_n (pc := 33) (lv' := [(2, _), (0, _), (1, _)]) dX12_days_33 (by decide) rfl ?_
      exact jm_sub [1, 2, 0] rfl h
    · have h := h.2 q
      refine jm_iconst (pc := 30) dX12_days_30 ?_
      exact jm_iret (pc := 31) dX12_days_31 rfl h
  · have h := h.2 q
    refine jm_if_eq (pc := 13) 30 dX12_days_13 rfl ⟨by decide, by decide⟩ (fun q => ?_) (fun q => absurd q (by decide))
    refine jm_iconst (pc := 30) dX12_days_30 ?_
    exact jm_iret (pc := 31) dX12_days_31 rfl h
theorem dX12_ofDeed_0 : decode cX12_ofDeed 0 = .ok (.aload_n 0, 1) := by decide +kernel
theorem dX12_ofDeed_1 : decode cX12_ofDeed 1 = .ok (.getfield 68, 3) := by decide +kernel
theorem dX12_ofDeed_4 : decode cX12_ofDeed 4 = .ok (.iconst 4, 1) := by decide +kernel
theorem dX12_ofDeed_5 : decode cX12_ofDeed 5 = .ok (.iload_n 1, 1) := by decide +kernel
theorem dX12_ofDeed_6 : decode cX12_ofDeed 6 = .ok (.imul, 1) := by decide +kernel
theorem dX12_ofDeed_7 : decode cX12_ofDeed 7 = .ok (.iload_n 2, 1) := by decide +kernel
theorem dX12_ofDeed_8 : decode cX12_ofDeed 8 = .ok (.iadd, 1) := by decide +kernel
theorem dX12_ofDeed_9 : decode cX12_ofDeed 9 = .ok (.iaload, 1) := by decide +kernel
theorem dX12_ofDeed_10 : decode cX12_ofDeed 10 = .ok (.ireturn, 1) := by decide +kernel
theorem eX12_ofDeed {l : Launch} {g : jm_G} {d : Nat} {v1 v2 : Int} (hg : jm_HR g) {mu : jm_M} {Q : Option Value → jm_M → Prop} (h : (0 ≤ ((4 * v1) + v2) ∧ ((4 * v1) + v2) < 480) ∧ Q (some (jm_i (mu.1 19 ((4 * v1) + v2)))) mu) : jm_R l g (d + 1) iX12_ofDeed [.ref 0, jm_i v1, jm_i v2] mu Q := by
  refine jm_enter [(0, .ref 0), (1, jm_i v1), (2, jm_i v2)] (by decide) (Nat.le_of_ble_eq_true rfl) rfl ?_
  refine jm_mrI (fun hm0 => ?_)
  refine jm_aload_n (pc := 0) 0 dX12_ofDeed_0 rfl ?_
  refine jm_getr (pc := 1) 40 dX12_ofDeed_1 fX12_68 (cR0 hg) rfl ?_
  refine jm_iconst (pc := 4) dX12_ofDeed_4 ?_
  refine jm_iload_n (pc := 5) 1 dX12_ofDeed_5 rfl ?_
  refine jm_imul (pc := 6) dX12_ofDeed_6 ?_
  refine jm_iload_n (pc := 7) 2 dX12_ofDeed_7 rfl ?_
  refine jm_iadd (pc := 8) dX12_ofDeed_8 ?_
  have hg1 := h.1
  have h := h.2
  refine jm_iald (pc := 9) dX12_ofDeed_9 (cR19 hg) (by decide) hg1.1 hg1.2 ?_
  exact jm_iret (pc := 10) dX12_ofDeed_10 rfl h
theorem pX12_ofDeed {l : Launch} {g : jm_G} {d : Nat} {v1 v2 : Int} (hg : jm_HR g) {mu : jm_M} {Q : Option Value → jm_M → Prop} (o0 : 0 ≤ ((4 * v1) + v2) ∧ ((4 * v1) + v2) < 480) (h : Q (some (jm_i (mu.1 19 ((4 * v1) + v2)))) mu) : jm_R l g (d + 1) iX12_ofDeed [.ref 0, jm_i v1, jm_i v2] mu Q := by
  refine eX12_ofDeed hg ?_
  refine ⟨o0, ?_⟩
  exact h
theorem dX12_restsOfTrial_0 : decode cX12_restsOfTrial 0 = .ok (.iconst 0, 1) := by decide +kernel
theorem dX12_restsOfTrial_1 : decode cX12_restsOfTrial 1 = .ok (.istore_n 1, 1) := by decide +kernel
theorem dX12_restsOfTrial_2 : decode cX12_restsOfTrial 2 = .ok (.iconst 0, 1) := by decide +kernel
theorem dX12_restsOfTrial_3 : decode cX12_restsOfTrial 3 = .ok (.istore_n 2, 1) := by decide +kernel
theorem dX12_restsOfTrial_4 : decode cX12_restsOfTrial 4 = .ok (.iload_n 2, 1) := by decide +kernel
theorem dX12_restsOfTrial_5 : decode cX12_restsOfTrial 5 = .ok (.aload_n 0, 1) := by decide +kernel
theorem dX12_restsOfTrial_6 : decode cX12_restsOfTrial 6 = .ok (.getfield 293, 3) := by decide +kernel
theorem dX12_restsOfTrial_9 : decode cX12_restsOfTrial 9 = .ok (.if_icmp .ge 23, 3) := by decide +kernel
theorem dX12_restsOfTrial_12 : decode cX12_restsOfTrial 12 = .ok (.aload_n 0, 1) := by decide +kernel
theorem dX12_restsOfTrial_13 : decode cX12_restsOfTrial 13 = .ok (.iload_n 2, 1) := by decide +kernel
theorem dX12_restsOfTrial_14 : decode cX12_restsOfTrial 14 = .ok (.iconst 0, 1) := by decide +kernel
theorem dX12_restsOfTrial_15 : decode cX12_restsOfTrial 15 = .ok (.invokevirtual 397, 3) := by decide +kernel
theorem dX12_restsOfTrial_18 : decode cX12_restsOfTrial 18 = .ok (.iconst 2, 1) := by decide +kernel
theorem dX12_restsOfTrial_19 : decode cX12_restsOfTrial 19 = .ok (.if_icmp .ne 7, 3) := by decide +kernel
theorem dX12_restsOfTrial_22 : decode cX12_restsOfTrial 22 = .ok (.iload_n 1, 1) := by decide +kernel
theorem dX12_restsOfTrial_23 : decode cX12_restsOfTrial 23 = .ok (.iconst 1, 1) := by decide +kernel
theorem dX12_restsOfTrial_24 : decode cX12_restsOfTrial 24 = .ok (.iadd, 1) := by decide +kernel
theorem dX12_restsOfTrial_25 : decode cX12_restsOfTrial 25 = .ok (.istore_n 1, 1) := by decide +kernel
theorem dX12_restsOfTrial_26 : decode cX12_restsOfTrial 26 = .ok (.iinc 2 1, 3) := by decide +kernel
theorem dX12_restsOfTrial_29 : decode cX12_restsOfTrial 29 = .ok (.goto (-25), 3) := by decide +kernel
theorem dX12_restsOfTrial_32 : decode cX12_restsOfTrial 32 = .ok (.iload_n 1, 1) := by decide +kernel
theorem dX12_restsOfTrial_33 : decode cX12_restsOfTrial 33 = .ok (.ireturn, 1) := by decide +kernel
theorem bX12_restsOfTrial_4 {l : Launch} {g : jm_G} {d : Nat} {v1 v2 : Int} (hg : jm_HR g) {mu : jm_M} {Q : Option Value → jm_M → Prop} (h : jm_rg v2 ∧ ((mu.1 0 39) ≤ v2 → Q (some (jm_i v1)) mu) ∧ (v2 < (mu.1 0 39) → (0 ≤ ((4 * v2) + 0) ∧ ((4 * v2) + 0) < 480) ∧ (¬ (mu.1 19 ((4 * v2) + 0)) = 2 → jm_V l g (d + 2) iX12_restsOfTrial 4 [(0, .ref 0), (1, jm_i v1), (2, jm_i (v2 + 1))] [] mu Q) ∧ ((mu.1 19 ((4 * v2) + 0)) = 2 → ∀ x3, x3 = (v1 + 1) → jm_V l g (d + 2) iX12_restsOfTrial 4 [(0, .ref 0), (1, jm_i x3), (2, jm_i (v2 + 1))] [] mu Q))) : jm_V l g (d + 2) iX12_restsOfTrial 4 [(0, .ref 0), (1, jm_i v1), (2, jm_i v2)] [] mu Q := by
  refine jm_mrI (fun hm0 => ?_)
  refine jm_iload_n (pc := 4) 2 dX12_restsOfTrial_4 rfl ?_
  refine jm_aload_n (pc := 5) 0 dX12_restsOfTrial_5 rfl ?_
  refine jm_geti (pc := 6) 39 dX12_restsOfTrial_6 fX12_293 (cR0 hg) rfl ?_
  have hg1 := h.1
  have h := h.2
  refine jm_icmp_ge (pc := 9) 32 dX12_restsOfTrial_9 rfl hg1 (hm0 _ _) (fun q => ?_) (fun q => ?_)
  · have h := h.1 q
    refine jm_iload_n (pc := 32) 1 dX12_restsOfTrial_32 rfl ?_
    exact jm_iret (pc := 33) dX12_restsOfTrial_33 rfl h
  · have h := h.2 q
    refine jm_aload_n (pc := 12) 0 dX12_restsOfTrial_12 rfl ?_
    refine jm_iload_n (pc := 13) 2 dX12_restsOfTrial_13 rfl ?_
    refine jm_iconst (pc := 14) dX12_restsOfTrial_14 ?_
    have hg2 := h.1
    have h := h.2
    refine jm_inlvi (pc := 15) (As := [_, _]) (st := []) iX12_ofDeed dX12_restsOfTrial_15 mX12_397 (cR0 hg) ⟨_, rfl, rfl⟩ rfl rfl (Nat.le_of_ble_eq_true rfl) (pX12_ofDeed hg hg2 (jm_kIi ?_))
    refine jm_iconst (pc := 18) dX12_restsOfTrial_18 ?_
    refine jm_icmp_ne (pc := 19) 26 dX12_restsOfTrial_19 rfl (hm0 _ _) ⟨by decide, by decide⟩ (fun q => ?_) (fun q => ?_)
    · have h := h.1 q
      refine jm_iinc (pc := 26) (lv' := [(2, _), (0, _), (1, _)]) 2 dX12_restsOfTrial_26 rfl (by decide) rfl ?_
      refine jm_goto (pc := 29) 4 dX12_restsOfTrial_29 rfl ?_
      exact jm_sub [1, 2, 0] rfl h
    · have h := h.2 q
      refine jm_iload_n (pc := 22) 1 dX12_restsOfTrial_22 rfl ?_
      refine jm_iconst (pc := 23) dX12_restsOfTrial_23 ?_
      refine jm_iadd (pc := 24) dX12_restsOfTrial_24 ?_
      have h := h _ rfl
      refine jm_istore_n (pc := 25) (lv' := [(1, _), (0, _), (2, _)]) dX12_restsOfTrial_25 (by decide) rfl ?_
      refine jm_iinc (pc := 26) (lv' := [(2, _), (1, _), (0, _)]) 2 dX12_restsOfTrial_26 rfl (by decide) rfl ?_
      refine jm_goto (pc := 29) 4 dX12_restsOfTrial_29 rfl ?_
      exact jm_sub [2, 1, 0] rfl h
theorem eX12_restsOfTrial {l : Launch} {g : jm_G} {d : Nat} (hg : jm_HR g) {mu : jm_M} {Q : Option Value → jm_M → Prop} (h : jm_V l g (d + 2) iX12_restsOfTrial 4 [(0, .ref 0), (1, jm_i 0), (2, jm_i 0)] [] mu Q) : jm_R l g (d + 2) iX12_restsOfTrial [.ref 0] mu Q := by
  refine jm_enter [(0, .ref 0)] (by decide) (Nat.le_of_ble_eq_true rfl) rfl ?_
  refine jm_mrI (fun hm0 => ?_)
  refine jm_iconst (pc := 0) dX12_restsOfTrial_0 ?_
  refine jm_istore_n (pc := 1) (lv' := [(1, _), (0, _)]) dX12_restsOfTrial_1 (by decide) rfl ?_
  refine jm_iconst (pc := 2) dX12_restsOfTrial_2 ?_
  refine jm_istore_n (pc := 3) (lv' := [(2, _), (1, _), (0, _)]) dX12_restsOfTrial_3 (by decide) rfl ?_
  exact jm_sub [2, 1, 0] rfl h
