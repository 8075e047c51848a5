theorem dX7_addToken_0 : decode cX7_addToken 0 = .ok (.aload_n 0, 1) := by decide +kernel
theorem dX7_addToken_1 : decode cX7_addToken 1 = .ok (.getfield 34, 3) := by decide +kernel
theorem dX7_addToken_4 : decode cX7_addToken 4 = .ok (.sipush 400, 3) := by decide +kernel
theorem dX7_addToken_7 : decode cX7_addToken 7 = .ok (.if_icmp .ge 33, 3) := by decide +kernel
theorem dX7_addToken_10 : decode cX7_addToken 10 = .ok (.aload_n 0, 1) := by decide +kernel
theorem dX7_addToken_11 : decode cX7_addToken 11 = .ok (.getfield 28, 3) := by decide +kernel
theorem dX7_addToken_14 : decode cX7_addToken 14 = .ok (.aload_n 0, 1) := by decide +kernel
theorem dX7_addToken_15 : decode cX7_addToken 15 = .ok (.getfield 34, 3) := by decide +kernel
theorem dX7_addToken_18 : decode cX7_addToken 18 = .ok (.iload_n 1, 1) := by decide +kernel
theorem dX7_addToken_19 : decode cX7_addToken 19 = .ok (.iastore, 1) := by decide +kernel
theorem dX7_addToken_20 : decode cX7_addToken 20 = .ok (.aload_n 0, 1) := by decide +kernel
theorem dX7_addToken_21 : decode cX7_addToken 21 = .ok (.getfield 31, 3) := by decide +kernel
theorem dX7_addToken_24 : decode cX7_addToken 24 = .ok (.aload_n 0, 1) := by decide +kernel
theorem dX7_addToken_25 : decode cX7_addToken 25 = .ok (.getfield 34, 3) := by decide +kernel
theorem dX7_addToken_28 : decode cX7_addToken 28 = .ok (.iconst 1, 1) := by decide +kernel
theorem dX7_addToken_29 : decode cX7_addToken 29 = .ok (.iastore, 1) := by decide +kernel
theorem dX7_addToken_30 : decode cX7_addToken 30 = .ok (.aload_n 0, 1) := by decide +kernel
theorem dX7_addToken_31 : decode cX7_addToken 31 = .ok (.dup, 1) := by decide +kernel
theorem dX7_addToken_32 : decode cX7_addToken 32 = .ok (.getfield 34, 3) := by decide +kernel
theorem dX7_addToken_35 : decode cX7_addToken 35 = .ok (.iconst 1, 1) := by decide +kernel
theorem dX7_addToken_36 : decode cX7_addToken 36 = .ok (.iadd, 1) := by decide +kernel
theorem dX7_addToken_37 : decode cX7_addToken 37 = .ok (.putfield 34, 3) := by decide +kernel
theorem dX7_addToken_40 : decode cX7_addToken 40 = .ok (.return_, 1) := by decide +kernel
theorem eX7_addToken {l : Launch} {g : jm_G} {d : Nat} {v1 : Int} (hg : jm_HC g) {mu : jm_M} {Q : Option Value → jm_M → Prop} (h : (400 ≤ (mu.1 1 7) → Q none mu) ∧ ((mu.1 1 7) < 400 → (0 ≤ (mu.1 1 7) ∧ (mu.1 1 7) < 401) ∧ jm_rg v1 ∧ ∀ m3, m3 = jm_wr mu 4 (mu.1 1 7) v1 → (0 ≤ (m3.1 1 7) ∧ (m3.1 1 7) < 401) ∧ ∀ m6, m6 = jm_wr m3 5 (m3.1 1 7) 1 → jm_rg ((m6.1 1 7) + 1) ∧ ∀ m9, m9 = jm_wr m6 1 7 ((m6.1 1 7) + 1) → Q none m9)) : jm_R l g (d + 1) iX7_addToken [.ref 1, jm_i v1] mu Q := by
  refine jm_enter [(0, .ref 1), (1, jm_i v1)] (by decide) (Nat.le_of_ble_eq_true rfl) rfl ?_
  refine jm_mrI (fun hm0 => ?_)
  refine jm_aload_n (pc := 0) 0 dX7_addToken_0 rfl ?_
  refine jm_geti (pc := 1) 7 dX7_addToken_1 fX7_34 (cC1 hg) rfl ?_
  refine jm_sipush (pc := 4) dX7_addToken_4 (by decide) ?_
  refine jm_icmp_ge (pc := 7) 40 dX7_addToken_7 rfl (hm0 _ _) ⟨by decide, by decide⟩ (fun q => ?_) (fun q => ?_)
  · have h := h.1 q
    exact jm_vret (pc := 40) dX7_addToken_40 rfl h
  · have h := h.2 q
    refine jm_aload_n (pc := 10) 0 dX7_addToken_10 rfl ?_
    refine jm_getr (pc := 11) 5 dX7_addToken_11 fX7_28 (cC1 hg) rfl ?_
    refine jm_aload_n (pc := 14) 0 dX7_addToken_14 rfl ?_
    refine jm_geti (pc := 15) 7 dX7_addToken_15 fX7_34 (cC1 hg) rfl ?_
    refine jm_iload_n (pc := 18) 1 dX7_addToken_18 rfl ?_
    have hg1 := h.1
    have h := h.2
    have hg2 := h.1
    have h := h.2
    refine jm_iast (pc := 19) dX7_addToken_19 (cC4 hg) (by decide) hg1.1 hg1.2 hg2 ?_
    have h := h _ rfl
    refine jm_mrI (fun hm4 => ?_)
    refine jm_aload_n (pc := 20) 0 dX7_addToken_20 rfl ?_
    refine jm_getr (pc := 21) 6 dX7_addToken_21 fX7_31 (cC1 hg) rfl ?_
    refine jm_aload_n (pc := 24) 0 dX7_addToken_24 rfl ?_
    refine jm_geti (pc := 25) 7 dX7_addToken_25 fX7_34 (cC1 hg) rfl ?_
    refine jm_iconst (pc := 28) dX7_addToken_28 ?_
    have hg5 := h.1
    have h := h.2
    refine jm_iast (pc := 29) dX7_addToken_29 (cC5 hg) (by decide) hg5.1 hg5.2 ⟨by decide, by decide⟩ ?_
    have h := h _ rfl
    refine jm_mrI (fun hm7 => ?_)
    refine jm_aload_n (pc := 30) 0 dX7_addToken_30 rfl ?_
    refine jm_dup (pc := 31) _ dX7_addToken_31 rfl ?_
    refine jm_geti (pc := 32) 7 dX7_addToken_32 fX7_34 (cC1 hg) rfl ?_
    refine jm_iconst (pc := 35) dX7_addToken_35 ?_
    refine jm_iadd (pc := 36) dX7_addToken_36 ?_
    have hg8 := h.1
    have h := h.2
    refine jm_put (pc := 37) 7 dX7_addToken_37 fX7_34 ftX7 (fun q h => by cases h; rfl) (jm_nI _) (jm_fI _) (cC1 hg) rfl hg8 ?_
    have h := h _ rfl
    refine jm_mrI (fun hm10 => ?_)
    exact jm_vret (pc := 40) dX7_addToken_40 rfl h
theorem dX7_sortOf_0 : decode cX7_sortOf 0 = .ok (.iload_n 0, 1) := by decide +kernel
theorem dX7_sortOf_1 : decode cX7_sortOf 1 = .ok (.bipush 97, 2) := by decide +kernel
theorem dX7_sortOf_3 : decode cX7_sortOf 3 = .ok (.bipush 122, 2) := by decide +kernel
theorem dX7_sortOf_5 : decode cX7_sortOf 5 = .ok (.invokestatic 51, 3) := by decide +kernel
theorem dX7_sortOf_8 : decode cX7_sortOf 8 = .ok (.ifCond .ne 14, 3) := by decide +kernel
theorem dX7_sortOf_11 : decode cX7_sortOf 11 = .ok (.iload_n 0, 1) := by decide +kernel
theorem dX7_sortOf_12 : decode cX7_sortOf 12 = .ok (.bipush 65, 2) := by decide +kernel
theorem dX7_sortOf_14 : decode cX7_sortOf 14 = .ok (.bipush 90, 2) := by decide +kernel
theorem dX7_sortOf_16 : decode cX7_sortOf 16 = .ok (.invokestatic 51, 3) := by decide +kernel
theorem dX7_sortOf_19 : decode cX7_sortOf 19 = .ok (.ifCond .eq 5, 3) := by decide +kernel
theorem dX7_sortOf_22 : decode cX7_sortOf 22 = .ok (.iconst 1, 1) := by decide +kernel
theorem dX7_sortOf_23 : decode cX7_sortOf 23 = .ok (.ireturn, 1) := by decide +kernel
theorem dX7_sortOf_24 : decode cX7_sortOf 24 = .ok (.iload_n 0, 1) := by decide +kernel
theorem dX7_sortOf_25 : decode cX7_sortOf 25 = .ok (.bipush 48, 2) := by decide +kernel
theorem dX7_sortOf_27 : decode cX7_sortOf 27 = .ok (.bipush 57, 2) := by decide +kernel
theorem dX7_sortOf_29 : decode cX7_sortOf 29 = .ok (.invokestatic 51, 3) := by decide +kernel
theorem dX7_sortOf_32 : decode cX7_sortOf 32 = .ok (.ifCond .eq 5, 3) := by decide +kernel
theorem dX7_sortOf_35 : decode cX7_sortOf 35 = .ok (.iconst 2, 1) := by decide +kernel
theorem dX7_sortOf_36 : decode cX7_sortOf 36 = .ok (.ireturn, 1) := by decide +kernel
theorem dX7_sortOf_37 : decode cX7_sortOf 37 = .ok (.iload_n 0, 1) := by decide +kernel
theorem dX7_sortOf_38 : decode cX7_sortOf 38 = .ok (.bipush 32, 2) := by decide +kernel
theorem dX7_sortOf_40 : decode cX7_sortOf 40 = .ok (.if_icmp .eq 9, 3) := by decide +kernel
theorem dX7_sortOf_43 : decode cX7_sortOf 43 = .ok (.iload_n 0, 1) := by decide +kernel
theorem dX7_sortOf_44 : decode cX7_sortOf 44 = .ok (.bipush 10, 2) := by decide +kernel
theorem dX7_sortOf_46 : decode cX7_sortOf 46 = .ok (.if_icmp .ne 7, 3) := by decide +kernel
theorem dX7_sortOf_49 : decode cX7_sortOf 49 = .ok (.iconst 3, 1) := by decide +kernel
theorem dX7_sortOf_50 : decode cX7_sortOf 50 = .ok (.goto 4, 3) := by decide +kernel
theorem dX7_sortOf_53 : decode cX7_sortOf 53 = .ok (.iconst 4, 1) := by decide +kernel
theorem dX7_sortOf_54 : decode cX7_sortOf 54 = .ok (.ireturn, 1) := by decide +kernel
theorem eX7_sortOf {l : Launch} {g : jm_G} {d : Nat} {v0 : Int} (hg : jm_HC g) {mu : jm_M} {Q : Option Value → jm_M → Prop} (h : jm_rg v0 ∧ (97 ≤ v0 ∧ v0 ≤ 122 → Q (some (jm_i 1)) mu) ∧ (¬ (97 ≤ v0 ∧ v0 ≤ 122) → (65 ≤ v0 ∧ v0 ≤ 90 → Q (some (jm_i 1)) mu) ∧ (¬ (65 ≤ v0 ∧ v0 ≤ 90) → (48 ≤ v0 ∧ v0 ≤ 57 → Q (some (jm_i 2)) mu) ∧ (¬ (48 ≤ v0 ∧ v0 ≤ 57) → (v0 = 32 → Q (some (jm_i 3)) mu) ∧ (¬ v0 = 32 → (¬ v0 = 10 → Q (some (jm_i 4)) mu) ∧ (v0 = 10 → Q (some (jm_i 3)) mu)))))) : jm_R l g (d + 2) iX7_sortOf [jm_i v0] mu Q := by
  refine jm_enter [(0, jm_i v0)] (by decide) (Nat.le_of_ble_eq_true rfl) rfl ?_
  refine jm_mrI (fun hm0 => ?_)
  refine jm_iload_n (pc := 0) 0 dX7_sortOf_0 rfl ?_
  refine jm_bipush (pc := 1) dX7_sortOf_1 (by decide) ?_
  refine jm_bipush (pc := 3) dX7_sortOf_3 (by decide) ?_
  have hg1 := h.1
  have h := h.2
  refine jm_inlni (pc := 5) (As := [_, _, _]) (st := []) iX11_isWithin dX7_sortOf_5 (mX7_51 hg) rfl rfl (Nat.le_of_ble_eq_true rfl) (pX11_isWithin hg hg1 ⟨by decide, by decide⟩ ⟨by decide, by decide⟩ (fun q => jm_kIi ?_) (fun q => jm_kIi ?_))
  · have h := h.1 q
    refine jm_if_ne (pc := 8) 22 dX7_sortOf_8 rfl ⟨by decide, by decide⟩ (fun q => ?_) (fun q => absurd q (by decide))
    refine jm_iconst (pc := 22) dX7_sortOf_22 ?_
    exact jm_iret (pc := 23) dX7_sortOf_23 rfl h
  · have h := h.2 q
    refine jm_if_ne (pc := 8) 22 dX7_sortOf_8 rfl ⟨by decide, by decide⟩ (fun q => absurd q (by decide)) (fun q => ?_)
    refine jm_iload_n (pc := 11) 0 dX7_sortOf_11 rfl ?_
    refine jm_bipush (pc := 12) dX7_sortOf_12 (by decide) ?_
    refine jm_bipush (pc := 14) dX7_sortOf_14 (by decide) ?_
    refine jm_inlni (pc := 16) (As := [_, _, _]) (st := []) iX11_isWithin dX7_sortOf_16 (mX7_51 hg) rfl rfl (Nat.le_of_ble_eq_true rfl) (pX11_isWithin hg hg1 ⟨by decide, by decide⟩ ⟨by decide, by decide⟩ (fun q => jm_kIi ?_) (fun q => jm_kIi ?_))
    · have h := h.1 q
      refine jm_if_eq (pc := 19) 24 dX7_sortOf_19 rfl ⟨by decide, by decide⟩ (fun q => absurd q (by decide)) (fun q => ?_)
      refine jm_iconst (pc := 22) dX7_sortOf_22 ?_
      exact jm_iret (pc := 23) dX7_sortOf_23 rfl h
    · have h := h.2 q
      refine jm_if_eq (pc := 19) 24 dX7_sortOf_19 rfl ⟨by decide, by decide⟩ (fun q => ?_) (fun q => absurd q (by decide))
      refine jm_iload_n (pc := 24) 0 dX7_sortOf_24 rfl ?_
      refine jm_bipush (pc := 25) dX7_sortOf_25 (by decide) ?_
      refine jm_bipush (pc := 27) dX7_sortOf_27 (by decide) ?_
      refine jm_inlni (pc := 29) (As := [_, _, _]) (st := []) iX11_isWithin dX7_sortOf_29 (mX7_51 hg) rfl rfl (Nat.le_of_ble_eq_true rfl) (pX11_isWithin hg hg1 ⟨by decide, by decide⟩ ⟨by decide, by decide⟩ (fun q => jm_kIi ?_) (fun q => jm_kIi ?_))
      · have h := h.1 q
        refine jm_if_eq (pc := 32) 37 dX7_sortOf_32 rfl ⟨by decide, by decide⟩ (fun q => absurd q (by decide)) (fun q => ?_)
        refine jm_iconst (pc := 35) dX7_sortOf_35 ?_
        exact jm_iret (pc := 36) dX7_sortOf_36 rfl h
      · have h := h.2 q
        refine jm_if_eq (pc := 32) 37 dX7_sortOf_32 rfl ⟨by decide, by decide⟩ (fun q => ?_) (fun q => absurd q (by decide))
        refine jm_iload_n (pc := 37) 0 dX7_sortOf_37 rfl ?_
        refine jm_bipush (pc := 38) dX7_sortOf_38 (by decide) ?_
        refine jm_icmp_eq (pc := 40) 49 dX7_sortOf_40 rfl hg1 ⟨by decide, by decide⟩ (fun q => ?_) (fun q => ?_)
        · have h := h.1 q
          refine jm_iconst (pc := 49) dX7_sortOf_49 ?_
          refine jm_goto (pc := 50) 54 dX7_sortOf_50 rfl ?_
          exact jm_iret (pc := 54) dX7_sortOf_54 rfl h
        · have h := h.2 q
          refine jm_iload_n (pc := 43) 0 dX7_sortOf_43 rfl ?_
          refine jm_bipush (pc := 44) dX7_sortOf_44 (by decide) ?_
          refine jm_icmp_ne (pc := 46) 53 dX7_sortOf_46 rfl hg1 ⟨by decide, by decide⟩ (fun q => ?_) (fun q => ?_)
          · have h := h.1 q
            refine jm_iconst (pc := 53) dX7_sortOf_53 ?_
            exact jm_iret (pc := 54) dX7_sortOf_54 rfl h
          · have h := h.2 q
            refine jm_iconst (pc := 49) dX7_sortOf_49 ?_
            refine jm_goto (pc := 50) 54 dX7_sortOf_50 rfl ?_
            exact jm_iret (pc := 54) dX7_sortOf_54 rfl h
theorem dX7_isSpelled_0 : decode cX7_isSpelled 0 = .ok (.iload_n 2, 1) := by decide +kernel
theorem dX7_isSpelled_1 : decode cX7_isSpelled 1 = .ok (.istore 5, 2) := by decide +kernel
theorem dX7_isSpelled_3 : decode cX7_isSpelled 3 = .ok (.iload 5, 2) := by decide +kernel
theorem dX7_isSpelled_5 : decode cX7_isSpelled 5 = .ok (.iload_n 3, 1) := by decide +kernel
theorem dX7_isSpelled_6 : decode cX7_isSpelled 6 = .ok (.if_icmp .ge 44, 3) := by decide +kernel
theorem dX7_isSpelled_9 : decode cX7_isSpelled 9 = .ok (.iload 4, 2) := by decide +kernel
theorem dX7_isSpelled_11 : decode cX7_isSpelled 11 = .ok (.iload 5, 2) := by decide +kernel
theorem dX7_isSpelled_13 : decode cX7_isSpelled 13 = .ok (.iadd, 1) := by decide +kernel
theorem dX7_isSpelled_14 : decode cX7_isSpelled 14 = .ok (.iload_n 2, 1) := by decide +kernel
theorem dX7_isSpelled_15 : decode cX7_isSpelled 15 = .ok (.isub, 1) := by decide +kernel
theorem dX7_isSpelled_16 : decode cX7_isSpelled 16 = .ok (.istore 6, 2) := by decide +kernel
theorem dX7_isSpelled_18 : decode cX7_isSpelled 18 = .ok (.iload 6, 2) := by decide +kernel
theorem dX7_isSpelled_20 : decode cX7_isSpelled 20 = .ok (.sipush 400, 3) := by decide +kernel
theorem dX7_isSpelled_23 : decode cX7_isSpelled 23 = .ok (.if_icmp .ge 19, 3) := by decide +kernel
theorem dX7_isSpelled_26 : decode cX7_isSpelled 26 = .ok (.aload_n 1, 1) := by decide +kernel
theorem dX7_isSpelled_27 : decode cX7_isSpelled 27 = .ok (.iload 5, 2) := by decide +kernel
theorem dX7_isSpelled_29 : decode cX7_isSpelled 29 = .ok (.invokevirtual 80, 3) := by decide +kernel
theorem dX7_isSpelled_32 : decode cX7_isSpelled 32 = .ok (.aload_n 0, 1) := by decide +kernel
theorem dX7_isSpelled_33 : decode cX7_isSpelled 33 = .ok (.getfield 11, 3) := by decide +kernel
theorem dX7_isSpelled_36 : decode cX7_isSpelled 36 = .ok (.iload 6, 2) := by decide +kernel
theorem dX7_isSpelled_38 : decode cX7_isSpelled 38 = .ok (.iaload, 1) := by decide +kernel
theorem dX7_isSpelled_39 : decode cX7_isSpelled 39 = .ok (.if_icmp .eq 5, 3) := by decide +kernel
theorem dX7_isSpelled_42 : decode cX7_isSpelled 42 = .ok (.iconst 0, 1) := by decide +kernel
theorem dX7_isSpelled_43 : decode cX7_isSpelled 43 = .ok (.ireturn, 1) := by decide +kernel
theorem dX7_isSpelled_44 : decode cX7_isSpelled 44 = .ok (.iinc 5 1, 3) := by decide +kernel
theorem dX7_isSpelled_47 : decode cX7_isSpelled 47 = .ok (.goto (-44), 3) := by decide +kernel
theorem dX7_isSpelled_50 : decode cX7_isSpelled 50 = .ok (.iconst 1, 1) := by decide +kernel
theorem dX7_isSpelled_51 : decode cX7_isSpelled 51 = .ok (.ireturn, 1) := by decide +kernel
theorem bX7_isSpelled_3 {l : Launch} {g : jm_G} {d : Nat} {v2 v3 v4 v5 : Int} {c1 : Nat} (hg : jm_HC g) {mu : jm_M} {Q : Option Value → jm_M → Prop} (h : jm_rg v5 ∧ jm_rg v3 ∧ (v3 ≤ v5 → Q (some (jm_i 1)) mu) ∧ (v5 < v3 → ∀ x3, x3 = ((v4 + v5) - v2) → jm_rg x3 ∧ (400 ≤ x3 → Q (some (jm_i 0)) mu) ∧ (x3 < 400 → (∃ k, k < 3 ∧ c1 = 1000 + k) ∧ jm_R l g d iJ0_charAt_5068e [.ref c1, jm_i v5] mu (jm_qi fun z6 m5 => (0 ≤ x3 ∧ x3 < 400) ∧ (z6 = (m5.1 2 x3) → jm_V l g (d + 1) iX7_isSpelled 3 [(0, .ref 1), (1, .ref c1), (2, jm_i v2), (3, jm_i v3), (4, jm_i v4), (5, jm_i (v5 + 1))] [] m5 Q) ∧ (¬ z6 = (m5.1 2 x3) → Q (some (jm_i 0)) m5))))) : jm_V l g (d + 1) iX7_isSpelled 3 [(0, .ref 1), (1, .ref c1), (2, jm_i v2), (3, jm_i v3), (4, jm_i v4), (5, jm_i v5)] [] mu Q := by
  refine jm_mrI (fun hm0 => ?_)
  refine jm_iload (pc := 3) 5 dX7_isSpelled_3 rfl ?_
  refine jm_iload_n (pc := 5) 3 dX7_isSpelled_5 rfl ?_
  have hg1 := h.1
  have h := h.2
  have hg2 := h.1
  have h := h.2
  refine jm_icmp_ge (pc := 6) 50 dX7_isSpelled_6 rfl hg1 hg2 (fun q => ?_) (fun q => ?_)
  · have h := h.1 q
    refine jm_iconst (pc := 50) dX7_isSpelled_50 ?_
    exact jm_zret (pc := 51) dX7_isSpelled_51 rfl (Or.inr rfl) h
  · have h := h.2 q
    refine jm_iload (pc := 9) 4 dX7_isSpelled_9 rfl ?_
    refine jm_iload (pc := 11) 5 dX7_isSpelled_11 rfl ?_
    refine jm_iadd (pc := 13) dX7_isSpelled_13 ?_
    refine jm_iload_n (pc := 14) 2 dX7_isSpelled_14 rfl ?_
    refine jm_isub (pc := 15) dX7_isSpelled_15 ?_
    have h := h _ rfl
    refine jm_istore (pc := 16) (lv' := [(6, _), (0, _), (1, _), (2, _), (3, _), (4, _), (5, _)]) dX7_isSpelled_16 (by decide) rfl ?_
    refine jm_iload (pc := 18) 0 dX7_isSpelled_18 rfl ?_
    refine jm_sipush (pc := 20) dX7_isSpelled_20 (by decide) ?_
    have hg4 := h.1
    have h := h.2
    refine jm_icmp_ge (pc := 23) 42 dX7_isSpelled_23 rfl hg4 ⟨by decide, by decide⟩ (fun q => ?_) (fun q => ?_)
    · have h := h.1 q
      refine jm_iconst (pc := 42) dX7_isSpelled_42 ?_
      exact jm_zret (pc := 43) dX7_isSpelled_43 rfl (Or.inl rfl) h
    · have h := h.2 q
      refine jm_aload_n (pc := 26) 2 dX7_isSpelled_26 rfl ?_
      refine jm_iload (pc := 27) 6 dX7_isSpelled_27 rfl ?_
      have hg9 := h.1
      have h := h.2
      refine jm_callzi (pc := 29) (As := [_]) (st := []) iJ0_charAt_5068e dX7_isSpelled_29 mX7_80 (by obtain ⟨k9, hk9, e9⟩ := hg9; rw [e9]; exact hg.2.2.2 k9 hk9) rfl rfl (Nat.le_of_ble_eq_true rfl) h (fun z6 m5 hz7 h hm8 => ?_)
      refine jm_aload_n (pc := 32) 1 dX7_isSpelled_32 rfl ?_
      refine jm_getr (pc := 33) 0 dX7_isSpelled_33 fX7_11 (cC1 hg) rfl ?_
      refine jm_iload (pc := 36) 0 dX7_isSpelled_36 rfl ?_
      have hg10 := h.1
      have h := h.2
      refine jm_iald (pc := 38) dX7_isSpelled_38 (cC2 hg) (by decide) hg10.1 hg10.2 ?_
      refine jm_icmp_eq (pc := 39) 44 dX7_isSpelled_39 rfl hz7 (hm8 _ _) (fun q => ?_) (fun q => ?_)
      · have h := h.1 q
        refine jm_iinc (pc := 44) (lv' := [(5, _), (6, _), (0, _), (1, _), (2, _), (3, _), (4, _)]) 6 dX7_isSpelled_44 rfl (by decide) rfl ?_
        refine jm_goto (pc := 47) 3 dX7_isSpelled_47 rfl ?_
        exact jm_sub [2, 3, 4, 5, 6, 0] rfl h
      · have h := h.2 q
        refine jm_iconst (pc := 42) dX7_isSpelled_42 ?_
        exact jm_zret (pc := 43) dX7_isSpelled_43 rfl (Or.inl rfl) h
theorem eX7_isSpelled {l : Launch} {g : jm_G} {d : Nat} {v2 v3 v4 : Int} {c2 : Nat} (hg : jm_HC g) {mu : jm_M} {Q : Option Value → jm_M → Prop} (h : jm_V l g (d + 1) iX7_isSpelled 3 [(0, .ref 1), (1, .ref c2), (2, jm_i v2), (3, jm_i v3), (4, jm_i v4), (5, jm_i v2)] [] mu Q) : jm_R l g (d + 1) iX7_isSpelled [.ref 1, .ref c2, jm_i v2, jm_i v3, jm_i v4] mu Q := by
  refine jm_enter [(0, .ref 1), (1, .ref c2), (2, jm_i v2), (3, jm_i v3), (4, jm_i v4)] (by decide) (Nat.le_of_ble_eq_true rfl) rfl ?_
  refine jm_mrI (fun hm0 => ?_)
  refine jm_iload_n (pc := 0) 2 dX7_isSpelled_0 rfl ?_
  refine jm_istore (pc := 1) (lv' := [(5, _), (0, _), (1, _), (2, _), (3, _), (4, _)]) dX7_isSpelled_1 (by decide) rfl ?_
  exact jm_sub [1, 2, 3, 4, 5, 0] rfl h
theorem dX7_wordOf_0 : decode cX7_wordOf 0 = .ok (.sipush 300, 3) := by decide +kernel
theorem dX7_wordOf_3 : decode cX7_wordOf 3 = .ok (.istore_n 3, 1) := by decide +kernel
theorem dX7_wordOf_4 : decode cX7_wordOf 4 = .ok (.iconst 0, 1) := by decide +kernel
theorem dX7_wordOf_5 : decode cX7_wordOf 5 = .ok (.istore 4, 2) := by decide +kernel
theorem dX7_wordOf_7 : decode cX7_wordOf 7 = .ok (.iconst 0, 1) := by decide +kernel
theorem dX7_wordOf_8 : decode cX7_wordOf 8 = .ok (.istore 5, 2) := by decide +kernel
theorem dX7_wordOf_10 : decode cX7_wordOf 10 = .ok (.iload 5, 2) := by decide +kernel
theorem dX7_wordOf_12 : decode cX7_wordOf 12 = .ok (.aload_n 2, 1) := by decide +kernel
theorem dX7_wordOf_13 : decode cX7_wordOf 13 = .ok (.invokevirtual 76, 3) := by decide +kernel
theorem dX7_wordOf_16 : decode cX7_wordOf 16 = .ok (.if_icmp .ge 63, 3) := by decide +kernel
theorem dX7_wordOf_19 : decode cX7_wordOf 19 = .ok (.aload_n 2, 1) := by decide +kernel
theorem dX7_wordOf_20 : decode cX7_wordOf 20 = .ok (.iload 5, 2) := by decide +kernel
theorem dX7_wordOf_22 : decode cX7_wordOf 22 = .ok (.invokevirtual 80, 3) := by decide +kernel
theorem dX7_wordOf_25 : decode cX7_wordOf 25 = .ok (.bipush 32, 2) := by decide +kernel
theorem dX7_wordOf_27 : decode cX7_wordOf 27 = .ok (.if_icmp .ne 46, 3) := by decide +kernel
theorem dX7_wordOf_30 : decode cX7_wordOf 30 = .ok (.iload 5, 2) := by decide +kernel
theorem dX7_wordOf_32 : decode cX7_wordOf 32 = .ok (.iload 4, 2) := by decide +kernel
theorem dX7_wordOf_34 : decode cX7_wordOf 34 = .ok (.isub, 1) := by decide +kernel
theorem dX7_wordOf_35 : decode cX7_wordOf 35 = .ok (.aload_n 0, 1) := by decide +kernel
theorem dX7_wordOf_36 : decode cX7_wordOf 36 = .ok (.getfield 31, 3) := by decide +kernel
theorem dX7_wordOf_39 : decode cX7_wordOf 39 = .ok (.iload_n 1, 1) := by decide +kernel
theorem dX7_wordOf_40 : decode cX7_wordOf 40 = .ok (.iaload, 1) := by decide +kernel
theorem dX7_wordOf_41 : decode cX7_wordOf 41 = .ok (.if_icmp .ne 23, 3) := by decide +kernel
theorem dX7_wordOf_44 : decode cX7_wordOf 44 = .ok (.aload_n 0, 1) := by decide +kernel
theorem dX7_wordOf_45 : decode cX7_wordOf 45 = .ok (.aload_n 2, 1) := by decide +kernel
theorem dX7_wordOf_46 : decode cX7_wordOf 46 = .ok (.iload 4, 2) := by decide +kernel
theorem dX7_wordOf_48 : decode cX7_wordOf 48 = .ok (.iload 5, 2) := by decide +kernel
theorem dX7_wordOf_50 : decode cX7_wordOf 50 = .ok (.aload_n 0, 1) := by decide +kernel
theorem dX7_wordOf_51 : decode cX7_wordOf 51 = .ok (.getfield 28, 3) := by decide +kernel
theorem dX7_wordOf_54 : decode cX7_wordOf 54 = .ok (.iload_n 1, 1) := by decide +kernel
theorem dX7_wordOf_55 : decode cX7_wordOf 55 = .ok (.iaload, 1) := by decide +kernel
theorem dX7_wordOf_56 : decode cX7_wordOf 56 = .ok (.invokevirtual 84, 3) := by decide +kernel
theorem dX7_wordOf_59 : decode cX7_wordOf 59 = .ok (.ifCond .eq 5, 3) := by decide +kernel
theorem dX7_wordOf_62 : decode cX7_wordOf 62 = .ok (.iload_n 3, 1) := by decide +kernel
theorem dX7_wordOf_63 : decode cX7_wordOf 63 = .ok (.ireturn, 1) := by decide +kernel
theorem dX7_wordOf_64 : decode cX7_wordOf 64 = .ok (.iinc 3 1, 3) := by decide +kernel
theorem dX7_wordOf_67 : decode cX7_wordOf 67 = .ok (.iload 5, 2) := by decide +kernel
theorem dX7_wordOf_69 : decode cX7_wordOf 69 = .ok (.iconst 1, 1) := by decide +kernel
theorem dX7_wordOf_70 : decode cX7_wordOf 70 = .ok (.iadd, 1) := by decide +kernel
theorem dX7_wordOf_71 : decode cX7_wordOf 71 = .ok (.istore 4, 2) := by decide +kernel
theorem dX7_wordOf_73 : decode cX7_wordOf 73 = .ok (.iinc 5 1, 3) := by decide +kernel
theorem dX7_wordOf_76 : decode cX7_wordOf 76 = .ok (.goto (-66), 3) := by decide +kernel
theorem dX7_wordOf_79 : decode cX7_wordOf 79 = .ok (.sipush 258, 3) := by decide +kernel
theorem dX7_wordOf_82 : decode cX7_wordOf 82 = .ok (.ireturn, 1) := by decide +kernel
theorem bX7_wordOf_10 {l : Launch} {g : jm_G} {d : Nat} {v1 v3 v4 v5 : Int} {c2 : Nat} (hg : jm_HC g) {mu : jm_M} {Q : Option Value → jm_M → Prop} (h : (∃ k, k < 3 ∧ c2 = 1000 + k) ∧ jm_R l g d iJ0_length_8abf5 [.ref c2] mu (jm_qi fun z2 m1 => jm_rg v5 ∧ (z2 ≤ v5 → Q (some (jm_i 258)) m1) ∧ (v5 < z2 → (∃ k, k < 3 ∧ c2 = 1000 + k) ∧ jm_R l g d iJ0_charAt_5068e [.ref c2, jm_i v5] m1 (jm_qi fun z8 m7 => (¬ z8 = 32 → jm_V l g (d + 1) iX7_wordOf 10 [(0, .ref 1), (1, jm_i v1), (2, .ref c2), (3, jm_i v3), (4, jm_i v4), (5, jm_i (v5 + 1))] [] m7 Q) ∧ (z8 = 32 → (0 ≤ v1 ∧ v1 < 401) ∧ jm_rg (v5 - v4) ∧ (¬ (v5 - v4) = (m7.1 5 v1) → ∀ x14, x14 = (v5 + 1) → jm_V l g (d + 1) iX7_wordOf 10 [(0, .ref 1), (1, jm_i v1), (2, .ref c2), (3, jm_i (v3 + 1)), (4, jm_i x14), (5, jm_i (v5 + 1))] [] m7 Q) ∧ ((v5 - v4) = (m7.1 5 v1) → jm_R l g d iX7_isSpelled [.ref 1, .ref c2, jm_i v4, jm_i v5, jm_i (m7.1 4 v1)] m7 (jm_qi fun z16 m15 => (z16 = 0 → ∀ x19, x19 = (v5 + 1) → jm_V l g (d + 1) iX7_wordOf 10 [(0, .ref 1), (1, jm_i v1), (2, .ref c2), (3, jm_i (v3 + 1)), (4, jm_i x19), (5, jm_i (v5 + 1))] [] m15 Q) ∧ (¬ z16 = 0 → Q (some (jm_i v3)) m15)))))))) : jm_V l g (d + 1) iX7_wordOf 10 [(0, .ref 1), (1, jm_i v1), (2, .ref c2), (3, jm_i v3), (4, jm_i v4), (5, jm_i v5)] [] mu Q := by
  refine jm_mrI (fun hm0 => ?_)
  refine jm_iload (pc := 10) 5 dX7_wordOf_10 rfl ?_
  refine jm_aload_n (pc := 12) 2 dX7_wordOf_12 rfl ?_
  have hg5 := h.1
  have h := h.2
  refine jm_callzi (pc := 13) (As := []) (st := [_]) iJ0_length_8abf5 dX7_wordOf_13 mX7_76 (by obtain ⟨k9, hk9, e9⟩ := hg5; rw [e9]; exact hg.2.2.2 k9 hk9) rfl rfl (Nat.le_of_ble_eq_true rfl) h (fun z2 m1 hz3 h hm4 => ?_)
  have hg6 := h.1
  have h := h.2
  refine jm_icmp_ge (pc := 16) 79 dX7_wordOf_16 rfl hg6 hz3 (fun q => ?_) (fun q => ?_)
  · have h := h.1 q
    refine jm_sipush (pc := 79) dX7_wordOf_79 (by decide) ?_
    exact jm_iret (pc := 82) dX7_wordOf_82 rfl h
  · have h := h.2 q
    refine jm_aload_n (pc := 19) 2 dX7_wordOf_19 rfl ?_
    refine jm_iload (pc := 20) 5 dX7_wordOf_20 rfl ?_
    have hg11 := h.1
    have h := h.2
    refine jm_callzi (pc := 22) (As := [_]) (st := []) iJ0_charAt_5068e dX7_wordOf_22 mX7_80 (by obtain ⟨k9, hk9, e9⟩ := hg11; rw [e9]; exact hg.2.2.2 k9 hk9) rfl rfl (Nat.le_of_ble_eq_true rfl) h (fun z8 m7 hz9 h hm10 => ?_)
    refine jm_bipush (pc := 25) dX7_wordOf_25 (by decide) ?_
    refine jm_icmp_ne (pc := 27) 73 dX7_wordOf_27 rfl hz9 ⟨by decide, by decide⟩ (fun q => ?_) (fun q => ?_)
    · have h := h.1 q
      refine jm_iinc (pc := 73) (lv' := [(5, _), (0, _), (1, _), (2, _), (3, _), (4, _)]) 5 dX7_wordOf_73 rfl (by decide) rfl ?_
      refine jm_goto (pc := 76) 10 dX7_wordOf_76 rfl ?_
      exact jm_sub [1, 2, 3, 4, 5, 0] rfl h
    · have h := h.2 q
      refine jm_iload (pc := 30) 5 dX7_wordOf_30 rfl ?_
      refine jm_iload (pc := 32) 4 dX7_wordOf_32 rfl ?_
      refine jm_isub (pc := 34) dX7_wordOf_34 ?_
      refine jm_aload_n (pc := 35) 0 dX7_wordOf_35 rfl ?_
      refine jm_getr (pc := 36) 6 dX7_wordOf_36 fX7_31 (cC1 hg) rfl ?_
      refine jm_iload_n (pc := 39) 1 dX7_wordOf_39 rfl ?_
      have hg12 := h.1
      have h := h.2
      refine jm_iald (pc := 40) dX7_wordOf_40 (cC5 hg) (by decide) hg12.1 hg12.2 ?_
      have hg13 := h.1
      have h := h.2
      refine jm_icmp_ne (pc := 41) 64 dX7_wordOf_41 rfl hg13 (hm10 _ _) (fun q => ?_) (fun q => ?_)
      · have h := h.1 q
        refine jm_iinc (pc := 64) (lv' := [(3, _), (0, _), (1, _), (2, _), (4, _), (5, _)]) 3 dX7_wordOf_64 rfl (by decide) rfl ?_
        refine jm_iload (pc := 67) 5 dX7_wordOf_67 rfl ?_
        refine jm_iconst (pc := 69) dX7_wordOf_69 ?_
        refine jm_iadd (pc := 70) dX7_wordOf_70 ?_
        have h := h _ rfl
        refine jm_istore (pc := 71) (lv' := [(4, _), (3, _), (0, _), (1, _), (2, _), (5, _)]) dX7_wordOf_71 (by decide) rfl ?_
        refine jm_iinc (pc := 73) (lv' := [(5, _), (4, _), (3, _), (0, _), (1, _), (2, _)]) 5 dX7_wordOf_73 rfl (by decide) rfl ?_
        refine jm_goto (pc := 76) 10 dX7_wordOf_76 rfl ?_
        exact jm_sub [3, 4, 5, 2, 1, 0] rfl h
      · have h := h.2 q
        refine jm_aload_n (pc := 44) 0 dX7_wordOf_44 rfl ?_
        refine jm_aload_n (pc := 45) 2 dX7_wordOf_45 rfl ?_
        refine jm_iload (pc := 46) 4 dX7_wordOf_46 rfl ?_
        refine jm_iload (pc := 48) 5 dX7_wordOf_48 rfl ?_
        refine jm_aload_n (pc := 50) 0 dX7_wordOf_50 rfl ?_
        refine jm_getr (pc := 51) 5 dX7_wordOf_51 fX7_28 (cC1 hg) rfl ?_
        refine jm_iload_n (pc := 54) 1 dX7_wordOf_54 rfl ?_
        refine jm_iald (pc := 55) dX7_wordOf_55 (cC4 hg) (by decide) hg12.1 hg12.2 ?_
        refine jm_callvi (pc := 56) (As := [_, _, _, _]) (st := []) iX7_isSpelled dX7_wordOf_56 mX7_84 (cC1 hg) ⟨_, rfl, rfl⟩ rfl rfl (Nat.le_of_ble_eq_true rfl) h (fun z16 m15 hz17 h hm18 => ?_)
        refine jm_if_eq (pc := 59) 64 dX7_wordOf_59 rfl hz17 (fun q => ?_) (fun q => ?_)
        · have h := h.1 q
          refine jm_iinc (pc := 64) (lv' := [(3, _), (0, _), (1, _), (2, _), (4, _), (5, _)]) 3 dX7_wordOf_64 rfl (by decide) rfl ?_
          refine jm_iload (pc := 67) 5 dX7_wordOf_67 rfl ?_
          refine jm_iconst (pc := 69) dX7_wordOf_69 ?_
          refine jm_iadd (pc := 70) dX7_wordOf_70 ?_
          have h := h _ rfl
          refine jm_istore (pc := 71) (lv' := [(4, _), (3, _), (0, _), (1, _), (2, _), (5, _)]) dX7_wordOf_71 (by decide) rfl ?_
          refine jm_iinc (pc := 73) (lv' := [(5, _), (4, _), (3, _), (0, _), (1, _), (2, _)]) 5 dX7_wordOf_73 rfl (by decide) rfl ?_
          refine jm_goto (pc := 76) 10 dX7_wordOf_76 rfl ?_
          exact jm_sub [3, 4, 5, 2, 1, 0] rfl h
        · have h := h.2 q
          refine jm_iload_n (pc := 62) 3 dX7_wordOf_62 rfl ?_
          exact jm_iret (pc := 63) dX7_wordOf_63 rfl h
theorem eX7_wordOf {l : Launch} {g : jm_G} {d : Nat} {v1 : Int} {c2 : Nat} (hg : jm_HC g) {mu : jm_M} {Q : Option Value → jm_M → Prop} (h : jm_V l g (d + 1) iX7_wordOf 10 [(0, .ref 1), (1, jm_i v1), (2, .ref c2), (3, jm_i 300), (4, jm_i 0), (5, jm_i 0)] [] mu Q) : jm_R l g (d + 1) iX7_wordOf [.ref 1, jm_i v1, .ref c2] mu Q := by
  refine jm_enter [(0, .ref 1), (1, jm_i v1), (2, .ref c2)] (by decide) (Nat.le_of_ble_eq_true rfl) rfl ?_
  refine jm_mrI (fun hm0 => ?_)
  refine jm_sipush (pc := 0) dX7_wordOf_0 (by decide) ?_
  refine jm_istore_n (pc := 3) (lv' := [(3, _), (0, _), (1, _), (2, _)]) dX7_wordOf_3 (by decide) rfl ?_
  refine jm_iconst (pc := 4) dX7_wordOf_4 ?_
  refine jm_istore (pc := 5) (lv' := [(4, _), (3, _), (0, _), (1, _), (2, _)]) dX7_wordOf_5 (by decide) rfl ?_
  refine jm_iconst (pc := 7) dX7_wordOf_7 ?_
  refine jm_istore (pc := 8) (lv' := [(5, _), (4, _), (3, _), (0, _), (1, _), (2, _)]) dX7_wordOf_8 (by decide) rfl ?_
  exact jm_sub [3, 4, 5, 2, 1, 0] rfl h
theorem dX7_kindOf_0 : decode cX7_kindOf 0 = .ok (.aload_n 0, 1) := by decide +kernel
theorem dX7_kindOf_1 : decode cX7_kindOf 1 = .ok (.getfield 11, 3) := by decide +kernel
theorem dX7_kindOf_4 : decode cX7_kindOf 4 = .ok (.aload_n 0, 1) := by decide +kernel
theorem dX7_kindOf_5 : decode cX7_kindOf 5 = .ok (.getfield 28, 3) := by decide +kernel
theorem dX7_kindOf_8 : decode cX7_kindOf 8 = .ok (.iload_n 1, 1) := by decide +kernel
theorem dX7_kindOf_9 : decode cX7_kindOf 9 = .ok (.iaload, 1) := by decide +kernel
theorem dX7_kindOf_10 : decode cX7_kindOf 10 = .ok (.iaload, 1) := by decide +kernel
theorem dX7_kindOf_11 : decode cX7_kindOf 11 = .ok (.istore_n 3, 1) := by decide +kernel
theorem dX7_kindOf_12 : decode cX7_kindOf 12 = .ok (.iload_n 3, 1) := by decide +kernel
theorem dX7_kindOf_13 : decode cX7_kindOf 13 = .ok (.invokestatic 61, 3) := by decide +kernel
theorem dX7_kindOf_16 : decode cX7_kindOf 16 = .ok (.istore 4, 2) := by decide +kernel
theorem dX7_kindOf_18 : decode cX7_kindOf 18 = .ok (.iload 4, 2) := by decide +kernel
theorem dX7_kindOf_20 : decode cX7_kindOf 20 = .ok (.iconst 1, 1) := by decide +kernel
theorem dX7_kindOf_21 : decode cX7_kindOf 21 = .ok (.if_icmp .ne 10, 3) := by decide +kernel
theorem dX7_kindOf_24 : decode cX7_kindOf 24 = .ok (.aload_n 0, 1) := by decide +kernel
theorem dX7_kindOf_25 : decode cX7_kindOf 25 = .ok (.iload_n 1, 1) := by decide +kernel
theorem dX7_kindOf_26 : decode cX7_kindOf 26 = .ok (.aload_n 2, 1) := by decide +kernel
theorem dX7_kindOf_27 : decode cX7_kindOf 27 = .ok (.invokevirtual 73, 3) := by decide +kernel
theorem dX7_kindOf_30 : decode cX7_kindOf 30 = .ok (.ireturn, 1) := by decide +kernel
theorem dX7_kindOf_31 : decode cX7_kindOf 31 = .ok (.iload 4, 2) := by decide +kernel
theorem dX7_kindOf_33 : decode cX7_kindOf 33 = .ok (.iconst 2, 1) := by decide +kernel
theorem dX7_kindOf_34 : decode cX7_kindOf 34 = .ok (.if_icmp .ne 23, 3) := by decide +kernel
theorem dX7_kindOf_37 : decode cX7_kindOf 37 = .ok (.aload_n 0, 1) := by decide +kernel
theorem dX7_kindOf_38 : decode cX7_kindOf 38 = .ok (.getfield 31, 3) := by decide +kernel
theorem dX7_kindOf_41 : decode cX7_kindOf 41 = .ok (.iload_n 1, 1) := by decide +kernel
theorem dX7_kindOf_42 : decode cX7_kindOf 42 = .ok (.iaload, 1) := by decide +kernel
theorem dX7_kindOf_43 : decode cX7_kindOf 43 = .ok (.iconst 4, 1) := by decide +kernel
theorem dX7_kindOf_44 : decode cX7_kindOf 44 = .ok (.if_icmp .gt 9, 3) := by decide +kernel
theorem dX7_kindOf_47 : decode cX7_kindOf 47 = .ok (.sipush 256, 3) := by decide +kernel
theorem dX7_kindOf_50 : decode cX7_kindOf 50 = .ok (.goto 6, 3) := by decide +kernel
theorem dX7_kindOf_53 : decode cX7_kindOf 53 = .ok (.sipush 258, 3) := by decide +kernel
theorem dX7_kindOf_56 : decode cX7_kindOf 56 = .ok (.ireturn, 1) := by decide +kernel
theorem dX7_kindOf_57 : decode cX7_kindOf 57 = .ok (.iload_n 3, 1) := by decide +kernel
theorem dX7_kindOf_58 : decode cX7_kindOf 58 = .ok (.ireturn, 1) := by decide +kernel
theorem eX7_kindOf {l : Launch} {g : jm_G} {d : Nat} {v1 : Int} {c2 : Nat} (hg : jm_HC g) {mu : jm_M} {Q : Option Value → jm_M → Prop} (h : (0 ≤ v1 ∧ v1 < 401) ∧ (0 ≤ (mu.1 4 v1) ∧ (mu.1 4 v1) < 400) ∧ ∀ x3, x3 = (mu.1 2 (mu.1 4 v1)) → jm_R l g d iX7_sortOf [jm_i x3] mu (jm_qi fun z5 m4 => (¬ z5 = 1 → (¬ z5 = 2 → Q (some (jm_i x3)) m4) ∧ (z5 = 2 → (4 < (m4.1 5 v1) → Q (some (jm_i 258)) m4) ∧ ((m4.1 5 v1) ≤ 4 → Q (some (jm_i 256)) m4))) ∧ (z5 = 1 → jm_R l g d iX7_wordOf [.ref 1, jm_i v1, .ref c2] m4 (jm_qi fun z9 m8 => Q (some (jm_i z9)) m8)))) : jm_R l g (d + 1) iX7_kindOf [.ref 1, jm_i v1, .ref c2] mu Q := by
  refine jm_enter [(0, .ref 1), (1, jm_i v1), (2, .ref c2)] (by decide) (Nat.le_of_ble_eq_true rfl) rfl ?_
  refine jm_mrI (fun hm0 => ?_)
  refine jm_aload_n (pc := 0) 0 dX7_kindOf_0 rfl ?_
  refine jm_getr (pc := 1) 0 dX7_kindOf_1 fX7_11 (cC1 hg) rfl ?_
  refine jm_aload_n (pc := 4) 0 dX7_kindOf_4 rfl ?_
  refine jm_getr (pc := 5) 5 dX7_kindOf_5 fX7_28 (cC1 hg) rfl ?_
  refine jm_iload_n (pc := 8) 1 dX7_kindOf_8 rfl ?_
  have hg1 := h.1
  have h := h.2
  refine jm_iald (pc := 9) dX7_kindOf_9 (cC4 hg) (by decide) hg1.1 hg1.2 ?_
  have hg2 := h.1
  have h := h.2
  refine jm_iald (pc := 10) dX7_kindOf_10 (cC2 hg) (by decide) hg2.1 hg2.2 ?_
  have h := h _ rfl
  refine jm_istore_n (pc := 11) (lv' := [(3, _), (0, _), (1, _), (2, _)]) dX7_kindOf_11 (by decide) rfl ?_
  refine jm_iload_n (pc := 12) 0 dX7_kindOf_12 rfl ?_
  refine jm_callsi (pc := 13) (As := [_]) (st := []) iX7_sortOf dX7_kindOf_13 mX7_61 rfl rfl (Nat.le_of_ble_eq_true rfl) h (fun z5 m4 hz6 h hm7 => ?_)
  refine jm_istore (pc := 16) (lv' := [(4, _), (3, _), (0, _), (1, _), (2, _)]) dX7_kindOf_16 (by decide) rfl ?_
  refine jm_iload (pc := 18) 0 dX7_kindOf_18 rfl ?_
  refine jm_iconst (pc := 20) dX7_kindOf_20 ?_
  refine jm_icmp_ne (pc := 21) 31 dX7_kindOf_21 rfl hz6 ⟨by decide, by decide⟩ (fun q => ?_) (fun q => ?_)
  · have h := h.1 q
    refine jm_iload (pc := 31) 0 dX7_kindOf_31 rfl ?_
    refine jm_iconst (pc := 33) dX7_kindOf_33 ?_
    refine jm_icmp_ne (pc := 34) 57 dX7_kindOf_34 rfl hz6 ⟨by decide, by decide⟩ (fun q => ?_) (fun q => ?_)
    · have h := h.1 q
      refine jm_iload_n (pc := 57) 1 dX7_kindOf_57 rfl ?_
      exact jm_iret (pc := 58) dX7_kindOf_58 rfl h
    · have h := h.2 q
      refine jm_aload_n (pc := 37) 2 dX7_kindOf_37 rfl ?_
      refine jm_getr (pc := 38) 6 dX7_kindOf_38 fX7_31 (cC1 hg) rfl ?_
      refine jm_iload_n (pc := 41) 3 dX7_kindOf_41 rfl ?_
      refine jm_iald (pc := 42) dX7_kindOf_42 (cC5 hg) (by decide) hg1.1 hg1.2 ?_
      refine jm_iconst (pc := 43) dX7_kindOf_43 ?_
      refine jm_icmp_gt (pc := 44) 53 dX7_kindOf_44 rfl (hm7 _ _) ⟨by decide, by decide⟩ (fun q => ?_) (fun q => ?_)
      · have h := h.1 q
        refine jm_sipush (pc := 53) dX7_kindOf_53 (by decide) ?_
        exact jm_iret (pc := 56) dX7_kindOf_56 rfl h
      · have h := h.2 q
        refine jm_sipush (pc := 47) dX7_kindOf_47 (by decide) ?_
        refine jm_goto (pc := 50) 56 dX7_kindOf_50 rfl ?_
        exact jm_iret (pc := 56) dX7_kindOf_56 rfl h
  · have h := h.2 q
    refine jm_aload_n (pc := 24) 2 dX7_kindOf_24 rfl ?_
    refine jm_iload_n (pc := 25) 3 dX7_kindOf_25 rfl ?_
    refine jm_aload_n (pc := 26) 4 dX7_kindOf_26 rfl ?_
    refine jm_callvi (pc := 27) (As := [_, _]) (st := []) iX7_wordOf dX7_kindOf_27 mX7_73 (cC1 hg) ⟨_, rfl, rfl⟩ rfl rfl (Nat.le_of_ble_eq_true rfl) h (fun z9 m8 hz10 h hm11 => ?_)
    exact jm_iret (pc := 30) dX7_kindOf_30 rfl h
theorem dX7_cutIntoTokens_0 : decode cX7_cutIntoTokens 0 = .ok (.iload_n 1, 1) := by decide +kernel
theorem dX7_cutIntoTokens_1 : decode cX7_cutIntoTokens 1 = .ok (.ifCond .ne 8, 3) := by decide +kernel
theorem dX7_cutIntoTokens_4 : decode cX7_cutIntoTokens 4 = .ok (.ldc 55, 2) := by decide +kernel
theorem dX7_cutIntoTokens_6 : decode cX7_cutIntoTokens 6 = .ok (.goto 15, 3) := by decide +kernel
theorem dX7_cutIntoTokens_9 : decode cX7_cutIntoTokens 9 = .ok (.iload_n 1, 1) := by decide +kernel
theorem dX7_cutIntoTokens_10 : decode cX7_cutIntoTokens 10 = .ok (.iconst 1, 1) := by decide +kernel
theorem dX7_cutIntoTokens_11 : decode cX7_cutIntoTokens 11 = .ok (.if_icmp .ne 8, 3) := by decide +kernel
theorem dX7_cutIntoTokens_14 : decode cX7_cutIntoTokens 14 = .ok (.ldc 57, 2) := by decide +kernel
theorem dX7_cutIntoTokens_16 : decode cX7_cutIntoTokens 16 = .ok (.goto 5, 3) := by decide +kernel
theorem dX7_cutIntoTokens_19 : decode cX7_cutIntoTokens 19 = .ok (.ldc 59, 2) := by decide +kernel
theorem dX7_cutIntoTokens_21 : decode cX7_cutIntoTokens 21 = .ok (.astore_n 2, 1) := by decide +kernel
theorem dX7_cutIntoTokens_22 : decode cX7_cutIntoTokens 22 = .ok (.aload_n 0, 1) := by decide +kernel
theorem dX7_cutIntoTokens_23 : decode cX7_cutIntoTokens 23 = .ok (.iconst 0, 1) := by decide +kernel
theorem dX7_cutIntoTokens_24 : decode cX7_cutIntoTokens 24 = .ok (.putfield 34, 3) := by decide +kernel
theorem dX7_cutIntoTokens_27 : decode cX7_cutIntoTokens 27 = .ok (.aload_n 0, 1) := by decide +kernel
theorem dX7_cutIntoTokens_28 : decode cX7_cutIntoTokens 28 = .ok (.iconst 0, 1) := by decide +kernel
theorem dX7_cutIntoTokens_29 : decode cX7_cutIntoTokens 29 = .ok (.putfield 37, 3) := by decide +kernel
theorem dX7_cutIntoTokens_32 : decode cX7_cutIntoTokens 32 = .ok (.iconst 3, 1) := by decide +kernel
theorem dX7_cutIntoTokens_33 : decode cX7_cutIntoTokens 33 = .ok (.istore_n 3, 1) := by decide +kernel
theorem dX7_cutIntoTokens_34 : decode cX7_cutIntoTokens 34 = .ok (.iconst 0, 1) := by decide +kernel
theorem dX7_cutIntoTokens_35 : decode cX7_cutIntoTokens 35 = .ok (.istore 4, 2) := by decide +kernel
theorem dX7_cutIntoTokens_37 : decode cX7_cutIntoTokens 37 = .ok (.iload 4, 2) := by decide +kernel
theorem dX7_cutIntoTokens_39 : decode cX7_cutIntoTokens 39 = .ok (.aload_n 0, 1) := by decide +kernel
theorem dX7_cutIntoTokens_40 : decode cX7_cutIntoTokens 40 = .ok (.getfield 15, 3) := by decide +kernel
theorem dX7_cutIntoTokens_43 : decode cX7_cutIntoTokens 43 = .ok (.if_icmp .ge 72, 3) := by decide +kernel
theorem dX7_cutIntoTokens_46 : decode cX7_cutIntoTokens 46 = .ok (.aload_n 0, 1) := by decide +kernel
theorem dX7_cutIntoTokens_47 : decode cX7_cutIntoTokens 47 = .ok (.getfield 11, 3) := by decide +kernel
theorem dX7_cutIntoTokens_50 : decode cX7_cutIntoTokens 50 = .ok (.iload 4, 2) := by decide +kernel
theorem dX7_cutIntoTokens_52 : decode cX7_cutIntoTokens 52 = .ok (.iaload, 1) := by decide +kernel
theorem dX7_cutIntoTokens_53 : decode cX7_cutIntoTokens 53 = .ok (.invokestatic 61, 3) := by decide +kernel
theorem dX7_cutIntoTokens_56 : decode cX7_cutIntoTokens 56 = .ok (.istore 5, 2) := by decide +kernel
theorem dX7_cutIntoTokens_58 : decode cX7_cutIntoTokens 58 = .ok (.iload 5, 2) := by decide +kernel
theorem dX7_cutIntoTokens_60 : decode cX7_cutIntoTokens 60 = .ok (.iload_n 3, 1) := by decide +kernel
theorem dX7_cutIntoTokens_61 : decode cX7_cutIntoTokens 61 = .ok (.if_icmp .ne 33, 3) := by decide +kernel
theorem dX7_cutIntoTokens_64 : decode cX7_cutIntoTokens 64 = .ok (.iload 5, 2) := by decide +kernel
theorem dX7_cutIntoTokens_66 : decode cX7_cutIntoTokens 66 = .ok (.iconst 1, 1) := by decide +kernel
theorem dX7_cutIntoTokens_67 : decode cX7_cutIntoTokens 67 = .ok (.if_icmp .eq 9, 3) := by decide +kernel
theorem dX7_cutIntoTokens_70 : decode cX7_cutIntoTokens 70 = .ok (.iload 5, 2) := by decide +kernel
theorem dX7_cutIntoTokens_72 : decode cX7_cutIntoTokens 72 = .ok (.iconst 2, 1) := by decide +kernel
theorem dX7_cutIntoTokens_73 : decode cX7_cutIntoTokens 73 = .ok (.if_icmp .ne 21, 3) := by decide +kernel
theorem dX7_cutIntoTokens_76 : decode cX7_cutIntoTokens 76 = .ok (.aload_n 0, 1) := by decide +kernel
theorem dX7_cutIntoTokens_77 : decode cX7_cutIntoTokens 77 = .ok (.getfield 31, 3) := by decide +kernel
theorem dX7_cutIntoTokens_80 : decode cX7_cutIntoTokens 80 = .ok (.aload_n 0, 1) := by decide +kernel
theorem dX7_cutIntoTokens_81 : decode cX7_cutIntoTokens 81 = .ok (.getfield 34, 3) := by decide +kernel
theorem dX7_cutIntoTokens_84 : decode cX7_cutIntoTokens 84 = .ok (.iconst 1, 1) := by decide +kernel
theorem dX7_cutIntoTokens_85 : decode cX7_cutIntoTokens 85 = .ok (.isub, 1) := by decide +kernel
theorem dX7_cutIntoTokens_86 : decode cX7_cutIntoTokens 86 = .ok (.dup2, 1) := by decide +kernel
theorem dX7_cutIntoTokens_87 : decode cX7_cutIntoTokens 87 = .ok (.iaload, 1) := by decide +kernel
theorem dX7_cutIntoTokens_88 : decode cX7_cutIntoTokens 88 = .ok (.iconst 1, 1) := by decide +kernel
theorem dX7_cutIntoTokens_89 : decode cX7_cutIntoTokens 89 = .ok (.iadd, 1) := by decide +kernel
theorem dX7_cutIntoTokens_90 : decode cX7_cutIntoTokens 90 = .ok (.iastore, 1) := by decide +kernel
theorem dX7_cutIntoTokens_91 : decode cX7_cutIntoTokens 91 = .ok (.goto 15, 3) := by decide +kernel
theorem dX7_cutIntoTokens_94 : decode cX7_cutIntoTokens 94 = .ok (.iload 5, 2) := by decide +kernel
theorem dX7_cutIntoTokens_96 : decode cX7_cutIntoTokens 96 = .ok (.iconst 3, 1) := by decide +kernel
theorem dX7_cutIntoTokens_97 : decode cX7_cutIntoTokens 97 = .ok (.if_icmp .eq 9, 3) := by decide +kernel
theorem dX7_cutIntoTokens_100 : decode cX7_cutIntoTokens 100 = .ok (.aload_n 0, 1) := by decide +kernel
theorem dX7_cutIntoTokens_101 : decode cX7_cutIntoTokens 101 = .ok (.iload 4, 2) := by decide +kernel
theorem dX7_cutIntoTokens_103 : decode cX7_cutIntoTokens 103 = .ok (.invokevirtual 65, 3) := by decide +kernel
theorem dX7_cutIntoTokens_106 : decode cX7_cutIntoTokens 106 = .ok (.iload 5, 2) := by decide +kernel
theorem dX7_cutIntoTokens_108 : decode cX7_cutIntoTokens 108 = .ok (.istore_n 3, 1) := by decide +kernel
theorem dX7_cutIntoTokens_109 : decode cX7_cutIntoTokens 109 = .ok (.iinc 4 1, 3) := by decide +kernel
theorem dX7_cutIntoTokens_112 : decode cX7_cutIntoTokens 112 = .ok (.goto (-75), 3) := by decide +kernel
theorem dX7_cutIntoTokens_115 : decode cX7_cutIntoTokens 115 = .ok (.iconst 0, 1) := by decide +kernel
theorem dX7_cutIntoTokens_116 : decode cX7_cutIntoTokens 116 = .ok (.istore 4, 2) := by decide +kernel
theorem dX7_cutIntoTokens_118 : decode cX7_cutIntoTokens 118 = .ok (.iload 4, 2) := by decide +kernel
theorem dX7_cutIntoTokens_120 : decode cX7_cutIntoTokens 120 = .ok (.aload_n 0, 1) := by decide +kernel
theorem dX7_cutIntoTokens_121 : decode cX7_cutIntoTokens 121 = .ok (.getfield 34, 3) := by decide +kernel
theorem dX7_cutIntoTokens_124 : decode cX7_cutIntoTokens 124 = .ok (.if_icmp .ge 23, 3) := by decide +kernel
theorem dX7_cutIntoTokens_127 : decode cX7_cutIntoTokens 127 = .ok (.aload_n 0, 1) := by decide +kernel
theorem dX7_cutIntoTokens_128 : decode cX7_cutIntoTokens 128 = .ok (.getfield 25, 3) := by decide +kernel
theorem dX7_cutIntoTokens_131 : decode cX7_cutIntoTokens 131 = .ok (.iload 4, 2) := by decide +kernel
theorem dX7_cutIntoTokens_133 : decode cX7_cutIntoTokens 133 = .ok (.aload_n 0, 1) := by decide +kernel
theorem dX7_cutIntoTokens_134 : decode cX7_cutIntoTokens 134 = .ok (.iload 4, 2) := by decide +kernel
theorem dX7_cutIntoTokens_136 : decode cX7_cutIntoTokens 136 = .ok (.aload_n 2, 1) := by decide +kernel
theorem dX7_cutIntoTokens_137 : decode cX7_cutIntoTokens 137 = .ok (.invokevirtual 69, 3) := by decide +kernel
theorem dX7_cutIntoTokens_140 : decode cX7_cutIntoTokens 140 = .ok (.iastore, 1) := by decide +kernel
theorem dX7_cutIntoTokens_141 : decode cX7_cutIntoTokens 141 = .ok (.iinc 4 1, 3) := by decide +kernel
theorem dX7_cutIntoTokens_144 : decode cX7_cutIntoTokens 144 = .ok (.goto (-26), 3) := by decide +kernel
theorem dX7_cutIntoTokens_147 : decode cX7_cutIntoTokens 147 = .ok (.aload_n 0, 1) := by decide +kernel
theorem dX7_cutIntoTokens_148 : decode cX7_cutIntoTokens 148 = .ok (.getfield 25, 3) := by decide +kernel
theorem dX7_cutIntoTokens_151 : decode cX7_cutIntoTokens 151 = .ok (.aload_n 0, 1) := by decide +kernel
theorem dX7_cutIntoTokens_152 : decode cX7_cutIntoTokens 152 = .ok (.getfield 34, 3) := by decide +kernel
theorem dX7_cutIntoTokens_155 : decode cX7_cutIntoTokens 155 = .ok (.sipush 257, 3) := by decide +kernel
theorem dX7_cutIntoTokens_158 : decode cX7_cutIntoTokens 158 = .ok (.iastore, 1) := by decide +kernel
theorem dX7_cutIntoTokens_159 : decode cX7_cutIntoTokens 159 = .ok (.aload_n 0, 1) := by decide +kernel
theorem dX7_cutIntoTokens_160 : decode cX7_cutIntoTokens 160 = .ok (.getfield 28, 3) := by decide +kernel
theorem dX7_cutIntoTokens_163 : decode cX7_cutIntoTokens 163 = .ok (.aload_n 0, 1) := by decide +kernel
theorem dX7_cutIntoTokens_164 : decode cX7_cutIntoTokens 164 = .ok (.getfield 34, 3) := by decide +kernel
theorem dX7_cutIntoTokens_167 : decode cX7_cutIntoTokens 167 = .ok (.aload_n 0, 1) := by decide +kernel
theorem dX7_cutIntoTokens_168 : decode cX7_cutIntoTokens 168 = .ok (.getfield 15, 3) := by decide +kernel
theorem dX7_cutIntoTokens_171 : decode cX7_cutIntoTokens 171 = .ok (.iastore, 1) := by decide +kernel
theorem dX7_cutIntoTokens_172 : decode cX7_cutIntoTokens 172 = .ok (.aload_n 0, 1) := by decide +kernel
theorem dX7_cutIntoTokens_173 : decode cX7_cutIntoTokens 173 = .ok (.getfield 31, 3) := by decide +kernel
theorem dX7_cutIntoTokens_176 : decode cX7_cutIntoTokens 176 = .ok (.aload_n 0, 1) := by decide +kernel
theorem dX7_cutIntoTokens_177 : decode cX7_cutIntoTokens 177 = .ok (.getfield 34, 3) := by decide +kernel
theorem dX7_cutIntoTokens_180 : decode cX7_cutIntoTokens 180 = .ok (.iconst 0, 1) := by decide +kernel
theorem dX7_cutIntoTokens_181 : decode cX7_cutIntoTokens 181 = .ok (.iastore, 1) := by decide +kernel
theorem dX7_cutIntoTokens_182 : decode cX7_cutIntoTokens 182 = .ok (.return_, 1) := by decide +kernel
theorem bX7_cutIntoTokens_118 {l : Launch} {g : jm_G} {d : Nat} {v4 : Int} {c2 : Nat} (hg : jm_HC g) {mu : jm_M} {Q : Option Value → jm_M → Prop} (h : jm_rg v4 ∧ ((mu.1 1 7) ≤ v4 → (0 ≤ (mu.1 1 7) ∧ (mu.1 1 7) < 401) ∧ ∀ m3, m3 = jm_wr mu 3 (mu.1 1 7) 257 → (0 ≤ (m3.1 1 7) ∧ (m3.1 1 7) < 401) ∧ ∀ m6, m6 = jm_wr m3 4 (m3.1 1 7) (m3.1 1 1) → (0 ≤ (m6.1 1 7) ∧ (m6.1 1 7) < 401) ∧ ∀ m9, m9 = jm_wr m6 5 (m6.1 1 7) 0 → Q none m9) ∧ (v4 < (mu.1 1 7) → jm_R l g d iX7_kindOf [.ref 1, jm_i v4, .ref c2] mu (jm_qi fun z12 m11 => (0 ≤ v4 ∧ v4 < 401) ∧ ∀ m16, m16 = jm_wr m11 3 v4 z12 → jm_V l g (d + 1) iX7_cutIntoTokens 118 [(0, .ref 1), (2, .ref c2), (4, jm_i (v4 + 1))] [] m16 Q))) : jm_V l g (d + 1) iX7_cutIntoTokens 118 [(0, .ref 1), (2, .ref c2), (4, jm_i v4)] [] mu Q := by
  refine jm_mrI (fun hm0 => ?_)
  refine jm_iload (pc := 118) 2 dX7_cutIntoTokens_118 rfl ?_
  refine jm_aload_n (pc := 120) 0 dX7_cutIntoTokens_120 rfl ?_
  refine jm_geti (pc := 121) 7 dX7_cutIntoTokens_121 fX7_34 (cC1 hg) rfl ?_
  have hg1 := h.1
  have h := h.2
  refine jm_icmp_ge (pc := 124) 147 dX7_cutIntoTokens_124 rfl hg1 (hm0 _ _) (fun q => ?_) (fun q => ?_)
  · have h := h.1 q
    refine jm_aload_n (pc := 147) 0 dX7_cutIntoTokens_147 rfl ?_
    refine jm_getr (pc := 148) 4 dX7_cutIntoTokens_148 fX7_25 (cC1 hg) rfl ?_
    refine jm_aload_n (pc := 151) 0 dX7_cutIntoTokens_151 rfl ?_
    refine jm_geti (pc := 152) 7 dX7_cutIntoTokens_152 fX7_34 (cC1 hg) rfl ?_
    refine jm_sipush (pc := 155) dX7_cutIntoTokens_155 (by decide) ?_
    have hg2 := h.1
    have h := h.2
    refine jm_iast (pc := 158) dX7_cutIntoTokens_158 (cC3 hg) (by decide) hg2.1 hg2.2 ⟨by decide, by decide⟩ ?_
    have h := h _ rfl
    refine jm_mrI (fun hm4 => ?_)
    refine jm_aload_n (pc := 159) 0 dX7_cutIntoTokens_159 rfl ?_
    refine jm_getr (pc := 160) 5 dX7_cutIntoTokens_160 fX7_28 (cC1 hg) rfl ?_
    refine jm_aload_n (pc := 163) 0 dX7_cutIntoTokens_163 rfl ?_
    refine jm_geti (pc := 164) 7 dX7_cutIntoTokens_164 fX7_34 (cC1 hg) rfl ?_
    refine jm_aload_n (pc := 167) 0 dX7_cutIntoTokens_167 rfl ?_
    refine jm_geti (pc := 168) 1 dX7_cutIntoTokens_168 fX7_15 (cC1 hg) rfl ?_
    have hg5 := h.1
    have h := h.2
    refine jm_iast (pc := 171) dX7_cutIntoTokens_171 (cC4 hg) (by decide) hg5.1 hg5.2 (hm4 _ _) ?_
    have h := h _ rfl
    refine jm_mrI (fun hm7 => ?_)
    refine jm_aload_n (pc := 172) 0 dX7_cutIntoTokens_172 rfl ?_
    refine jm_getr (pc := 173) 6 dX7_cutIntoTokens_173 fX7_31 (cC1 hg) rfl ?_
    refine jm_aload_n (pc := 176) 0 dX7_cutIntoTokens_176 rfl ?_
    refine jm_geti (pc := 177) 7 dX7_cutIntoTokens_177 fX7_34 (cC1 hg) rfl ?_
    refine jm_iconst (pc := 180) dX7_cutIntoTokens_180 ?_
    have hg8 := h.1
    have h := h.2
    refine jm_iast (pc := 181) dX7_cutIntoTokens_181 (cC5 hg) (by decide) hg8.1 hg8.2 ⟨by decide, by decide⟩ ?_
    have h := h _ rfl
    refine jm_mrI (fun hm10 => ?_)
    exact jm_vret (pc := 182) dX7_cutIntoTokens_182 rfl h
  · have h := h.2 q
    refine jm_aload_n (pc := 127) 0 dX7_cutIntoTokens_127 rfl ?_
    refine jm_getr (pc := 128) 4 dX7_cutIntoTokens_128 fX7_25 (cC1 hg) rfl ?_
    refine jm_iload (pc := 131) 2 dX7_cutIntoTokens_131 rfl ?_
    refine jm_aload_n (pc := 133) 0 dX7_cutIntoTokens_133 rfl ?_
    refine jm_iload (pc := 134) 2 dX7_cutIntoTokens_134 rfl ?_
    refine jm_aload_n (pc := 136) 1 dX7_cutIntoTokens_136 rfl ?_
    refine jm_callvi (pc := 137) (As := [_, _]) (st := [_, _]) iX7_kindOf dX7_cutIntoTokens_137 mX7_69 (cC1 hg) ⟨_, rfl, rfl⟩ rfl rfl (Nat.le_of_ble_eq_true rfl) h (fun z12 m11 hz13 h hm14 => ?_)
    have hg15 := h.1
    have h := h.2
    refine jm_iast (pc := 140) dX7_cutIntoTokens_140 (cC3 hg) (by decide) hg15.1 hg15.2 hz13 ?_
    have h := h _ rfl
    refine jm_mrI (fun hm17 => ?_)
    refine jm_iinc (pc := 141) (lv' := [(4, _), (0, _), (2, _)]) 2 dX7_cutIntoTokens_141 rfl (by decide) rfl ?_
    refine jm_goto (pc := 144) 118 dX7_cutIntoTokens_144 rfl ?_
    exact jm_sub [1, 2, 0] rfl h
theorem bX7_cutIntoTokens_94 {l : Launch} {g : jm_G} {d : Nat} {v4 v5 : Int} {c2 : Nat} (hg : jm_HC g) {mu : jm_M} {Q : Option Value → jm_M → Prop} (h : jm_rg v5 ∧ (v5 = 3 → jm_V l g (d + 1) iX7_cutIntoTokens 37 [(0, .ref 1), (2, .ref c2), (3, jm_i v5), (4, jm_i (v4 + 1))] [] mu Q) ∧ (¬ v5 = 3 → jm_R l g d iX7_addToken [.ref 1, jm_i v4] mu (jm_qv fun m2 => jm_V l g (d + 1) iX7_cutIntoTokens 37 [(0, .ref 1), (2, .ref c2), (3, jm_i v5), (4, jm_i (v4 + 1))] [] m2 Q))) : jm_V l g (d + 1) iX7_cutIntoTokens 94 [(0, .ref 1), (2, .ref c2), (4, jm_i v4), (5, jm_i v5)] [] mu Q := by
  refine jm_mrI (fun hm0 => ?_)
  refine jm_iload (pc := 94) 3 dX7_cutIntoTokens_94 rfl ?_
  refine jm_iconst (pc := 96) dX7_cutIntoTokens_96 ?_
  have hg1 := h.1
  have h := h.2
  refine jm_icmp_eq (pc := 97) 106 dX7_cutIntoTokens_97 rfl hg1 ⟨by decide, by decide⟩ (fun q => ?_) (fun q => ?_)
  · have h := h.1 q
    refine jm_iload (pc := 106) 3 dX7_cutIntoTokens_106 rfl ?_
    refine jm_istore_n (pc := 108) (lv' := [(3, _), (0, _), (2, _), (4, _), (5, _)]) dX7_cutIntoTokens_108 (by decide) rfl ?_
    refine jm_iinc (pc := 109) (lv' := [(4, _), (3, _), (0, _), (2, _), (5, _)]) 3 dX7_cutIntoTokens_109 rfl (by decide) rfl ?_
    refine jm_goto (pc := 112) 37 dX7_cutIntoTokens_112 rfl ?_
    exact jm_sub [2, 3, 1, 0] rfl h
  · have h := h.2 q
    refine jm_aload_n (pc := 100) 0 dX7_cutIntoTokens_100 rfl ?_
    refine jm_iload (pc := 101) 2 dX7_cutIntoTokens_101 rfl ?_
    refine jm_callvv (pc := 103) (As := [_]) (st := []) iX7_addToken dX7_cutIntoTokens_103 mX7_65 (cC1 hg) ⟨_, rfl, rfl⟩ rfl rfl (Nat.le_of_ble_eq_true rfl) h (fun m2 h hm5 => ?_)
    refine jm_iload (pc := 106) 3 dX7_cutIntoTokens_106 rfl ?_
    refine jm_istore_n (pc := 108) (lv' := [(3, _), (0, _), (2, _), (4, _), (5, _)]) dX7_cutIntoTokens_108 (by decide) rfl ?_
    refine jm_iinc (pc := 109) (lv' := [(4, _), (3, _), (0, _), (2, _), (5, _)]) 3 dX7_cutIntoTokens_109 rfl (by decide) rfl ?_
    refine jm_goto (pc := 112) 37 dX7_cutIntoTokens_112 rfl ?_
    exact jm_sub [2, 3, 1, 0] rfl h
theorem bX7_cutIntoTokens_76 {l : Launch} {g : jm_G} {d : Nat} {v4 v5 : Int} {c2 : Nat} (hg : jm_HC g) {mu : jm_M} {Q : Option Value → jm_M → Prop} (h : (0 ≤ ((mu.1 1 7) - 1) ∧ ((mu.1 1 7) - 1) < 401) ∧ jm_rg ((mu.1 5 ((mu.1 1 7) - 1)) + 1) ∧ ∀ m3, m3 = jm_wr mu 5 ((mu.1 1 7) - 1) ((mu.1 5 ((mu.1 1 7) - 1)) + 1) → jm_V l g (d + 1) iX7_cutIntoTokens 37 [(0, .ref 1), (2, .ref c2), (3, jm_i v5), (4, jm_i (v4 + 1))] [] m3 Q) : jm_V l g (d + 1) iX7_cutIntoTokens 76 [(0, .ref 1), (2, .ref c2), (4, jm_i v4), (5, jm_i v5)] [] mu Q := by
  refine jm_mrI (fun hm0 => ?_)
  refine jm_aload_n (pc := 76) 0 dX7_cutIntoTokens_76 rfl ?_
  refine jm_getr (pc := 77) 6 dX7_cutIntoTokens_77 fX7_31 (cC1 hg) rfl ?_
  refine jm_aload_n (pc := 80) 0 dX7_cutIntoTokens_80 rfl ?_
  refine jm_geti (pc := 81) 7 dX7_cutIntoTokens_81 fX7_34 (cC1 hg) rfl ?_
  refine jm_iconst (pc := 84) dX7_cutIntoTokens_84 ?_
  refine jm_isub (pc := 85) dX7_cutIntoTokens_85 ?_
  refine jm_dup2 (pc := 86) _ _ dX7_cutIntoTokens_86 rfl rfl ?_
  have hg1 := h.1
  have h := h.2
  refine jm_iald (pc := 87) dX7_cutIntoTokens_87 (cC5 hg) (by decide) hg1.1 hg1.2 ?_
  refine jm_iconst (pc := 88) dX7_cutIntoTokens_88 ?_
  refine jm_iadd (pc := 89) dX7_cutIntoTokens_89 ?_
  have hg2 := h.1
  have h := h.2
  refine jm_iast (pc := 90) dX7_cutIntoTokens_90 (cC5 hg) (by decide) hg1.1 hg1.2 hg2 ?_
  have h := h _ rfl
  refine jm_mrI (fun hm4 => ?_)
  refine jm_goto (pc := 91) 106 dX7_cutIntoTokens_91 rfl ?_
  refine jm_iload (pc := 106) 3 dX7_cutIntoTokens_106 rfl ?_
  refine jm_istore_n (pc := 108) (lv' := [(3, _), (0, _), (2, _), (4, _), (5, _)]) dX7_cutIntoTokens_108 (by decide) rfl ?_
  refine jm_iinc (pc := 109) (lv' := [(4, _), (3, _), (0, _), (2, _), (5, _)]) 3 dX7_cutIntoTokens_109 rfl (by decide) rfl ?_
  refine jm_goto (pc := 112) 37 dX7_cutIntoTokens_112 rfl ?_
  exact jm_sub [2, 3, 1, 0] rfl h
theorem bX7_cutIntoTokens_37 {l : Launch} {g : jm_G} {d : Nat} {v3 v4 : Int} {c2 : Nat} (hg : jm_HC g) {mu : jm_M} {Q : Option Value → jm_M → Prop} (h : jm_rg v4 ∧ ((mu.1 1 1) ≤ v4 → jm_V l g (d + 1) iX7_cutIntoTokens 118 [(0, .ref 1), (2, .ref c2), (4, jm_i 0)] [] mu Q) ∧ (v4 < (mu.1 1 1) → (0 ≤ v4 ∧ v4 < 400) ∧ jm_R l g d iX7_sortOf [jm_i (mu.1 2 v4)] mu (jm_qi fun z4 m3 => jm_rg v3 ∧ (¬ z4 = v3 → jm_V l g (d + 1) iX7_cutIntoTokens 94 [(0, .ref 1), (2, .ref c2), (4, jm_i v4), (5, jm_i z4)] [] m3 Q) ∧ (z4 = v3 → (z4 = 1 → jm_V l g (d + 1) iX7_cutIntoTokens 76 [(0, .ref 1), (2, .ref c2), (4, jm_i v4), (5, jm_i z4)] [] m3 Q) ∧ (¬ z4 = 1 → (¬ z4 = 2 → jm_V l g (d + 1) iX7_cutIntoTokens 94 [(0, .ref 1), (2, .ref c2), (4, jm_i v4), (5, jm_i z4)] [] m3 Q) ∧ (z4 = 2 → jm_V l g (d + 1) iX7_cutIntoTokens 76 [(0, .ref 1), (2, .ref c2), (4, jm_i v4), (5, jm_i z4)] [] m3 Q)))))) : jm_V l g (d + 1) iX7_cutIntoTokens 37 [(0, .ref 1), (2, .ref c2), (3, jm_i v3), (4, jm_i v4)] [] mu Q := by
  refine jm_mrI (fun hm0 => ?_)
  refine jm_iload (pc := 37) 3 dX7_cutIntoTokens_37 rfl ?_
  refine jm_aload_n (pc := 39) 0 dX7_cutIntoTokens_39 rfl ?_
  refine jm_geti (pc := 40) 1 dX7_cutIntoTokens_40 fX7_15 (cC1 hg) rfl ?_
  have hg1 := h.1
  have h := h.2
  refine jm_icmp_ge (pc := 43) 115 dX7_cutIntoTokens_43 rfl hg1 (hm0 _ _) (fun q => ?_) (fun q => ?_)
  · have h := h.1 q
    refine jm_iconst (pc := 115) dX7_cutIntoTokens_115 ?_
    refine jm_istore (pc := 116) (lv' := [(4, _), (0, _), (2, _), (3, _)]) dX7_cutIntoTokens_116 (by decide) rfl ?_
    exact jm_sub [1, 2, 0] rfl h
  · have h := h.2 q
    refine jm_aload_n (pc := 46) 0 dX7_cutIntoTokens_46 rfl ?_
    refine jm_getr (pc := 47) 0 dX7_cutIntoTokens_47 fX7_11 (cC1 hg) rfl ?_
    refine jm_iload (pc := 50) 3 dX7_cutIntoTokens_50 rfl ?_
    have hg2 := h.1
    have h := h.2
    refine jm_iald (pc := 52) dX7_cutIntoTokens_52 (cC2 hg) (by decide) hg2.1 hg2.2 ?_
    refine jm_callsi (pc := 53) (As := [_]) (st := []) iX7_sortOf dX7_cutIntoTokens_53 mX7_61 rfl rfl (Nat.le_of_ble_eq_true rfl) h (fun z4 m3 hz5 h hm6 => ?_)
    refine jm_istore (pc := 56) (lv' := [(5, _), (0, _), (2, _), (3, _), (4, _)]) dX7_cutIntoTokens_56 (by decide) rfl ?_
    refine jm_iload (pc := 58) 0 dX7_cutIntoTokens_58 rfl ?_
    refine jm_iload_n (pc := 60) 3 dX7_cutIntoTokens_60 rfl ?_
    have hg7 := h.1
    have h := h.2
    refine jm_icmp_ne (pc := 61) 94 dX7_cutIntoTokens_61 rfl hz5 hg7 (fun q => ?_) (fun q => ?_)
    · have h := h.1 q
      exact jm_sub [1, 2, 4, 0] rfl h
    · have h := h.2 q
      refine jm_iload (pc := 64) 0 dX7_cutIntoTokens_64 rfl ?_
      refine jm_iconst (pc := 66) dX7_cutIntoTokens_66 ?_
      refine jm_icmp_eq (pc := 67) 76 dX7_cutIntoTokens_67 rfl hz5 ⟨by decide, by decide⟩ (fun q => ?_) (fun q => ?_)
      · have h := h.1 q
        exact jm_sub [1, 2, 4, 0] rfl h
      · have h := h.2 q
        refine jm_iload (pc := 70) 0 dX7_cutIntoTokens_70 rfl ?_
        refine jm_iconst (pc := 72) dX7_cutIntoTokens_72 ?_
        refine jm_icmp_ne (pc := 73) 94 dX7_cutIntoTokens_73 rfl hz5 ⟨by decide, by decide⟩ (fun q => ?_) (fun q => ?_)
        · have h := h.1 q
          exact jm_sub [1, 2, 4, 0] rfl h
        · have h := h.2 q
          exact jm_sub [1, 2, 4, 0] rfl h
theorem bX7_cutIntoTokens_21 {l : Launch} {g : jm_G} {d : Nat} {u0 : Nat} (hg : jm_HC g) {mu : jm_M} {Q : Option Value → jm_M → Prop} (h : ∀ m1, m1 = jm_wr mu 1 7 0 → ∀ m3, m3 = jm_wr m1 1 8 0 → jm_V l g (d + 1) iX7_cutIntoTokens 37 [(0, .ref 1), (2, .ref u0), (3, jm_i 3), (4, jm_i 0)] [] m3 Q) : jm_V l g (d + 1) iX7_cutIntoTokens 21 [(0, .ref 1)] [.ref u0] mu Q := by
  refine jm_mrI (fun hm0 => ?_)
  refine jm_astore_n (pc := 21) (lv' := [(2, _), (0, _)]) dX7_cutIntoTokens_21 (by decide) rfl ?_
  refine jm_aload_n (pc := 22) 1 dX7_cutIntoTokens_22 rfl ?_
  refine jm_iconst (pc := 23) dX7_cutIntoTokens_23 ?_
  refine jm_put (pc := 24) 7 dX7_cutIntoTokens_24 fX7_34 ftX7 (fun q h => by cases h; rfl) (jm_nI _) (jm_fI _) (cC1 hg) rfl ⟨by decide, by decide⟩ ?_
  have h := h _ rfl
  refine jm_mrI (fun hm2 => ?_)
  refine jm_aload_n (pc := 27) 1 dX7_cutIntoTokens_27 rfl ?_
  refine jm_iconst (pc := 28) dX7_cutIntoTokens_28 ?_
  refine jm_put (pc := 29) 8 dX7_cutIntoTokens_29 fX7_37 ftX7 (fun q h => by cases h; rfl) (jm_nI _) (jm_fI _) (cC1 hg) rfl ⟨by decide, by decide⟩ ?_
  have h := h _ rfl
  refine jm_mrI (fun hm4 => ?_)
  refine jm_iconst (pc := 32) dX7_cutIntoTokens_32 ?_
  refine jm_istore_n (pc := 33) (lv' := [(3, _), (2, _), (0, _)]) dX7_cutIntoTokens_33 (by decide) rfl ?_
  refine jm_iconst (pc := 34) dX7_cutIntoTokens_34 ?_
  refine jm_istore (pc := 35) (lv' := [(4, _), (3, _), (2, _), (0, _)]) dX7_cutIntoTokens_35 (by decide) rfl ?_
  exact jm_sub [3, 2, 1, 0] rfl h
theorem eX7_cutIntoTokens {l : Launch} {g : jm_G} {d : Nat} {v1 : Int} (hg : jm_HC g) {mu : jm_M} {Q : Option Value → jm_M → Prop} (h : jm_rg v1 ∧ (¬ v1 = 0 → (¬ v1 = 1 → jm_V l g (d + 1) iX7_cutIntoTokens 21 [(0, .ref 1)] [.ref 1002] mu Q) ∧ (v1 = 1 → jm_V l g (d + 1) iX7_cutIntoTokens 21 [(0, .ref 1)] [.ref 1001] mu Q)) ∧ (v1 = 0 → jm_V l g (d + 1) iX7_cutIntoTokens 21 [(0, .ref 1)] [.ref 1000] mu Q)) : jm_R l g (d + 1) iX7_cutIntoTokens [.ref 1, jm_i v1] mu Q := by
  refine jm_enter [(0, .ref 1), (1, jm_i v1)] (by decide) (Nat.le_of_ble_eq_true rfl) rfl ?_
  refine jm_mrI (fun hm0 => ?_)
  refine jm_iload_n (pc := 0) 1 dX7_cutIntoTokens_0 rfl ?_
  have hg1 := h.1
  have h := h.2
  refine jm_if_ne (pc := 1) 9 dX7_cutIntoTokens_1 rfl hg1 (fun q => ?_) (fun q => ?_)
  · have h := h.1 q
    refine jm_iload_n (pc := 9) 1 dX7_cutIntoTokens_9 rfl ?_
    refine jm_iconst (pc := 10) dX7_cutIntoTokens_10 ?_
    refine jm_icmp_ne (pc := 11) 19 dX7_cutIntoTokens_11 rfl hg1 ⟨by decide, by decide⟩ (fun q => ?_) (fun q => ?_)
    · have h := h.1 q
      refine jm_ldcS (pc := 19) (b := 1002) dX7_cutIntoTokens_19 (fun s hs => hg.2.2.1 2 _ rfl s hs) ?_
      exact jm_sub [0] rfl h
    · have h := h.2 q
      refine jm_ldcS (pc := 14) (b := 1001) dX7_cutIntoTokens_14 (fun s hs => hg.2.2.1 1 _ rfl s hs) ?_
      refine jm_goto (pc := 16) 21 dX7_cutIntoTokens_16 rfl ?_
      exact jm_sub [0] rfl h
  · have h := h.2 q
    refine jm_ldcS (pc := 4) (b := 1000) dX7_cutIntoTokens_4 (fun s hs => hg.2.2.1 0 _ rfl s hs) ?_
    refine jm_goto (pc := 6) 21 dX7_cutIntoTokens_6 rfl ?_
    exact jm_sub [0] rfl h
theorem dX11_text_0 : decode cX11_text 0 = .ok (.aload_n 0, 1) := by decide +kernel
theorem dX11_text_1 : decode cX11_text 1 = .ok (.getfield 12, 3) := by decide +kernel
theorem dX11_text_4 : decode cX11_text 4 = .ok (.invokevirtual 167, 3) := by decide +kernel
theorem dX11_text_7 : decode cX11_text 7 = .ok (.aload_n 0, 1) := by decide +kernel
theorem dX11_text_8 : decode cX11_text 8 = .ok (.getfield 12, 3) := by decide +kernel
theorem dX11_text_11 : decode cX11_text 11 = .ok (.iload_n 1, 1) := by decide +kernel
theorem dX11_text_12 : decode cX11_text 12 = .ok (.invokevirtual 170, 3) := by decide +kernel
theorem dX11_text_15 : decode cX11_text 15 = .ok (.aload_n 0, 1) := by decide +kernel
theorem dX11_text_16 : decode cX11_text 16 = .ok (.getfield 12, 3) := by decide +kernel
theorem dX11_text_19 : decode cX11_text 19 = .ok (.iconst 0, 1) := by decide +kernel
theorem dX11_text_20 : decode cX11_text 20 = .ok (.putfield 164, 3) := by decide +kernel
theorem dX11_text_23 : decode cX11_text 23 = .ok (.iload_n 1, 1) := by decide +kernel
theorem dX11_text_24 : decode cX11_text 24 = .ok (.tableswitch 100 0 2 #[28, 51, 70], 28) := by decide +kernel
theorem dX11_text_52 : decode cX11_text 52 = .ok (.aload_n 0, 1) := by decide +kernel
theorem dX11_text_53 : decode cX11_text 53 = .ok (.getfield 65, 3) := by decide +kernel
theorem dX11_text_56 : decode cX11_text 56 = .ok (.aload_n 0, 1) := by decide +kernel
theorem dX11_text_57 : decode cX11_text 57 = .ok (.getfield 12, 3) := by decide +kernel
theorem dX11_text_60 : decode cX11_text 60 = .ok (.invokevirtual 173, 3) := by decide +kernel
theorem dX11_text_63 : decode cX11_text 63 = .ok (.ifCond .eq 10, 3) := by decide +kernel
theorem dX11_text_66 : decode cX11_text 66 = .ok (.aload_n 0, 1) := by decide +kernel
theorem dX11_text_67 : decode cX11_text 67 = .ok (.invokevirtual 177, 3) := by decide +kernel
theorem dX11_text_70 : decode cX11_text 70 = .ok (.goto 4, 3) := by decide +kernel
theorem dX11_text_73 : decode cX11_text 73 = .ok (.iconst (-1), 1) := by decide +kernel
theorem dX11_text_74 : decode cX11_text 74 = .ok (.ireturn, 1) := by decide +kernel
theorem dX11_text_75 : decode cX11_text 75 = .ok (.aload_n 0, 1) := by decide +kernel
theorem dX11_text_76 : decode cX11_text 76 = .ok (.getfield 88, 3) := by decide +kernel
theorem dX11_text_79 : decode cX11_text 79 = .ok (.invokevirtual 181, 3) := by decide +kernel
theorem dX11_text_82 : decode cX11_text 82 = .ok (.ifCond .eq 10, 3) := by decide +kernel
theorem dX11_text_85 : decode cX11_text 85 = .ok (.aload_n 0, 1) := by decide +kernel
theorem dX11_text_86 : decode cX11_text 86 = .ok (.invokevirtual 185, 3) := by decide +kernel
theorem dX11_text_89 : decode cX11_text 89 = .ok (.goto 4, 3) := by decide +kernel
theorem dX11_text_92 : decode cX11_text 92 = .ok (.iconst (-1), 1) := by decide +kernel
theorem dX11_text_93 : decode cX11_text 93 = .ok (.ireturn, 1) := by decide +kernel
theorem dX11_text_94 : decode cX11_text 94 = .ok (.aload_n 0, 1) := by decide +kernel
theorem dX11_text_95 : decode cX11_text 95 = .ok (.getfield 79, 3) := by decide +kernel
theorem dX11_text_98 : decode cX11_text 98 = .ok (.aload_n 0, 1) := by decide +kernel
theorem dX11_text_99 : decode cX11_text 99 = .ok (.getfield 12, 3) := by decide +kernel
theorem dX11_text_102 : decode cX11_text 102 = .ok (.aload_n 0, 1) := by decide +kernel
theorem dX11_text_103 : decode cX11_text 103 = .ok (.getfield 19, 3) := by decide +kernel
theorem dX11_text_106 : decode cX11_text 106 = .ok (.getfield 127, 3) := by decide +kernel
theorem dX11_text_109 : decode cX11_text 109 = .ok (.invokevirtual 188, 3) := by decide +kernel
theorem dX11_text_112 : decode cX11_text 112 = .ok (.ifCond .eq 10, 3) := by decide +kernel
theorem dX11_text_115 : decode cX11_text 115 = .ok (.aload_n 0, 1) := by decide +kernel
theorem dX11_text_116 : decode cX11_text 116 = .ok (.invokevirtual 191, 3) := by decide +kernel
theorem dX11_text_119 : decode cX11_text 119 = .ok (.goto 4, 3) := by decide +kernel
theorem dX11_text_122 : decode cX11_text 122 = .ok (.iconst (-1), 1) := by decide +kernel
theorem dX11_text_123 : decode cX11_text 123 = .ok (.ireturn, 1) := by decide +kernel
theorem dX11_text_124 : decode cX11_text 124 = .ok (.iconst (-1), 1) := by decide +kernel
theorem dX11_text_125 : decode cX11_text 125 = .ok (.ireturn, 1) := by decide +kernel
theorem eX11_text {l : Launch} {g : jm_G} {d : Nat} {v1 : Int} (hg : jm_HC g) {mu : jm_M} {Q : Option Value → jm_M → Prop} (h : ∀ m1, m1 = (jm_wr (jm_wr mu 1 2 0) 1 3 (-1)) → jm_R l g (d + 2) iX7_cutIntoTokens [.ref 1, jm_i v1] m1 (jm_qv fun m3 => ∀ m7, m7 = jm_wr m3 1 1 0 → jm_rg v1 ∧ (v1 = 0 → jm_R l g (d + 2) iX5_readFrom [.ref 46, .ref 1] m7 (jm_qi fun z11 m10 => (z11 = 0 → Q (some (jm_i (-1))) m10) ∧ (¬ z11 = 0 → ∀ m14, m14 = ((jm_wr (jm_wr ((jm_cp (jm_cp (jm_wr m10 12 0 (m10.1 46 0)) 47 0 13 0 24) 48 0 14 0 168)) 0 15 0) 0 16 0)) → Q (some (jm_i (((jm_wr (jm_wr ((jm_cp (jm_cp (jm_wr m10 12 0 (m10.1 46 0)) 47 0 13 0 24) 48 0 14 0 168)) 0 15 0) 0 16 0)).1 46 0))) m14))) ∧ (v1 = 1 → jm_R l g (d + 2) iX4_readLines [.ref 63] m7 (jm_qi fun z17 m16 => (z17 = 0 → Q (some (jm_i (-1))) m16) ∧ (¬ z17 = 0 → jm_R l g (d + 2) iX11_adoptLaw [.ref 0] m16 (jm_qi fun z21 m20 => Q (some (jm_i z21)) m20)))) ∧ (v1 = 2 → jm_R l g (d + 2) iX6_readFrom [.ref 56, .ref 1, jm_i (m7.1 6 0)] m7 (jm_qi fun z25 m24 => (z25 = 0 → Q (some (jm_i (-1))) m24) ∧ (¬ z25 = 0 → jm_R l g (d + 2) iX11_adoptPlan [.ref 0] m24 (jm_qi fun z29 m28 => Q (some (jm_i z29)) m28)))) ∧ (v1 < 0 ∨ 2 < v1 → Q (some (jm_i (-1))) m7))) : jm_R l g (d + 3) iX11_text [.ref 0, jm_i v1] mu Q := by
  refine jm_enter [(0, .ref 0), (1, jm_i v1)] (by decide) (Nat.le_of_ble_eq_true rfl) rfl ?_
  refine jm_mrI (fun hm0 => ?_)
  refine jm_aload_n (pc := 0) 0 dX11_text_0 rfl ?_
  refine jm_getr (pc := 1) 0 dX11_text_1 fX11_12 (cC0 hg) rfl ?_
  refine jm_inlvv (pc := 4) (As := []) (st := []) iX7_clearFault dX11_text_4 mX11_167 (cC1 hg) ⟨_, rfl, rfl⟩ rfl rfl (Nat.le_of_ble_eq_true rfl) (pX7_clearFault hg  (jm_kVi ?_))
  have h := h _ rfl
  refine jm_mrI (fun hm2 => ?_)
  refine jm_aload_n (pc := 7) 0 dX11_text_7 rfl ?_
  refine jm_getr (pc := 8) 0 dX11_text_8 fX11_12 (cC0 hg) rfl ?_
  refine jm_iload_n (pc := 11) 1 dX11_text_11 rfl ?_
  refine jm_callvv (pc := 12) (As := [_]) (st := []) iX7_cutIntoTokens dX11_text_12 mX11_170 (cC1 hg) ⟨_, rfl, rfl⟩ rfl rfl (Nat.le_of_ble_eq_true rfl) h (fun m3 h hm6 => ?_)
  refine jm_aload_n (pc := 15) 0 dX11_text_15 rfl ?_
  refine jm_getr (pc := 16) 0 dX11_text_16 fX11_12 (cC0 hg) rfl ?_
  refine jm_iconst (pc := 19) dX11_text_19 ?_
  refine jm_put (pc := 20) 1 dX11_text_20 fX11_164 ftX7 (fun q h => by cases h; rfl) (jm_nI _) (jm_fI _) (cC1 hg) rfl ⟨by decide, by decide⟩ ?_
  have h := h _ rfl
  refine jm_mrI (fun hm8 => ?_)
  refine jm_iload_n (pc := 23) 1 dX11_text_23 rfl ?_
  have hg9 := h.1
  have h := h.2
  by_cases q0 : v1 = 0
  · have h := h.1 q0
    refine jm_tin (pc := 24) 52 dX11_text_24 hg9 (by omega) (by omega) (by rw [q0] <;> rfl) rfl ?_
    refine jm_aload_n (pc := 52) 0 dX11_text_52 rfl ?_
    refine jm_getr (pc := 53) 7 dX11_text_53 fX11_65 (cC0 hg) rfl ?_
    refine jm_aload_n (pc := 56) 0 dX11_text_56 rfl ?_
    refine jm_getr (pc := 57) 0 dX11_text_57 fX11_12 (cC0 hg) rfl ?_
    refine jm_callvi (pc := 60) (As := [_]) (st := []) iX5_readFrom dX11_text_60 mX11_173 (cC46 hg) ⟨_, rfl, rfl⟩ rfl rfl (Nat.le_of_ble_eq_true rfl) h (fun z11 m10 hz12 h hm13 => ?_)
    refine jm_if_eq (pc := 63) 73 dX11_text_63 rfl hz12 (fun q => ?_) (fun q => ?_)
    · have h := h.1 q
      refine jm_iconst (pc := 73) dX11_text_73 ?_
      exact jm_iret (pc := 74) dX11_text_74 rfl h
    · have h := h.2 q
      refine jm_aload_n (pc := 66) 0 dX11_text_66 rfl ?_
      refine jm_inlvi (pc := 67) (As := []) (st := []) iX11_adoptMotives dX11_text_67 mX11_177 (cC0 hg) ⟨_, rfl, rfl⟩ rfl rfl (Nat.le_of_ble_eq_true rfl) (pX11_adoptMotives hg  (jm_kIi ?_))
      have h := h _ rfl
      refine jm_mrI (fun hm15 => ?_)
      refine jm_goto (pc := 70) 74 dX11_text_70 rfl ?_
      exact jm_iret (pc := 74) dX11_text_74 rfl h
  · by_cases q1 : v1 = 1
    · have h := h.2.1 q1
      refine jm_tin (pc := 24) 75 dX11_text_24 hg9 (by omega) (by omega) (by rw [q1] <;> rfl) rfl ?_
      refine jm_aload_n (pc := 75) 0 dX11_text_75 rfl ?_
      refine jm_getr (pc := 76) 10 dX11_text_76 fX11_88 (cC0 hg) rfl ?_
      refine jm_callvi (pc := 79) (As := []) (st := []) iX4_readLines dX11_text_79 mX11_181 (cC63 hg) ⟨_, rfl, rfl⟩ rfl rfl (Nat.le_of_ble_eq_true rfl) h (fun z17 m16 hz18 h hm19 => ?_)
      refine jm_if_eq (pc := 82) 92 dX11_text_82 rfl hz18 (fun q => ?_) (fun q => ?_)
      · have h := h.1 q
        refine jm_iconst (pc := 92) dX11_text_92 ?_
        exact jm_iret (pc := 93) dX11_text_93 rfl h
      · have h := h.2 q
        refine jm_aload_n (pc := 85) 0 dX11_text_85 rfl ?_
        refine jm_callvi (pc := 86) (As := []) (st := []) iX11_adoptLaw dX11_text_86 mX11_185 (cC0 hg) ⟨_, rfl, rfl⟩ rfl rfl (Nat.le_of_ble_eq_true rfl) h (fun z21 m20 hz22 h hm23 => ?_)
        refine jm_goto (pc := 89) 93 dX11_text_89 rfl ?_
        exact jm_iret (pc := 93) dX11_text_93 rfl h
    · by_cases q2 : v1 = 2
      · have h := h.2.2.1 q2
        refine jm_tin (pc := 24) 94 dX11_text_24 hg9 (by omega) (by omega) (by rw [q2] <;> rfl) rfl ?_
        refine jm_aload_n (pc := 94) 0 dX11_text_94 rfl ?_
        refine jm_getr (pc := 95) 9 dX11_text_95 fX11_79 (cC0 hg) rfl ?_
        refine jm_aload_n (pc := 98) 0 dX11_text_98 rfl ?_
        refine jm_getr (pc := 99) 0 dX11_text_99 fX11_12 (cC0 hg) rfl ?_
        refine jm_aload_n (pc := 102) 0 dX11_text_102 rfl ?_
        refine jm_getr (pc := 103) 1 dX11_text_103 fX11_19 (cC0 hg) rfl ?_
        refine jm_geti (pc := 106) 0 dX11_text_106 fX11_127 (cC6 hg) rfl ?_
        refine jm_callvi (pc := 109) (As := [_, _]) (st := []) iX6_readFrom dX11_text_109 mX11_188 (cC56 hg) ⟨_, rfl, rfl⟩ rfl rfl (Nat.le_of_ble_eq_true rfl) h (fun z25 m24 hz26 h hm27 => ?_)
        refine jm_if_eq (pc := 112) 122 dX11_text_112 rfl hz26 (fun q => ?_) (fun q => ?_)
        · have h := h.1 q
          refine jm_iconst (pc := 122) dX11_text_122 ?_
          exact jm_iret (pc := 123) dX11_text_123 rfl h
        · have h := h.2 q
          refine jm_aload_n (pc := 115) 0 dX11_text_115 rfl ?_
          refine jm_callvi (pc := 116) (As := []) (st := []) iX11_adoptPlan dX11_text_116 mX11_191 (cC0 hg) ⟨_, rfl, rfl⟩ rfl rfl (Nat.le_of_ble_eq_true rfl) h (fun z29 m28 hz30 h hm31 => ?_)
          refine jm_goto (pc := 119) 123 dX11_text_119 rfl ?_
          exact jm_iret (pc := 123) dX11_text_123 rfl h
      · have h := h.2.2.2 (by omega)
        refine jm_tout (pc := 24) 124 dX11_text_24 hg9 (by omega) rfl ?_
        refine jm_iconst (pc := 124) dX11_text_124 ?_
        exact jm_iret (pc := 125) dX11_text_125 rfl h
theorem dX11_fault_0 : decode cX11_fault 0 = .ok (.iload_n 1, 1) := by decide +kernel
theorem dX11_fault_1 : decode cX11_fault 1 = .ok (.ifCond .ne 11, 3) := by decide +kernel
theorem dX11_fault_4 : decode cX11_fault 4 = .ok (.aload_n 0, 1) := by decide +kernel
theorem dX11_fault_5 : decode cX11_fault 5 = .ok (.getfield 12, 3) := by decide +kernel
theorem dX11_fault_8 : decode cX11_fault 8 = .ok (.getfield 194, 3) := by decide +kernel
theorem dX11_fault_11 : decode cX11_fault 11 = .ok (.ireturn, 1) := by decide +kernel
theorem dX11_fault_12 : decode cX11_fault 12 = .ok (.iload_n 1, 1) := by decide +kernel
theorem dX11_fault_13 : decode cX11_fault 13 = .ok (.iconst 1, 1) := by decide +kernel
theorem dX11_fault_14 : decode cX11_fault 14 = .ok (.if_icmp .ne 13, 3) := by decide +kernel
theorem dX11_fault_17 : decode cX11_fault 17 = .ok (.aload_n 0, 1) := by decide +kernel
theorem dX11_fault_18 : decode cX11_fault 18 = .ok (.getfield 12, 3) := by decide +kernel
theorem dX11_fault_21 : decode cX11_fault 21 = .ok (.getfield 197, 3) := by decide +kernel
theorem dX11_fault_24 : decode cX11_fault 24 = .ok (.goto 4, 3) := by decide +kernel
theorem dX11_fault_27 : decode cX11_fault 27 = .ok (.iconst (-1), 1) := by decide +kernel
theorem dX11_fault_28 : decode cX11_fault 28 = .ok (.ireturn, 1) := by decide +kernel
theorem eX11_fault {l : Launch} {g : jm_G} {d : Nat} {v1 : Int} (hg : jm_HC g) {mu : jm_M} {Q : Option Value → jm_M → Prop} (h : jm_rg v1 ∧ (¬ v1 = 0 → (¬ v1 = 1 → Q (some (jm_i (-1))) mu) ∧ (v1 = 1 → Q (some (jm_i (mu.1 1 3))) mu)) ∧ (v1 = 0 → Q (some (jm_i (mu.1 1 2))) mu)) : jm_R l g (d + 1) iX11_fault [.ref 0, jm_i v1] mu Q := by
  refine jm_enter [(0, .ref 0), (1, jm_i v1)] (by decide) (Nat.le_of_ble_eq_true rfl) rfl ?_
  refine jm_mrI (fun hm0 => ?_)
  refine jm_iload_n (pc := 0) 1 dX11_fault_0 rfl ?_
  have hg1 := h.1
  have h := h.2
  refine jm_if_ne (pc := 1) 12 dX11_fault_1 rfl hg1 (fun q => ?_) (fun q => ?_)
  · have h := h.1 q
    refine jm_iload_n (pc := 12) 1 dX11_fault_12 rfl ?_
    refine jm_iconst (pc := 13) dX11_fault_13 ?_
    refine jm_icmp_ne (pc := 14) 27 dX11_fault_14 rfl hg1 ⟨by decide, by decide⟩ (fun q => ?_) (fun q => ?_)
    · have h := h.1 q
      refine jm_iconst (pc := 27) dX11_fault_27 ?_
      exact jm_iret (pc := 28) dX11_fault_28 rfl h
    · have h := h.2 q
      refine jm_aload_n (pc := 17) 0 dX11_fault_17 rfl ?_
      refine jm_getr (pc := 18) 0 dX11_fault_18 fX11_12 (cC0 hg) rfl ?_
      refine jm_geti (pc := 21) 3 dX11_fault_21 fX11_197 (cC1 hg) rfl ?_
      refine jm_goto (pc := 24) 28 dX11_fault_24 rfl ?_
      exact jm_iret (pc := 28) dX11_fault_28 rfl h
  · have h := h.2 q
    refine jm_aload_n (pc := 4) 0 dX11_fault_4 rfl ?_
    refine jm_getr (pc := 5) 0 dX11_fault_5 fX11_12 (cC0 hg) rfl ?_
    refine jm_geti (pc := 8) 2 dX11_fault_8 fX11_194 (cC1 hg) rfl ?_
    exact jm_iret (pc := 11) dX11_fault_11 rfl h
theorem dX1_copyFrom_0 : decode cX1_copyFrom 0 = .ok (.aload_n 1, 1) := by decide +kernel
theorem dX1_copyFrom_1 : decode cX1_copyFrom 1 = .ok (.ifnonnull 4, 3) := by decide +kernel
theorem dX1_copyFrom_4 : decode cX1_copyFrom 4 = .ok (.return_, 1) := by decide +kernel
theorem dX1_copyFrom_5 : decode cX1_copyFrom 5 = .ok (.aload_n 0, 1) := by decide +kernel
theorem dX1_copyFrom_6 : decode cX1_copyFrom 6 = .ok (.aload_n 1, 1) := by decide +kernel
theorem dX1_copyFrom_7 : decode cX1_copyFrom 7 = .ok (.getfield 9, 3) := by decide +kernel
theorem dX1_copyFrom_10 : decode cX1_copyFrom 10 = .ok (.putfield 9, 3) := by decide +kernel
theorem dX1_copyFrom_13 : decode cX1_copyFrom 13 = .ok (.aload_n 0, 1) := by decide +kernel
theorem dX1_copyFrom_14 : decode cX1_copyFrom 14 = .ok (.aload_n 1, 1) := by decide +kernel
theorem dX1_copyFrom_15 : decode cX1_copyFrom 15 = .ok (.getfield 15, 3) := by decide +kernel
theorem dX1_copyFrom_18 : decode cX1_copyFrom 18 = .ok (.putfield 15, 3) := by decide +kernel
theorem dX1_copyFrom_21 : decode cX1_copyFrom 21 = .ok (.aload_n 1, 1) := by decide +kernel
theorem dX1_copyFrom_22 : decode cX1_copyFrom 22 = .ok (.getfield 18, 3) := by decide +kernel
theorem dX1_copyFrom_25 : decode cX1_copyFrom 25 = .ok (.iconst 0, 1) := by decide +kernel
theorem dX1_copyFrom_26 : decode cX1_copyFrom 26 = .ok (.aload_n 0, 1) := by decide +kernel
theorem dX1_copyFrom_27 : decode cX1_copyFrom 27 = .ok (.getfield 18, 3) := by decide +kernel
theorem dX1_copyFrom_30 : decode cX1_copyFrom 30 = .ok (.iconst 0, 1) := by decide +kernel
theorem dX1_copyFrom_31 : decode cX1_copyFrom 31 = .ok (.bipush 8, 2) := by decide +kernel
theorem dX1_copyFrom_33 : decode cX1_copyFrom 33 = .ok (.invokestatic 43, 3) := by decide +kernel
theorem dX1_copyFrom_36 : decode cX1_copyFrom 36 = .ok (.aload_n 1, 1) := by decide +kernel
theorem dX1_copyFrom_37 : decode cX1_copyFrom 37 = .ok (.getfield 22, 3) := by decide +kernel
theorem dX1_copyFrom_40 : decode cX1_copyFrom 40 = .ok (.iconst 0, 1) := by decide +kernel
theorem dX1_copyFrom_41 : decode cX1_copyFrom 41 = .ok (.aload_n 0, 1) := by decide +kernel
theorem dX1_copyFrom_42 : decode cX1_copyFrom 42 = .ok (.getfield 22, 3) := by decide +kernel
theorem dX1_copyFrom_45 : decode cX1_copyFrom 45 = .ok (.iconst 0, 1) := by decide +kernel
theorem dX1_copyFrom_46 : decode cX1_copyFrom 46 = .ok (.bipush 8, 2) := by decide +kernel
theorem dX1_copyFrom_48 : decode cX1_copyFrom 48 = .ok (.invokestatic 43, 3) := by decide +kernel
theorem dX1_copyFrom_51 : decode cX1_copyFrom 51 = .ok (.aload_n 0, 1) := by decide +kernel
theorem dX1_copyFrom_52 : decode cX1_copyFrom 52 = .ok (.aload_n 1, 1) := by decide +kernel
theorem dX1_copyFrom_53 : decode cX1_copyFrom 53 = .ok (.getfield 25, 3) := by decide +kernel
theorem dX1_copyFrom_56 : decode cX1_copyFrom 56 = .ok (.putfield 25, 3) := by decide +kernel
theorem dX1_copyFrom_59 : decode cX1_copyFrom 59 = .ok (.aload_n 1, 1) := by decide +kernel
theorem dX1_copyFrom_60 : decode cX1_copyFrom 60 = .ok (.getfield 28, 3) := by decide +kernel
theorem dX1_copyFrom_63 : decode cX1_copyFrom 63 = .ok (.iconst 0, 1) := by decide +kernel
theorem dX1_copyFrom_64 : decode cX1_copyFrom 64 = .ok (.aload_n 0, 1) := by decide +kernel
theorem dX1_copyFrom_65 : decode cX1_copyFrom 65 = .ok (.getfield 28, 3) := by decide +kernel
theorem dX1_copyFrom_68 : decode cX1_copyFrom 68 = .ok (.iconst 0, 1) := by decide +kernel
theorem dX1_copyFrom_69 : decode cX1_copyFrom 69 = .ok (.sipush 140, 3) := by decide +kernel
theorem dX1_copyFrom_72 : decode cX1_copyFrom 72 = .ok (.invokestatic 43, 3) := by decide +kernel
theorem dX1_copyFrom_75 : decode cX1_copyFrom 75 = .ok (.aload_n 0, 1) := by decide +kernel
theorem dX1_copyFrom_76 : decode cX1_copyFrom 76 = .ok (.aload_n 1, 1) := by decide +kernel
theorem dX1_copyFrom_77 : decode cX1_copyFrom 77 = .ok (.getfield 31, 3) := by decide +kernel
theorem dX1_copyFrom_80 : decode cX1_copyFrom 80 = .ok (.putfield 31, 3) := by decide +kernel
theorem dX1_copyFrom_83 : decode cX1_copyFrom 83 = .ok (.aload_n 1, 1) := by decide +kernel
theorem dX1_copyFrom_84 : decode cX1_copyFrom 84 = .ok (.getfield 34, 3) := by decide +kernel
theorem dX1_copyFrom_87 : decode cX1_copyFrom 87 = .ok (.iconst 0, 1) := by decide +kernel
theorem dX1_copyFrom_88 : decode cX1_copyFrom 88 = .ok (.aload_n 0, 1) := by decide +kernel
theorem dX1_copyFrom_89 : decode cX1_copyFrom 89 = .ok (.getfield 34, 3) := by decide +kernel
theorem dX1_copyFrom_92 : decode cX1_copyFrom 92 = .ok (.iconst 0, 1) := by decide +kernel
theorem dX1_copyFrom_93 : decode cX1_copyFrom 93 = .ok (.sipush 200, 3) := by decide +kernel
theorem dX1_copyFrom_96 : decode cX1_copyFrom 96 = .ok (.invokestatic 43, 3) := by decide +kernel
theorem dX1_copyFrom_99 : decode cX1_copyFrom 99 = .ok (.aload_n 0, 1) := by decide +kernel
theorem dX1_copyFrom_100 : decode cX1_copyFrom 100 = .ok (.aload_n 1, 1) := by decide +kernel
theorem dX1_copyFrom_101 : decode cX1_copyFrom 101 = .ok (.getfield 37, 3) := by decide +kernel
theorem dX1_copyFrom_104 : decode cX1_copyFrom 104 = .ok (.putfield 37, 3) := by decide +kernel
theorem dX1_copyFrom_107 : decode cX1_copyFrom 107 = .ok (.aload_n 1, 1) := by decide +kernel
theorem dX1_copyFrom_108 : decode cX1_copyFrom 108 = .ok (.getfield 40, 3) := by decide +kernel
theorem dX1_copyFrom_111 : decode cX1_copyFrom 111 = .ok (.iconst 0, 1) := by decide +kernel
theorem dX1_copyFrom_112 : decode cX1_copyFrom 112 = .ok (.aload_n 0, 1) := by decide +kernel
theorem dX1_copyFrom_113 : decode cX1_copyFrom 113 = .ok (.getfield 40, 3) := by decide +kernel
theorem dX1_copyFrom_116 : decode cX1_copyFrom 116 = .ok (.iconst 0, 1) := by decide +kernel
theorem dX1_copyFrom_117 : decode cX1_copyFrom 117 = .ok (.sipush 600, 3) := by decide +kernel
theorem dX1_copyFrom_120 : decode cX1_copyFrom 120 = .ok (.invokestatic 43, 3) := by decide +kernel
theorem dX1_copyFrom_123 : decode cX1_copyFrom 123 = .ok (.return_, 1) := by decide +kernel
theorem eX1_copyFrom {l : Launch} {g : jm_G} {d : Nat} {c0 c1 : Nat} (hk : jm_ct g c0) (ho : jm_ct g c1) {mu : jm_M} {Q : Option Value → jm_M → Prop} (h : ∀ m1, m1 = jm_wr mu c0 0 (mu.1 c1 0) → ∀ m3, m3 = jm_wr m1 c0 1 (m1.1 c1 1) → ∀ m5, m5 = jm_cp m3 (c1 + 1) 0 (c0 + 1) 0 8 → ∀ m7, m7 = jm_cp m5 (c1 + 2) 0 (c0 + 2) 0 8 → ∀ m9, m9 = jm_wr m7 c0 4 (m7.1 c1 4) → ∀ m11, m11 = jm_cp m9 (c1 + 3) 0 (c0 + 3) 0 140 → ∀ m13, m13 = jm_wr m11 c0 6 (m11.1 c1 6) → ∀ m15, m15 = jm_cp m13 (c1 + 4) 0 (c0 + 4) 0 200 → ∀ m17, m17 = jm_wr m15 c0 8 (m15.1 c1 8) → ∀ m19, m19 = jm_cp m17 (c1 + 5) 0 (c0 + 5) 0 600 → Q none m19) : jm_R l g (d + 1) iX1_copyFrom [.ref c0, .ref c1] mu Q := by
  refine jm_enter [(0, .ref c0), (1, .ref c1)] (by decide) (Nat.le_of_ble_eq_true rfl) rfl ?_
  refine jm_mrI (fun hm0 => ?_)
  refine jm_aload_n (pc := 0) 1 dX1_copyFrom_0 rfl ?_
  refine jm_ifnonnull (pc := 1) 5 dX1_copyFrom_1 rfl ?_
  refine jm_aload_n (pc := 5) 0 dX1_copyFrom_5 rfl ?_
  refine jm_aload_n (pc := 6) 1 dX1_copyFrom_6 rfl ?_
  refine jm_geti (pc := 7) 0 dX1_copyFrom_7 fX1_9 ho.1 rfl ?_
  refine jm_put (pc := 10) 0 dX1_copyFrom_10 fX1_9 ftX1 (fun q h => by cases h; rfl) (jm_nI _) (jm_fI _) hk.1 rfl (hm0 _ _) ?_
  have h := h _ rfl
  refine jm_mrI (fun hm2 => ?_)
  refine jm_aload_n (pc := 13) 0 dX1_copyFrom_13 rfl ?_
  refine jm_aload_n (pc := 14) 1 dX1_copyFrom_14 rfl ?_
  refine jm_geti (pc := 15) 1 dX1_copyFrom_15 fX1_15 ho.1 rfl ?_
  refine jm_put (pc := 18) 1 dX1_copyFrom_18 fX1_15 ftX1 (fun q h => by cases h; rfl) (jm_nI _) (jm_fI _) hk.1 rfl (hm2 _ _) ?_
  have h := h _ rfl
  refine jm_mrI (fun hm4 => ?_)
  refine jm_aload_n (pc := 21) 1 dX1_copyFrom_21 rfl ?_
  refine jm_getr (pc := 22) 2 dX1_copyFrom_22 fX1_18 ho.1 rfl ?_
  refine jm_iconst (pc := 25) dX1_copyFrom_25 ?_
  refine jm_aload_n (pc := 26) 0 dX1_copyFrom_26 rfl ?_
  refine jm_getr (pc := 27) 2 dX1_copyFrom_27 fX1_18 hk.1 rfl ?_
  refine jm_iconst (pc := 30) dX1_copyFrom_30 ?_
  refine jm_bipush (pc := 31) dX1_copyFrom_31 (by decide) ?_
  refine jm_copy (pc := 33) dX1_copyFrom_33 mX1_43 ho.2.1 hk.2.1 (by decide) (by decide) (by decide) (by decide) (by decide) (by decide) (by decide) (Nat.le_of_ble_eq_true rfl) ?_
  have h := h _ rfl
  refine jm_mrI (fun hm6 => ?_)
  refine jm_aload_n (pc := 36) 1 dX1_copyFrom_36 rfl ?_
  refine jm_getr (pc := 37) 3 dX1_copyFrom_37 fX1_22 ho.1 rfl ?_
  refine jm_iconst (pc := 40) dX1_copyFrom_40 ?_
  refine jm_aload_n (pc := 41) 0 dX1_copyFrom_41 rfl ?_
  refine jm_getr (pc := 42) 3 dX1_copyFrom_42 fX1_22 hk.1 rfl ?_
  refine jm_iconst (pc := 45) dX1_copyFrom_45 ?_
  refine jm_bipush (pc := 46) dX1_copyFrom_46 (by decide) ?_
  refine jm_copy (pc := 48) dX1_copyFrom_48 mX1_43 ho.2.2.1 hk.2.2.1 (by decide) (by decide) (by decide) (by decide) (by decide) (by decide) (by decide) (Nat.le_of_ble_eq_true rfl) ?_
  have h := h _ rfl
  refine jm_mrI (fun hm8 => ?_)
  refine jm_aload_n (pc := 51) 0 dX1_copyFrom_51 rfl ?_
  refine jm_aload_n (pc := 52) 1 dX1_copyFrom_52 rfl ?_
  refine jm_geti (pc := 53) 4 dX1_copyFrom_53 fX1_25 ho.1 rfl ?_
  refine jm_put (pc := 56) 4 dX1_copyFrom_56 fX1_25 ftX1 (fun q h => by cases h; rfl) (jm_nI _) (jm_fI _) hk.1 rfl (hm8 _ _) ?_
  have h := h _ rfl
  refine jm_mrI (fun hm10 => ?_)
  refine jm_aload_n (pc := 59) 1 dX1_copyFrom_59 rfl ?_
  refine jm_getr (pc := 60) 5 dX1_copyFrom_60 fX1_28 ho.1 rfl ?_
  refine jm_iconst (pc := 63) dX1_copyFrom_63 ?_
  refine jm_aload_n (pc := 64) 0 dX1_copyFrom_64 rfl ?_
  refine jm_getr (pc := 65) 5 dX1_copyFrom_65 fX1_28 hk.1 rfl ?_
  refine jm_iconst (pc := 68) dX1_copyFrom_68 ?_
  refine jm_sipush (pc := 69) dX1_copyFrom_69 (by decide) ?_
  refine jm_copy (pc := 72) dX1_copyFrom_72 mX1_43 ho.2.2.2.1 hk.2.2.2.1 (by decide) (by decide) (by decide) (by decide) (by decide) (by decide) (by decide) (Nat.le_of_ble_eq_true rfl) ?_
  have h := h _ rfl
  refine jm_mrI (fun hm12 => ?_)
  refine jm_aload_n (pc := 75) 0 dX1_copyFrom_75 rfl ?_
  refine jm_aload_n (pc := 76) 1 dX1_copyFrom_76 rfl ?_
  refine jm_geti (pc := 77) 6 dX1_copyFrom_77 fX1_31 ho.1 rfl ?_
  refine jm_put (pc := 80) 6 dX1_copyFrom_80 fX1_31 ftX1 (fun q h => by cases h; rfl) (jm_nI _) (jm_fI _) hk.1 rfl (hm12 _ _) ?_
  have h := h _ rfl
  refine jm_mrI (fun hm14 => ?_)
  refine jm_aload_n (pc := 83) 1 dX1_copyFrom_83 rfl ?_
  refine jm_getr (pc := 84) 7 dX1_copyFrom_84 fX1_34 ho.1 rfl ?_
  refine jm_iconst (pc := 87) dX1_copyFrom_87 ?_
  refine jm_aload_n (pc := 88) 0 dX1_copyFrom_88 rfl ?_
  refine jm_getr (pc := 89) 7 dX1_copyFrom_89 fX1_34 hk.1 rfl ?_
  refine jm_iconst (pc := 92) dX1_copyFrom_92 ?_
  refine jm_sipush (pc := 93) dX1_copyFrom_93 (by decide) ?_
  refine jm_copy (pc := 96) dX1_copyFrom_96 mX1_43 ho.2.2.2.2.1 hk.2.2.2.2.1 (by decide) (by decide) (by decide) (by decide) (by decide) (by decide) (by decide) (Nat.le_of_ble_eq_true rfl) ?_
  have h := h _ rfl
  refine jm_mrI (fun hm16 => ?_)
  refine jm_aload_n (pc := 99) 0 dX1_copyFrom_99 rfl ?_
  refine jm_aload_n (pc := 100) 1 dX1_copyFrom_100 rfl ?_
  refine jm_geti (pc := 101) 8 dX1_copyFrom_101 fX1_37 ho.1 rfl ?_
  refine jm_put (pc := 104) 8 dX1_copyFrom_104 fX1_37 ftX1 (fun q h => by cases h; rfl) (jm_nI _) (jm_fI _) hk.1 rfl (hm16 _ _) ?_
  have h := h _ rfl
  refine jm_mrI (fun hm18 => ?_)
  refine jm_aload_n (pc := 107) 1 dX1_copyFrom_107 rfl ?_
  refine jm_getr (pc := 108) 9 dX1_copyFrom_108 fX1_40 ho.1 rfl ?_
  refine jm_iconst (pc := 111) dX1_copyFrom_111 ?_
  refine jm_aload_n (pc := 112) 0 dX1_copyFrom_112 rfl ?_
  refine jm_getr (pc := 113) 9 dX1_copyFrom_113 fX1_40 hk.1 rfl ?_
  refine jm_iconst (pc := 116) dX1_copyFrom_116 ?_
  refine jm_sipush (pc := 117) dX1_copyFrom_117 (by decide) ?_
  refine jm_copy (pc := 120) dX1_copyFrom_120 mX1_43 ho.2.2.2.2.2 hk.2.2.2.2.2 (by decide) (by decide) (by decide) (by decide) (by decide) (by decide) (by decide) (Nat.le_of_ble_eq_true rfl) ?_
  have h := h _ rfl
  refine jm_mrI (fun hm20 => ?_)
  exact jm_vret (pc := 123) dX1_copyFrom_123 rfl h
theorem dX11_keepCourt_0 : decode cX11_keepCourt 0 = .ok (.aload_n 0, 1) := by decide +kernel
theorem dX11_keepCourt_1 : decode cX11_keepCourt 1 = .ok (.getfield 102, 3) := by decide +kernel
theorem dX11_keepCourt_4 : decode cX11_keepCourt 4 = .ok (.aload_n 0, 1) := by decide +kernel
theorem dX11_keepCourt_5 : decode cX11_keepCourt 5 = .ok (.getfield 110, 3) := by decide +kernel
theorem dX11_keepCourt_8 : decode cX11_keepCourt 8 = .ok (.aaload, 1) := by decide +kernel
theorem dX11_keepCourt_9 : decode cX11_keepCourt 9 = .ok (.astore_n 1, 1) := by decide +kernel
theorem dX11_keepCourt_10 : decode cX11_keepCourt 10 = .ok (.aload_n 1, 1) := by decide +kernel
theorem dX11_keepCourt_11 : decode cX11_keepCourt 11 = .ok (.ifnull 11, 3) := by decide +kernel
theorem dX11_keepCourt_14 : decode cX11_keepCourt 14 = .ok (.aload_n 1, 1) := by decide +kernel
theorem dX11_keepCourt_15 : decode cX11_keepCourt 15 = .ok (.aload_n 0, 1) := by decide +kernel
theorem dX11_keepCourt_16 : decode cX11_keepCourt 16 = .ok (.getfield 26, 3) := by decide +kernel
theorem dX11_keepCourt_19 : decode cX11_keepCourt 19 = .ok (.invokevirtual 348, 3) := by decide +kernel
theorem dX11_keepCourt_22 : decode cX11_keepCourt 22 = .ok (.aload_n 0, 1) := by decide +kernel
theorem dX11_keepCourt_23 : decode cX11_keepCourt 23 = .ok (.aload_n 0, 1) := by decide +kernel
theorem dX11_keepCourt_24 : decode cX11_keepCourt 24 = .ok (.getfield 110, 3) := by decide +kernel
theorem dX11_keepCourt_27 : decode cX11_keepCourt 27 = .ok (.iconst 5, 1) := by decide +kernel
theorem dX11_keepCourt_28 : decode cX11_keepCourt 28 = .ok (.if_icmp .ne 7, 3) := by decide +kernel
theorem dX11_keepCourt_31 : decode cX11_keepCourt 31 = .ok (.iconst 0, 1) := by decide +kernel
theorem dX11_keepCourt_32 : decode cX11_keepCourt 32 = .ok (.goto 9, 3) := by decide +kernel
theorem dX11_keepCourt_35 : decode cX11_keepCourt 35 = .ok (.aload_n 0, 1) := by decide +kernel
theorem dX11_keepCourt_36 : decode cX11_keepCourt 36 = .ok (.getfield 110, 3) := by decide +kernel
theorem dX11_keepCourt_39 : decode cX11_keepCourt 39 = .ok (.iconst 1, 1) := by decide +kernel
theorem dX11_keepCourt_40 : decode cX11_keepCourt 40 = .ok (.iadd, 1) := by decide +kernel
theorem dX11_keepCourt_41 : decode cX11_keepCourt 41 = .ok (.putfield 110, 3) := by decide +kernel
theorem dX11_keepCourt_44 : decode cX11_keepCourt 44 = .ok (.aload_n 0, 1) := by decide +kernel
theorem dX11_keepCourt_45 : decode cX11_keepCourt 45 = .ok (.bipush 6, 2) := by decide +kernel
theorem dX11_keepCourt_47 : decode cX11_keepCourt 47 = .ok (.aload_n 0, 1) := by decide +kernel
theorem dX11_keepCourt_48 : decode cX11_keepCourt 48 = .ok (.getfield 106, 3) := by decide +kernel
theorem dX11_keepCourt_51 : decode cX11_keepCourt 51 = .ok (.iconst 1, 1) := by decide +kernel
theorem dX11_keepCourt_52 : decode cX11_keepCourt 52 = .ok (.iadd, 1) := by decide +kernel
theorem dX11_keepCourt_53 : decode cX11_keepCourt 53 = .ok (.invokestatic 384, 3) := by decide +kernel
theorem dX11_keepCourt_56 : decode cX11_keepCourt 56 = .ok (.putfield 106, 3) := by decide +kernel
theorem dX11_keepCourt_59 : decode cX11_keepCourt 59 = .ok (.return_, 1) := by decide +kernel
theorem bX11_keepCourt_41 {l : Launch} {g : jm_G} {d : Nat} {s0 : Int} (hg : jm_HC g) {mu : jm_M} {Q : Option Value → jm_M → Prop} (h : jm_rg s0 ∧ ∀ m2, m2 = jm_wr mu 0 16 s0 → jm_rg ((m2.1 0 15) + 1) ∧ ∀ m5, m5 = jm_wr m2 0 15 (min 6 ((m2.1 0 15) + 1)) → Q none m5) : jm_V l g (d + 1) iX11_keepCourt 41 [(0, .ref 0)] [jm_i s0, .ref 0] mu Q := by
  refine jm_mrI (fun hm0 => ?_)
  have hg1 := h.1
  have h := h.2
  refine jm_put (pc := 41) 16 dX11_keepCourt_41 fX11_110 ftX11 (fun q h => by cases h; rfl) (jm_nI _) (jm_fI _) (cC0 hg) rfl hg1 ?_
  have h := h _ rfl
  refine jm_mrI (fun hm3 => ?_)
  refine jm_aload_n (pc := 44) 0 dX11_keepCourt_44 rfl ?_
  refine jm_bipush (pc := 45) dX11_keepCourt_45 (by decide) ?_
  refine jm_aload_n (pc := 47) 0 dX11_keepCourt_47 rfl ?_
  refine jm_geti (pc := 48) 15 dX11_keepCourt_48 fX11_106 (cC0 hg) rfl ?_
  refine jm_iconst (pc := 51) dX11_keepCourt_51 ?_
  refine jm_iadd (pc := 52) dX11_keepCourt_52 ?_
  have hg4 := h.1
  have h := h.2
  refine jm_mmin (pc := 53) dX11_keepCourt_53 mX11_384 ⟨by decide, by decide⟩ hg4 (Nat.le_of_ble_eq_true rfl) ?_
  refine jm_put (pc := 56) 15 dX11_keepCourt_56 fX11_106 ftX11 (fun q h => by cases h; rfl) (jm_nI _) (jm_fI _) (cC0 hg) rfl (jm_rgm ⟨by decide, by decide⟩ hg4) ?_
  have h := h _ rfl
  refine jm_mrI (fun hm6 => ?_)
  exact jm_vret (pc := 59) dX11_keepCourt_59 rfl h
theorem eX11_keepCourt {l : Launch} {g : jm_G} {d : Nat} (hg : jm_HC g) {mu : jm_M} {Q : Option Value → jm_M → Prop} (h : (0 ≤ (mu.1 0 16) ∧ (mu.1 0 16) < 6) ∧ jm_R l g d iX1_copyFrom [.ref (94 + 6 * ((mu.1 0 16)).toNat), .ref 29] mu (jm_qv fun m2 => (¬ (m2.1 0 16) = 5 → jm_V l g (d + 1) iX11_keepCourt 41 [(0, .ref 0)] [jm_i ((m2.1 0 16) + 1), .ref 0] m2 Q) ∧ ((m2.1 0 16) = 5 → jm_V l g (d + 1) iX11_keepCourt 41 [(0, .ref 0)] [jm_i 0, .ref 0] m2 Q))) : jm_R l g (d + 1) iX11_keepCourt [.ref 0] mu Q := by
  refine jm_enter [(0, .ref 0)] (by decide) (Nat.le_of_ble_eq_true rfl) rfl ?_
  refine jm_mrI (fun hm0 => ?_)
  refine jm_aload_n (pc := 0) 0 dX11_keepCourt_0 rfl ?_
  refine jm_getr (pc := 1) 14 dX11_keepCourt_1 fX11_102 (cC0 hg) rfl ?_
  refine jm_aload_n (pc := 4) 0 dX11_keepCourt_4 rfl ?_
  refine jm_geti (pc := 5) 16 dX11_keepCourt_5 fX11_110 (cC0 hg) rfl ?_
  have hg1 := h.1
  have h := h.2
  refine jm_aald (pc := 8) (r := 94 + 6 * _) dX11_keepCourt_8 (cC93 hg) (by decide) hg1.1 hg1.2 (jm_kp hg1.1 hg1.2) ?_
  refine jm_astore_n (pc := 9) (lv' := [(1, _), (0, _)]) dX11_keepCourt_9 (by decide) rfl ?_
  refine jm_aload_n (pc := 10) 0 dX11_keepCourt_10 rfl ?_
  refine jm_ifnull (pc := 11) dX11_keepCourt_11 ?_
  refine jm_aload_n (pc := 14) 0 dX11_keepCourt_14 rfl ?_
  refine jm_aload_n (pc := 15) 1 dX11_keepCourt_15 rfl ?_
  refine jm_getr (pc := 16) 2 dX11_keepCourt_16 fX11_26 (cC0 hg) rfl ?_
  refine jm_callvv (pc := 19) (As := [_]) (st := []) iX1_copyFrom dX11_keepCourt_19 mX11_348 (jm_ctK hg hg1.1 hg1.2).1 ⟨_, rfl, rfl⟩ rfl rfl (Nat.le_of_ble_eq_true rfl) h (fun m2 h hm5 => ?_)
  refine jm_aload_n (pc := 22) 1 dX11_keepCourt_22 rfl ?_
  refine jm_aload_n (pc := 23) 1 dX11_keepCourt_23 rfl ?_
  refine jm_geti (pc := 24) 16 dX11_keepCourt_24 fX11_110 (cC0 hg) rfl ?_
  refine jm_iconst (pc := 27) dX11_keepCourt_27 ?_
  refine jm_icmp_ne (pc := 28) 35 dX11_keepCourt_28 rfl (hm5 _ _) ⟨by decide, by decide⟩ (fun q => ?_) (fun q => ?_)
  · have h := h.1 q
    refine jm_aload_n (pc := 35) 1 dX11_keepCourt_35 rfl ?_
    refine jm_geti (pc := 36) 16 dX11_keepCourt_36 fX11_110 (cC0 hg) rfl ?_
    refine jm_iconst (pc := 39) dX11_keepCourt_39 ?_
    refine jm_iadd (pc := 40) dX11_keepCourt_40 ?_
    exact jm_sub [1] rfl h
  · have h := h.2 q
    refine jm_iconst (pc := 31) dX11_keepCourt_31 ?_
    refine jm_goto (pc := 32) 41 dX11_keepCourt_32 rfl ?_
    exact jm_sub [1] rfl h
theorem dX5_stepOf_0 : decode cX5_stepOf 0 = .ok (.iload_n 1, 1) := by decide +kernel
theorem dX5_stepOf_1 : decode cX5_stepOf 1 = .ok (.iconst 0, 1) := by decide +kernel
theorem dX5_stepOf_2 : decode cX5_stepOf 2 = .ok (.bipush 23, 2) := by decide +kernel
theorem dX5_stepOf_4 : decode cX5_stepOf 4 = .ok (.invokestatic 30, 3) := by decide +kernel
theorem dX5_stepOf_7 : decode cX5_stepOf 7 = .ok (.ifCond .eq 17, 3) := by decide +kernel
theorem dX5_stepOf_10 : decode cX5_stepOf 10 = .ok (.iload_n 2, 1) := by decide +kernel
theorem dX5_stepOf_11 : decode cX5_stepOf 11 = .ok (.iconst 0, 1) := by decide +kernel
theorem dX5_stepOf_12 : decode cX5_stepOf 12 = .ok (.bipush 6, 2) := by decide +kernel
theorem dX5_stepOf_14 : decode cX5_stepOf 14 = .ok (.invokestatic 30, 3) := by decide +kernel
theorem dX5_stepOf_17 : decode cX5_stepOf 17 = .ok (.ifCond .eq 7, 3) := by decide +kernel
theorem dX5_stepOf_20 : decode cX5_stepOf 20 = .ok (.iconst 1, 1) := by decide +kernel
theorem dX5_stepOf_21 : decode cX5_stepOf 21 = .ok (.goto 4, 3) := by decide +kernel
theorem dX5_stepOf_24 : decode cX5_stepOf 24 = .ok (.iconst 0, 1) := by decide +kernel
theorem dX5_stepOf_25 : decode cX5_stepOf 25 = .ok (.istore_n 3, 1) := by decide +kernel
theorem dX5_stepOf_26 : decode cX5_stepOf 26 = .ok (.iload_n 3, 1) := by decide +kernel
theorem dX5_stepOf_27 : decode cX5_stepOf 27 = .ok (.ifCond .eq 17, 3) := by decide +kernel
theorem dX5_stepOf_30 : decode cX5_stepOf 30 = .ok (.aload_n 0, 1) := by decide +kernel
theorem dX5_stepOf_31 : decode cX5_stepOf 31 = .ok (.getfield 21, 3) := by decide +kernel
theorem dX5_stepOf_34 : decode cX5_stepOf 34 = .ok (.iload_n 1, 1) := by decide +kernel
theorem dX5_stepOf_35 : decode cX5_stepOf 35 = .ok (.bipush 7, 2) := by decide +kernel
theorem dX5_stepOf_37 : decode cX5_stepOf 37 = .ok (.imul, 1) := by decide +kernel
theorem dX5_stepOf_38 : decode cX5_stepOf 38 = .ok (.iload_n 2, 1) := by decide +kernel
theorem dX5_stepOf_39 : decode cX5_stepOf 39 = .ok (.iadd, 1) := by decide +kernel
theorem dX5_stepOf_40 : decode cX5_stepOf 40 = .ok (.iaload, 1) := by decide +kernel
theorem dX5_stepOf_41 : decode cX5_stepOf 41 = .ok (.goto 4, 3) := by decide +kernel
theorem dX5_stepOf_44 : decode cX5_stepOf 44 = .ok (.iconst 0, 1) := by decide +kernel
theorem dX5_stepOf_45 : decode cX5_stepOf 45 = .ok (.ireturn, 1) := by decide +kernel
theorem bX5_stepOf_25 {l : Launch} {g : jm_G} {d : Nat} {v1 v2 s0 : Int} (hg : jm_HC g) {mu : jm_M} {Q : Option Value → jm_M → Prop} (h : jm_rg s0 ∧ (s0 = 0 → Q (some (jm_i 0)) mu) ∧ (¬ s0 = 0 → (0 ≤ ((v1 * 7) + v2) ∧ ((v1 * 7) + v2) < 168) ∧ Q (some (jm_i (mu.1 14 ((v1 * 7) + v2)))) mu)) : jm_V l g (d + 2) iX5_stepOf 25 [(0, .ref 12), (1, jm_i v1), (2, jm_i v2)] [jm_i s0] mu Q := by
  refine jm_mrI (fun hm0 => ?_)
  refine jm_istore_n (pc := 25) (lv' := [(3, _), (0, _), (1, _), (2, _)]) dX5_stepOf_25 (by decide) rfl ?_
  refine jm_iload_n (pc := 26) 0 dX5_stepOf_26 rfl ?_
  have hg1 := h.1
  have h := h.2
  refine jm_if_eq (pc := 27) 44 dX5_stepOf_27 rfl hg1 (fun q => ?_) (fun q => ?_)
  · have h := h.1 q
    refine jm_iconst (pc := 44) dX5_stepOf_44 ?_
    exact jm_iret (pc := 45) dX5_stepOf_45 rfl h
  · have h := h.2 q
    refine jm_aload_n (pc := 30) 1 dX5_stepOf_30 rfl ?_
    refine jm_getr (pc := 31) 2 dX5_stepOf_31 fX5_21 (cC12 hg) rfl ?_
    refine jm_iload_n (pc := 34) 2 dX5_stepOf_34 rfl ?_
    refine jm_bipush (pc := 35) dX5_stepOf_35 (by decide) ?_
    refine jm_imul (pc := 37) dX5_stepOf_37 ?_
    refine jm_iload_n (pc := 38) 3 dX5_stepOf_38 rfl ?_
    refine jm_iadd (pc := 39) dX5_stepOf_39 ?_
    have hg2 := h.1
    have h := h.2
    refine jm_iald (pc := 40) dX5_stepOf_40 (cC14 hg) (by decide) hg2.1 hg2.2 ?_
    refine jm_goto (pc := 41) 45 dX5_stepOf_41 rfl ?_
    exact jm_iret (pc := 45) dX5_stepOf_45 rfl h
theorem eX5_stepOf {l : Launch} {g : jm_G} {d : Nat} {v1 v2 : Int} (hg : jm_HC g) {mu : jm_M} {Q : Option Value → jm_M → Prop} (h : jm_rg v1 ∧ (0 ≤ v1 ∧ v1 ≤ 23 → jm_rg v2 ∧ (0 ≤ v2 ∧ v2 ≤ 6 → jm_V l g (d + 2) iX5_stepOf 25 [(0, .ref 12), (1, jm_i v1), (2, jm_i v2)] [jm_i 1] mu Q) ∧ (¬ (0 ≤ v2 ∧ v2 ≤ 6) → jm_V l g (d + 2) iX5_stepOf 25 [(0, .ref 12), (1, jm_i v1), (2, jm_i v2)] [jm_i 0] mu Q)) ∧ (¬ (0 ≤ v1 ∧ v1 ≤ 23) → jm_V l g (d + 2) iX5_stepOf 25 [(0, .ref 12), (1, jm_i v1), (2, jm_i v2)] [jm_i 0] mu Q)) : jm_R l g (d + 2) iX5_stepOf [.ref 12, jm_i v1, jm_i v2] mu Q := by
  refine jm_enter [(0, .ref 12), (1, jm_i v1), (2, jm_i v2)] (by decide) (Nat.le_of_ble_eq_true rfl) rfl ?_
  refine jm_mrI (fun hm0 => ?_)
  refine jm_iload_n (pc := 0) 1 dX5_stepOf_0 rfl ?_
  refine jm_iconst (pc := 1) dX5_stepOf_1 ?_
  refine jm_bipush (pc := 2) dX5_stepOf_2 (by decide) ?_
  have hg1 := h.1
  have h := h.2
  refine jm_inlni (pc := 4) (As := [_, _, _]) (st := []) iX11_isWithin dX5_stepOf_4 (mX5_30 hg) rfl rfl (Nat.le_of_ble_eq_true rfl) (pX11_isWithin hg hg1 ⟨by decide, by decide⟩ ⟨by decide, by decide⟩ (fun q => jm_kIi ?_) (fun q => jm_kIi ?_))
  · have h := h.1 q
    refine jm_if_eq (pc := 7) 24 dX5_stepOf_7 rfl ⟨by decide, by decide⟩ (fun q => absurd q (by decide)) (fun q => ?_)
    refine jm_iload_n (pc := 10) 2 dX5_stepOf_10 rfl ?_
    refine jm_iconst (pc := 11) dX5_stepOf_11 ?_
    refine jm_bipush (pc := 12) dX5_stepOf_12 (by decide) ?_
    have hg2 := h.1
    have h := h.2
    refine jm_inlni (pc := 14) (As := [_, _, _]) (st := []) iX11_isWithin dX5_stepOf_14 (mX5_30 hg) rfl rfl (Nat.le_of_ble_eq_true rfl) (pX11_isWithin hg hg2 ⟨by decide, by decide⟩ ⟨by decide, by decide⟩ (fun q => jm_kIi ?_) (fun q => jm_kIi ?_))
    · have h := h.1 q
      refine jm_if_eq (pc := 17) 24 dX5_stepOf_17 rfl ⟨by decide, by decide⟩ (fun q => absurd q (by decide)) (fun q => ?_)
      refine jm_iconst (pc := 20) dX5_stepOf_20 ?_
      refine jm_goto (pc := 21) 25 dX5_stepOf_21 rfl ?_
      exact jm_sub [0, 1, 2] rfl h
    · have h := h.2 q
      refine jm_if_eq (pc := 17) 24 dX5_stepOf_17 rfl ⟨by decide, by decide⟩ (fun q => ?_) (fun q => absurd q (by decide))
      refine jm_iconst (pc := 24) dX5_stepOf_24 ?_
      exact jm_sub [0, 1, 2] rfl h
  · have h := h.2 q
    refine jm_if_eq (pc := 7) 24 dX5_stepOf_7 rfl ⟨by decide, by decide⟩ (fun q => ?_) (fun q => absurd q (by decide))
    refine jm_iconst (pc := 24) dX5_stepOf_24 ?_
    exact jm_sub [0, 1, 2] rfl h
theorem dX5_rise_0 : decode cX5_rise 0 = .ok (.iconst 0, 1) := by decide +kernel
theorem dX5_rise_1 : decode cX5_rise 1 = .ok (.istore_n 2, 1) := by decide +kernel
theorem dX5_rise_2 : decode cX5_rise 2 = .ok (.iconst 0, 1) := by decide +kernel
theorem dX5_rise_3 : decode cX5_rise 3 = .ok (.istore_n 3, 1) := by decide +kernel
theorem dX5_rise_4 : decode cX5_rise 4 = .ok (.iconst 0, 1) := by decide +kernel
theorem dX5_rise_5 : decode cX5_rise 5 = .ok (.istore 4, 2) := by decide +kernel
theorem dX5_rise_7 : decode cX5_rise 7 = .ok (.iload 4, 2) := by decide +kernel
theorem dX5_rise_9 : decode cX5_rise 9 = .ok (.aload_n 0, 1) := by decide +kernel
theorem dX5_rise_10 : decode cX5_rise 10 = .ok (.getfield 17, 3) := by decide +kernel
theorem dX5_rise_13 : decode cX5_rise 13 = .ok (.iload_n 1, 1) := by decide +kernel
theorem dX5_rise_14 : decode cX5_rise 14 = .ok (.iaload, 1) := by decide +kernel
theorem dX5_rise_15 : decode cX5_rise 15 = .ok (.iconst 1, 1) := by decide +kernel
theorem dX5_rise_16 : decode cX5_rise 16 = .ok (.isub, 1) := by decide +kernel
theorem dX5_rise_17 : decode cX5_rise 17 = .ok (.if_icmp .ge 25, 3) := by decide +kernel
theorem dX5_rise_20 : decode cX5_rise 20 = .ok (.iload_n 3, 1) := by decide +kernel
theorem dX5_rise_21 : decode cX5_rise 21 = .ok (.aload_n 0, 1) := by decide +kernel
theorem dX5_rise_22 : decode cX5_rise 22 = .ok (.iload_n 1, 1) := by decide +kernel
theorem dX5_rise_23 : decode cX5_rise 23 = .ok (.iload 4, 2) := by decide +kernel
theorem dX5_rise_25 : decode cX5_rise 25 = .ok (.invokevirtual 34, 3) := by decide +kernel
theorem dX5_rise_28 : decode cX5_rise 28 = .ok (.iadd, 1) := by decide +kernel
theorem dX5_rise_29 : decode cX5_rise 29 = .ok (.istore_n 3, 1) := by decide +kernel
theorem dX5_rise_30 : decode cX5_rise 30 = .ok (.iload_n 2, 1) := by decide +kernel
theorem dX5_rise_31 : decode cX5_rise 31 = .ok (.iload_n 3, 1) := by decide +kernel
theorem dX5_rise_32 : decode cX5_rise 32 = .ok (.invokestatic 38, 3) := by decide +kernel
theorem dX5_rise_35 : decode cX5_rise 35 = .ok (.istore_n 2, 1) := by decide +kernel
theorem dX5_rise_36 : decode cX5_rise 36 = .ok (.iinc 4 1, 3) := by decide +kernel
theorem dX5_rise_39 : decode cX5_rise 39 = .ok (.goto (-32), 3) := by decide +kernel
theorem dX5_rise_42 : decode cX5_rise 42 = .ok (.iload_n 2, 1) := by decide +kernel
theorem dX5_rise_43 : decode cX5_rise 43 = .ok (.ireturn, 1) := by decide +kernel
theorem bX5_rise_7 {l : Launch} {g : jm_G} {d : Nat} {v1 v2 v3 v4 : Int} (hg : jm_HC g) {mu : jm_M} {Q : Option Value → jm_M → Prop} (h : (0 ≤ v1 ∧ v1 < 24) ∧ jm_rg v4 ∧ jm_rg ((mu.1 13 v1) - 1) ∧ (((mu.1 13 v1) - 1) ≤ v4 → Q (some (jm_i v2)) mu) ∧ (v4 < ((mu.1 13 v1) - 1) → jm_R l g d iX5_stepOf [.ref 12, jm_i v1, jm_i v4] mu (jm_qi fun z5 m4 => ∀ x8, x8 = (v3 + z5) → jm_rg v2 ∧ jm_rg x8 ∧ ∀ x11, x11 = (max v2 x8) → jm_V l g (d + 1) iX5_rise 7 [(0, .ref 12), (1, jm_i v1), (2, jm_i x11), (3, jm_i x8), (4, jm_i (v4 + 1))] [] m4 Q))) : jm_V l g (d + 1) iX5_rise 7 [(0, .ref 12), (1, jm_i v1), (2, jm_i v2), (3, jm_i v3), (4, jm_i v4)] [] mu Q := by
  refine jm_mrI (fun hm0 => ?_)
  refine jm_iload (pc := 7) 4 dX5_rise_7 rfl ?_
  refine jm_aload_n (pc := 9) 0 dX5_rise_9 rfl ?_
  refine jm_getr (pc := 10) 1 dX5_rise_10 fX5_17 (cC12 hg) rfl ?_
  refine jm_iload_n (pc := 13) 1 dX5_rise_13 rfl ?_
  have hg1 := h.1
  have h := h.2
  refine jm_iald (pc := 14) dX5_rise_14 (cC13 hg) (by decide) hg1.1 hg1.2 ?_
  refine jm_iconst (pc := 15) dX5_rise_15 ?_
  refine jm_isub (pc := 16) dX5_rise_16 ?_
  have hg2 := h.1
  have h := h.2
  have hg3 := h.1
  have h := h.2
  refine jm_icmp_ge (pc := 17) 42 dX5_rise_17 rfl hg2 hg3 (fun q => ?_) (fun q => ?_)
  · have h := h.1 q
    refine jm_iload_n (pc := 42) 2 dX5_rise_42 rfl ?_
    exact jm_iret (pc := 43) dX5_rise_43 rfl h
  · have h := h.2 q
    refine jm_iload_n (pc := 20) 3 dX5_rise_20 rfl ?_
    refine jm_aload_n (pc := 21) 0 dX5_rise_21 rfl ?_
    refine jm_iload_n (pc := 22) 1 dX5_rise_22 rfl ?_
    refine jm_iload (pc := 23) 4 dX5_rise_23 rfl ?_
    refine jm_callvi (pc := 25) (As := [_, _]) (st := [_]) iX5_stepOf dX5_rise_25 mX5_34 (cC12 hg) ⟨_, rfl, rfl⟩ rfl rfl (Nat.le_of_ble_eq_true rfl) h (fun z5 m4 hz6 h hm7 => ?_)
    refine jm_iadd (pc := 28) dX5_rise_28 ?_
    have h := h _ rfl
    refine jm_istore_n (pc := 29) (lv' := [(3, _), (0, _), (1, _), (2, _), (4, _)]) dX5_rise_29 (by decide) rfl ?_
    refine jm_iload_n (pc := 30) 3 dX5_rise_30 rfl ?_
    refine jm_iload_n (pc := 31) 0 dX5_rise_31 rfl ?_
    have hg9 := h.1
    have h := h.2
    have hg10 := h.1
    have h := h.2
    refine jm_mmax (pc := 32) dX5_rise_32 mX5_38 hg9 hg10 (Nat.le_of_ble_eq_true rfl) ?_
    have h := h _ rfl
    refine jm_istore_n (pc := 35) (lv' := [(2, _), (3, _), (0, _), (1, _), (4, _)]) dX5_rise_35 (by decide) rfl ?_
    refine jm_iinc (pc := 36) (lv' := [(4, _), (2, _), (3, _), (0, _), (1, _)]) 4 dX5_rise_36 rfl (by decide) rfl ?_
    refine jm_goto (pc := 39) 7 dX5_rise_39 rfl ?_
    exact jm_sub [3, 4, 1, 2, 0] rfl h
theorem eX5_rise {l : Launch} {g : jm_G} {d : Nat} {v1 : Int} (hg : jm_HC g) {mu : jm_M} {Q : Option Value → jm_M → Prop} (h : jm_V l g (d + 1) iX5_rise 7 [(0, .ref 12), (1, jm_i v1), (2, jm_i 0), (3, jm_i 0), (4, jm_i 0)] [] mu Q) : jm_R l g (d + 1) iX5_rise [.ref 12, jm_i v1] mu Q := by
  refine jm_enter [(0, .ref 12), (1, jm_i v1)] (by decide) (Nat.le_of_ble_eq_true rfl) rfl ?_
  refine jm_mrI (fun hm0 => ?_)
  refine jm_iconst (pc := 0) dX5_rise_0 ?_
  refine jm_istore_n (pc := 1) (lv' := [(2, _), (0, _), (1, _)]) dX5_rise_1 (by decide) rfl ?_
  refine jm_iconst (pc := 2) dX5_rise_2 ?_
  refine jm_istore_n (pc := 3) (lv' := [(3, _), (2, _), (0, _), (1, _)]) dX5_rise_3 (by decide) rfl ?_
  refine jm_iconst (pc := 4) dX5_rise_4 ?_
  refine jm_istore (pc := 5) (lv' := [(4, _), (3, _), (2, _), (0, _), (1, _)]) dX5_rise_5 (by decide) rfl ?_
  exact jm_sub [3, 4, 2, 1, 0] rfl h
theorem dX0_highestKey_0 : decode cX0_highestKey 0 = .ok (.aload_n 0, 1) := by decide +kernel
theorem dX0_highestKey_1 : decode cX0_highestKey 1 = .ok (.getfield 15, 3) := by decide +kernel
theorem dX0_highestKey_4 : decode cX0_highestKey 4 = .ok (.getfield 45, 3) := by decide +kernel
theorem dX0_highestKey_7 : decode cX0_highestKey 7 = .ok (.iload_n 1, 1) := by decide +kernel
theorem dX0_highestKey_8 : decode cX0_highestKey 8 = .ok (.iaload, 1) := by decide +kernel
theorem dX0_highestKey_9 : decode cX0_highestKey 9 = .ok (.iconst 1, 1) := by decide +kernel
theorem dX0_highestKey_10 : decode cX0_highestKey 10 = .ok (.isub, 1) := by decide +kernel
theorem dX0_highestKey_11 : decode cX0_highestKey 11 = .ok (.aload_n 0, 1) := by decide +kernel
theorem dX0_highestKey_12 : decode cX0_highestKey 12 = .ok (.getfield 15, 3) := by decide +kernel
theorem dX0_highestKey_15 : decode cX0_highestKey 15 = .ok (.getfield 29, 3) := by decide +kernel
theorem dX0_highestKey_18 : decode cX0_highestKey 18 = .ok (.iload_n 2, 1) := by decide +kernel
theorem dX0_highestKey_19 : decode cX0_highestKey 19 = .ok (.invokevirtual 48, 3) := by decide +kernel
theorem dX0_highestKey_22 : decode cX0_highestKey 22 = .ok (.isub, 1) := by decide +kernel
theorem dX0_highestKey_23 : decode cX0_highestKey 23 = .ok (.ireturn, 1) := by decide +kernel
theorem eX0_highestKey {l : Launch} {g : jm_G} {d : Nat} {v1 v2 : Int} (hg : jm_HC g) {mu : jm_M} {Q : Option Value → jm_M → Prop} (h : (0 ≤ v1 ∧ v1 < 8) ∧ jm_R l g d iX5_rise [.ref 12, jm_i v2] mu (jm_qi fun z3 m2 => Q (some (jm_i (((mu.1 8 v1) - 1) - z3))) m2)) : jm_R l g (d + 1) iX0_highestKey [.ref 35, jm_i v1, jm_i v2] mu Q := by
  refine jm_enter [(0, .ref 35), (1, jm_i v1), (2, jm_i v2)] (by decide) (Nat.le_of_ble_eq_true rfl) rfl ?_
  refine jm_mrI (fun hm0 => ?_)
  refine jm_aload_n (pc := 0) 0 dX0_highestKey_0 rfl ?_
  refine jm_getr (pc := 1) 0 dX0_highestKey_1 fX0_15 (cC35 hg) rfl ?_
  refine jm_getr (pc := 4) 2 dX0_highestKey_4 fX0_45 (cC6 hg) rfl ?_
  refine jm_iload_n (pc := 7) 1 dX0_highestKey_7 rfl ?_
  have hg1 := h.1
  have h := h.2
  refine jm_iald (pc := 8) dX0_highestKey_8 (cC8 hg) (by decide) hg1.1 hg1.2 ?_
  refine jm_iconst (pc := 9) dX0_highestKey_9 ?_
  refine jm_isub (pc := 10) dX0_highestKey_10 ?_
  refine jm_aload_n (pc := 11) 0 dX0_highestKey_11 rfl ?_
  refine jm_getr (pc := 12) 0 dX0_highestKey_12 fX0_15 (cC35 hg) rfl ?_
  refine jm_getr (pc := 15) 10 dX0_highestKey_15 fX0_29 (cC6 hg) rfl ?_
  refine jm_iload_n (pc := 18) 2 dX0_highestKey_18 rfl ?_
  refine jm_callvi (pc := 19) (As := [_]) (st := [_]) iX5_rise dX0_highestKey_19 mX0_48 (cC12 hg) ⟨_, rfl, rfl⟩ rfl rfl (Nat.le_of_ble_eq_true rfl) h (fun z3 m2 hz4 h hm5 => ?_)
  refine jm_isub (pc := 22) dX0_highestKey_22 ?_
  exact jm_iret (pc := 23) dX0_highestKey_23 rfl h
theorem dX5_fall_0 : decode cX5_fall 0 = .ok (.iconst 0, 1) := by decide +kernel
theorem dX5_fall_1 : decode cX5_fall 1 = .ok (.istore_n 2, 1) := by decide +kernel
theorem dX5_fall_2 : decode cX5_fall 2 = .ok (.iconst 0, 1) := by decide +kernel
theorem dX5_fall_3 : decode cX5_fall 3 = .ok (.istore_n 3, 1) := by decide +kernel
theorem dX5_fall_4 : decode cX5_fall 4 = .ok (.iconst 0, 1) := by decide +kernel
theorem dX5_fall_5 : decode cX5_fall 5 = .ok (.istore 4, 2) := by decide +kernel
theorem dX5_fall_7 : decode cX5_fall 7 = .ok (.iload 4, 2) := by decide +kernel
theorem dX5_fall_9 : decode cX5_fall 9 = .ok (.aload_n 0, 1) := by decide +kernel
theorem dX5_fall_10 : decode cX5_fall 10 = .ok (.getfield 17, 3) := by decide +kernel
theorem dX5_fall_13 : decode cX5_fall 13 = .ok (.iload_n 1, 1) := by decide +kernel
theorem dX5_fall_14 : decode cX5_fall 14 = .ok (.iaload, 1) := by decide +kernel
theorem dX5_fall_15 : decode cX5_fall 15 = .ok (.iconst 1, 1) := by decide +kernel
theorem dX5_fall_16 : decode cX5_fall 16 = .ok (.isub, 1) := by decide +kernel
theorem dX5_fall_17 : decode cX5_fall 17 = .ok (.if_icmp .ge 25, 3) := by decide +kernel
theorem dX5_fall_20 : decode cX5_fall 20 = .ok (.iload_n 3, 1) := by decide +kernel
theorem dX5_fall_21 : decode cX5_fall 21 = .ok (.aload_n 0, 1) := by decide +kernel
theorem dX5_fall_22 : decode cX5_fall 22 = .ok (.iload_n 1, 1) := by decide +kernel
theorem dX5_fall_23 : decode cX5_fall 23 = .ok (.iload 4, 2) := by decide +kernel
theorem dX5_fall_25 : decode cX5_fall 25 = .ok (.invokevirtual 34, 3) := by decide +kernel
theorem dX5_fall_28 : decode cX5_fall 28 = .ok (.isub, 1) := by decide +kernel
theorem dX5_fall_29 : decode cX5_fall 29 = .ok (.istore_n 3, 1) := by decide +kernel
theorem dX5_fall_30 : decode cX5_fall 30 = .ok (.iload_n 2, 1) := by decide +kernel
theorem dX5_fall_31 : decode cX5_fall 31 = .ok (.iload_n 3, 1) := by decide +kernel
theorem dX5_fall_32 : decode cX5_fall 32 = .ok (.invokestatic 38, 3) := by decide +kernel
theorem dX5_fall_35 : decode cX5_fall 35 = .ok (.istore_n 2, 1) := by decide +kernel
theorem dX5_fall_36 : decode cX5_fall 36 = .ok (.iinc 4 1, 3) := by decide +kernel
theorem dX5_fall_39 : decode cX5_fall 39 = .ok (.goto (-32), 3) := by decide +kernel
theorem dX5_fall_42 : decode cX5_fall 42 = .ok (.iload_n 2, 1) := by decide +kernel
theorem dX5_fall_43 : decode cX5_fall 43 = .ok (.ireturn, 1) := by decide +kernel
theorem bX5_fall_7 {l : Launch} {g : jm_G} {d : Nat} {v1 v2 v3 v4 : Int} (hg : jm_HC g) {mu : jm_M} {Q : Option Value → jm_M → Prop} (h : (0 ≤ v1 ∧ v1 < 24) ∧ jm_rg v4 ∧ jm_rg ((mu.1 13 v1) - 1) ∧ (((mu.1 13 v1) - 1) ≤ v4 → Q (some (jm_i v2)) mu) ∧ (v4 < ((mu.1 13 v1) - 1) → jm_R l g d iX5_stepOf [.ref 12, jm_i v1, jm_i v4] mu (jm_qi fun z5 m4 => ∀ x8, x8 = (v3 - z5) → jm_rg v2 ∧ jm_rg x8 ∧ ∀ x11, x11 = (max v2 x8) → jm_V l g (d + 1) iX5_fall 7 [(0, .ref 12), (1, jm_i v1), (2, jm_i x11), (3, jm_i x8), (4, jm_i (v4 + 1))] [] m4 Q))) : jm_V l g (d + 1) iX5_fall 7 [(0, .ref 12), (1, jm_i v1), (2, jm_i v2), (3, jm_i v3), (4, jm_i v4)] [] mu Q := by
  refine jm_mrI (fun hm0 => ?_)
  refine jm_iload (pc := 7) 4 dX5_fall_7 rfl ?_
  refine jm_aload_n (pc := 9) 0 dX5_fall_9 rfl ?_
  refine jm_getr (pc := 10) 1 dX5_fall_10 fX5_17 (cC12 hg) rfl ?_
  refine jm_iload_n (pc := 13) 1 dX5_fall_13 rfl ?_
  have hg1 := h.1
  have h := h.2
  refine jm_iald (pc := 14) dX5_fall_14 (cC13 hg) (by decide) hg1.1 hg1.2 ?_
  refine jm_iconst (pc := 15) dX5_fall_15 ?_
  refine jm_isub (pc := 16) dX5_fall_16 ?_
  have hg2 := h.1
  have h := h.2
  have hg3 := h.1
  have h := h.2
  refine jm_icmp_ge (pc := 17) 42 dX5_fall_17 rfl hg2 hg3 (fun q => ?_) (fun q => ?_)
  · have h := h.1 q
    refine jm_iload_n (pc := 42) 2 dX5_fall_42 rfl ?_
    exact jm_iret (pc := 43) dX5_fall_43 rfl h
  · have h := h.2 q
    refine jm_iload_n (pc := 20) 3 dX5_fall_20 rfl ?_
    refine jm_aload_n (pc := 21) 0 dX5_fall_21 rfl ?_
    refine jm_iload_n (pc := 22) 1 dX5_fall_22 rfl ?_
    refine jm_iload (pc := 23) 4 dX5_fall_23 rfl ?_
    refine jm_callvi (pc := 25) (As := [_, _]) (st := [_]) iX5_stepOf dX5_fall_25 mX5_34 (cC12 hg) ⟨_, rfl, rfl⟩ rfl rfl (Nat.le_of_ble_eq_true rfl) h (fun z5 m4 hz6 h hm7 => ?_)
    refine jm_isub (pc := 28) dX5_fall_28 ?_
    have h := h _ rfl
    refine jm_istore_n (pc := 29) (lv' := [(3, _), (0, _), (1, _), (2, _), (4, _)]) dX5_fall_29 (by decide) rfl ?_
    refine jm_iload_n (pc := 30) 3 dX5_fall_30 rfl ?_
    refine jm_iload_n (pc := 31) 0 dX5_fall_31 rfl ?_
    have hg9 := h.1
    have h := h.2
    have hg10 := h.1
    have h := h.2
    refine jm_mmax (pc := 32) dX5_fall_32 mX5_38 hg9 hg10 (Nat.le_of_ble_eq_true rfl) ?_
    have h := h _ rfl
    refine jm_istore_n (pc := 35) (lv' := [(2, _), (3, _), (0, _), (1, _), (4, _)]) dX5_fall_35 (by decide) rfl ?_
    refine jm_iinc (pc := 36) (lv' := [(4, _), (2, _), (3, _), (0, _), (1, _)]) 4 dX5_fall_36 rfl (by decide) rfl ?_
    refine jm_goto (pc := 39) 7 dX5_fall_39 rfl ?_
    exact jm_sub [3, 4, 1, 2, 0] rfl h
theorem eX5_fall {l : Launch} {g : jm_G} {d : Nat} {v1 : Int} (hg : jm_HC g) {mu : jm_M} {Q : Option Value → jm_M → Prop} (h : jm_V l g (d + 1) iX5_fall 7 [(0, .ref 12), (1, jm_i v1), (2, jm_i 0), (3, jm_i 0), (4, jm_i 0)] [] mu Q) : jm_R l g (d + 1) iX5_fall [.ref 12, jm_i v1] mu Q := by
  refine jm_enter [(0, .ref 12), (1, jm_i v1)] (by decide) (Nat.le_of_ble_eq_true rfl) rfl ?_
  refine jm_mrI (fun hm0 => ?_)
  refine jm_iconst (pc := 0) dX5_fall_0 ?_
  refine jm_istore_n (pc := 1) (lv' := [(2, _), (0, _), (1, _)]) dX5_fall_1 (by decide) rfl ?_
  refine jm_iconst (pc := 2) dX5_fall_2 ?_
  refine jm_istore_n (pc := 3) (lv' := [(3, _), (2, _), (0, _), (1, _)]) dX5_fall_3 (by decide) rfl ?_
  refine jm_iconst (pc := 4) dX5_fall_4 ?_
  refine jm_istore (pc := 5) (lv' := [(4, _), (3, _), (2, _), (0, _), (1, _)]) dX5_fall_5 (by decide) rfl ?_
  exact jm_sub [3, 4, 2, 1, 0] rfl h
theorem dX0_lowestKey_0 : decode cX0_lowestKey 0 = .ok (.aload_n 0, 1) := by decide +kernel
theorem dX0_lowestKey_1 : decode cX0_lowestKey 1 = .ok (.getfield 15, 3) := by decide +kernel
theorem dX0_lowestKey_4 : decode cX0_lowestKey 4 = .ok (.getfield 38, 3) := by decide +kernel
theorem dX0_lowestKey_7 : decode cX0_lowestKey 7 = .ok (.iload_n 1, 1) := by decide +kernel
theorem dX0_lowestKey_8 : decode cX0_lowestKey 8 = .ok (.iaload, 1) := by decide +kernel
theorem dX0_lowestKey_9 : decode cX0_lowestKey 9 = .ok (.iconst 1, 1) := by decide +kernel
theorem dX0_lowestKey_10 : decode cX0_lowestKey 10 = .ok (.isub, 1) := by decide +kernel
theorem dX0_lowestKey_11 : decode cX0_lowestKey 11 = .ok (.aload_n 0, 1) := by decide +kernel
theorem dX0_lowestKey_12 : decode cX0_lowestKey 12 = .ok (.getfield 15, 3) := by decide +kernel
theorem dX0_lowestKey_15 : decode cX0_lowestKey 15 = .ok (.getfield 29, 3) := by decide +kernel
theorem dX0_lowestKey_18 : decode cX0_lowestKey 18 = .ok (.iload_n 2, 1) := by decide +kernel
theorem dX0_lowestKey_19 : decode cX0_lowestKey 19 = .ok (.invokevirtual 41, 3) := by decide +kernel
theorem dX0_lowestKey_22 : decode cX0_lowestKey 22 = .ok (.iadd, 1) := by decide +kernel
theorem dX0_lowestKey_23 : decode cX0_lowestKey 23 = .ok (.ireturn, 1) := by decide +kernel
theorem eX0_lowestKey {l : Launch} {g : jm_G} {d : Nat} {v1 v2 : Int} (hg : jm_HC g) {mu : jm_M} {Q : Option Value → jm_M → Prop} (h : (0 ≤ v1 ∧ v1 < 8) ∧ jm_R l g d iX5_fall [.ref 12, jm_i v2] mu (jm_qi fun z3 m2 => Q (some (jm_i (((mu.1 7 v1) - 1) + z3))) m2)) : jm_R l g (d + 1) iX0_lowestKey [.ref 35, jm_i v1, jm_i v2] mu Q := by
  refine jm_enter [(0, .ref 35), (1, jm_i v1), (2, jm_i v2)] (by decide) (Nat.le_of_ble_eq_true rfl) rfl ?_
  refine jm_mrI (fun hm0 => ?_)
  refine jm_aload_n (pc := 0) 0 dX0_lowestKey_0 rfl ?_
  refine jm_getr (pc := 1) 0 dX0_lowestKey_1 fX0_15 (cC35 hg) rfl ?_
  refine jm_getr (pc := 4) 1 dX0_lowestKey_4 fX0_38 (cC6 hg) rfl ?_
  refine jm_iload_n (pc := 7) 1 dX0_lowestKey_7 rfl ?_
  have hg1 := h.1
  have h := h.2
  refine jm_iald (pc := 8) dX0_lowestKey_8 (cC7 hg) (by decide) hg1.1 hg1.2 ?_
  refine jm_iconst (pc := 9) dX0_lowestKey_9 ?_
  refine jm_isub (pc := 10) dX0_lowestKey_10 ?_
  refine jm_aload_n (pc := 11) 0 dX0_lowestKey_11 rfl ?_
  refine jm_getr (pc := 12) 0 dX0_lowestKey_12 fX0_15 (cC35 hg) rfl ?_
  refine jm_getr (pc := 15) 10 dX0_lowestKey_15 fX0_29 (cC6 hg) rfl ?_
  refine jm_iload_n (pc := 18) 2 dX0_lowestKey_18 rfl ?_
  refine jm_callvi (pc := 19) (As := [_]) (st := [_]) iX5_fall dX0_lowestKey_19 mX0_41 (cC12 hg) ⟨_, rfl, rfl⟩ rfl rfl (Nat.le_of_ble_eq_true rfl) h (fun z3 m2 hz4 h hm5 => ?_)
  refine jm_iadd (pc := 22) dX0_lowestKey_22 ?_
  exact jm_iret (pc := 23) dX0_lowestKey_23 rfl h
theorem dX0_canSing_0 : decode cX0_canSing 0 = .ok (.iload_n 2, 1) := by decide +kernel
theorem dX0_canSing_1 : decode cX0_canSing 1 = .ok (.iconst (-1), 1) := by decide +kernel
theorem dX0_canSing_2 : decode cX0_canSing 2 = .ok (.if_icmp .eq 26, 3) := by decide +kernel
theorem dX0_canSing_5 : decode cX0_canSing 5 = .ok (.iload_n 3, 1) := by decide +kernel
theorem dX0_canSing_6 : decode cX0_canSing 6 = .ok (.aload_n 0, 1) := by decide +kernel
theorem dX0_canSing_7 : decode cX0_canSing 7 = .ok (.iload_n 1, 1) := by decide +kernel
theorem dX0_canSing_8 : decode cX0_canSing 8 = .ok (.iload_n 2, 1) := by decide +kernel
theorem dX0_canSing_9 : decode cX0_canSing 9 = .ok (.invokevirtual 54, 3) := by decide +kernel
theorem dX0_canSing_12 : decode cX0_canSing 12 = .ok (.aload_n 0, 1) := by decide +kernel
theorem dX0_canSing_13 : decode cX0_canSing 13 = .ok (.iload_n 1, 1) := by decide +kernel
theorem dX0_canSing_14 : decode cX0_canSing 14 = .ok (.iload_n 2, 1) := by decide +kernel
theorem dX0_canSing_15 : decode cX0_canSing 15 = .ok (.invokevirtual 51, 3) := by decide +kernel
theorem dX0_canSing_18 : decode cX0_canSing 18 = .ok (.invokestatic 62, 3) := by decide +kernel
theorem dX0_canSing_21 : decode cX0_canSing 21 = .ok (.ifCond .eq 7, 3) := by decide +kernel
theorem dX0_canSing_24 : decode cX0_canSing 24 = .ok (.iconst 1, 1) := by decide +kernel
theorem dX0_canSing_25 : decode cX0_canSing 25 = .ok (.goto 4, 3) := by decide +kernel
theorem dX0_canSing_28 : decode cX0_canSing 28 = .ok (.iconst 0, 1) := by decide +kernel
theorem dX0_canSing_29 : decode cX0_canSing 29 = .ok (.ireturn, 1) := by decide +kernel
theorem eX0_canSing {l : Launch} {g : jm_G} {d : Nat} {v1 v2 v3 : Int} (hg : jm_HC g) {mu : jm_M} {Q : Option Value → jm_M → Prop} (h : jm_rg v2 ∧ (v2 = (-1) → Q (some (jm_i 0)) mu) ∧ (¬ v2 = (-1) → jm_R l g (d + 1) iX0_lowestKey [.ref 35, jm_i v1, jm_i v2] mu (jm_qi fun z3 m2 => jm_R l g (d + 1) iX0_highestKey [.ref 35, jm_i v1, jm_i v2] m2 (jm_qi fun z7 m6 => jm_rg v3 ∧ (z3 ≤ v3 ∧ v3 ≤ z7 → Q (some (jm_i 1)) m6) ∧ (¬ (z3 ≤ v3 ∧ v3 ≤ z7) → Q (some (jm_i 0)) m6))))) : jm_R l g (d + 2) iX0_canSing [.ref 35, jm_i v1, jm_i v2, jm_i v3] mu Q := by
  refine jm_enter [(0, .ref 35), (1, jm_i v1), (2, jm_i v2), (3, jm_i v3)] (by decide) (Nat.le_of_ble_eq_true rfl) rfl ?_
  refine jm_mrI (fun hm0 => ?_)
  refine jm_iload_n (pc := 0) 2 dX0_canSing_0 rfl ?_
  refine jm_iconst (pc := 1) dX0_canSing_1 ?_
  have hg1 := h.1
  have h := h.2
  refine jm_icmp_eq (pc := 2) 28 dX0_canSing_2 rfl hg1 ⟨by decide, by decide⟩ (fun q => ?_) (fun q => ?_)
  · have h := h.1 q
    refine jm_iconst (pc := 28) dX0_canSing_28 ?_
    exact jm_zret (pc := 29) dX0_canSing_29 rfl (Or.inl rfl) h
  · have h := h.2 q
    refine jm_iload_n (pc := 5) 3 dX0_canSing_5 rfl ?_
    refine jm_aload_n (pc := 6) 0 dX0_canSing_6 rfl ?_
    refine jm_iload_n (pc := 7) 1 dX0_canSing_7 rfl ?_
    refine jm_iload_n (pc := 8) 2 dX0_canSing_8 rfl ?_
    refine jm_callvi (pc := 9) (As := [_, _]) (st := [_]) iX0_lowestKey dX0_canSing_9 mX0_54 (cC35 hg) ⟨_, rfl, rfl⟩ rfl rfl (Nat.le_of_ble_eq_true rfl) h (fun z3 m2 hz4 h hm5 => ?_)
    refine jm_aload_n (pc := 12) 0 dX0_canSing_12 rfl ?_
    refine jm_iload_n (pc := 13) 1 dX0_canSing_13 rfl ?_
    refine jm_iload_n (pc := 14) 2 dX0_canSing_14 rfl ?_
    refine jm_callvi (pc := 15) (As := [_, _]) (st := [_, _]) iX0_highestKey dX0_canSing_15 mX0_51 (cC35 hg) ⟨_, rfl, rfl⟩ rfl rfl (Nat.le_of_ble_eq_true rfl) h (fun z7 m6 hz8 h hm9 => ?_)
    have hg10 := h.1
    have h := h.2
    refine jm_inlni (pc := 18) (As := [_, _, _]) (st := []) iX11_isWithin dX0_canSing_18 (mX0_62 hg) rfl rfl (Nat.le_of_ble_eq_true rfl) (pX11_isWithin hg hg10 hz4 hz8 (fun q => jm_kIi ?_) (fun q => jm_kIi ?_))
    · have h := h.1 q
      refine jm_if_eq (pc := 21) 28 dX0_canSing_21 rfl ⟨by decide, by decide⟩ (fun q => absurd q (by decide)) (fun q => ?_)
      refine jm_iconst (pc := 24) dX0_canSing_24 ?_
      refine jm_goto (pc := 25) 29 dX0_canSing_25 rfl ?_
      exact jm_zret (pc := 29) dX0_canSing_29 rfl (Or.inr rfl) h
    · have h := h.2 q
      refine jm_if_eq (pc := 21) 28 dX0_canSing_21 rfl ⟨by decide, by decide⟩ (fun q => ?_) (fun q => absurd q (by decide))
      refine jm_iconst (pc := 28) dX0_canSing_28 ?_
      exact jm_zret (pc := 29) dX0_canSing_29 rfl (Or.inl rfl) h
theorem dX8_claimOf_0 : decode cX8_claimOf 0 = .ok (.aload_n 0, 1) := by decide +kernel
theorem dX8_claimOf_1 : decode cX8_claimOf 1 = .ok (.iload_n 1, 1) := by decide +kernel
theorem dX8_claimOf_2 : decode cX8_claimOf 2 = .ok (.invokevirtual 80, 3) := by decide +kernel
theorem dX8_claimOf_5 : decode cX8_claimOf 5 = .ok (.ifCond .eq 24, 3) := by decide +kernel
theorem dX8_claimOf_8 : decode cX8_claimOf 8 = .ok (.iload_n 2, 1) := by decide +kernel
theorem dX8_claimOf_9 : decode cX8_claimOf 9 = .ok (.invokestatic 84, 3) := by decide +kernel
theorem dX8_claimOf_12 : decode cX8_claimOf 12 = .ok (.ifCond .eq 17, 3) := by decide +kernel
theorem dX8_claimOf_15 : decode cX8_claimOf 15 = .ok (.aload_n 0, 1) := by decide +kernel
theorem dX8_claimOf_16 : decode cX8_claimOf 16 = .ok (.getfield 25, 3) := by decide +kernel
theorem dX8_claimOf_19 : decode cX8_claimOf 19 = .ok (.iload_n 1, 1) := by decide +kernel
theorem dX8_claimOf_20 : decode cX8_claimOf 20 = .ok (.bipush 6, 2) := by decide +kernel
theorem dX8_claimOf_22 : decode cX8_claimOf 22 = .ok (.imul, 1) := by decide +kernel
theorem dX8_claimOf_23 : decode cX8_claimOf 23 = .ok (.iload_n 2, 1) := by decide +kernel
theorem dX8_claimOf_24 : decode cX8_claimOf 24 = .ok (.iadd, 1) := by decide +kernel
theorem dX8_claimOf_25 : decode cX8_claimOf 25 = .ok (.iaload, 1) := by decide +kernel
theorem dX8_claimOf_26 : decode cX8_claimOf 26 = .ok (.goto 4, 3) := by decide +kernel
theorem dX8_claimOf_29 : decode cX8_claimOf 29 = .ok (.iconst (-1), 1) := by decide +kernel
theorem dX8_claimOf_30 : decode cX8_claimOf 30 = .ok (.ireturn, 1) := by decide +kernel
theorem eX8_claimOf {l : Launch} {g : jm_G} {d : Nat} {v1 v2 : Int} (hg : jm_HC g) {mu : jm_M} {Q : Option Value → jm_M → Prop} (h : jm_rg v1 ∧ (0 ≤ v1 ∧ v1 < (mu.1 6 0) → jm_rg v2 ∧ ((0 ≤ v2 ∧ v2 ≤ 5) → (0 ≤ ((v1 * 6) + v2) ∧ ((v1 * 6) + v2) < 48) ∧ Q (some (jm_i (mu.1 10 ((v1 * 6) + v2)))) mu) ∧ (¬ ((0 ≤ v2 ∧ v2 ≤ 5)) → Q (some (jm_i (-1))) mu)) ∧ (¬ (0 ≤ v1 ∧ v1 < (mu.1 6 0)) → Q (some (jm_i (-1))) mu)) : jm_R l g (d + 3) iX8_claimOf [.ref 6, jm_i v1, jm_i v2] mu Q := by
  refine jm_enter [(0, .ref 6), (1, jm_i v1), (2, jm_i v2)] (by decide) (Nat.le_of_ble_eq_true rfl) rfl ?_
  refine jm_mrI (fun hm0 => ?_)
  refine jm_aload_n (pc := 0) 0 dX8_claimOf_0 rfl ?_
  refine jm_iload_n (pc := 1) 1 dX8_claimOf_1 rfl ?_
  have hg1 := h.1
  have h := h.2
  refine jm_inlvi (pc := 2) (As := [_]) (st := []) iX8_isWitness dX8_claimOf_2 mX8_80 (cC6 hg) ⟨_, rfl, rfl⟩ rfl rfl (Nat.le_of_ble_eq_true rfl) (pX8_isWitness hg hg1 (fun q => jm_kIi ?_) (fun q => jm_kIi ?_))
  · have h := h.1 q
    refine jm_if_eq (pc := 5) 29 dX8_claimOf_5 rfl ⟨by decide, by decide⟩ (fun q => absurd q (by decide)) (fun q => ?_)
    refine jm_iload_n (pc := 8) 2 dX8_claimOf_8 rfl ?_
    have hg2 := h.1
    have h := h.2
    refine jm_inlni (pc := 9) (As := [_]) (st := []) iX11_isFact dX8_claimOf_9 (mX8_84 hg) rfl rfl (Nat.le_of_ble_eq_true rfl) (pX11_isFact hg hg2 (fun q => jm_kIi ?_) (fun q => jm_kIi ?_))
    · have h := h.1 q
      refine jm_if_eq (pc := 12) 29 dX8_claimOf_12 rfl ⟨by decide, by decide⟩ (fun q => absurd q (by decide)) (fun q => ?_)
      refine jm_aload_n (pc := 15) 0 dX8_claimOf_15 rfl ?_
      refine jm_getr (pc := 16) 4 dX8_claimOf_16 fX8_25 (cC6 hg) rfl ?_
      refine jm_iload_n (pc := 19) 1 dX8_claimOf_19 rfl ?_
      refine jm_bipush (pc := 20) dX8_claimOf_20 (by decide) ?_
      refine jm_imul (pc := 22) dX8_claimOf_22 ?_
      refine jm_iload_n (pc := 23) 2 dX8_claimOf_23 rfl ?_
      refine jm_iadd (pc := 24) dX8_claimOf_24 ?_
      have hg3 := h.1
      have h := h.2
      refine jm_iald (pc := 25) dX8_claimOf_25 (cC10 hg) (by decide) hg3.1 hg3.2 ?_
      refine jm_goto (pc := 26) 30 dX8_claimOf_26 rfl ?_
      exact jm_iret (pc := 30) dX8_claimOf_30 rfl h
    · have h := h.2 q
      refine jm_if_eq (pc := 12) 29 dX8_claimOf_12 rfl ⟨by decide, by decide⟩ (fun q => ?_) (fun q => absurd q (by decide))
      refine jm_iconst (pc := 29) dX8_claimOf_29 ?_
      exact jm_iret (pc := 30) dX8_claimOf_30 rfl h
  · have h := h.2 q
    refine jm_if_eq (pc := 5) 29 dX8_claimOf_5 rfl ⟨by decide, by decide⟩ (fun q => ?_) (fun q => absurd q (by decide))
    refine jm_iconst (pc := 29) dX8_claimOf_29 ?_
    exact jm_iret (pc := 30) dX8_claimOf_30 rfl h
theorem dX0_motiveOf_0 : decode cX0_motiveOf 0 = .ok (.aload_n 0, 1) := by decide +kernel
theorem dX0_motiveOf_1 : decode cX0_motiveOf 1 = .ok (.getfield 15, 3) := by decide +kernel
theorem dX0_motiveOf_4 : decode cX0_motiveOf 4 = .ok (.iload_n 1, 1) := by decide +kernel
theorem dX0_motiveOf_5 : decode cX0_motiveOf 5 = .ok (.iload_n 2, 1) := by decide +kernel
theorem dX0_motiveOf_6 : decode cX0_motiveOf 6 = .ok (.invokevirtual 23, 3) := by decide +kernel
theorem dX0_motiveOf_9 : decode cX0_motiveOf 9 = .ok (.istore_n 3, 1) := by decide +kernel
theorem dX0_motiveOf_10 : decode cX0_motiveOf 10 = .ok (.iload_n 3, 1) := by decide +kernel
theorem dX0_motiveOf_11 : decode cX0_motiveOf 11 = .ok (.iconst (-1), 1) := by decide +kernel
theorem dX0_motiveOf_12 : decode cX0_motiveOf 12 = .ok (.if_icmp .ne 5, 3) := by decide +kernel
theorem dX0_motiveOf_15 : decode cX0_motiveOf 15 = .ok (.iconst (-1), 1) := by decide +kernel
theorem dX0_motiveOf_16 : decode cX0_motiveOf 16 = .ok (.ireturn, 1) := by decide +kernel
theorem dX0_motiveOf_17 : decode cX0_motiveOf 17 = .ok (.iload_n 2, 1) := by decide +kernel
theorem dX0_motiveOf_18 : decode cX0_motiveOf 18 = .ok (.iconst 4, 1) := by decide +kernel
theorem dX0_motiveOf_19 : decode cX0_motiveOf 19 = .ok (.imul, 1) := by decide +kernel
theorem dX0_motiveOf_20 : decode cX0_motiveOf 20 = .ok (.iload_n 3, 1) := by decide +kernel
theorem dX0_motiveOf_21 : decode cX0_motiveOf 21 = .ok (.iadd, 1) := by decide +kernel
theorem dX0_motiveOf_22 : decode cX0_motiveOf 22 = .ok (.istore 4, 2) := by decide +kernel
theorem dX0_motiveOf_24 : decode cX0_motiveOf 24 = .ok (.aload_n 0, 1) := by decide +kernel
theorem dX0_motiveOf_25 : decode cX0_motiveOf 25 = .ok (.getfield 15, 3) := by decide +kernel
theorem dX0_motiveOf_28 : decode cX0_motiveOf 28 = .ok (.getfield 29, 3) := by decide +kernel
theorem dX0_motiveOf_31 : decode cX0_motiveOf 31 = .ok (.getfield 33, 3) := by decide +kernel
theorem dX0_motiveOf_34 : decode cX0_motiveOf 34 = .ok (.iload 4, 2) := by decide +kernel
theorem dX0_motiveOf_36 : decode cX0_motiveOf 36 = .ok (.iaload, 1) := by decide +kernel
theorem dX0_motiveOf_37 : decode cX0_motiveOf 37 = .ok (.ifCond .ne 7, 3) := by decide +kernel
theorem dX0_motiveOf_40 : decode cX0_motiveOf 40 = .ok (.iconst (-1), 1) := by decide +kernel
theorem dX0_motiveOf_41 : decode cX0_motiveOf 41 = .ok (.goto 5, 3) := by decide +kernel
theorem dX0_motiveOf_44 : decode cX0_motiveOf 44 = .ok (.iload 4, 2) := by decide +kernel
theorem dX0_motiveOf_46 : decode cX0_motiveOf 46 = .ok (.ireturn, 1) := by decide +kernel
theorem eX0_motiveOf {l : Launch} {g : jm_G} {d : Nat} {v1 v2 : Int} (hg : jm_HC g) {mu : jm_M} {Q : Option Value → jm_M → Prop} (h : jm_R l g d iX8_claimOf [.ref 6, jm_i v1, jm_i v2] mu (jm_qi fun z2 m1 => (¬ z2 = (-1) → ∀ x5, x5 = ((v2 * 4) + z2) → (0 ≤ x5 ∧ x5 < 24) ∧ (¬ (m1.1 13 x5) = 0 → Q (some (jm_i x5)) m1) ∧ ((m1.1 13 x5) = 0 → Q (some (jm_i (-1))) m1)) ∧ (z2 = (-1) → Q (some (jm_i (-1))) m1))) : jm_R l g (d + 1) iX0_motiveOf [.ref 35, jm_i v1, jm_i v2] mu Q := by
  refine jm_enter [(0, .ref 35), (1, jm_i v1), (2, jm_i v2)] (by decide) (Nat.le_of_ble_eq_true rfl) rfl ?_
  refine jm_mrI (fun hm0 => ?_)
  refine jm_aload_n (pc := 0) 0 dX0_motiveOf_0 rfl ?_
  refine jm_getr (pc := 1) 0 dX0_motiveOf_1 fX0_15 (cC35 hg) rfl ?_
  refine jm_iload_n (pc := 4) 1 dX0_motiveOf_4 rfl ?_
  refine jm_iload_n (pc := 5) 2 dX0_motiveOf_5 rfl ?_
  refine jm_callvi (pc := 6) (As := [_, _]) (st := []) iX8_claimOf dX0_motiveOf_6 mX0_23 (cC6 hg) ⟨_, rfl, rfl⟩ rfl rfl (Nat.le_of_ble_eq_true rfl) h (fun z2 m1 hz3 h hm4 => ?_)
  refine jm_istore_n (pc := 9) (lv' := [(3, _), (0, _), (1, _), (2, _)]) dX0_motiveOf_9 (by decide) rfl ?_
  refine jm_iload_n (pc := 10) 0 dX0_motiveOf_10 rfl ?_
  refine jm_iconst (pc := 11) dX0_motiveOf_11 ?_
  refine jm_icmp_ne (pc := 12) 17 dX0_motiveOf_12 rfl hz3 ⟨by decide, by decide⟩ (fun q => ?_) (fun q => ?_)
  · have h := h.1 q
    refine jm_iload_n (pc := 17) 3 dX0_motiveOf_17 rfl ?_
    refine jm_iconst (pc := 18) dX0_motiveOf_18 ?_
    refine jm_imul (pc := 19) dX0_motiveOf_19 ?_
    refine jm_iload_n (pc := 20) 0 dX0_motiveOf_20 rfl ?_
    refine jm_iadd (pc := 21) dX0_motiveOf_21 ?_
    have h := h _ rfl
    refine jm_istore (pc := 22) (lv' := [(4, _), (3, _), (0, _), (1, _), (2, _)]) dX0_motiveOf_22 (by decide) rfl ?_
    refine jm_aload_n (pc := 24) 2 dX0_motiveOf_24 rfl ?_
    refine jm_getr (pc := 25) 0 dX0_motiveOf_25 fX0_15 (cC35 hg) rfl ?_
    refine jm_getr (pc := 28) 10 dX0_motiveOf_28 fX0_29 (cC6 hg) rfl ?_
    refine jm_getr (pc := 31) 1 dX0_motiveOf_31 fX0_33 (cC12 hg) rfl ?_
    refine jm_iload (pc := 34) 0 dX0_motiveOf_34 rfl ?_
    have hg6 := h.1
    have h := h.2
    refine jm_iald (pc := 36) dX0_motiveOf_36 (cC13 hg) (by decide) hg6.1 hg6.2 ?_
    refine jm_if_ne (pc := 37) 44 dX0_motiveOf_37 rfl (hm4 _ _) (fun q => ?_) (fun q => ?_)
    · have h := h.1 q
      refine jm_iload (pc := 44) 0 dX0_motiveOf_44 rfl ?_
      exact jm_iret (pc := 46) dX0_motiveOf_46 rfl h
    · have h := h.2 q
      refine jm_iconst (pc := 40) dX0_motiveOf_40 ?_
      refine jm_goto (pc := 41) 46 dX0_motiveOf_41 rfl ?_
      exact jm_iret (pc := 46) dX0_motiveOf_46 rfl h
  · have h := h.2 q
    refine jm_iconst (pc := 15) dX0_motiveOf_15 ?_
    exact jm_iret (pc := 16) dX0_motiveOf_16 rfl h
theorem dX1_hasRoom_0 : decode cX1_hasRoom 0 = .ok (.aload_n 0, 1) := by decide +kernel
theorem dX1_hasRoom_1 : decode cX1_hasRoom 1 = .ok (.getfield 25, 3) := by decide +kernel
theorem dX1_hasRoom_4 : decode cX1_hasRoom 4 = .ok (.bipush 20, 2) := by decide +kernel
theorem dX1_hasRoom_6 : decode cX1_hasRoom 6 = .ok (.if_icmp .ge 19, 3) := by decide +kernel
theorem dX1_hasRoom_9 : decode cX1_hasRoom 9 = .ok (.aload_n 0, 1) := by decide +kernel
theorem dX1_hasRoom_10 : decode cX1_hasRoom 10 = .ok (.getfield 31, 3) := by decide +kernel
theorem dX1_hasRoom_13 : decode cX1_hasRoom 13 = .ok (.iload_n 1, 1) := by decide +kernel
theorem dX1_hasRoom_14 : decode cX1_hasRoom 14 = .ok (.iadd, 1) := by decide +kernel
theorem dX1_hasRoom_15 : decode cX1_hasRoom 15 = .ok (.sipush 200, 3) := by decide +kernel
theorem dX1_hasRoom_18 : decode cX1_hasRoom 18 = .ok (.if_icmp .gt 7, 3) := by decide +kernel
theorem dX1_hasRoom_21 : decode cX1_hasRoom 21 = .ok (.iconst 1, 1) := by decide +kernel
theorem dX1_hasRoom_22 : decode cX1_hasRoom 22 = .ok (.goto 4, 3) := by decide +kernel
theorem dX1_hasRoom_25 : decode cX1_hasRoom 25 = .ok (.iconst 0, 1) := by decide +kernel
theorem dX1_hasRoom_26 : decode cX1_hasRoom 26 = .ok (.ireturn, 1) := by decide +kernel
theorem eX1_hasRoom {l : Launch} {g : jm_G} {d : Nat} {v1 : Int} (hg : jm_HC g) {mu : jm_M} {Q : Option Value → jm_M → Prop} (h : (20 ≤ (mu.1 29 4) → Q (some (jm_i 0)) mu) ∧ ((mu.1 29 4) < 20 → jm_rg ((mu.1 29 6) + v1) ∧ (200 < ((mu.1 29 6) + v1) → Q (some (jm_i 0)) mu) ∧ (((mu.1 29 6) + v1) ≤ 200 → Q (some (jm_i 1)) mu))) : jm_R l g (d + 1) iX1_hasRoom [.ref 29, jm_i v1] mu Q := by
  refine jm_enter [(0, .ref 29), (1, jm_i v1)] (by decide) (Nat.le_of_ble_eq_true rfl) rfl ?_
  refine jm_mrI (fun hm0 => ?_)
  refine jm_aload_n (pc := 0) 0 dX1_hasRoom_0 rfl ?_
  refine jm_geti (pc := 1) 4 dX1_hasRoom_1 fX1_25 (cC29 hg) rfl ?_
  refine jm_bipush (pc := 4) dX1_hasRoom_4 (by decide) ?_
  refine jm_icmp_ge (pc := 6) 25 dX1_hasRoom_6 rfl (hm0 _ _) ⟨by decide, by decide⟩ (fun q => ?_) (fun q => ?_)
  · have h := h.1 q
    refine jm_iconst (pc := 25) dX1_hasRoom_25 ?_
    exact jm_zret (pc := 26) dX1_hasRoom_26 rfl (Or.inl rfl) h
  · have h := h.2 q
    refine jm_aload_n (pc := 9) 0 dX1_hasRoom_9 rfl ?_
    refine jm_geti (pc := 10) 6 dX1_hasRoom_10 fX1_31 (cC29 hg) rfl ?_
    refine jm_iload_n (pc := 13) 1 dX1_hasRoom_13 rfl ?_
    refine jm_iadd (pc := 14) dX1_hasRoom_14 ?_
    refine jm_sipush (pc := 15) dX1_hasRoom_15 (by decide) ?_
    have hg1 := h.1
    have h := h.2
    refine jm_icmp_gt (pc := 18) 25 dX1_hasRoom_18 rfl hg1 ⟨by decide, by decide⟩ (fun q => ?_) (fun q => ?_)
    · have h := h.1 q
      refine jm_iconst (pc := 25) dX1_hasRoom_25 ?_
      exact jm_zret (pc := 26) dX1_hasRoom_26 rfl (Or.inl rfl) h
    · have h := h.2 q
      refine jm_iconst (pc := 21) dX1_hasRoom_21 ?_
      refine jm_goto (pc := 22) 26 dX1_hasRoom_22 rfl ?_
      exact jm_zret (pc := 26) dX1_hasRoom_26 rfl (Or.inr rfl) h
theorem dX2_barsOf_0 : decode cX2_barsOf 0 = .ok (.aload_n 0, 1) := by decide +kernel
theorem dX2_barsOf_1 : decode cX2_barsOf 1 = .ok (.getfield 21, 3) := by decide +kernel
theorem dX2_barsOf_4 : decode cX2_barsOf 4 = .ok (.getfield 44, 3) := by decide +kernel
theorem dX2_barsOf_7 : decode cX2_barsOf 7 = .ok (.getfield 50, 3) := by decide +kernel
theorem dX2_barsOf_10 : decode cX2_barsOf 10 = .ok (.iload_n 2, 1) := by decide +kernel
theorem dX2_barsOf_11 : decode cX2_barsOf 11 = .ok (.iaload, 1) := by decide +kernel
theorem dX2_barsOf_12 : decode cX2_barsOf 12 = .ok (.istore_n 3, 1) := by decide +kernel
theorem dX2_barsOf_13 : decode cX2_barsOf 13 = .ok (.aload_n 0, 1) := by decide +kernel
theorem dX2_barsOf_14 : decode cX2_barsOf 14 = .ok (.getfield 21, 3) := by decide +kernel
theorem dX2_barsOf_17 : decode cX2_barsOf 17 = .ok (.getfield 56, 3) := by decide +kernel
theorem dX2_barsOf_20 : decode cX2_barsOf 20 = .ok (.iload_n 1, 1) := by decide +kernel
theorem dX2_barsOf_21 : decode cX2_barsOf 21 = .ok (.iaload, 1) := by decide +kernel
theorem dX2_barsOf_22 : decode cX2_barsOf 22 = .ok (.istore 4, 2) := by decide +kernel
theorem dX2_barsOf_24 : decode cX2_barsOf 24 = .ok (.iload 4, 2) := by decide +kernel
theorem dX2_barsOf_26 : decode cX2_barsOf 26 = .ok (.ifCond .le 14, 3) := by decide +kernel
theorem dX2_barsOf_29 : decode cX2_barsOf 29 = .ok (.iload_n 3, 1) := by decide +kernel
theorem dX2_barsOf_30 : decode cX2_barsOf 30 = .ok (.iload_n 3, 1) := by decide +kernel
theorem dX2_barsOf_31 : decode cX2_barsOf 31 = .ok (.iconst 1, 1) := by decide +kernel
theorem dX2_barsOf_32 : decode cX2_barsOf 32 = .ok (.isub, 1) := by decide +kernel
theorem dX2_barsOf_33 : decode cX2_barsOf 33 = .ok (.iload 4, 2) := by decide +kernel
theorem dX2_barsOf_35 : decode cX2_barsOf 35 = .ok (.idiv, 1) := by decide +kernel
theorem dX2_barsOf_36 : decode cX2_barsOf 36 = .ok (.iadd, 1) := by decide +kernel
theorem dX2_barsOf_37 : decode cX2_barsOf 37 = .ok (.goto 4, 3) := by decide +kernel
theorem dX2_barsOf_40 : decode cX2_barsOf 40 = .ok (.iload_n 3, 1) := by decide +kernel
theorem dX2_barsOf_41 : decode cX2_barsOf 41 = .ok (.ireturn, 1) := by decide +kernel
theorem eX2_barsOf {l : Launch} {g : jm_G} {d : Nat} {v1 v2 : Int} (hg : jm_HC g) {mu : jm_M} {Q : Option Value → jm_M → Prop} (h : (0 ≤ v2 ∧ v2 < 24) ∧ ∀ x2, x2 = (mu.1 13 v2) → (0 ≤ v1 ∧ v1 < 8) ∧ ∀ x4, x4 = (mu.1 9 v1) → (x4 ≤ 0 → Q (some (jm_i x2)) mu) ∧ (0 < x4 → jm_rg (x2 - 1) ∧ ¬ x4 = 0 ∧ Q (some (jm_i (x2 + (Int.tdiv (x2 - 1) x4)))) mu)) : jm_R l g (d + 1) iX2_barsOf [.ref 37, jm_i v1, jm_i v2] mu Q := by
  refine jm_enter [(0, .ref 37), (1, jm_i v1), (2, jm_i v2)] (by decide) (Nat.le_of_ble_eq_true rfl) rfl ?_
  refine jm_mrI (fun hm0 => ?_)
  refine jm_aload_n (pc := 0) 0 dX2_barsOf_0 rfl ?_
  refine jm_getr (pc := 1) 1 dX2_barsOf_1 fX2_21 (cC37 hg) rfl ?_
  refine jm_getr (pc := 4) 10 dX2_barsOf_4 fX2_44 (cC6 hg) rfl ?_
  refine jm_getr (pc := 7) 1 dX2_barsOf_7 fX2_50 (cC12 hg) rfl ?_
  refine jm_iload_n (pc := 10) 2 dX2_barsOf_10 rfl ?_
  have hg1 := h.1
  have h := h.2
  refine jm_iald (pc := 11) dX2_barsOf_11 (cC13 hg) (by decide) hg1.1 hg1.2 ?_
  have h := h _ rfl
  refine jm_istore_n (pc := 12) (lv' := [(3, _), (0, _), (1, _), (2, _)]) dX2_barsOf_12 (by decide) rfl ?_
  refine jm_aload_n (pc := 13) 1 dX2_barsOf_13 rfl ?_
  refine jm_getr (pc := 14) 1 dX2_barsOf_14 fX2_21 (cC37 hg) rfl ?_
  refine jm_getr (pc := 17) 3 dX2_barsOf_17 fX2_56 (cC6 hg) rfl ?_
  refine jm_iload_n (pc := 20) 2 dX2_barsOf_20 rfl ?_
  have hg3 := h.1
  have h := h.2
  refine jm_iald (pc := 21) dX2_barsOf_21 (cC9 hg) (by decide) hg3.1 hg3.2 ?_
  have h := h _ rfl
  refine jm_istore (pc := 22) (lv' := [(4, _), (3, _), (0, _), (1, _), (2, _)]) dX2_barsOf_22 (by decide) rfl ?_
  refine jm_iload (pc := 24) 0 dX2_barsOf_24 rfl ?_
  refine jm_if_le (pc := 26) 40 dX2_barsOf_26 rfl (hm0 _ _) (fun q => ?_) (fun q => ?_)
  · have h := h.1 q
    refine jm_iload_n (pc := 40) 1 dX2_barsOf_40 rfl ?_
    exact jm_iret (pc := 41) dX2_barsOf_41 rfl h
  · have h := h.2 q
    refine jm_iload_n (pc := 29) 1 dX2_barsOf_29 rfl ?_
    refine jm_iload_n (pc := 30) 1 dX2_barsOf_30 rfl ?_
    refine jm_iconst (pc := 31) dX2_barsOf_31 ?_
    refine jm_isub (pc := 32) dX2_barsOf_32 ?_
    refine jm_iload (pc := 33) 0 dX2_barsOf_33 rfl ?_
    have hg5 := h.1
    have h := h.2
    have hg6 := h.1
    have h := h.2
    refine jm_idiv (pc := 35) hg5 (hm0 _ _) hg6 dX2_barsOf_35 ?_
    refine jm_iadd (pc := 36) dX2_barsOf_36 ?_
    refine jm_goto (pc := 37) 41 dX2_barsOf_37 rfl ?_
    exact jm_iret (pc := 41) dX2_barsOf_41 rfl h
theorem dX2_canBeCalled_0 : decode cX2_canBeCalled 0 = .ok (.aload_n 0, 1) := by decide +kernel
theorem dX2_canBeCalled_1 : decode cX2_canBeCalled 1 = .ok (.getfield 9, 3) := by decide +kernel
theorem dX2_canBeCalled_4 : decode cX2_canBeCalled 4 = .ok (.iload_n 1, 1) := by decide +kernel
theorem dX2_canBeCalled_5 : decode cX2_canBeCalled 5 = .ok (.iload_n 2, 1) := by decide +kernel
theorem dX2_canBeCalled_6 : decode cX2_canBeCalled 6 = .ok (.invokevirtual 27, 3) := by decide +kernel
theorem dX2_canBeCalled_9 : decode cX2_canBeCalled 9 = .ok (.istore 4, 2) := by decide +kernel
theorem dX2_canBeCalled_11 : decode cX2_canBeCalled 11 = .ok (.aload_n 0, 1) := by decide +kernel
theorem dX2_canBeCalled_12 : decode cX2_canBeCalled 12 = .ok (.getfield 9, 3) := by decide +kernel
theorem dX2_canBeCalled_15 : decode cX2_canBeCalled 15 = .ok (.iload_n 1, 1) := by decide +kernel
theorem dX2_canBeCalled_16 : decode cX2_canBeCalled 16 = .ok (.iload 4, 2) := by decide +kernel
theorem dX2_canBeCalled_18 : decode cX2_canBeCalled 18 = .ok (.iload_n 3, 1) := by decide +kernel
theorem dX2_canBeCalled_19 : decode cX2_canBeCalled 19 = .ok (.invokevirtual 31, 3) := by decide +kernel
theorem dX2_canBeCalled_22 : decode cX2_canBeCalled 22 = .ok (.ifCond .eq 24, 3) := by decide +kernel
theorem dX2_canBeCalled_25 : decode cX2_canBeCalled 25 = .ok (.aload_n 0, 1) := by decide +kernel
theorem dX2_canBeCalled_26 : decode cX2_canBeCalled 26 = .ok (.getfield 26, 3) := by decide +kernel
theorem dX2_canBeCalled_29 : decode cX2_canBeCalled 29 = .ok (.aload_n 0, 1) := by decide +kernel
theorem dX2_canBeCalled_30 : decode cX2_canBeCalled 30 = .ok (.iload_n 1, 1) := by decide +kernel
theorem dX2_canBeCalled_31 : decode cX2_canBeCalled 31 = .ok (.iload 4, 2) := by decide +kernel
theorem dX2_canBeCalled_33 : decode cX2_canBeCalled 33 = .ok (.invokevirtual 35, 3) := by decide +kernel
theorem dX2_canBeCalled_36 : decode cX2_canBeCalled 36 = .ok (.invokevirtual 38, 3) := by decide +kernel
theorem dX2_canBeCalled_39 : decode cX2_canBeCalled 39 = .ok (.ifCond .eq 7, 3) := by decide +kernel
theorem dX2_canBeCalled_42 : decode cX2_canBeCalled 42 = .ok (.iconst 1, 1) := by decide +kernel
theorem dX2_canBeCalled_43 : decode cX2_canBeCalled 43 = .ok (.goto 4, 3) := by decide +kernel
theorem dX2_canBeCalled_46 : decode cX2_canBeCalled 46 = .ok (.iconst 0, 1) := by decide +kernel
theorem dX2_canBeCalled_47 : decode cX2_canBeCalled 47 = .ok (.ireturn, 1) := by decide +kernel
theorem eX2_canBeCalled {l : Launch} {g : jm_G} {d : Nat} {v1 v2 v3 : Int} (hg : jm_HC g) {mu : jm_M} {Q : Option Value → jm_M → Prop} (h : jm_R l g d iX0_motiveOf [.ref 35, jm_i v1, jm_i v2] mu (jm_qi fun z2 m1 => jm_R l g d iX0_canSing [.ref 35, jm_i v1, jm_i z2, jm_i v3] m1 (jm_qi fun z6 m5 => (z6 = 0 → Q (some (jm_i 0)) m5) ∧ (¬ z6 = 0 → jm_R l g d iX2_barsOf [.ref 37, jm_i v1, jm_i z2] m5 (jm_qi fun z10 m9 => jm_R l g d iX1_hasRoom [.ref 29, jm_i z10] m9 (jm_qi fun z14 m13 => (z14 = 0 → Q (some (jm_i 0)) m13) ∧ (¬ z14 = 0 → Q (some (jm_i 1)) m13))))))) : jm_R l g (d + 1) iX2_canBeCalled [.ref 37, jm_i v1, jm_i v2, jm_i v3] mu Q := by
  refine jm_enter [(0, .ref 37), (1, jm_i v1), (2, jm_i v2), (3, jm_i v3)] (by decide) (Nat.le_of_ble_eq_true rfl) rfl ?_
  refine jm_mrI (fun hm0 => ?_)
  refine jm_aload_n (pc := 0) 0 dX2_canBeCalled_0 rfl ?_
  refine jm_getr (pc := 1) 0 dX2_canBeCalled_1 fX2_9 (cC37 hg) rfl ?_
  refine jm_iload_n (pc := 4) 1 dX2_canBeCalled_4 rfl ?_
  refine jm_iload_n (pc := 5) 2 dX2_canBeCalled_5 rfl ?_
  refine jm_callvi (pc := 6) (As := [_, _]) (st := []) iX0_motiveOf dX2_canBeCalled_6 mX2_27 (cC35 hg) ⟨_, rfl, rfl⟩ rfl rfl (Nat.le_of_ble_eq_true rfl) h (fun z2 m1 hz3 h hm4 => ?_)
  refine jm_istore (pc := 9) (lv' := [(4, _), (0, _), (1, _), (2, _), (3, _)]) dX2_canBeCalled_9 (by decide) rfl ?_
  refine jm_aload_n (pc := 11) 1 dX2_canBeCalled_11 rfl ?_
  refine jm_getr (pc := 12) 0 dX2_canBeCalled_12 fX2_9 (cC37 hg) rfl ?_
  refine jm_iload_n (pc := 15) 2 dX2_canBeCalled_15 rfl ?_
  refine jm_iload (pc := 16) 0 dX2_canBeCalled_16 rfl ?_
  refine jm_iload_n (pc := 18) 4 dX2_canBeCalled_18 rfl ?_
  refine jm_callvi (pc := 19) (As := [_, _, _]) (st := []) iX0_canSing dX2_canBeCalled_19 mX2_31 (cC35 hg) ⟨_, rfl, rfl⟩ rfl rfl (Nat.le_of_ble_eq_true rfl) h (fun z6 m5 hz7 h hm8 => ?_)
  refine jm_if_eq (pc := 22) 46 dX2_canBeCalled_22 rfl hz7 (fun q => ?_) (fun q => ?_)
  · have h := h.1 q
    refine jm_iconst (pc := 46) dX2_canBeCalled_46 ?_
    exact jm_zret (pc := 47) dX2_canBeCalled_47 rfl (Or.inl rfl) h
  · have h := h.2 q
    refine jm_aload_n (pc := 25) 1 dX2_canBeCalled_25 rfl ?_
    refine jm_getr (pc := 26) 2 dX2_canBeCalled_26 fX2_26 (cC37 hg) rfl ?_
    refine jm_aload_n (pc := 29) 1 dX2_canBeCalled_29 rfl ?_
    refine jm_iload_n (pc := 30) 2 dX2_canBeCalled_30 rfl ?_
    refine jm_iload (pc := 31) 0 dX2_canBeCalled_31 rfl ?_
    refine jm_callvi (pc := 33) (As := [_, _]) (st := [_]) iX2_barsOf dX2_canBeCalled_33 mX2_35 (cC37 hg) ⟨_, rfl, rfl⟩ rfl rfl (Nat.le_of_ble_eq_true rfl) h (fun z10 m9 hz11 h hm12 => ?_)
    refine jm_callvi (pc := 36) (As := [_]) (st := []) iX1_hasRoom dX2_canBeCalled_36 mX2_38 (cC29 hg) ⟨_, rfl, rfl⟩ rfl rfl (Nat.le_of_ble_eq_true rfl) h (fun z14 m13 hz15 h hm16 => ?_)
    refine jm_if_eq (pc := 39) 46 dX2_canBeCalled_39 rfl hz15 (fun q => ?_) (fun q => ?_)
    · have h := h.1 q
      refine jm_iconst (pc := 46) dX2_canBeCalled_46 ?_
      exact jm_zret (pc := 47) dX2_canBeCalled_47 rfl (Or.inl rfl) h
    · have h := h.2 q
      refine jm_iconst (pc := 42) dX2_canBeCalled_42 ?_
      refine jm_goto (pc := 43) 47 dX2_canBeCalled_43 rfl ?_
      exact jm_zret (pc := 47) dX2_canBeCalled_47 rfl (Or.inr rfl) h
theorem dX1_ofTestimony_0 : decode cX1_ofTestimony 0 = .ok (.aload_n 0, 1) := by decide +kernel
theorem dX1_ofTestimony_1 : decode cX1_ofTestimony 1 = .ok (.getfield 28, 3) := by decide +kernel
theorem dX1_ofTestimony_4 : decode cX1_ofTestimony 4 = .ok (.iload_n 1, 1) := by decide +kernel
theorem dX1_ofTestimony_5 : decode cX1_ofTestimony 5 = .ok (.bipush 7, 2) := by decide +kernel
theorem dX1_ofTestimony_7 : decode cX1_ofTestimony 7 = .ok (.imul, 1) := by decide +kernel
theorem dX1_ofTestimony_8 : decode cX1_ofTestimony 8 = .ok (.iload_n 2, 1) := by decide +kernel
theorem dX1_ofTestimony_9 : decode cX1_ofTestimony 9 = .ok (.iadd, 1) := by decide +kernel
theorem dX1_ofTestimony_10 : decode cX1_ofTestimony 10 = .ok (.iaload, 1) := by decide +kernel
theorem dX1_ofTestimony_11 : decode cX1_ofTestimony 11 = .ok (.ireturn, 1) := by decide +kernel
theorem eX1_ofTestimony {l : Launch} {g : jm_G} {d : Nat} {v1 v2 : Int} (hg : jm_HC g) {mu : jm_M} {Q : Option Value → jm_M → Prop} (h : (0 ≤ ((v1 * 7) + v2) ∧ ((v1 * 7) + v2) < 140) ∧ Q (some (jm_i (mu.1 32 ((v1 * 7) + v2)))) mu) : jm_R l g (d + 1) iX1_ofTestimony [.ref 29, jm_i v1, jm_i v2] mu Q := by
  refine jm_enter [(0, .ref 29), (1, jm_i v1), (2, jm_i v2)] (by decide) (Nat.le_of_ble_eq_true rfl) rfl ?_
  refine jm_mrI (fun hm0 => ?_)
  refine jm_aload_n (pc := 0) 0 dX1_ofTestimony_0 rfl ?_
  refine jm_getr (pc := 1) 5 dX1_ofTestimony_1 fX1_28 (cC29 hg) rfl ?_
  refine jm_iload_n (pc := 4) 1 dX1_ofTestimony_4 rfl ?_
  refine jm_bipush (pc := 5) dX1_ofTestimony_5 (by decide) ?_
  refine jm_imul (pc := 7) dX1_ofTestimony_7 ?_
  refine jm_iload_n (pc := 8) 2 dX1_ofTestimony_8 rfl ?_
  refine jm_iadd (pc := 9) dX1_ofTestimony_9 ?_
  have hg1 := h.1
  have h := h.2
  refine jm_iald (pc := 10) dX1_ofTestimony_10 (cC32 hg) (by decide) hg1.1 hg1.2 ?_
  exact jm_iret (pc := 11) dX1_ofTestimony_11 rfl h
theorem pX1_ofTestimony {l : Launch} {g : jm_G} {d : Nat} {v1 v2 : Int} (hg : jm_HC g) {mu : jm_M} {Q : Option Value → jm_M → Prop} (o0 : 0 ≤ ((v1 * 7) + v2) ∧ ((v1 * 7) + v2) < 140) (h : Q (some (jm_i (mu.1 32 ((v1 * 7) + v2)))) mu) : jm_R l g (d + 1) iX1_ofTestimony [.ref 29, jm_i v1, jm_i v2] mu Q := by
  refine eX1_ofTestimony hg ?_
  refine ⟨o0, ?_⟩
  exact h
theorem dX1_sungBy_0 : decode cX1_sungBy 0 = .ok (.iconst 0, 1) := by decide +kernel
theorem dX1_sungBy_1 : decode cX1_sungBy 1 = .ok (.istore_n 2, 1) := by decide +kernel
theorem dX1_sungBy_2 : decode cX1_sungBy 2 = .ok (.iconst 0, 1) := by decide +kernel
theorem dX1_sungBy_3 : decode cX1_sungBy 3 = .ok (.istore_n 3, 1) := by decide +kernel
theorem dX1_sungBy_4 : decode cX1_sungBy 4 = .ok (.iload_n 3, 1) := by decide +kernel
theorem dX1_sungBy_5 : decode cX1_sungBy 5 = .ok (.aload_n 0, 1) := by decide +kernel
theorem dX1_sungBy_6 : decode cX1_sungBy 6 = .ok (.getfield 25, 3) := by decide +kernel
theorem dX1_sungBy_9 : decode cX1_sungBy 9 = .ok (.if_icmp .ge 22, 3) := by decide +kernel
theorem dX1_sungBy_12 : decode cX1_sungBy 12 = .ok (.aload_n 0, 1) := by decide +kernel
theorem dX1_sungBy_13 : decode cX1_sungBy 13 = .ok (.iload_n 3, 1) := by decide +kernel
theorem dX1_sungBy_14 : decode cX1_sungBy 14 = .ok (.iconst 0, 1) := by decide +kernel
theorem dX1_sungBy_15 : decode cX1_sungBy 15 = .ok (.invokevirtual 55, 3) := by decide +kernel
theorem dX1_sungBy_18 : decode cX1_sungBy 18 = .ok (.iload_n 1, 1) := by decide +kernel
theorem dX1_sungBy_19 : decode cX1_sungBy 19 = .ok (.if_icmp .ne 6, 3) := by decide +kernel
theorem dX1_sungBy_22 : decode cX1_sungBy 22 = .ok (.iinc 2 1, 3) := by decide +kernel
theorem dX1_sungBy_25 : decode cX1_sungBy 25 = .ok (.iinc 3 1, 3) := by decide +kernel
theorem dX1_sungBy_28 : decode cX1_sungBy 28 = .ok (.goto (-24), 3) := by decide +kernel
theorem dX1_sungBy_31 : decode cX1_sungBy 31 = .ok (.iload_n 2, 1) := by decide +kernel
theorem dX1_sungBy_32 : decode cX1_sungBy 32 = .ok (.ireturn, 1) := by decide +kernel
theorem bX1_sungBy_4 {l : Launch} {g : jm_G} {d : Nat} {v1 v2 v3 : Int} (hg : jm_HC g) {mu : jm_M} {Q : Option Value → jm_M → Prop} (h : jm_rg v3 ∧ ((mu.1 29 4) ≤ v3 → Q (some (jm_i v2)) mu) ∧ (v3 < (mu.1 29 4) → (0 ≤ ((v3 * 7) + 0) ∧ ((v3 * 7) + 0) < 140) ∧ jm_rg v1 ∧ (¬ (mu.1 32 ((v3 * 7) + 0)) = v1 → jm_V l g (d + 2) iX1_sungBy 4 [(0, .ref 29), (1, jm_i v1), (2, jm_i v2), (3, jm_i (v3 + 1))] [] mu Q) ∧ ((mu.1 32 ((v3 * 7) + 0)) = v1 → jm_V l g (d + 2) iX1_sungBy 4 [(0, .ref 29), (1, jm_i v1), (2, jm_i (v2 + 1)), (3, jm_i (v3 + 1))] [] mu Q))) : jm_V l g (d + 2) iX1_sungBy 4 [(0, .ref 29), (1, jm_i v1), (2, jm_i v2), (3, jm_i v3)] [] mu Q := by
  refine jm_mrI (fun hm0 => ?_)
  refine jm_iload_n (pc := 4) 3 dX1_sungBy_4 rfl ?_
  refine jm_aload_n (pc := 5) 0 dX1_sungBy_5 rfl ?_
  refine jm_geti (pc := 6) 4 dX1_sungBy_6 fX1_25 (cC29 hg) rfl ?_
  have hg1 := h.1
  have h := h.2
  refine jm_icmp_ge (pc := 9) 31 dX1_sungBy_9 rfl hg1 (hm0 _ _) (fun q => ?_) (fun q => ?_)
  · have h := h.1 q
    refine jm_iload_n (pc := 31) 2 dX1_sungBy_31 rfl ?_
    exact jm_iret (pc := 32) dX1_sungBy_32 rfl h
  · have h := h.2 q
    refine jm_aload_n (pc := 12) 0 dX1_sungBy_12 rfl ?_
    refine jm_iload_n (pc := 13) 3 dX1_sungBy_13 rfl ?_
    refine jm_iconst (pc := 14) dX1_sungBy_14 ?_
    have hg2 := h.1
    have h := h.2
    refine jm_inlvi (pc := 15) (As := [_, _]) (st := []) iX1_ofTestimony dX1_sungBy_15 mX1_55 (cC29 hg) ⟨_, rfl, rfl⟩ rfl rfl (Nat.le_of_ble_eq_true rfl) (pX1_ofTestimony hg hg2 (jm_kIi ?_))
    refine jm_iload_n (pc := 18) 1 dX1_sungBy_18 rfl ?_
    have hg3 := h.1
    have h := h.2
    refine jm_icmp_ne (pc := 19) 25 dX1_sungBy_19 rfl (hm0 _ _) hg3 (fun q => ?_) (fun q => ?_)
    · have h := h.1 q
      refine jm_iinc (pc := 25) (lv' := [(3, _), (0, _), (1, _), (2, _)]) 3 dX1_sungBy_25 rfl (by decide) rfl ?_
      refine jm_goto (pc := 28) 4 dX1_sungBy_28 rfl ?_
      exact jm_sub [1, 2, 3, 0] rfl h
    · have h := h.2 q
      refine jm_iinc (pc := 22) (lv' := [(2, _), (0, _), (1, _), (3, _)]) 2 dX1_sungBy_22 rfl (by decide) rfl ?_
      refine jm_iinc (pc := 25) (lv' := [(3, _), (2, _), (0, _), (1, _)]) 3 dX1_sungBy_25 rfl (by decide) rfl ?_
      refine jm_goto (pc := 28) 4 dX1_sungBy_28 rfl ?_
      exact jm_sub [2, 3, 1, 0] rfl h
theorem eX1_sungBy {l : Launch} {g : jm_G} {d : Nat} {v1 : Int} (hg : jm_HC g) {mu : jm_M} {Q : Option Value → jm_M → Prop} (h : jm_V l g (d + 2) iX1_sungBy 4 [(0, .ref 29), (1, jm_i v1), (2, jm_i 0), (3, jm_i 0)] [] mu Q) : jm_R l g (d + 2) iX1_sungBy [.ref 29, jm_i v1] mu Q := by
  refine jm_enter [(0, .ref 29), (1, jm_i v1)] (by decide) (Nat.le_of_ble_eq_true rfl) rfl ?_
  refine jm_mrI (fun hm0 => ?_)
  refine jm_iconst (pc := 0) dX1_sungBy_0 ?_
  refine jm_istore_n (pc := 1) (lv' := [(2, _), (0, _), (1, _)]) dX1_sungBy_1 (by decide) rfl ?_
  refine jm_iconst (pc := 2) dX1_sungBy_2 ?_
  refine jm_istore_n (pc := 3) (lv' := [(3, _), (2, _), (0, _), (1, _)]) dX1_sungBy_3 (by decide) rfl ?_
  exact jm_sub [2, 3, 1, 0] rfl h
theorem dX0_setTerms_0 : decode cX0_setTerms 0 = .ok (.aload_n 0, 1) := by decide +kernel
theorem dX0_setTerms_1 : decode cX0_setTerms 1 = .ok (.getfield 11, 3) := by decide +kernel
theorem dX0_setTerms_4 : decode cX0_setTerms 4 = .ok (.iconst 0, 1) := by decide +kernel
theorem dX0_setTerms_5 : decode cX0_setTerms 5 = .ok (.aload_n 0, 1) := by decide +kernel
theorem dX0_setTerms_6 : decode cX0_setTerms 6 = .ok (.getfield 19, 3) := by decide +kernel
theorem dX0_setTerms_9 : decode cX0_setTerms 9 = .ok (.getfield 95, 3) := by decide +kernel
theorem dX0_setTerms_12 : decode cX0_setTerms 12 = .ok (.iload_n 1, 1) := by decide +kernel
theorem dX0_setTerms_13 : decode cX0_setTerms 13 = .ok (.iaload, 1) := by decide +kernel
theorem dX0_setTerms_14 : decode cX0_setTerms 14 = .ok (.iastore, 1) := by decide +kernel
theorem dX0_setTerms_15 : decode cX0_setTerms 15 = .ok (.aload_n 0, 1) := by decide +kernel
theorem dX0_setTerms_16 : decode cX0_setTerms 16 = .ok (.getfield 11, 3) := by decide +kernel
theorem dX0_setTerms_19 : decode cX0_setTerms 19 = .ok (.iconst 1, 1) := by decide +kernel
theorem dX0_setTerms_20 : decode cX0_setTerms 20 = .ok (.aload_n 0, 1) := by decide +kernel
theorem dX0_setTerms_21 : decode cX0_setTerms 21 = .ok (.getfield 19, 3) := by decide +kernel
theorem dX0_setTerms_24 : decode cX0_setTerms 24 = .ok (.getfield 83, 3) := by decide +kernel
theorem dX0_setTerms_27 : decode cX0_setTerms 27 = .ok (.iload_n 1, 1) := by decide +kernel
theorem dX0_setTerms_28 : decode cX0_setTerms 28 = .ok (.iaload, 1) := by decide +kernel
theorem dX0_setTerms_29 : decode cX0_setTerms 29 = .ok (.iastore, 1) := by decide +kernel
theorem dX0_setTerms_30 : decode cX0_setTerms 30 = .ok (.aload_n 0, 1) := by decide +kernel
theorem dX0_setTerms_31 : decode cX0_setTerms 31 = .ok (.getfield 11, 3) := by decide +kernel
theorem dX0_setTerms_34 : decode cX0_setTerms 34 = .ok (.iconst 2, 1) := by decide +kernel
theorem dX0_setTerms_35 : decode cX0_setTerms 35 = .ok (.aload_n 0, 1) := by decide +kernel
theorem dX0_setTerms_36 : decode cX0_setTerms 36 = .ok (.getfield 15, 3) := by decide +kernel
theorem dX0_setTerms_39 : decode cX0_setTerms 39 = .ok (.getfield 98, 3) := by decide +kernel
theorem dX0_setTerms_42 : decode cX0_setTerms 42 = .ok (.iload_n 1, 1) := by decide +kernel
theorem dX0_setTerms_43 : decode cX0_setTerms 43 = .ok (.iaload, 1) := by decide +kernel
theorem dX0_setTerms_44 : decode cX0_setTerms 44 = .ok (.iastore, 1) := by decide +kernel
theorem dX0_setTerms_45 : decode cX0_setTerms 45 = .ok (.aload_n 0, 1) := by decide +kernel
theorem dX0_setTerms_46 : decode cX0_setTerms 46 = .ok (.getfield 11, 3) := by decide +kernel
theorem dX0_setTerms_49 : decode cX0_setTerms 49 = .ok (.iconst 3, 1) := by decide +kernel
theorem dX0_setTerms_50 : decode cX0_setTerms 50 = .ok (.iconst 0, 1) := by decide +kernel
theorem dX0_setTerms_51 : decode cX0_setTerms 51 = .ok (.iastore, 1) := by decide +kernel
theorem dX0_setTerms_52 : decode cX0_setTerms 52 = .ok (.aload_n 0, 1) := by decide +kernel
theorem dX0_setTerms_53 : decode cX0_setTerms 53 = .ok (.getfield 11, 3) := by decide +kernel
theorem dX0_setTerms_56 : decode cX0_setTerms 56 = .ok (.iconst 4, 1) := by decide +kernel
theorem dX0_setTerms_57 : decode cX0_setTerms 57 = .ok (.iconst 0, 1) := by decide +kernel
theorem dX0_setTerms_58 : decode cX0_setTerms 58 = .ok (.iastore, 1) := by decide +kernel
theorem dX0_setTerms_59 : decode cX0_setTerms 59 = .ok (.aload_n 0, 1) := by decide +kernel
theorem dX0_setTerms_60 : decode cX0_setTerms 60 = .ok (.getfield 11, 3) := by decide +kernel
theorem dX0_setTerms_63 : decode cX0_setTerms 63 = .ok (.iconst 5, 1) := by decide +kernel
theorem dX0_setTerms_64 : decode cX0_setTerms 64 = .ok (.iconst 0, 1) := by decide +kernel
theorem dX0_setTerms_65 : decode cX0_setTerms 65 = .ok (.iastore, 1) := by decide +kernel
theorem dX0_setTerms_66 : decode cX0_setTerms 66 = .ok (.aload_n 0, 1) := by decide +kernel
theorem dX0_setTerms_67 : decode cX0_setTerms 67 = .ok (.getfield 11, 3) := by decide +kernel
theorem dX0_setTerms_70 : decode cX0_setTerms 70 = .ok (.bipush 6, 2) := by decide +kernel
theorem dX0_setTerms_72 : decode cX0_setTerms 72 = .ok (.iload_n 2, 1) := by decide +kernel
theorem dX0_setTerms_73 : decode cX0_setTerms 73 = .ok (.iconst 4, 1) := by decide +kernel
theorem dX0_setTerms_74 : decode cX0_setTerms 74 = .ok (.idiv, 1) := by decide +kernel
theorem dX0_setTerms_75 : decode cX0_setTerms 75 = .ok (.iastore, 1) := by decide +kernel
theorem dX0_setTerms_76 : decode cX0_setTerms 76 = .ok (.aload_n 0, 1) := by decide +kernel
theorem dX0_setTerms_77 : decode cX0_setTerms 77 = .ok (.getfield 11, 3) := by decide +kernel
theorem dX0_setTerms_80 : decode cX0_setTerms 80 = .ok (.bipush 7, 2) := by decide +kernel
theorem dX0_setTerms_82 : decode cX0_setTerms 82 = .ok (.iload_n 2, 1) := by decide +kernel
theorem dX0_setTerms_83 : decode cX0_setTerms 83 = .ok (.iconst 4, 1) := by decide +kernel
theorem dX0_setTerms_84 : decode cX0_setTerms 84 = .ok (.irem, 1) := by decide +kernel
theorem dX0_setTerms_85 : decode cX0_setTerms 85 = .ok (.iastore, 1) := by decide +kernel
theorem dX0_setTerms_86 : decode cX0_setTerms 86 = .ok (.aload_n 0, 1) := by decide +kernel
theorem dX0_setTerms_87 : decode cX0_setTerms 87 = .ok (.getfield 11, 3) := by decide +kernel
theorem dX0_setTerms_90 : decode cX0_setTerms 90 = .ok (.bipush 8, 2) := by decide +kernel
theorem dX0_setTerms_92 : decode cX0_setTerms 92 = .ok (.aload_n 0, 1) := by decide +kernel
theorem dX0_setTerms_93 : decode cX0_setTerms 93 = .ok (.getfield 19, 3) := by decide +kernel
theorem dX0_setTerms_96 : decode cX0_setTerms 96 = .ok (.getfield 101, 3) := by decide +kernel
theorem dX0_setTerms_99 : decode cX0_setTerms 99 = .ok (.iastore, 1) := by decide +kernel
theorem dX0_setTerms_100 : decode cX0_setTerms 100 = .ok (.aload_n 0, 1) := by decide +kernel
theorem dX0_setTerms_101 : decode cX0_setTerms 101 = .ok (.getfield 11, 3) := by decide +kernel
theorem dX0_setTerms_104 : decode cX0_setTerms 104 = .ok (.bipush 9, 2) := by decide +kernel
theorem dX0_setTerms_106 : decode cX0_setTerms 106 = .ok (.aload_n 0, 1) := by decide +kernel
theorem dX0_setTerms_107 : decode cX0_setTerms 107 = .ok (.getfield 19, 3) := by decide +kernel
theorem dX0_setTerms_110 : decode cX0_setTerms 110 = .ok (.iload_n 1, 1) := by decide +kernel
theorem dX0_setTerms_111 : decode cX0_setTerms 111 = .ok (.invokevirtual 105, 3) := by decide +kernel
theorem dX0_setTerms_114 : decode cX0_setTerms 114 = .ok (.iastore, 1) := by decide +kernel
theorem dX0_setTerms_115 : decode cX0_setTerms 115 = .ok (.aload_n 0, 1) := by decide +kernel
theorem dX0_setTerms_116 : decode cX0_setTerms 116 = .ok (.getfield 11, 3) := by decide +kernel
theorem dX0_setTerms_119 : decode cX0_setTerms 119 = .ok (.bipush 10, 2) := by decide +kernel
theorem dX0_setTerms_121 : decode cX0_setTerms 121 = .ok (.iconst 0, 1) := by decide +kernel
theorem dX0_setTerms_122 : decode cX0_setTerms 122 = .ok (.iastore, 1) := by decide +kernel
theorem dX0_setTerms_123 : decode cX0_setTerms 123 = .ok (.return_, 1) := by decide +kernel
theorem eX0_setTerms {l : Launch} {g : jm_G} {d : Nat} {v1 v2 : Int} (hg : jm_HC g) {mu : jm_M} {Q : Option Value → jm_M → Prop} (h : (0 ≤ v1 ∧ v1 < 8) ∧ ∀ m2, m2 = jm_wr mu 36 0 (mu.1 30 v1) → ∀ m4, m4 = jm_wr m2 36 1 (m2.1 31 v1) → ∀ m6, m6 = jm_wr m4 36 2 (m4.1 9 v1) → ∀ m8, m8 = jm_wr m6 36 3 0 → ∀ m10, m10 = jm_wr m8 36 4 0 → ∀ m12, m12 = jm_wr m10 36 5 0 → jm_rg v2 ∧ jm_rg (Int.tdiv v2 4) ∧ ∀ m16, m16 = jm_wr m12 36 6 (Int.tdiv v2 4) → jm_rg (Int.tmod v2 4) ∧ ∀ m19, m19 = jm_wr m16 36 7 (Int.tmod v2 4) → ∀ m21, m21 = jm_wr m19 36 8 (m19.1 29 1) → jm_R l g d iX1_sungBy [.ref 29, jm_i v1] m21 (jm_qi fun z24 m23 => ∀ m27, m27 = jm_wr m23 36 9 z24 → ∀ m29, m29 = jm_wr m27 36 10 0 → Q none m29)) : jm_R l g (d + 1) iX0_setTerms [.ref 35, jm_i v1, jm_i v2] mu Q := by
  refine jm_enter [(0, .ref 35), (1, jm_i v1), (2, jm_i v2)] (by decide) (Nat.le_of_ble_eq_true rfl) rfl ?_
  refine jm_mrI (fun hm0 => ?_)
  refine jm_aload_n (pc := 0) 0 dX0_setTerms_0 rfl ?_
  refine jm_getr (pc := 1) 2 dX0_setTerms_1 fX0_11 (cC35 hg) rfl ?_
  refine jm_iconst (pc := 4) dX0_setTerms_4 ?_
  refine jm_aload_n (pc := 5) 0 dX0_setTerms_5 rfl ?_
  refine jm_getr (pc := 6) 1 dX0_setTerms_6 fX0_19 (cC35 hg) rfl ?_
  refine jm_getr (pc := 9) 2 dX0_setTerms_9 fX0_95 (cC29 hg) rfl ?_
  refine jm_iload_n (pc := 12) 1 dX0_setTerms_12 rfl ?_
  have hg1 := h.1
  have h := h.2
  refine jm_iald (pc := 13) dX0_setTerms_13 (cC30 hg) (by decide) hg1.1 hg1.2 ?_
  refine jm_iast (pc := 14) dX0_setTerms_14 (cC36 hg) (by decide) (by decide) (by decide) (hm0 _ _) ?_
  have h := h _ rfl
  refine jm_mrI (fun hm3 => ?_)
  refine jm_aload_n (pc := 15) 0 dX0_setTerms_15 rfl ?_
  refine jm_getr (pc := 16) 2 dX0_setTerms_16 fX0_11 (cC35 hg) rfl ?_
  refine jm_iconst (pc := 19) dX0_setTerms_19 ?_
  refine jm_aload_n (pc := 20) 0 dX0_setTerms_20 rfl ?_
  refine jm_getr (pc := 21) 1 dX0_setTerms_21 fX0_19 (cC35 hg) rfl ?_
  refine jm_getr (pc := 24) 3 dX0_setTerms_24 fX0_83 (cC29 hg) rfl ?_
  refine jm_iload_n (pc := 27) 1 dX0_setTerms_27 rfl ?_
  refine jm_iald (pc := 28) dX0_setTerms_28 (cC31 hg) (by decide) hg1.1 hg1.2 ?_
  refine jm_iast (pc := 29) dX0_setTerms_29 (cC36 hg) (by decide) (by decide) (by decide) (hm3 _ _) ?_
  have h := h _ rfl
  refine jm_mrI (fun hm5 => ?_)
  refine jm_aload_n (pc := 30) 0 dX0_setTerms_30 rfl ?_
  refine jm_getr (pc := 31) 2 dX0_setTerms_31 fX0_11 (cC35 hg) rfl ?_
  refine jm_iconst (pc := 34) dX0_setTerms_34 ?_
  refine jm_aload_n (pc := 35) 0 dX0_setTerms_35 rfl ?_
  refine jm_getr (pc := 36) 0 dX0_setTerms_36 fX0_15 (cC35 hg) rfl ?_
  refine jm_getr (pc := 39) 3 dX0_setTerms_39 fX0_98 (cC6 hg) rfl ?_
  refine jm_iload_n (pc := 42) 1 dX0_setTerms_42 rfl ?_
  refine jm_iald (pc := 43) dX0_setTerms_43 (cC9 hg) (by decide) hg1.1 hg1.2 ?_
  refine jm_iast (pc := 44) dX0_setTerms_44 (cC36 hg) (by decide) (by decide) (by decide) (hm5 _ _) ?_
  have h := h _ rfl
  refine jm_mrI (fun hm7 => ?_)
  refine jm_aload_n (pc := 45) 0 dX0_setTerms_45 rfl ?_
  refine jm_getr (pc := 46) 2 dX0_setTerms_46 fX0_11 (cC35 hg) rfl ?_
  refine jm_iconst (pc := 49) dX0_setTerms_49 ?_
  refine jm_iconst (pc := 50) dX0_setTerms_50 ?_
  refine jm_iast (pc := 51) dX0_setTerms_51 (cC36 hg) (by decide) (by decide) (by decide) ⟨by decide, by decide⟩ ?_
  have h := h _ rfl
  refine jm_mrI (fun hm9 => ?_)
  refine jm_aload_n (pc := 52) 0 dX0_setTerms_52 rfl ?_
  refine jm_getr (pc := 53) 2 dX0_setTerms_53 fX0_11 (cC35 hg) rfl ?_
  refine jm_iconst (pc := 56) dX0_setTerms_56 ?_
  refine jm_iconst (pc := 57) dX0_setTerms_57 ?_
  refine jm_iast (pc := 58) dX0_setTerms_58 (cC36 hg) (by decide) (by decide) (by decide) ⟨by decide, by decide⟩ ?_
  have h := h _ rfl
  refine jm_mrI (fun hm11 => ?_)
  refine jm_aload_n (pc := 59) 0 dX0_setTerms_59 rfl ?_
  refine jm_getr (pc := 60) 2 dX0_setTerms_60 fX0_11 (cC35 hg) rfl ?_
  refine jm_iconst (pc := 63) dX0_setTerms_63 ?_
  refine jm_iconst (pc := 64) dX0_setTerms_64 ?_
  refine jm_iast (pc := 65) dX0_setTerms_65 (cC36 hg) (by decide) (by decide) (by decide) ⟨by decide, by decide⟩ ?_
  have h := h _ rfl
  refine jm_mrI (fun hm13 => ?_)
  refine jm_aload_n (pc := 66) 0 dX0_setTerms_66 rfl ?_
  refine jm_getr (pc := 67) 2 dX0_setTerms_67 fX0_11 (cC35 hg) rfl ?_
  refine jm_bipush (pc := 70) dX0_setTerms_70 (by decide) ?_
  refine jm_iload_n (pc := 72) 2 dX0_setTerms_72 rfl ?_
  refine jm_iconst (pc := 73) dX0_setTerms_73 ?_
  have hg14 := h.1
  have h := h.2
  refine jm_idiv (pc := 74) hg14 ⟨by decide, by decide⟩ (by decide) dX0_setTerms_74 ?_
  have hg15 := h.1
  have h := h.2
  refine jm_iast (pc := 75) dX0_setTerms_75 (cC36 hg) (by decide) (by decide) (by decide) hg15 ?_
  have h := h _ rfl
  refine jm_mrI (fun hm17 => ?_)
  refine jm_aload_n (pc := 76) 0 dX0_setTerms_76 rfl ?_
  refine jm_getr (pc := 77) 2 dX0_setTerms_77 fX0_11 (cC35 hg) rfl ?_
  refine jm_bipush (pc := 80) dX0_setTerms_80 (by decide) ?_
  refine jm_iload_n (pc := 82) 2 dX0_setTerms_82 rfl ?_
  refine jm_iconst (pc := 83) dX0_setTerms_83 ?_
  refine jm_irem (pc := 84) hg14 ⟨by decide, by decide⟩ (by decide) dX0_setTerms_84 ?_
  have hg18 := h.1
  have h := h.2
  refine jm_iast (pc := 85) dX0_setTerms_85 (cC36 hg) (by decide) (by decide) (by decide) hg18 ?_
  have h := h _ rfl
  refine jm_mrI (fun hm20 => ?_)
  refine jm_aload_n (pc := 86) 0 dX0_setTerms_86 rfl ?_
  refine jm_getr (pc := 87) 2 dX0_setTerms_87 fX0_11 (cC35 hg) rfl ?_
  refine jm_bipush (pc := 90) dX0_setTerms_90 (by decide) ?_
  refine jm_aload_n (pc := 92) 0 dX0_setTerms_92 rfl ?_
  refine jm_getr (pc := 93) 1 dX0_setTerms_93 fX0_19 (cC35 hg) rfl ?_
  refine jm_geti (pc := 96) 1 dX0_setTerms_96 fX0_101 (cC29 hg) rfl ?_
  refine jm_iast (pc := 99) dX0_setTerms_99 (cC36 hg) (by decide) (by decide) (by decide) (hm20 _ _) ?_
  have h := h _ rfl
  refine jm_mrI (fun hm22 => ?_)
  refine jm_aload_n (pc := 100) 0 dX0_setTerms_100 rfl ?_
  refine jm_getr (pc := 101) 2 dX0_setTerms_101 fX0_11 (cC35 hg) rfl ?_
  refine jm_bipush (pc := 104) dX0_setTerms_104 (by decide) ?_
  refine jm_aload_n (pc := 106) 0 dX0_setTerms_106 rfl ?_
  refine jm_getr (pc := 107) 1 dX0_setTerms_107 fX0_19 (cC35 hg) rfl ?_
  refine jm_iload_n (pc := 110) 1 dX0_setTerms_110 rfl ?_
  refine jm_callvi (pc := 111) (As := [_]) (st := [_, _]) iX1_sungBy dX0_setTerms_111 mX0_105 (cC29 hg) ⟨_, rfl, rfl⟩ rfl rfl (Nat.le_of_ble_eq_true rfl) h (fun z24 m23 hz25 h hm26 => ?_)
  refine jm_iast (pc := 114) dX0_setTerms_114 (cC36 hg) (by decide) (by decide) (by decide) hz25 ?_
  have h := h _ rfl
  refine jm_mrI (fun hm28 => ?_)
  refine jm_aload_n (pc := 115) 0 dX0_setTerms_115 rfl ?_
  refine jm_getr (pc := 116) 2 dX0_setTerms_116 fX0_11 (cC35 hg) rfl ?_
  refine jm_bipush (pc := 119) dX0_setTerms_119 (by decide) ?_
  refine jm_iconst (pc := 121) dX0_setTerms_121 ?_
  refine jm_iast (pc := 122) dX0_setTerms_122 (cC36 hg) (by decide) (by decide) (by decide) ⟨by decide, by decide⟩ ?_
  have h := h _ rfl
  refine jm_mrI (fun hm30 => ?_)
  exact jm_vret (pc := 123) dX0_setTerms_123 rfl h
theorem dX11_held_0 : decode cX11_held 0 = .ok (.iconst 0, 1) := by decide +kernel
theorem dX11_held_1 : decode cX11_held 1 = .ok (.iload_n 1, 1) := by decide +kernel
theorem dX11_held_2 : decode cX11_held 2 = .ok (.iload_n 0, 1) := by decide +kernel
theorem dX11_held_3 : decode cX11_held 3 = .ok (.invokestatic 384, 3) := by decide +kernel
theorem dX11_held_6 : decode cX11_held 6 = .ok (.invokestatic 389, 3) := by decide +kernel
theorem dX11_held_9 : decode cX11_held 9 = .ok (.ireturn, 1) := by decide +kernel
theorem eX11_held {l : Launch} {g : jm_G} {d : Nat} {v0 v1 : Int} (hg : jm_HC g) {mu : jm_M} {Q : Option Value → jm_M → Prop} (h : jm_rg v1 ∧ jm_rg v0 ∧ Q (some (jm_i (max 0 (min v1 v0)))) mu) : jm_R l g (d + 1) iX11_held [jm_i v0, jm_i v1] mu Q := by
  refine jm_enter [(0, jm_i v0), (1, jm_i v1)] (by decide) (Nat.le_of_ble_eq_true rfl) rfl ?_
  refine jm_mrI (fun hm0 => ?_)
  refine jm_iconst (pc := 0) dX11_held_0 ?_
  refine jm_iload_n (pc := 1) 1 dX11_held_1 rfl ?_
  refine jm_iload_n (pc := 2) 0 dX11_held_2 rfl ?_
  have hg1 := h.1
  have h := h.2
  have hg2 := h.1
  have h := h.2
  refine jm_mmin (pc := 3) dX11_held_3 mX11_384 hg1 hg2 (Nat.le_of_ble_eq_true rfl) ?_
  refine jm_mmax (pc := 6) dX11_held_6 mX11_389 ⟨by decide, by decide⟩ (jm_rgm hg1 hg2) (Nat.le_of_ble_eq_true rfl) ?_
  exact jm_iret (pc := 9) dX11_held_9 rfl h
theorem pX11_held {l : Launch} {g : jm_G} {d : Nat} {v0 v1 : Int} (hg : jm_HC g) {mu : jm_M} {Q : Option Value → jm_M → Prop} (o0 : jm_rg v1) (o1 : jm_rg v0) (h : Q (some (jm_i (max 0 (min v1 v0)))) mu) : jm_R l g (d + 1) iX11_held [jm_i v0, jm_i v1] mu Q := by
  refine eX11_held hg ?_
  refine ⟨o0, ?_⟩
  refine ⟨o1, ?_⟩
  exact h
theorem dX3_joined_0 : decode cX3_joined 0 = .ok (.iload_n 0, 1) := by decide +kernel
theorem dX3_joined_1 : decode cX3_joined 1 = .ok (.tableswitch 92 4 10 #[43, 47, 51, 55, 66, 77, 88], 43) := by decide +kernel
theorem dX3_joined_44 : decode cX3_joined 44 = .ok (.iload_n 1, 1) := by decide +kernel
theorem dX3_joined_45 : decode cX3_joined 45 = .ok (.iload_n 2, 1) := by decide +kernel
theorem dX3_joined_46 : decode cX3_joined 46 = .ok (.imul, 1) := by decide +kernel
theorem dX3_joined_47 : decode cX3_joined 47 = .ok (.ireturn, 1) := by decide +kernel
theorem dX3_joined_48 : decode cX3_joined 48 = .ok (.iload_n 1, 1) := by decide +kernel
theorem dX3_joined_49 : decode cX3_joined 49 = .ok (.iload_n 2, 1) := by decide +kernel
theorem dX3_joined_50 : decode cX3_joined 50 = .ok (.iadd, 1) := by decide +kernel
theorem dX3_joined_51 : decode cX3_joined 51 = .ok (.ireturn, 1) := by decide +kernel
theorem dX3_joined_52 : decode cX3_joined 52 = .ok (.iload_n 1, 1) := by decide +kernel
theorem dX3_joined_53 : decode cX3_joined 53 = .ok (.iload_n 2, 1) := by decide +kernel
theorem dX3_joined_54 : decode cX3_joined 54 = .ok (.isub, 1) := by decide +kernel
theorem dX3_joined_55 : decode cX3_joined 55 = .ok (.ireturn, 1) := by decide +kernel
theorem dX3_joined_56 : decode cX3_joined 56 = .ok (.iload_n 1, 1) := by decide +kernel
theorem dX3_joined_57 : decode cX3_joined 57 = .ok (.iload_n 2, 1) := by decide +kernel
theorem dX3_joined_58 : decode cX3_joined 58 = .ok (.if_icmp .ge 7, 3) := by decide +kernel
theorem dX3_joined_61 : decode cX3_joined 61 = .ok (.iconst 1, 1) := by decide +kernel
theorem dX3_joined_62 : decode cX3_joined 62 = .ok (.goto 4, 3) := by decide +kernel
theorem dX3_joined_65 : decode cX3_joined 65 = .ok (.iconst 0, 1) := by decide +kernel
theorem dX3_joined_66 : decode cX3_joined 66 = .ok (.ireturn, 1) := by decide +kernel
theorem dX3_joined_67 : decode cX3_joined 67 = .ok (.iload_n 1, 1) := by decide +kernel
theorem dX3_joined_68 : decode cX3_joined 68 = .ok (.iload_n 2, 1) := by decide +kernel
theorem dX3_joined_69 : decode cX3_joined 69 = .ok (.if_icmp .ne 7, 3) := by decide +kernel
theorem dX3_joined_72 : decode cX3_joined 72 = .ok (.iconst 1, 1) := by decide +kernel
theorem dX3_joined_73 : decode cX3_joined 73 = .ok (.goto 4, 3) := by decide +kernel
theorem dX3_joined_76 : decode cX3_joined 76 = .ok (.iconst 0, 1) := by decide +kernel
theorem dX3_joined_77 : decode cX3_joined 77 = .ok (.ireturn, 1) := by decide +kernel
theorem dX3_joined_78 : decode cX3_joined 78 = .ok (.iload_n 1, 1) := by decide +kernel
theorem dX3_joined_79 : decode cX3_joined 79 = .ok (.iload_n 2, 1) := by decide +kernel
theorem dX3_joined_80 : decode cX3_joined 80 = .ok (.if_icmp .le 7, 3) := by decide +kernel
theorem dX3_joined_83 : decode cX3_joined 83 = .ok (.iconst 1, 1) := by decide +kernel
theorem dX3_joined_84 : decode cX3_joined 84 = .ok (.goto 4, 3) := by decide +kernel
theorem dX3_joined_87 : decode cX3_joined 87 = .ok (.iconst 0, 1) := by decide +kernel
theorem dX3_joined_88 : decode cX3_joined 88 = .ok (.ireturn, 1) := by decide +kernel
theorem dX3_joined_89 : decode cX3_joined 89 = .ok (.iload_n 1, 1) := by decide +kernel
theorem dX3_joined_90 : decode cX3_joined 90 = .ok (.iload_n 2, 1) := by decide +kernel
theorem dX3_joined_91 : decode cX3_joined 91 = .ok (.iand, 1) := by decide +kernel
theorem dX3_joined_92 : decode cX3_joined 92 = .ok (.ireturn, 1) := by decide +kernel
theorem dX3_joined_93 : decode cX3_joined 93 = .ok (.iload_n 1, 1) := by decide +kernel
theorem dX3_joined_94 : decode cX3_joined 94 = .ok (.iload_n 2, 1) := by decide +kernel
theorem dX3_joined_95 : decode cX3_joined 95 = .ok (.ior, 1) := by decide +kernel
theorem dX3_joined_96 : decode cX3_joined 96 = .ok (.ireturn, 1) := by decide +kernel
theorem eX3_joined {l : Launch} {g : jm_G} {d : Nat} {v0 v1 v2 : Int} (hg : jm_HC g) {mu : jm_M} {Q : Option Value → jm_M → Prop} (h : jm_rg v0 ∧ (v0 = 4 → Q (some (jm_i (v1 * v2))) mu) ∧ (v0 = 5 → Q (some (jm_i (v1 + v2))) mu) ∧ (v0 = 6 → Q (some (jm_i (v1 - v2))) mu) ∧ (v0 = 7 → jm_rg v1 ∧ jm_rg v2 ∧ (v2 ≤ v1 → Q (some (jm_i 0)) mu) ∧ (v1 < v2 → Q (some (jm_i 1)) mu)) ∧ (v0 = 8 → jm_rg v1 ∧ jm_rg v2 ∧ (¬ v1 = v2 → Q (some (jm_i 0)) mu) ∧ (v1 = v2 → Q (some (jm_i 1)) mu)) ∧ (v0 = 9 → jm_rg v1 ∧ jm_rg v2 ∧ (v1 ≤ v2 → Q (some (jm_i 0)) mu) ∧ (v2 < v1 → Q (some (jm_i 1)) mu)) ∧ (v0 = 10 → Q (some (jm_i (jm_and v1 v2))) mu) ∧ (v0 < 4 ∨ 10 < v0 → Q (some (jm_i (jm_or v1 v2))) mu)) : jm_R l g (d + 1) iX3_joined [jm_i v0, jm_i v1, jm_i v2] mu Q := by
  refine jm_enter [(0, jm_i v0), (1, jm_i v1), (2, jm_i v2)] (by decide) (Nat.le_of_ble_eq_true rfl) rfl ?_
  refine jm_mrI (fun hm0 => ?_)
  refine jm_iload_n (pc := 0) 0 dX3_joined_0 rfl ?_
  have hg1 := h.1
  have h := h.2
  by_cases q0 : v0 = 4
  · have h := h.1 q0
    refine jm_tin (pc := 1) 44 dX3_joined_1 hg1 (by omega) (by omega) (by rw [q0] <;> rfl) rfl ?_
    refine jm_iload_n (pc := 44) 1 dX3_joined_44 rfl ?_
    refine jm_iload_n (pc := 45) 2 dX3_joined_45 rfl ?_
    refine jm_imul (pc := 46) dX3_joined_46 ?_
    exact jm_iret (pc := 47) dX3_joined_47 rfl h
  · by_cases q1 : v0 = 5
    · have h := h.2.1 q1
      refine jm_tin (pc := 1) 48 dX3_joined_1 hg1 (by omega) (by omega) (by rw [q1] <;> rfl) rfl ?_
      refine jm_iload_n (pc := 48) 1 dX3_joined_48 rfl ?_
      refine jm_iload_n (pc := 49) 2 dX3_joined_49 rfl ?_
      refine jm_iadd (pc := 50) dX3_joined_50 ?_
      exact jm_iret (pc := 51) dX3_joined_51 rfl h
    · by_cases q2 : v0 = 6
      · have h := h.2.2.1 q2
        refine jm_tin (pc := 1) 52 dX3_joined_1 hg1 (by omega) (by omega) (by rw [q2] <;> rfl) rfl ?_
        refine jm_iload_n (pc := 52) 1 dX3_joined_52 rfl ?_
        refine jm_iload_n (pc := 53) 2 dX3_joined_53 rfl ?_
        refine jm_isub (pc := 54) dX3_joined_54 ?_
        exact jm_iret (pc := 55) dX3_joined_55 rfl h
      · by_cases q3 : v0 = 7
        · have h := h.2.2.2.1 q3
          refine jm_tin (pc := 1) 56 dX3_joined_1 hg1 (by omega) (by omega) (by rw [q3] <;> rfl) rfl ?_
          refine jm_iload_n (pc := 56) 1 dX3_joined_56 rfl ?_
          refine jm_iload_n (pc := 57) 2 dX3_joined_57 rfl ?_
          have hg2 := h.1
          have h := h.2
          have hg3 := h.1
          have h := h.2
          refine jm_icmp_ge (pc := 58) 65 dX3_joined_58 rfl hg2 hg3 (fun q => ?_) (fun q => ?_)
          · have h := h.1 q
            refine jm_iconst (pc := 65) dX3_joined_65 ?_
            exact jm_iret (pc := 66) dX3_joined_66 rfl h
          · have h := h.2 q
            refine jm_iconst (pc := 61) dX3_joined_61 ?_
            refine jm_goto (pc := 62) 66 dX3_joined_62 rfl ?_
            exact jm_iret (pc := 66) dX3_joined_66 rfl h
        · by_cases q4 : v0 = 8
          · have h := h.2.2.2.2.1 q4
            refine jm_tin (pc := 1) 67 dX3_joined_1 hg1 (by omega) (by omega) (by rw [q4] <;> rfl) rfl ?_
            refine jm_iload_n (pc := 67) 1 dX3_joined_67 rfl ?_
            refine jm_iload_n (pc := 68) 2 dX3_joined_68 rfl ?_
            have hg4 := h.1
            have h := h.2
            have hg5 := h.1
            have h := h.2
            refine jm_icmp_ne (pc := 69) 76 dX3_joined_69 rfl hg4 hg5 (fun q => ?_) (fun q => ?_)
            · have h := h.1 q
              refine jm_iconst (pc := 76) dX3_joined_76 ?_
              exact jm_iret (pc := 77) dX3_joined_77 rfl h
            · have h := h.2 q
              refine jm_iconst (pc := 72) dX3_joined_72 ?_
              refine jm_goto (pc := 73) 77 dX3_joined_73 rfl ?_
              exact jm_iret (pc := 77) dX3_joined_77 rfl h
          · by_cases q5 : v0 = 9
            · have h := h.2.2.2.2.2.1 q5
              refine jm_tin (pc := 1) 78 dX3_joined_1 hg1 (by omega) (by omega) (by rw [q5] <;> rfl) rfl ?_
              refine jm_iload_n (pc := 78) 1 dX3_joined_78 rfl ?_
              refine jm_iload_n (pc := 79) 2 dX3_joined_79 rfl ?_
              have hg6 := h.1
              have h := h.2
              have hg7 := h.1
              have h := h.2
              refine jm_icmp_le (pc := 80) 87 dX3_joined_80 rfl hg6 hg7 (fun q => ?_) (fun q => ?_)
              · have h := h.1 q
                refine jm_iconst (pc := 87) dX3_joined_87 ?_
                exact jm_iret (pc := 88) dX3_joined_88 rfl h
              · have h := h.2 q
                refine jm_iconst (pc := 83) dX3_joined_83 ?_
                refine jm_goto (pc := 84) 88 dX3_joined_84 rfl ?_
                exact jm_iret (pc := 88) dX3_joined_88 rfl h
            · by_cases q6 : v0 = 10
              · have h := h.2.2.2.2.2.2.1 q6
                refine jm_tin (pc := 1) 89 dX3_joined_1 hg1 (by omega) (by omega) (by rw [q6] <;> rfl) rfl ?_
                refine jm_iload_n (pc := 89) 1 dX3_joined_89 rfl ?_
                refine jm_iload_n (pc := 90) 2 dX3_joined_90 rfl ?_
                refine jm_iand (pc := 91) dX3_joined_91 ?_
                exact jm_iret (pc := 92) dX3_joined_92 rfl h
              · have h := h.2.2.2.2.2.2.2 (by omega)
                refine jm_tout (pc := 1) 93 dX3_joined_1 hg1 (by omega) rfl ?_
                refine jm_iload_n (pc := 93) 1 dX3_joined_93 rfl ?_
                refine jm_iload_n (pc := 94) 2 dX3_joined_94 rfl ?_
                refine jm_ior (pc := 95) dX3_joined_95 ?_
                exact jm_iret (pc := 96) dX3_joined_96 rfl h
