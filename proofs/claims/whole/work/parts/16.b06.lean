theorem dX10_has_0 : decode cX10_has 0 = .ok (.lload_n 0, 1) := by decide +kernel
theorem dX10_has_1 : decode cX10_has 1 = .ok (.iload_n 2, 1) := by decide +kernel
theorem dX10_has_2 : decode cX10_has 2 = .ok (.lshr, 1) := by decide +kernel
theorem dX10_has_3 : decode cX10_has 3 = .ok (.lconst 1, 1) := by decide +kernel
theorem dX10_has_4 : decode cX10_has 4 = .ok (.land, 1) := by decide +kernel
theorem dX10_has_5 : decode cX10_has 5 = .ok (.lconst 0, 1) := by decide +kernel
theorem dX10_has_6 : decode cX10_has 6 = .ok (.lcmp, 1) := by decide +kernel
theorem dX10_has_7 : decode cX10_has 7 = .ok (.ifCond .eq 7, 3) := by decide +kernel
theorem dX10_has_10 : decode cX10_has 10 = .ok (.iconst 1, 1) := by decide +kernel
theorem dX10_has_11 : decode cX10_has 11 = .ok (.goto 4, 3) := by decide +kernel
theorem dX10_has_14 : decode cX10_has 14 = .ok (.iconst 0, 1) := by decide +kernel
theorem dX10_has_15 : decode cX10_has 15 = .ok (.ireturn, 1) := by decide +kernel
theorem eX10_has {l : Launch} {g : jm_G} {d : Nat} {v2 : Int} {v0 : Int64} (hg : jm_HC g) {mu : jm_M} {Q : Option Value → jm_M → Prop} (h : ((Int32.toInt (lg_cmp ((v0 >>> ((Int32.ofInt v2).toInt64 &&& 63)) &&& (1 : Int64)) (0 : Int64))) = 0 → Q (some (jm_i 0)) mu) ∧ (¬ (Int32.toInt (lg_cmp ((v0 >>> ((Int32.ofInt v2).toInt64 &&& 63)) &&& (1 : Int64)) (0 : Int64))) = 0 → Q (some (jm_i 1)) mu)) : jm_R l g (d + 1) iX10_has [.long v0, jm_i v2] mu Q := by
  refine jm_enter [(0, .long v0), (2, jm_i v2)] (by decide) (Nat.le_of_ble_eq_true rfl) rfl ?_
  refine jm_mrI (fun hm0 => ?_)
  refine jm_lload_n (pc := 0) 0 dX10_has_0 rfl ?_
  refine jm_iload_n (pc := 1) 1 dX10_has_1 rfl ?_
  refine jm_lshr (pc := 2) dX10_has_2 ?_
  refine jm_lconst (pc := 3) (v := 1) dX10_has_3 rfl ?_
  refine jm_land (pc := 4) dX10_has_4 ?_
  refine jm_lconst (pc := 5) (v := 0) dX10_has_5 rfl ?_
  refine jm_lcmp (pc := 6) dX10_has_6 ?_
  refine jm_if_eq (pc := 7) 14 dX10_has_7 rfl (jm_rgT _) (fun q => ?_) (fun q => ?_)
  · have h := h.1 q
    refine jm_iconst (pc := 14) dX10_has_14 ?_
    exact jm_zret (pc := 15) dX10_has_15 rfl (Or.inl rfl) h
  · have h := h.2 q
    refine jm_iconst (pc := 10) dX10_has_10 ?_
    refine jm_goto (pc := 11) 15 dX10_has_11 rfl ?_
    exact jm_zret (pc := 15) dX10_has_15 rfl (Or.inr rfl) h
theorem pX10_has {l : Launch} {g : jm_G} {d : Nat} {v2 : Int} {v0 : Int64} (hg : jm_HC g) {mu : jm_M} {Q : Option Value → jm_M → Prop} (h1 : ¬ (Int32.toInt (lg_cmp ((v0 >>> ((Int32.ofInt v2).toInt64 &&& 63)) &&& (1 : Int64)) (0 : Int64))) = 0 → Q (some (jm_i 1)) mu) (h0 : ¬ (¬ (Int32.toInt (lg_cmp ((v0 >>> ((Int32.ofInt v2).toInt64 &&& 63)) &&& (1 : Int64)) (0 : Int64))) = 0) → Q (some (jm_i 0)) mu) : jm_R l g (d + 1) iX10_has [.long v0, jm_i v2] mu Q := by
  refine eX10_has hg ?_
  refine ⟨fun q0 => ?_, fun q0 => ?_⟩
  · exact h0 (by omega)
  · exact h1 (q0)
theorem dX10_lowestOf_0 : decode cX10_lowestOf 0 = .ok (.iconst 1, 1) := by decide +kernel
theorem dX10_lowestOf_1 : decode cX10_lowestOf 1 = .ok (.istore_n 2, 1) := by decide +kernel
theorem dX10_lowestOf_2 : decode cX10_lowestOf 2 = .ok (.iload_n 2, 1) := by decide +kernel
theorem dX10_lowestOf_3 : decode cX10_lowestOf 3 = .ok (.bipush 60, 2) := by decide +kernel
theorem dX10_lowestOf_5 : decode cX10_lowestOf 5 = .ok (.if_icmp .gt 19, 3) := by decide +kernel
theorem dX10_lowestOf_8 : decode cX10_lowestOf 8 = .ok (.lload_n 0, 1) := by decide +kernel
theorem dX10_lowestOf_9 : decode cX10_lowestOf 9 = .ok (.iload_n 2, 1) := by decide +kernel
theorem dX10_lowestOf_10 : decode cX10_lowestOf 10 = .ok (.invokestatic 115, 3) := by decide +kernel
theorem dX10_lowestOf_13 : decode cX10_lowestOf 13 = .ok (.ifCond .eq 5, 3) := by decide +kernel
theorem dX10_lowestOf_16 : decode cX10_lowestOf 16 = .ok (.iload_n 2, 1) := by decide +kernel
theorem dX10_lowestOf_17 : decode cX10_lowestOf 17 = .ok (.ireturn, 1) := by decide +kernel
theorem dX10_lowestOf_18 : decode cX10_lowestOf 18 = .ok (.iinc 2 1, 3) := by decide +kernel
theorem dX10_lowestOf_21 : decode cX10_lowestOf 21 = .ok (.goto (-19), 3) := by decide +kernel
theorem dX10_lowestOf_24 : decode cX10_lowestOf 24 = .ok (.iconst (-1), 1) := by decide +kernel
theorem dX10_lowestOf_25 : decode cX10_lowestOf 25 = .ok (.ireturn, 1) := by decide +kernel
theorem bX10_lowestOf_2 {l : Launch} {g : jm_G} {d : Nat} {v2 : Int} {w0 : Int64} (hg : jm_HC g) {mu : jm_M} {Q : Option Value → jm_M → Prop} (h : jm_rg v2 ∧ (60 < v2 → Q (some (jm_i (-1))) mu) ∧ (v2 ≤ 60 → (¬ (Int32.toInt (lg_cmp ((w0 >>> ((Int32.ofInt v2).toInt64 &&& 63)) &&& (1 : Int64)) (0 : Int64))) = 0 → Q (some (jm_i v2)) mu) ∧ (¬ (¬ (Int32.toInt (lg_cmp ((w0 >>> ((Int32.ofInt v2).toInt64 &&& 63)) &&& (1 : Int64)) (0 : Int64))) = 0) → jm_V l g (d + 2) iX10_lowestOf 2 [(0, .long w0), (2, jm_i (v2 + 1))] [] mu Q))) : jm_V l g (d + 2) iX10_lowestOf 2 [(0, .long w0), (2, jm_i v2)] [] mu Q := by
  refine jm_mrI (fun hm0 => ?_)
  refine jm_iload_n (pc := 2) 1 dX10_lowestOf_2 rfl ?_
  refine jm_bipush (pc := 3) dX10_lowestOf_3 (by decide) ?_
  have hg1 := h.1
  have h := h.2
  refine jm_icmp_gt (pc := 5) 24 dX10_lowestOf_5 rfl hg1 ⟨by decide, by decide⟩ (fun q => ?_) (fun q => ?_)
  · have h := h.1 q
    refine jm_iconst (pc := 24) dX10_lowestOf_24 ?_
    exact jm_iret (pc := 25) dX10_lowestOf_25 rfl h
  · have h := h.2 q
    refine jm_lload_n (pc := 8) 0 dX10_lowestOf_8 rfl ?_
    refine jm_iload_n (pc := 9) 1 dX10_lowestOf_9 rfl ?_
    refine jm_inlsi (pc := 10) (As := [_, _]) (st := []) iX10_has dX10_lowestOf_10 mX10_115 rfl rfl (Nat.le_of_ble_eq_true rfl) (pX10_has hg  (fun q => jm_kIi ?_) (fun q => jm_kIi ?_))
    · have h := h.1 q
      refine jm_if_eq (pc := 13) 18 dX10_lowestOf_13 rfl ⟨by decide, by decide⟩ (fun q => absurd q (by decide)) (fun q => ?_)
      refine jm_iload_n (pc := 16) 1 dX10_lowestOf_16 rfl ?_
      exact jm_iret (pc := 17) dX10_lowestOf_17 rfl h
    · have h := h.2 q
      refine jm_if_eq (pc := 13) 18 dX10_lowestOf_13 rfl ⟨by decide, by decide⟩ (fun q => ?_) (fun q => absurd q (by decide))
      refine jm_iinc (pc := 18) (lv' := [(2, _), (0, _)]) 1 dX10_lowestOf_18 rfl (by decide) rfl ?_
      refine jm_goto (pc := 21) 2 dX10_lowestOf_21 rfl ?_
      exact jm_sub [1, 0] rfl h
theorem eX10_lowestOf {l : Launch} {g : jm_G} {d : Nat} {v0 : Int64} (hg : jm_HC g) {mu : jm_M} {Q : Option Value → jm_M → Prop} (h : jm_V l g (d + 2) iX10_lowestOf 2 [(0, .long v0), (2, jm_i 1)] [] mu Q) : jm_R l g (d + 2) iX10_lowestOf [.long v0] mu Q := by
  refine jm_enter [(0, .long v0)] (by decide) (Nat.le_of_ble_eq_true rfl) rfl ?_
  refine jm_mrI (fun hm0 => ?_)
  refine jm_iconst (pc := 0) dX10_lowestOf_0 ?_
  refine jm_istore_n (pc := 1) (lv' := [(2, _), (0, _)]) dX10_lowestOf_1 (by decide) rfl ?_
  exact jm_sub [1, 0] rfl h
theorem dX10_rangeOf_0 : decode cX10_rangeOf 0 = .ok (.lconst 1, 1) := by decide +kernel
theorem dX10_rangeOf_1 : decode cX10_rangeOf 1 = .ok (.aload_n 0, 1) := by decide +kernel
theorem dX10_rangeOf_2 : decode cX10_rangeOf 2 = .ok (.getfield 29, 3) := by decide +kernel
theorem dX10_rangeOf_5 : decode cX10_rangeOf 5 = .ok (.getfield 112, 3) := by decide +kernel
theorem dX10_rangeOf_8 : decode cX10_rangeOf 8 = .ok (.iload_n 1, 1) := by decide +kernel
theorem dX10_rangeOf_9 : decode cX10_rangeOf 9 = .ok (.iaload, 1) := by decide +kernel
theorem dX10_rangeOf_10 : decode cX10_rangeOf 10 = .ok (.iconst 1, 1) := by decide +kernel
theorem dX10_rangeOf_11 : decode cX10_rangeOf 11 = .ok (.iadd, 1) := by decide +kernel
theorem dX10_rangeOf_12 : decode cX10_rangeOf 12 = .ok (.lshl, 1) := by decide +kernel
theorem dX10_rangeOf_13 : decode cX10_rangeOf 13 = .ok (.lconst 1, 1) := by decide +kernel
theorem dX10_rangeOf_14 : decode cX10_rangeOf 14 = .ok (.aload_n 0, 1) := by decide +kernel
theorem dX10_rangeOf_15 : decode cX10_rangeOf 15 = .ok (.getfield 29, 3) := by decide +kernel
theorem dX10_rangeOf_18 : decode cX10_rangeOf 18 = .ok (.getfield 109, 3) := by decide +kernel
theorem dX10_rangeOf_21 : decode cX10_rangeOf 21 = .ok (.iload_n 1, 1) := by decide +kernel
theorem dX10_rangeOf_22 : decode cX10_rangeOf 22 = .ok (.iaload, 1) := by decide +kernel
theorem dX10_rangeOf_23 : decode cX10_rangeOf 23 = .ok (.lshl, 1) := by decide +kernel
theorem dX10_rangeOf_24 : decode cX10_rangeOf 24 = .ok (.lsub, 1) := by decide +kernel
theorem dX10_rangeOf_25 : decode cX10_rangeOf 25 = .ok (.lreturn, 1) := by decide +kernel
theorem eX10_rangeOf {l : Launch} {g : jm_G} {d : Nat} {v1 : Int} (hg : jm_HC g) {mu : jm_M} {Q : Option Value → jm_M → Prop} (h : (0 ≤ v1 ∧ v1 < 8) ∧ Q (some (.long (((1 : Int64) <<< ((Int32.ofInt ((mu.1 8 v1) + 1)).toInt64 &&& 63)) - ((1 : Int64) <<< ((Int32.ofInt (mu.1 7 v1)).toInt64 &&& 63))))) mu) : jm_R l g (d + 1) iX10_rangeOf [.ref 38, jm_i v1] mu Q := by
  refine jm_enter [(0, .ref 38), (1, jm_i v1)] (by decide) (Nat.le_of_ble_eq_true rfl) rfl ?_
  refine jm_mrI (fun hm0 => ?_)
  refine jm_lconst (pc := 0) (v := 1) dX10_rangeOf_0 rfl ?_
  refine jm_aload_n (pc := 1) 0 dX10_rangeOf_1 rfl ?_
  refine jm_getr (pc := 2) 1 dX10_rangeOf_2 fX10_29 (cC38 hg) rfl ?_
  refine jm_getr (pc := 5) 2 dX10_rangeOf_5 fX10_112 (cC6 hg) rfl ?_
  refine jm_iload_n (pc := 8) 1 dX10_rangeOf_8 rfl ?_
  have hg1 := h.1
  have h := h.2
  refine jm_iald (pc := 9) dX10_rangeOf_9 (cC8 hg) (by decide) hg1.1 hg1.2 ?_
  refine jm_iconst (pc := 10) dX10_rangeOf_10 ?_
  refine jm_iadd (pc := 11) dX10_rangeOf_11 ?_
  refine jm_lshl (pc := 12) dX10_rangeOf_12 ?_
  refine jm_lconst (pc := 13) (v := 1) dX10_rangeOf_13 rfl ?_
  refine jm_aload_n (pc := 14) 0 dX10_rangeOf_14 rfl ?_
  refine jm_getr (pc := 15) 1 dX10_rangeOf_15 fX10_29 (cC38 hg) rfl ?_
  refine jm_getr (pc := 18) 1 dX10_rangeOf_18 fX10_109 (cC6 hg) rfl ?_
  refine jm_iload_n (pc := 21) 1 dX10_rangeOf_21 rfl ?_
  refine jm_iald (pc := 22) dX10_rangeOf_22 (cC7 hg) (by decide) hg1.1 hg1.2 ?_
  refine jm_lshl (pc := 23) dX10_rangeOf_23 ?_
  refine jm_lsub (pc := 24) dX10_rangeOf_24 ?_
  exact jm_lret (pc := 25) dX10_rangeOf_25 rfl h
theorem pX10_rangeOf {l : Launch} {g : jm_G} {d : Nat} {v1 : Int} (hg : jm_HC g) {mu : jm_M} {Q : Option Value → jm_M → Prop} (o0 : 0 ≤ v1 ∧ v1 < 8) (h : Q (some (.long (((1 : Int64) <<< ((Int32.ofInt ((mu.1 8 v1) + 1)).toInt64 &&& 63)) - ((1 : Int64) <<< ((Int32.ofInt (mu.1 7 v1)).toInt64 &&& 63))))) mu) : jm_R l g (d + 1) iX10_rangeOf [.ref 38, jm_i v1] mu Q := by
  refine eX10_rangeOf hg ?_
  refine ⟨o0, ?_⟩
  exact h
theorem dX10_tellSounds_0 : decode cX10_tellSounds 0 = .ok (.iconst 1, 1) := by decide +kernel
theorem dX10_tellSounds_1 : decode cX10_tellSounds 1 = .ok (.istore_n 1, 1) := by decide +kernel
theorem dX10_tellSounds_2 : decode cX10_tellSounds 2 = .ok (.iload_n 1, 1) := by decide +kernel
theorem dX10_tellSounds_3 : decode cX10_tellSounds 3 = .ok (.bipush 60, 2) := by decide +kernel
theorem dX10_tellSounds_5 : decode cX10_tellSounds 5 = .ok (.if_icmp .gt 54, 3) := by decide +kernel
theorem dX10_tellSounds_8 : decode cX10_tellSounds 8 = .ok (.lconst 0, 1) := by decide +kernel
theorem dX10_tellSounds_9 : decode cX10_tellSounds 9 = .ok (.lstore_n 2, 1) := by decide +kernel
theorem dX10_tellSounds_10 : decode cX10_tellSounds 10 = .ok (.iconst 1, 1) := by decide +kernel
theorem dX10_tellSounds_11 : decode cX10_tellSounds 11 = .ok (.istore 4, 2) := by decide +kernel
theorem dX10_tellSounds_13 : decode cX10_tellSounds 13 = .ok (.iload 4, 2) := by decide +kernel
theorem dX10_tellSounds_15 : decode cX10_tellSounds 15 = .ok (.bipush 60, 2) := by decide +kernel
theorem dX10_tellSounds_17 : decode cX10_tellSounds 17 = .ok (.if_icmp .gt 29, 3) := by decide +kernel
theorem dX10_tellSounds_20 : decode cX10_tellSounds 20 = .ok (.aload_n 0, 1) := by decide +kernel
theorem dX10_tellSounds_21 : decode cX10_tellSounds 21 = .ok (.getfield 29, 3) := by decide +kernel
theorem dX10_tellSounds_24 : decode cX10_tellSounds 24 = .ok (.iload_n 1, 1) := by decide +kernel
theorem dX10_tellSounds_25 : decode cX10_tellSounds 25 = .ok (.iload 4, 2) := by decide +kernel
theorem dX10_tellSounds_27 : decode cX10_tellSounds 27 = .ok (.invokevirtual 135, 3) := by decide +kernel
theorem dX10_tellSounds_30 : decode cX10_tellSounds 30 = .ok (.ifCond .eq 10, 3) := by decide +kernel
theorem dX10_tellSounds_33 : decode cX10_tellSounds 33 = .ok (.lload_n 2, 1) := by decide +kernel
theorem dX10_tellSounds_34 : decode cX10_tellSounds 34 = .ok (.lconst 1, 1) := by decide +kernel
theorem dX10_tellSounds_35 : decode cX10_tellSounds 35 = .ok (.iload 4, 2) := by decide +kernel
theorem dX10_tellSounds_37 : decode cX10_tellSounds 37 = .ok (.lshl, 1) := by decide +kernel
theorem dX10_tellSounds_38 : decode cX10_tellSounds 38 = .ok (.lor, 1) := by decide +kernel
theorem dX10_tellSounds_39 : decode cX10_tellSounds 39 = .ok (.lstore_n 2, 1) := by decide +kernel
theorem dX10_tellSounds_40 : decode cX10_tellSounds 40 = .ok (.iinc 4 1, 3) := by decide +kernel
theorem dX10_tellSounds_43 : decode cX10_tellSounds 43 = .ok (.goto (-30), 3) := by decide +kernel
theorem dX10_tellSounds_46 : decode cX10_tellSounds 46 = .ok (.aload_n 0, 1) := by decide +kernel
theorem dX10_tellSounds_47 : decode cX10_tellSounds 47 = .ok (.getfield 15, 3) := by decide +kernel
theorem dX10_tellSounds_50 : decode cX10_tellSounds 50 = .ok (.iload_n 1, 1) := by decide +kernel
theorem dX10_tellSounds_51 : decode cX10_tellSounds 51 = .ok (.lload_n 2, 1) := by decide +kernel
theorem dX10_tellSounds_52 : decode cX10_tellSounds 52 = .ok (.lastore, 1) := by decide +kernel
theorem dX10_tellSounds_53 : decode cX10_tellSounds 53 = .ok (.iinc 1 1, 3) := by decide +kernel
theorem dX10_tellSounds_56 : decode cX10_tellSounds 56 = .ok (.goto (-54), 3) := by decide +kernel
theorem dX10_tellSounds_59 : decode cX10_tellSounds 59 = .ok (.return_, 1) := by decide +kernel
theorem bX10_tellSounds_13 {l : Launch} {g : jm_G} {d : Nat} {v1 v4 : Int} {w2 : Int64} (hg : jm_HC g) {mu : jm_M} {Q : Option Value → jm_M → Prop} (h : jm_rg v4 ∧ (60 < v4 → (0 ≤ v1 ∧ v1 < 61) ∧ ∀ m3, m3 = jm_wl mu 40 v1 w2 → jm_V l g (d + 2) iX10_tellSounds 2 [(0, .ref 38), (1, jm_i (v1 + 1))] [] m3 Q) ∧ (v4 ≤ 60 → (jm_rg (v1 - v4)) ∧ (jm_rg (if 0 ≤ (v1 - v4) then (v1 - v4) else -(v1 - v4))) ∧ (¬ (jm_and (jm_shr (mu.1 6 5) (Int.tmod (if 0 ≤ (v1 - v4) then (v1 - v4) else -(v1 - v4)) 12)) 1) = 0 → ∀ x7, x7 = (w2 ||| ((1 : Int64) <<< ((Int32.ofInt v4).toInt64 &&& 63))) → jm_V l g (d + 2) iX10_tellSounds 13 [(0, .ref 38), (1, jm_i v1), (2, .long x7), (4, jm_i (v4 + 1))] [] mu Q) ∧ (¬ (¬ (jm_and (jm_shr (mu.1 6 5) (Int.tmod (if 0 ≤ (v1 - v4) then (v1 - v4) else -(v1 - v4)) 12)) 1) = 0) → jm_V l g (d + 2) iX10_tellSounds 13 [(0, .ref 38), (1, jm_i v1), (2, .long w2), (4, jm_i (v4 + 1))] [] mu Q))) : jm_V l g (d + 2) iX10_tellSounds 13 [(0, .ref 38), (1, jm_i v1), (2, .long w2), (4, jm_i v4)] [] mu Q := by
  refine jm_mrI (fun hm0 => ?_)
  refine jm_iload (pc := 13) 3 dX10_tellSounds_13 rfl ?_
  refine jm_bipush (pc := 15) dX10_tellSounds_15 (by decide) ?_
  have hg1 := h.1
  have h := h.2
  refine jm_icmp_gt (pc := 17) 46 dX10_tellSounds_17 rfl hg1 ⟨by decide, by decide⟩ (fun q => ?_) (fun q => ?_)
  · have h := h.1 q
    refine jm_aload_n (pc := 46) 0 dX10_tellSounds_46 rfl ?_
    refine jm_getr (pc := 47) 4 dX10_tellSounds_47 fX10_15 (cC38 hg) rfl ?_
    refine jm_iload_n (pc := 50) 1 dX10_tellSounds_50 rfl ?_
    refine jm_lload_n (pc := 51) 2 dX10_tellSounds_51 rfl ?_
    have hg2 := h.1
    have h := h.2
    refine jm_last (pc := 52) dX10_tellSounds_52 (cC40 hg) (by decide) hg2.1 hg2.2 ?_
    have h := h _ rfl
    refine jm_mrI (fun hm4 => ?_)
    refine jm_iinc (pc := 53) (lv' := [(1, _), (0, _), (2, _), (4, _)]) 1 dX10_tellSounds_53 rfl (by decide) rfl ?_
    refine jm_goto (pc := 56) 2 dX10_tellSounds_56 rfl ?_
    exact jm_sub [1, 0] rfl h
  · have h := h.2 q
    refine jm_aload_n (pc := 20) 0 dX10_tellSounds_20 rfl ?_
    refine jm_getr (pc := 21) 1 dX10_tellSounds_21 fX10_29 (cC38 hg) rfl ?_
    refine jm_iload_n (pc := 24) 1 dX10_tellSounds_24 rfl ?_
    refine jm_iload (pc := 25) 3 dX10_tellSounds_25 rfl ?_
    have hg5 := h.1
    have h := h.2
    have hg6 := h.1
    have h := h.2
    refine jm_inlvi (pc := 27) (As := [_, _]) (st := []) iX8_sounds dX10_tellSounds_27 mX10_135 (cC6 hg) ⟨_, rfl, rfl⟩ rfl rfl (Nat.le_of_ble_eq_true rfl) (pX8_sounds hg hg5 hg6 (fun q => jm_kIi ?_) (fun q => jm_kIi ?_))
    · have h := h.1 q
      refine jm_if_eq (pc := 30) 40 dX10_tellSounds_30 rfl ⟨by decide, by decide⟩ (fun q => absurd q (by decide)) (fun q => ?_)
      refine jm_lload_n (pc := 33) 2 dX10_tellSounds_33 rfl ?_
      refine jm_lconst (pc := 34) (v := 1) dX10_tellSounds_34 rfl ?_
      refine jm_iload (pc := 35) 3 dX10_tellSounds_35 rfl ?_
      refine jm_lshl (pc := 37) dX10_tellSounds_37 ?_
      refine jm_lor (pc := 38) dX10_tellSounds_38 ?_
      have h := h _ rfl
      refine jm_lstore_n (pc := 39) (lv' := [(2, _), (0, _), (1, _), (4, _)]) dX10_tellSounds_39 (by decide) rfl ?_
      refine jm_iinc (pc := 40) (lv' := [(4, _), (2, _), (0, _), (1, _)]) 3 dX10_tellSounds_40 rfl (by decide) rfl ?_
      refine jm_goto (pc := 43) 13 dX10_tellSounds_43 rfl ?_
      exact jm_sub [2, 3, 1, 0] rfl h
    · have h := h.2 q
      refine jm_if_eq (pc := 30) 40 dX10_tellSounds_30 rfl ⟨by decide, by decide⟩ (fun q => ?_) (fun q => absurd q (by decide))
      refine jm_iinc (pc := 40) (lv' := [(4, _), (0, _), (1, _), (2, _)]) 3 dX10_tellSounds_40 rfl (by decide) rfl ?_
      refine jm_goto (pc := 43) 13 dX10_tellSounds_43 rfl ?_
      exact jm_sub [1, 2, 3, 0] rfl h
theorem bX10_tellSounds_2 {l : Launch} {g : jm_G} {d : Nat} {v1 : Int} (hg : jm_HC g) {mu : jm_M} {Q : Option Value → jm_M → Prop} (h : jm_rg v1 ∧ (60 < v1 → Q none mu) ∧ (v1 ≤ 60 → ∀ x2, x2 = (0 : Int64) → jm_V l g (d + 2) iX10_tellSounds 13 [(0, .ref 38), (1, jm_i v1), (2, .long x2), (4, jm_i 1)] [] mu Q)) : jm_V l g (d + 2) iX10_tellSounds 2 [(0, .ref 38), (1, jm_i v1)] [] mu Q := by
  refine jm_mrI (fun hm0 => ?_)
  refine jm_iload_n (pc := 2) 1 dX10_tellSounds_2 rfl ?_
  refine jm_bipush (pc := 3) dX10_tellSounds_3 (by decide) ?_
  have hg1 := h.1
  have h := h.2
  refine jm_icmp_gt (pc := 5) 59 dX10_tellSounds_5 rfl hg1 ⟨by decide, by decide⟩ (fun q => ?_) (fun q => ?_)
  · have h := h.1 q
    exact jm_vret (pc := 59) dX10_tellSounds_59 rfl h
  · have h := h.2 q
    refine jm_lconst (pc := 8) (v := 0) dX10_tellSounds_8 rfl ?_
    have h := h _ rfl
    refine jm_lstore_n (pc := 9) (lv' := [(2, _), (0, _), (1, _)]) dX10_tellSounds_9 (by decide) rfl ?_
    refine jm_iconst (pc := 10) dX10_tellSounds_10 ?_
    refine jm_istore (pc := 11) (lv' := [(4, _), (2, _), (0, _), (1, _)]) dX10_tellSounds_11 (by decide) rfl ?_
    exact jm_sub [2, 3, 1, 0] rfl h
theorem eX10_tellSounds {l : Launch} {g : jm_G} {d : Nat} (hg : jm_HC g) {mu : jm_M} {Q : Option Value → jm_M → Prop} (h : jm_V l g (d + 2) iX10_tellSounds 2 [(0, .ref 38), (1, jm_i 1)] [] mu Q) : jm_R l g (d + 2) iX10_tellSounds [.ref 38] mu Q := by
  refine jm_enter [(0, .ref 38)] (by decide) (Nat.le_of_ble_eq_true rfl) rfl ?_
  refine jm_mrI (fun hm0 => ?_)
  refine jm_iconst (pc := 0) dX10_tellSounds_0 ?_
  refine jm_istore_n (pc := 1) (lv' := [(1, _), (0, _)]) dX10_tellSounds_1 (by decide) rfl ?_
  exact jm_sub [1, 0] rfl h
theorem dX10_chordOf_0 : decode cX10_chordOf 0 = .ok (.aload_n 0, 1) := by decide +kernel
theorem dX10_chordOf_1 : decode cX10_chordOf 1 = .ok (.invokevirtual 106, 3) := by decide +kernel
theorem dX10_chordOf_4 : decode cX10_chordOf 4 = .ok (.iconst 0, 1) := by decide +kernel
theorem dX10_chordOf_5 : decode cX10_chordOf 5 = .ok (.istore 6, 2) := by decide +kernel
theorem dX10_chordOf_7 : decode cX10_chordOf 7 = .ok (.iconst (-1), 1) := by decide +kernel
theorem dX10_chordOf_8 : decode cX10_chordOf 8 = .ok (.istore 7, 2) := by decide +kernel
theorem dX10_chordOf_10 : decode cX10_chordOf 10 = .ok (.aload_n 0, 1) := by decide +kernel
theorem dX10_chordOf_11 : decode cX10_chordOf 11 = .ok (.getfield 29, 3) := by decide +kernel
theorem dX10_chordOf_14 : decode cX10_chordOf 14 = .ok (.getfield 109, 3) := by decide +kernel
theorem dX10_chordOf_17 : decode cX10_chordOf 17 = .ok (.iload_n 1, 1) := by decide +kernel
theorem dX10_chordOf_18 : decode cX10_chordOf 18 = .ok (.iaload, 1) := by decide +kernel
theorem dX10_chordOf_19 : decode cX10_chordOf 19 = .ok (.istore 8, 2) := by decide +kernel
theorem dX10_chordOf_21 : decode cX10_chordOf 21 = .ok (.iload 8, 2) := by decide +kernel
theorem dX10_chordOf_23 : decode cX10_chordOf 23 = .ok (.aload_n 0, 1) := by decide +kernel
theorem dX10_chordOf_24 : decode cX10_chordOf 24 = .ok (.getfield 29, 3) := by decide +kernel
theorem dX10_chordOf_27 : decode cX10_chordOf 27 = .ok (.getfield 112, 3) := by decide +kernel
theorem dX10_chordOf_30 : decode cX10_chordOf 30 = .ok (.iload_n 1, 1) := by decide +kernel
theorem dX10_chordOf_31 : decode cX10_chordOf 31 = .ok (.iaload, 1) := by decide +kernel
theorem dX10_chordOf_32 : decode cX10_chordOf 32 = .ok (.if_icmp .gt 154, 3) := by decide +kernel
theorem dX10_chordOf_35 : decode cX10_chordOf 35 = .ok (.aload_n 0, 1) := by decide +kernel
theorem dX10_chordOf_36 : decode cX10_chordOf 36 = .ok (.getfield 15, 3) := by decide +kernel
theorem dX10_chordOf_39 : decode cX10_chordOf 39 = .ok (.iload 4, 2) := by decide +kernel
theorem dX10_chordOf_41 : decode cX10_chordOf 41 = .ok (.laload, 1) := by decide +kernel
theorem dX10_chordOf_42 : decode cX10_chordOf 42 = .ok (.iload 8, 2) := by decide +kernel
theorem dX10_chordOf_44 : decode cX10_chordOf 44 = .ok (.invokestatic 115, 3) := by decide +kernel
theorem dX10_chordOf_47 : decode cX10_chordOf 47 = .ok (.ifCond .eq 21, 3) := by decide +kernel
theorem dX10_chordOf_50 : decode cX10_chordOf 50 = .ok (.aload_n 0, 1) := by decide +kernel
theorem dX10_chordOf_51 : decode cX10_chordOf 51 = .ok (.getfield 15, 3) := by decide +kernel
theorem dX10_chordOf_54 : decode cX10_chordOf 54 = .ok (.iload 4, 2) := by decide +kernel
theorem dX10_chordOf_56 : decode cX10_chordOf 56 = .ok (.laload, 1) := by decide +kernel
theorem dX10_chordOf_57 : decode cX10_chordOf 57 = .ok (.aload_n 0, 1) := by decide +kernel
theorem dX10_chordOf_58 : decode cX10_chordOf 58 = .ok (.getfield 15, 3) := by decide +kernel
theorem dX10_chordOf_61 : decode cX10_chordOf 61 = .ok (.iload 8, 2) := by decide +kernel
theorem dX10_chordOf_63 : decode cX10_chordOf 63 = .ok (.laload, 1) := by decide +kernel
theorem dX10_chordOf_64 : decode cX10_chordOf 64 = .ok (.land, 1) := by decide +kernel
theorem dX10_chordOf_65 : decode cX10_chordOf 65 = .ok (.goto 4, 3) := by decide +kernel
theorem dX10_chordOf_68 : decode cX10_chordOf 68 = .ok (.lconst 0, 1) := by decide +kernel
theorem dX10_chordOf_69 : decode cX10_chordOf 69 = .ok (.lstore 9, 2) := by decide +kernel
theorem dX10_chordOf_71 : decode cX10_chordOf 71 = .ok (.aload_n 0, 1) := by decide +kernel
theorem dX10_chordOf_72 : decode cX10_chordOf 72 = .ok (.getfield 29, 3) := by decide +kernel
theorem dX10_chordOf_75 : decode cX10_chordOf 75 = .ok (.getfield 109, 3) := by decide +kernel
theorem dX10_chordOf_78 : decode cX10_chordOf 78 = .ok (.iload_n 2, 1) := by decide +kernel
theorem dX10_chordOf_79 : decode cX10_chordOf 79 = .ok (.iaload, 1) := by decide +kernel
theorem dX10_chordOf_80 : decode cX10_chordOf 80 = .ok (.istore 11, 2) := by decide +kernel
theorem dX10_chordOf_82 : decode cX10_chordOf 82 = .ok (.iload 11, 2) := by decide +kernel
theorem dX10_chordOf_84 : decode cX10_chordOf 84 = .ok (.aload_n 0, 1) := by decide +kernel
theorem dX10_chordOf_85 : decode cX10_chordOf 85 = .ok (.getfield 29, 3) := by decide +kernel
theorem dX10_chordOf_88 : decode cX10_chordOf 88 = .ok (.getfield 112, 3) := by decide +kernel
theorem dX10_chordOf_91 : decode cX10_chordOf 91 = .ok (.iload_n 2, 1) := by decide +kernel
theorem dX10_chordOf_92 : decode cX10_chordOf 92 = .ok (.iaload, 1) := by decide +kernel
theorem dX10_chordOf_93 : decode cX10_chordOf 93 = .ok (.if_icmp .gt 87, 3) := by decide +kernel
theorem dX10_chordOf_96 : decode cX10_chordOf 96 = .ok (.lload 9, 2) := by decide +kernel
theorem dX10_chordOf_98 : decode cX10_chordOf 98 = .ok (.lconst 0, 1) := by decide +kernel
theorem dX10_chordOf_99 : decode cX10_chordOf 99 = .ok (.lcmp, 1) := by decide +kernel
theorem dX10_chordOf_100 : decode cX10_chordOf 100 = .ok (.ifCond .eq 80, 3) := by decide +kernel
theorem dX10_chordOf_103 : decode cX10_chordOf 103 = .ok (.lload 9, 2) := by decide +kernel
theorem dX10_chordOf_105 : decode cX10_chordOf 105 = .ok (.iload 11, 2) := by decide +kernel
theorem dX10_chordOf_107 : decode cX10_chordOf 107 = .ok (.invokestatic 115, 3) := by decide +kernel
theorem dX10_chordOf_110 : decode cX10_chordOf 110 = .ok (.ifCond .eq 22, 3) := by decide +kernel
theorem dX10_chordOf_113 : decode cX10_chordOf 113 = .ok (.lload 9, 2) := by decide +kernel
theorem dX10_chordOf_115 : decode cX10_chordOf 115 = .ok (.aload_n 0, 1) := by decide +kernel
theorem dX10_chordOf_116 : decode cX10_chordOf 116 = .ok (.getfield 15, 3) := by decide +kernel
theorem dX10_chordOf_119 : decode cX10_chordOf 119 = .ok (.iload 11, 2) := by decide +kernel
theorem dX10_chordOf_121 : decode cX10_chordOf 121 = .ok (.laload, 1) := by decide +kernel
theorem dX10_chordOf_122 : decode cX10_chordOf 122 = .ok (.land, 1) := by decide +kernel
theorem dX10_chordOf_123 : decode cX10_chordOf 123 = .ok (.aload_n 0, 1) := by decide +kernel
theorem dX10_chordOf_124 : decode cX10_chordOf 124 = .ok (.iload_n 3, 1) := by decide +kernel
theorem dX10_chordOf_125 : decode cX10_chordOf 125 = .ok (.invokevirtual 119, 3) := by decide +kernel
theorem dX10_chordOf_128 : decode cX10_chordOf 128 = .ok (.land, 1) := by decide +kernel
theorem dX10_chordOf_129 : decode cX10_chordOf 129 = .ok (.goto 4, 3) := by decide +kernel
theorem dX10_chordOf_132 : decode cX10_chordOf 132 = .ok (.lconst 0, 1) := by decide +kernel
theorem dX10_chordOf_133 : decode cX10_chordOf 133 = .ok (.lstore 12, 2) := by decide +kernel
theorem dX10_chordOf_135 : decode cX10_chordOf 135 = .ok (.iload 6, 2) := by decide +kernel
theorem dX10_chordOf_137 : decode cX10_chordOf 137 = .ok (.lload 12, 2) := by decide +kernel
theorem dX10_chordOf_139 : decode cX10_chordOf 139 = .ok (.invokestatic 123, 3) := by decide +kernel
theorem dX10_chordOf_142 : decode cX10_chordOf 142 = .ok (.iadd, 1) := by decide +kernel
theorem dX10_chordOf_143 : decode cX10_chordOf 143 = .ok (.istore 6, 2) := by decide +kernel
theorem dX10_chordOf_145 : decode cX10_chordOf 145 = .ok (.iload 7, 2) := by decide +kernel
theorem dX10_chordOf_147 : decode cX10_chordOf 147 = .ok (.iconst (-1), 1) := by decide +kernel
theorem dX10_chordOf_148 : decode cX10_chordOf 148 = .ok (.if_icmp .ne 26, 3) := by decide +kernel
theorem dX10_chordOf_151 : decode cX10_chordOf 151 = .ok (.lload 12, 2) := by decide +kernel
theorem dX10_chordOf_153 : decode cX10_chordOf 153 = .ok (.lconst 0, 1) := by decide +kernel
theorem dX10_chordOf_154 : decode cX10_chordOf 154 = .ok (.lcmp, 1) := by decide +kernel
theorem dX10_chordOf_155 : decode cX10_chordOf 155 = .ok (.ifCond .eq 19, 3) := by decide +kernel
theorem dX10_chordOf_158 : decode cX10_chordOf 158 = .ok (.iload 5, 2) := by decide +kernel
theorem dX10_chordOf_160 : decode cX10_chordOf 160 = .ok (.iload 8, 2) := by decide +kernel
theorem dX10_chordOf_162 : decode cX10_chordOf 162 = .ok (.iload 11, 2) := by decide +kernel
theorem dX10_chordOf_164 : decode cX10_chordOf 164 = .ok (.lload 12, 2) := by decide +kernel
theorem dX10_chordOf_166 : decode cX10_chordOf 166 = .ok (.invokestatic 129, 3) := by decide +kernel
theorem dX10_chordOf_169 : decode cX10_chordOf 169 = .ok (.invokestatic 132, 3) := by decide +kernel
theorem dX10_chordOf_172 : decode cX10_chordOf 172 = .ok (.istore 7, 2) := by decide +kernel
theorem dX10_chordOf_174 : decode cX10_chordOf 174 = .ok (.iinc 11 1, 3) := by decide +kernel
theorem dX10_chordOf_177 : decode cX10_chordOf 177 = .ok (.goto (-95), 3) := by decide +kernel
theorem dX10_chordOf_180 : decode cX10_chordOf 180 = .ok (.iinc 8 1, 3) := by decide +kernel
theorem dX10_chordOf_183 : decode cX10_chordOf 183 = .ok (.goto (-162), 3) := by decide +kernel
theorem dX10_chordOf_186 : decode cX10_chordOf 186 = .ok (.iload 5, 2) := by decide +kernel
theorem dX10_chordOf_188 : decode cX10_chordOf 188 = .ok (.ifCond .ne 8, 3) := by decide +kernel
theorem dX10_chordOf_191 : decode cX10_chordOf 191 = .ok (.iload 6, 2) := by decide +kernel
theorem dX10_chordOf_193 : decode cX10_chordOf 193 = .ok (.goto 5, 3) := by decide +kernel
theorem dX10_chordOf_196 : decode cX10_chordOf 196 = .ok (.iload 7, 2) := by decide +kernel
theorem dX10_chordOf_198 : decode cX10_chordOf 198 = .ok (.ireturn, 1) := by decide +kernel
theorem bX10_chordOf_133 {l : Launch} {g : jm_G} {d : Nat} {v1 v2 v3 v4 v5 v6 v7 v8 v11 : Int} {w9 t0 : Int64} (hg : jm_HC g) {mu : jm_M} {Q : Option Value → jm_M → Prop} (h : jm_R l g (d + 1) iJ13_bitCount_95d88 [.long t0] mu (jm_qi fun z2 m1 => ∀ x5, x5 = (v6 + z2) → jm_rg v7 ∧ (¬ v7 = (-1) → jm_V l g (d + 2) iX10_chordOf 82 [(0, .ref 38), (1, jm_i v1), (2, jm_i v2), (3, jm_i v3), (4, jm_i v4), (5, jm_i v5), (6, jm_i x5), (7, jm_i v7), (8, jm_i v8), (9, .long w9), (11, jm_i (v11 + 1))] [] m1 Q) ∧ (v7 = (-1) → ((Int32.toInt (lg_cmp t0 (0 : Int64))) = 0 → jm_V l g (d + 2) iX10_chordOf 82 [(0, .ref 38), (1, jm_i v1), (2, jm_i v2), (3, jm_i v3), (4, jm_i v4), (5, jm_i v5), (6, jm_i x5), (7, jm_i v7), (8, jm_i v8), (9, .long w9), (11, jm_i (v11 + 1))] [] m1 Q) ∧ (¬ (Int32.toInt (lg_cmp t0 (0 : Int64))) = 0 → jm_R l g (d + 1) iX10_lowestOf [.long t0] m1 (jm_qi fun z8 m7 => jm_R l g (d + 1) iX10_chosen [jm_i v5, jm_i v8, jm_i v11, jm_i z8] m7 (jm_qi fun z12 m11 => jm_V l g (d + 2) iX10_chordOf 82 [(0, .ref 38), (1, jm_i v1), (2, jm_i v2), (3, jm_i v3), (4, jm_i v4), (5, jm_i v5), (6, jm_i x5), (7, jm_i z12), (8, jm_i v8), (9, .long w9), (11, jm_i (v11 + 1))] [] m11 Q)))))) : jm_V l g (d + 2) iX10_chordOf 133 [(0, .ref 38), (1, jm_i v1), (2, jm_i v2), (3, jm_i v3), (4, jm_i v4), (5, jm_i v5), (6, jm_i v6), (7, jm_i v7), (8, jm_i v8), (9, .long w9), (11, jm_i v11)] [.long t0] mu Q := by
  refine jm_mrI (fun hm0 => ?_)
  refine jm_lstore (pc := 133) (lv' := [(12, _), (0, _), (1, _), (2, _), (3, _), (4, _), (5, _), (6, _), (7, _), (8, _), (9, _), (11, _)]) dX10_chordOf_133 (by decide) rfl ?_
  refine jm_iload (pc := 135) 7 dX10_chordOf_135 rfl ?_
  refine jm_lload (pc := 137) 0 dX10_chordOf_137 rfl ?_
  refine jm_callsi (pc := 139) (As := [_]) (st := [_]) iJ13_bitCount_95d88 dX10_chordOf_139 mX10_123 rfl rfl (Nat.le_of_ble_eq_true rfl) h (fun z2 m1 hz3 h hm4 => ?_)
  refine jm_iadd (pc := 142) dX10_chordOf_142 ?_
  have h := h _ rfl
  refine jm_istore (pc := 143) (lv' := [(6, _), (12, _), (0, _), (1, _), (2, _), (3, _), (4, _), (5, _), (7, _), (8, _), (9, _), (11, _)]) dX10_chordOf_143 (by decide) rfl ?_
  refine jm_iload (pc := 145) 8 dX10_chordOf_145 rfl ?_
  refine jm_iconst (pc := 147) dX10_chordOf_147 ?_
  have hg6 := h.1
  have h := h.2
  refine jm_icmp_ne (pc := 148) 174 dX10_chordOf_148 rfl hg6 ⟨by decide, by decide⟩ (fun q => ?_) (fun q => ?_)
  · have h := h.1 q
    refine jm_iinc (pc := 174) (lv' := [(11, _), (6, _), (12, _), (0, _), (1, _), (2, _), (3, _), (4, _), (5, _), (7, _), (8, _), (9, _)]) 11 dX10_chordOf_174 rfl (by decide) rfl ?_
    refine jm_goto (pc := 177) 82 dX10_chordOf_177 rfl ?_
    exact jm_sub [3, 4, 5, 6, 7, 8, 1, 9, 10, 11, 0] rfl h
  · have h := h.2 q
    refine jm_lload (pc := 151) 1 dX10_chordOf_151 rfl ?_
    refine jm_lconst (pc := 153) (v := 0) dX10_chordOf_153 rfl ?_
    refine jm_lcmp (pc := 154) dX10_chordOf_154 ?_
    refine jm_if_eq (pc := 155) 174 dX10_chordOf_155 rfl (jm_rgT _) (fun q => ?_) (fun q => ?_)
    · have h := h.1 q
      refine jm_iinc (pc := 174) (lv' := [(11, _), (6, _), (12, _), (0, _), (1, _), (2, _), (3, _), (4, _), (5, _), (7, _), (8, _), (9, _)]) 11 dX10_chordOf_174 rfl (by decide) rfl ?_
      refine jm_goto (pc := 177) 82 dX10_chordOf_177 rfl ?_
      exact jm_sub [3, 4, 5, 6, 7, 8, 1, 9, 10, 11, 0] rfl h
    · have h := h.2 q
      refine jm_iload (pc := 158) 7 dX10_chordOf_158 rfl ?_
      refine jm_iload (pc := 160) 9 dX10_chordOf_160 rfl ?_
      refine jm_iload (pc := 162) 11 dX10_chordOf_162 rfl ?_
      refine jm_lload (pc := 164) 1 dX10_chordOf_164 rfl ?_
      refine jm_callsi (pc := 166) (As := [_]) (st := [_, _, _]) iX10_lowestOf dX10_chordOf_166 mX10_129 rfl rfl (Nat.le_of_ble_eq_true rfl) h (fun z8 m7 hz9 h hm10 => ?_)
      refine jm_callsi (pc := 169) (As := [_, _, _, _]) (st := []) iX10_chosen dX10_chordOf_169 mX10_132 rfl rfl (Nat.le_of_ble_eq_true rfl) h (fun z12 m11 hz13 h hm14 => ?_)
      refine jm_istore (pc := 172) (lv' := [(7, _), (6, _), (12, _), (0, _), (1, _), (2, _), (3, _), (4, _), (5, _), (8, _), (9, _), (11, _)]) dX10_chordOf_172 (by decide) rfl ?_
      refine jm_iinc (pc := 174) (lv' := [(11, _), (7, _), (6, _), (12, _), (0, _), (1, _), (2, _), (3, _), (4, _), (5, _), (8, _), (9, _)]) 11 dX10_chordOf_174 rfl (by decide) rfl ?_
      refine jm_goto (pc := 177) 82 dX10_chordOf_177 rfl ?_
      exact jm_sub [4, 5, 6, 7, 8, 9, 2, 1, 10, 11, 0] rfl h
theorem bX10_chordOf_82 {l : Launch} {g : jm_G} {d : Nat} {v1 v2 v3 v4 v5 v6 v7 v8 v11 : Int} {w9 : Int64} (hg : jm_HC g) {mu : jm_M} {Q : Option Value → jm_M → Prop} (h : (0 ≤ v2 ∧ v2 < 8) ∧ jm_rg v11 ∧ ((mu.1 8 v2) < v11 → jm_V l g (d + 2) iX10_chordOf 21 [(0, .ref 38), (1, jm_i v1), (2, jm_i v2), (3, jm_i v3), (4, jm_i v4), (5, jm_i v5), (6, jm_i v6), (7, jm_i v7), (8, jm_i (v8 + 1))] [] mu Q) ∧ (v11 ≤ (mu.1 8 v2) → ((Int32.toInt (lg_cmp w9 (0 : Int64))) = 0 → jm_V l g (d + 2) iX10_chordOf 21 [(0, .ref 38), (1, jm_i v1), (2, jm_i v2), (3, jm_i v3), (4, jm_i v4), (5, jm_i v5), (6, jm_i v6), (7, jm_i v7), (8, jm_i (v8 + 1))] [] mu Q) ∧ (¬ (Int32.toInt (lg_cmp w9 (0 : Int64))) = 0 → (¬ (Int32.toInt (lg_cmp ((w9 >>> ((Int32.ofInt v11).toInt64 &&& 63)) &&& (1 : Int64)) (0 : Int64))) = 0 → (0 ≤ v11 ∧ v11 < 61) ∧ (0 ≤ v3 ∧ v3 < 8) ∧ jm_V l g (d + 2) iX10_chordOf 133 [(0, .ref 38), (1, jm_i v1), (2, jm_i v2), (3, jm_i v3), (4, jm_i v4), (5, jm_i v5), (6, jm_i v6), (7, jm_i v7), (8, jm_i v8), (9, .long w9), (11, jm_i v11)] [.long ((w9 &&& (mu.2 40 v11)) &&& (((1 : Int64) <<< ((Int32.ofInt ((mu.1 8 v3) + 1)).toInt64 &&& 63)) - ((1 : Int64) <<< ((Int32.ofInt (mu.1 7 v3)).toInt64 &&& 63))))] mu Q) ∧ (¬ (¬ (Int32.toInt (lg_cmp ((w9 >>> ((Int32.ofInt v11).toInt64 &&& 63)) &&& (1 : Int64)) (0 : Int64))) = 0) → jm_V l g (d + 2) iX10_chordOf 133 [(0, .ref 38), (1, jm_i v1), (2, jm_i v2), (3, jm_i v3), (4, jm_i v4), (5, jm_i v5), (6, jm_i v6), (7, jm_i v7), (8, jm_i v8), (9, .long w9), (11, jm_i v11)] [.long (0 : Int64)] mu Q)))) : jm_V l g (d + 2) iX10_chordOf 82 [(0, .ref 38), (1, jm_i v1), (2, jm_i v2), (3, jm_i v3), (4, jm_i v4), (5, jm_i v5), (6, jm_i v6), (7, jm_i v7), (8, jm_i v8), (9, .long w9), (11, jm_i v11)] [] mu Q := by
  refine jm_mrI (fun hm0 => ?_)
  refine jm_iload (pc := 82) 10 dX10_chordOf_82 rfl ?_
  refine jm_aload_n (pc := 84) 0 dX10_chordOf_84 rfl ?_
  refine jm_getr (pc := 85) 1 dX10_chordOf_85 fX10_29 (cC38 hg) rfl ?_
  refine jm_getr (pc := 88) 2 dX10_chordOf_88 fX10_112 (cC6 hg) rfl ?_
  refine jm_iload_n (pc := 91) 2 dX10_chordOf_91 rfl ?_
  have hg1 := h.1
  have h := h.2
  refine jm_iald (pc := 92) dX10_chordOf_92 (cC8 hg) (by decide) hg1.1 hg1.2 ?_
  have hg2 := h.1
  have h := h.2
  refine jm_icmp_gt (pc := 93) 180 dX10_chordOf_93 rfl hg2 (hm0 _ _) (fun q => ?_) (fun q => ?_)
  · have h := h.1 q
    refine jm_iinc (pc := 180) (lv' := [(8, _), (0, _), (1, _), (2, _), (3, _), (4, _), (5, _), (6, _), (7, _), (9, _), (11, _)]) 8 dX10_chordOf_180 rfl (by decide) rfl ?_
    refine jm_goto (pc := 183) 21 dX10_chordOf_183 rfl ?_
    exact jm_sub [1, 2, 3, 4, 5, 6, 7, 8, 0] rfl h
  · have h := h.2 q
    refine jm_lload (pc := 96) 9 dX10_chordOf_96 rfl ?_
    refine jm_lconst (pc := 98) (v := 0) dX10_chordOf_98 rfl ?_
    refine jm_lcmp (pc := 99) dX10_chordOf_99 ?_
    refine jm_if_eq (pc := 100) 180 dX10_chordOf_100 rfl (jm_rgT _) (fun q => ?_) (fun q => ?_)
    · have h := h.1 q
      refine jm_iinc (pc := 180) (lv' := [(8, _), (0, _), (1, _), (2, _), (3, _), (4, _), (5, _), (6, _), (7, _), (9, _), (11, _)]) 8 dX10_chordOf_180 rfl (by decide) rfl ?_
      refine jm_goto (pc := 183) 21 dX10_chordOf_183 rfl ?_
      exact jm_sub [1, 2, 3, 4, 5, 6, 7, 8, 0] rfl h
    · have h := h.2 q
      refine jm_lload (pc := 103) 9 dX10_chordOf_103 rfl ?_
      refine jm_iload (pc := 105) 10 dX10_chordOf_105 rfl ?_
      refine jm_inlsi (pc := 107) (As := [_, _]) (st := []) iX10_has dX10_chordOf_107 mX10_115 rfl rfl (Nat.le_of_ble_eq_true rfl) (pX10_has hg  (fun q => jm_kIi ?_) (fun q => jm_kIi ?_))
      · have h := h.1 q
        refine jm_if_eq (pc := 110) 132 dX10_chordOf_110 rfl ⟨by decide, by decide⟩ (fun q => absurd q (by decide)) (fun q => ?_)
        refine jm_lload (pc := 113) 9 dX10_chordOf_113 rfl ?_
        refine jm_aload_n (pc := 115) 0 dX10_chordOf_115 rfl ?_
        refine jm_getr (pc := 116) 4 dX10_chordOf_116 fX10_15 (cC38 hg) rfl ?_
        refine jm_iload (pc := 119) 10 dX10_chordOf_119 rfl ?_
        have hg3 := h.1
        have h := h.2
        refine jm_lald (pc := 121) dX10_chordOf_121 (cC40 hg) (by decide) hg3.1 hg3.2 ?_
        refine jm_land (pc := 122) dX10_chordOf_122 ?_
        refine jm_aload_n (pc := 123) 0 dX10_chordOf_123 rfl ?_
        refine jm_iload_n (pc := 124) 3 dX10_chordOf_124 rfl ?_
        have hg4 := h.1
        have h := h.2
        refine jm_inlvl (pc := 125) (As := [_]) (st := [_]) iX10_rangeOf dX10_chordOf_125 mX10_119 (cC38 hg) ⟨_, rfl, rfl⟩ rfl rfl (Nat.le_of_ble_eq_true rfl) (pX10_rangeOf hg hg4 (jm_kIi ?_))
        refine jm_land (pc := 128) dX10_chordOf_128 ?_
        refine jm_goto (pc := 129) 133 dX10_chordOf_129 rfl ?_
        exact jm_sub [0, 1, 2, 3, 4, 5, 6, 7, 8, 9, 10] rfl h
      · have h := h.2 q
        refine jm_if_eq (pc := 110) 132 dX10_chordOf_110 rfl ⟨by decide, by decide⟩ (fun q => ?_) (fun q => absurd q (by decide))
        refine jm_lconst (pc := 132) (v := 0) dX10_chordOf_132 rfl ?_
        exact jm_sub [0, 1, 2, 3, 4, 5, 6, 7, 8, 9, 10] rfl h
theorem bX10_chordOf_21 {l : Launch} {g : jm_G} {d : Nat} {v1 v2 v3 v4 v5 v6 v7 v8 : Int} (hg : jm_HC g) {mu : jm_M} {Q : Option Value → jm_M → Prop} (h : (0 ≤ v1 ∧ v1 < 8) ∧ jm_rg v8 ∧ ((mu.1 8 v1) < v8 → jm_rg v5 ∧ (¬ v5 = 0 → Q (some (jm_i v7)) mu) ∧ (v5 = 0 → Q (some (jm_i v6)) mu)) ∧ (v8 ≤ (mu.1 8 v1) → (0 ≤ v4 ∧ v4 < 61) ∧ (¬ (Int32.toInt (lg_cmp (((mu.2 40 v4) >>> ((Int32.ofInt v8).toInt64 &&& 63)) &&& (1 : Int64)) (0 : Int64))) = 0 → (0 ≤ v8 ∧ v8 < 61) ∧ ∀ x6, x6 = ((mu.2 40 v4) &&& (mu.2 40 v8)) → (0 ≤ v2 ∧ v2 < 8) ∧ ∀ x8, x8 = (mu.1 7 v2) → jm_V l g (d + 2) iX10_chordOf 82 [(0, .ref 38), (1, jm_i v1), (2, jm_i v2), (3, jm_i v3), (4, jm_i v4), (5, jm_i v5), (6, jm_i v6), (7, jm_i v7), (8, jm_i v8), (9, .long x6), (11, jm_i x8)] [] mu Q) ∧ (¬ (¬ (Int32.toInt (lg_cmp (((mu.2 40 v4) >>> ((Int32.ofInt v8).toInt64 &&& 63)) &&& (1 : Int64)) (0 : Int64))) = 0) → ∀ x9, x9 = (0 : Int64) → (0 ≤ v2 ∧ v2 < 8) ∧ ∀ x11, x11 = (mu.1 7 v2) → jm_V l g (d + 2) iX10_chordOf 82 [(0, .ref 38), (1, jm_i v1), (2, jm_i v2), (3, jm_i v3), (4, jm_i v4), (5, jm_i v5), (6, jm_i v6), (7, jm_i v7), (8, jm_i v8), (9, .long x9), (11, jm_i x11)] [] mu Q))) : jm_V l g (d + 2) iX10_chordOf 21 [(0, .ref 38), (1, jm_i v1), (2, jm_i v2), (3, jm_i v3), (4, jm_i v4), (5, jm_i v5), (6, jm_i v6), (7, jm_i v7), (8, jm_i v8)] [] mu Q := by
  refine jm_mrI (fun hm0 => ?_)
  refine jm_iload (pc := 21) 8 dX10_chordOf_21 rfl ?_
  refine jm_aload_n (pc := 23) 0 dX10_chordOf_23 rfl ?_
  refine jm_getr (pc := 24) 1 dX10_chordOf_24 fX10_29 (cC38 hg) rfl ?_
  refine jm_getr (pc := 27) 2 dX10_chordOf_27 fX10_112 (cC6 hg) rfl ?_
  refine jm_iload_n (pc := 30) 1 dX10_chordOf_30 rfl ?_
  have hg1 := h.1
  have h := h.2
  refine jm_iald (pc := 31) dX10_chordOf_31 (cC8 hg) (by decide) hg1.1 hg1.2 ?_
  have hg2 := h.1
  have h := h.2
  refine jm_icmp_gt (pc := 32) 186 dX10_chordOf_32 rfl hg2 (hm0 _ _) (fun q => ?_) (fun q => ?_)
  · have h := h.1 q
    refine jm_iload (pc := 186) 5 dX10_chordOf_186 rfl ?_
    have hg3 := h.1
    have h := h.2
    refine jm_if_ne (pc := 188) 196 dX10_chordOf_188 rfl hg3 (fun q => ?_) (fun q => ?_)
    · have h := h.1 q
      refine jm_iload (pc := 196) 7 dX10_chordOf_196 rfl ?_
      exact jm_iret (pc := 198) dX10_chordOf_198 rfl h
    · have h := h.2 q
      refine jm_iload (pc := 191) 6 dX10_chordOf_191 rfl ?_
      refine jm_goto (pc := 193) 198 dX10_chordOf_193 rfl ?_
      exact jm_iret (pc := 198) dX10_chordOf_198 rfl h
  · have h := h.2 q
    refine jm_aload_n (pc := 35) 0 dX10_chordOf_35 rfl ?_
    refine jm_getr (pc := 36) 4 dX10_chordOf_36 fX10_15 (cC38 hg) rfl ?_
    refine jm_iload (pc := 39) 4 dX10_chordOf_39 rfl ?_
    have hg4 := h.1
    have h := h.2
    refine jm_lald (pc := 41) dX10_chordOf_41 (cC40 hg) (by decide) hg4.1 hg4.2 ?_
    refine jm_iload (pc := 42) 8 dX10_chordOf_42 rfl ?_
    refine jm_inlsi (pc := 44) (As := [_, _]) (st := []) iX10_has dX10_chordOf_44 mX10_115 rfl rfl (Nat.le_of_ble_eq_true rfl) (pX10_has hg  (fun q => jm_kIi ?_) (fun q => jm_kIi ?_))
    · have h := h.1 q
      refine jm_if_eq (pc := 47) 68 dX10_chordOf_47 rfl ⟨by decide, by decide⟩ (fun q => absurd q (by decide)) (fun q => ?_)
      refine jm_aload_n (pc := 50) 0 dX10_chordOf_50 rfl ?_
      refine jm_getr (pc := 51) 4 dX10_chordOf_51 fX10_15 (cC38 hg) rfl ?_
      refine jm_iload (pc := 54) 4 dX10_chordOf_54 rfl ?_
      refine jm_lald (pc := 56) dX10_chordOf_56 (cC40 hg) (by decide) hg4.1 hg4.2 ?_
      refine jm_aload_n (pc := 57) 0 dX10_chordOf_57 rfl ?_
      refine jm_getr (pc := 58) 4 dX10_chordOf_58 fX10_15 (cC38 hg) rfl ?_
      refine jm_iload (pc := 61) 8 dX10_chordOf_61 rfl ?_
      have hg5 := h.1
      have h := h.2
      refine jm_lald (pc := 63) dX10_chordOf_63 (cC40 hg) (by decide) hg5.1 hg5.2 ?_
      refine jm_land (pc := 64) dX10_chordOf_64 ?_
      refine jm_goto (pc := 65) 69 dX10_chordOf_65 rfl ?_
      have h := h _ rfl
      refine jm_lstore (pc := 69) (lv' := [(9, _), (0, _), (1, _), (2, _), (3, _), (4, _), (5, _), (6, _), (7, _), (8, _)]) dX10_chordOf_69 (by decide) rfl ?_
      refine jm_aload_n (pc := 71) 1 dX10_chordOf_71 rfl ?_
      refine jm_getr (pc := 72) 1 dX10_chordOf_72 fX10_29 (cC38 hg) rfl ?_
      refine jm_getr (pc := 75) 1 dX10_chordOf_75 fX10_109 (cC6 hg) rfl ?_
      refine jm_iload_n (pc := 78) 3 dX10_chordOf_78 rfl ?_
      have hg7 := h.1
      have h := h.2
      refine jm_iald (pc := 79) dX10_chordOf_79 (cC7 hg) (by decide) hg7.1 hg7.2 ?_
      have h := h _ rfl
      refine jm_istore (pc := 80) (lv' := [(11, _), (9, _), (0, _), (1, _), (2, _), (3, _), (4, _), (5, _), (6, _), (7, _), (8, _)]) dX10_chordOf_80 (by decide) rfl ?_
      exact jm_sub [2, 3, 4, 5, 6, 7, 8, 9, 10, 1, 0] rfl h
    · have h := h.2 q
      refine jm_if_eq (pc := 47) 68 dX10_chordOf_47 rfl ⟨by decide, by decide⟩ (fun q => ?_) (fun q => absurd q (by decide))
      refine jm_lconst (pc := 68) (v := 0) dX10_chordOf_68 rfl ?_
      have h := h _ rfl
      refine jm_lstore (pc := 69) (lv' := [(9, _), (0, _), (1, _), (2, _), (3, _), (4, _), (5, _), (6, _), (7, _), (8, _)]) dX10_chordOf_69 (by decide) rfl ?_
      refine jm_aload_n (pc := 71) 1 dX10_chordOf_71 rfl ?_
      refine jm_getr (pc := 72) 1 dX10_chordOf_72 fX10_29 (cC38 hg) rfl ?_
      refine jm_getr (pc := 75) 1 dX10_chordOf_75 fX10_109 (cC6 hg) rfl ?_
      refine jm_iload_n (pc := 78) 3 dX10_chordOf_78 rfl ?_
      have hg10 := h.1
      have h := h.2
      refine jm_iald (pc := 79) dX10_chordOf_79 (cC7 hg) (by decide) hg10.1 hg10.2 ?_
      have h := h _ rfl
      refine jm_istore (pc := 80) (lv' := [(11, _), (9, _), (0, _), (1, _), (2, _), (3, _), (4, _), (5, _), (6, _), (7, _), (8, _)]) dX10_chordOf_80 (by decide) rfl ?_
      exact jm_sub [2, 3, 4, 5, 6, 7, 8, 9, 10, 1, 0] rfl h
theorem eX10_chordOf {l : Launch} {g : jm_G} {d : Nat} {v1 v2 v3 v4 v5 : Int} (hg : jm_HC g) {mu : jm_M} {Q : Option Value → jm_M → Prop} (h : jm_R l g (d + 1) iX10_tellSounds [.ref 38] mu (jm_qv fun m1 => (0 ≤ v1 ∧ v1 < 8) ∧ ∀ x6, x6 = (m1.1 7 v1) → jm_V l g (d + 2) iX10_chordOf 21 [(0, .ref 38), (1, jm_i v1), (2, jm_i v2), (3, jm_i v3), (4, jm_i v4), (5, jm_i v5), (6, jm_i 0), (7, jm_i (-1)), (8, jm_i x6)] [] m1 Q)) : jm_R l g (d + 2) iX10_chordOf [.ref 38, jm_i v1, jm_i v2, jm_i v3, jm_i v4, jm_i v5] mu Q := by
  refine jm_enter [(0, .ref 38), (1, jm_i v1), (2, jm_i v2), (3, jm_i v3), (4, jm_i v4), (5, jm_i v5)] (by decide) (Nat.le_of_ble_eq_true rfl) rfl ?_
  refine jm_mrI (fun hm0 => ?_)
  refine jm_aload_n (pc := 0) 0 dX10_chordOf_0 rfl ?_
  refine jm_callvv (pc := 1) (As := []) (st := []) iX10_tellSounds dX10_chordOf_1 mX10_106 (cC38 hg) ⟨_, rfl, rfl⟩ rfl rfl (Nat.le_of_ble_eq_true rfl) h (fun m1 h hm4 => ?_)
  refine jm_iconst (pc := 4) dX10_chordOf_4 ?_
  refine jm_istore (pc := 5) (lv' := [(6, _), (0, _), (1, _), (2, _), (3, _), (4, _), (5, _)]) dX10_chordOf_5 (by decide) rfl ?_
  refine jm_iconst (pc := 7) dX10_chordOf_7 ?_
  refine jm_istore (pc := 8) (lv' := [(7, _), (6, _), (0, _), (1, _), (2, _), (3, _), (4, _), (5, _)]) dX10_chordOf_8 (by decide) rfl ?_
  refine jm_aload_n (pc := 10) 2 dX10_chordOf_10 rfl ?_
  refine jm_getr (pc := 11) 1 dX10_chordOf_11 fX10_29 (cC38 hg) rfl ?_
  refine jm_getr (pc := 14) 1 dX10_chordOf_14 fX10_109 (cC6 hg) rfl ?_
  refine jm_iload_n (pc := 17) 3 dX10_chordOf_17 rfl ?_
  have hg5 := h.1
  have h := h.2
  refine jm_iald (pc := 18) dX10_chordOf_18 (cC7 hg) (by decide) hg5.1 hg5.2 ?_
  have h := h _ rfl
  refine jm_istore (pc := 19) (lv' := [(8, _), (7, _), (6, _), (0, _), (1, _), (2, _), (3, _), (4, _), (5, _)]) dX10_chordOf_19 (by decide) rfl ?_
  exact jm_sub [3, 4, 5, 6, 7, 8, 2, 1, 0] rfl h
theorem dX11_chord_0 : decode cX11_chord 0 = .ok (.aload_n 0, 1) := by decide +kernel
theorem dX11_chord_1 : decode cX11_chord 1 = .ok (.getfield 19, 3) := by decide +kernel
theorem dX11_chord_4 : decode cX11_chord 4 = .ok (.iload_n 1, 1) := by decide +kernel
theorem dX11_chord_5 : decode cX11_chord 5 = .ok (.invokevirtual 141, 3) := by decide +kernel
theorem dX11_chord_8 : decode cX11_chord 8 = .ok (.ifCond .eq 37, 3) := by decide +kernel
theorem dX11_chord_11 : decode cX11_chord 11 = .ok (.aload_n 0, 1) := by decide +kernel
theorem dX11_chord_12 : decode cX11_chord 12 = .ok (.getfield 19, 3) := by decide +kernel
theorem dX11_chord_15 : decode cX11_chord 15 = .ok (.iload_n 2, 1) := by decide +kernel
theorem dX11_chord_16 : decode cX11_chord 16 = .ok (.invokevirtual 141, 3) := by decide +kernel
theorem dX11_chord_19 : decode cX11_chord 19 = .ok (.ifCond .eq 26, 3) := by decide +kernel
theorem dX11_chord_22 : decode cX11_chord 22 = .ok (.aload_n 0, 1) := by decide +kernel
theorem dX11_chord_23 : decode cX11_chord 23 = .ok (.getfield 19, 3) := by decide +kernel
theorem dX11_chord_26 : decode cX11_chord 26 = .ok (.iload_n 3, 1) := by decide +kernel
theorem dX11_chord_27 : decode cX11_chord 27 = .ok (.invokevirtual 141, 3) := by decide +kernel
theorem dX11_chord_30 : decode cX11_chord 30 = .ok (.ifCond .eq 15, 3) := by decide +kernel
theorem dX11_chord_33 : decode cX11_chord 33 = .ok (.aload_n 0, 1) := by decide +kernel
theorem dX11_chord_34 : decode cX11_chord 34 = .ok (.getfield 19, 3) := by decide +kernel
theorem dX11_chord_37 : decode cX11_chord 37 = .ok (.iload 4, 2) := by decide +kernel
theorem dX11_chord_39 : decode cX11_chord 39 = .ok (.invokevirtual 141, 3) := by decide +kernel
theorem dX11_chord_42 : decode cX11_chord 42 = .ok (.ifCond .ne 5, 3) := by decide +kernel
theorem dX11_chord_45 : decode cX11_chord 45 = .ok (.iconst (-1), 1) := by decide +kernel
theorem dX11_chord_46 : decode cX11_chord 46 = .ok (.ireturn, 1) := by decide +kernel
theorem dX11_chord_47 : decode cX11_chord 47 = .ok (.iload_n 1, 1) := by decide +kernel
theorem dX11_chord_48 : decode cX11_chord 48 = .ok (.iload_n 2, 1) := by decide +kernel
theorem dX11_chord_49 : decode cX11_chord 49 = .ok (.if_icmp .eq 31, 3) := by decide +kernel
theorem dX11_chord_52 : decode cX11_chord 52 = .ok (.iload_n 1, 1) := by decide +kernel
theorem dX11_chord_53 : decode cX11_chord 53 = .ok (.iload_n 3, 1) := by decide +kernel
theorem dX11_chord_54 : decode cX11_chord 54 = .ok (.if_icmp .eq 26, 3) := by decide +kernel
theorem dX11_chord_57 : decode cX11_chord 57 = .ok (.iload_n 1, 1) := by decide +kernel
theorem dX11_chord_58 : decode cX11_chord 58 = .ok (.iload 4, 2) := by decide +kernel
theorem dX11_chord_60 : decode cX11_chord 60 = .ok (.if_icmp .eq 20, 3) := by decide +kernel
theorem dX11_chord_63 : decode cX11_chord 63 = .ok (.iload_n 2, 1) := by decide +kernel
theorem dX11_chord_64 : decode cX11_chord 64 = .ok (.iload_n 3, 1) := by decide +kernel
theorem dX11_chord_65 : decode cX11_chord 65 = .ok (.if_icmp .eq 15, 3) := by decide +kernel
theorem dX11_chord_68 : decode cX11_chord 68 = .ok (.iload_n 2, 1) := by decide +kernel
theorem dX11_chord_69 : decode cX11_chord 69 = .ok (.iload 4, 2) := by decide +kernel
theorem dX11_chord_71 : decode cX11_chord 71 = .ok (.if_icmp .eq 9, 3) := by decide +kernel
theorem dX11_chord_74 : decode cX11_chord 74 = .ok (.iload_n 3, 1) := by decide +kernel
theorem dX11_chord_75 : decode cX11_chord 75 = .ok (.iload 4, 2) := by decide +kernel
theorem dX11_chord_77 : decode cX11_chord 77 = .ok (.if_icmp .ne 7, 3) := by decide +kernel
theorem dX11_chord_80 : decode cX11_chord 80 = .ok (.iconst 1, 1) := by decide +kernel
theorem dX11_chord_81 : decode cX11_chord 81 = .ok (.goto 4, 3) := by decide +kernel
theorem dX11_chord_84 : decode cX11_chord 84 = .ok (.iconst 0, 1) := by decide +kernel
theorem dX11_chord_85 : decode cX11_chord 85 = .ok (.istore 7, 2) := by decide +kernel
theorem dX11_chord_87 : decode cX11_chord 87 = .ok (.iload 7, 2) := by decide +kernel
theorem dX11_chord_89 : decode cX11_chord 89 = .ok (.ifCond .ne 39, 3) := by decide +kernel
theorem dX11_chord_92 : decode cX11_chord 92 = .ok (.iload 5, 2) := by decide +kernel
theorem dX11_chord_94 : decode cX11_chord 94 = .ok (.aload_n 0, 1) := by decide +kernel
theorem dX11_chord_95 : decode cX11_chord 95 = .ok (.getfield 19, 3) := by decide +kernel
theorem dX11_chord_98 : decode cX11_chord 98 = .ok (.getfield 245, 3) := by decide +kernel
theorem dX11_chord_101 : decode cX11_chord 101 = .ok (.iload_n 1, 1) := by decide +kernel
theorem dX11_chord_102 : decode cX11_chord 102 = .ok (.iaload, 1) := by decide +kernel
theorem dX11_chord_103 : decode cX11_chord 103 = .ok (.aload_n 0, 1) := by decide +kernel
theorem dX11_chord_104 : decode cX11_chord 104 = .ok (.getfield 19, 3) := by decide +kernel
theorem dX11_chord_107 : decode cX11_chord 107 = .ok (.getfield 248, 3) := by decide +kernel
theorem dX11_chord_110 : decode cX11_chord 110 = .ok (.iload_n 1, 1) := by decide +kernel
theorem dX11_chord_111 : decode cX11_chord 111 = .ok (.iaload, 1) := by decide +kernel
theorem dX11_chord_112 : decode cX11_chord 112 = .ok (.invokestatic 123, 3) := by decide +kernel
theorem dX11_chord_115 : decode cX11_chord 115 = .ok (.ifCond .eq 13, 3) := by decide +kernel
theorem dX11_chord_118 : decode cX11_chord 118 = .ok (.iload 6, 2) := by decide +kernel
theorem dX11_chord_120 : decode cX11_chord 120 = .ok (.iconst 0, 1) := by decide +kernel
theorem dX11_chord_121 : decode cX11_chord 121 = .ok (.iconst 3, 1) := by decide +kernel
theorem dX11_chord_122 : decode cX11_chord 122 = .ok (.invokestatic 123, 3) := by decide +kernel
theorem dX11_chord_125 : decode cX11_chord 125 = .ok (.ifCond .ne 5, 3) := by decide +kernel
theorem dX11_chord_128 : decode cX11_chord 128 = .ok (.iconst (-1), 1) := by decide +kernel
theorem dX11_chord_129 : decode cX11_chord 129 = .ok (.ireturn, 1) := by decide +kernel
theorem dX11_chord_130 : decode cX11_chord 130 = .ok (.aload_n 0, 1) := by decide +kernel
theorem dX11_chord_131 : decode cX11_chord 131 = .ok (.getfield 51, 3) := by decide +kernel
theorem dX11_chord_134 : decode cX11_chord 134 = .ok (.iload_n 2, 1) := by decide +kernel
theorem dX11_chord_135 : decode cX11_chord 135 = .ok (.iload_n 3, 1) := by decide +kernel
theorem dX11_chord_136 : decode cX11_chord 136 = .ok (.iload 4, 2) := by decide +kernel
theorem dX11_chord_138 : decode cX11_chord 138 = .ok (.iload 5, 2) := by decide +kernel
theorem dX11_chord_140 : decode cX11_chord 140 = .ok (.iload 6, 2) := by decide +kernel
theorem dX11_chord_142 : decode cX11_chord 142 = .ok (.invokevirtual 344, 3) := by decide +kernel
theorem dX11_chord_145 : decode cX11_chord 145 = .ok (.ireturn, 1) := by decide +kernel
theorem bX11_chord_85 {l : Launch} {g : jm_G} {d : Nat} {v1 v2 v3 v4 v5 v6 s0 : Int} (hg : jm_HC g) {mu : jm_M} {Q : Option Value → jm_M → Prop} (h : jm_rg s0 ∧ (¬ s0 = 0 → Q (some (jm_i (-1))) mu) ∧ (s0 = 0 → (0 ≤ v1 ∧ v1 < 8) ∧ jm_rg v5 ∧ ((mu.1 7 v1) ≤ v5 ∧ v5 ≤ (mu.1 8 v1) → jm_rg v6 ∧ (0 ≤ v6 ∧ v6 ≤ 3 → jm_R l g (d + 1) iX10_chordOf [.ref 38, jm_i v2, jm_i v3, jm_i v4, jm_i v5, jm_i v6] mu (jm_qi fun z6 m5 => Q (some (jm_i z6)) m5)) ∧ (¬ (0 ≤ v6 ∧ v6 ≤ 3) → Q (some (jm_i (-1))) mu)) ∧ (¬ ((mu.1 7 v1) ≤ v5 ∧ v5 ≤ (mu.1 8 v1)) → Q (some (jm_i (-1))) mu))) : jm_V l g (d + 2) iX11_chord 85 [(0, .ref 0), (1, jm_i v1), (2, jm_i v2), (3, jm_i v3), (4, jm_i v4), (5, jm_i v5), (6, jm_i v6)] [jm_i s0] mu Q := by
  refine jm_mrI (fun hm0 => ?_)
  refine jm_istore (pc := 85) (lv' := [(7, _), (0, _), (1, _), (2, _), (3, _), (4, _), (5, _), (6, _)]) dX11_chord_85 (by decide) rfl ?_
  refine jm_iload (pc := 87) 0 dX11_chord_87 rfl ?_
  have hg1 := h.1
  have h := h.2
  refine jm_if_ne (pc := 89) 128 dX11_chord_89 rfl hg1 (fun q => ?_) (fun q => ?_)
  · have h := h.1 q
    refine jm_iconst (pc := 128) dX11_chord_128 ?_
    exact jm_iret (pc := 129) dX11_chord_129 rfl h
  · have h := h.2 q
    refine jm_iload (pc := 92) 6 dX11_chord_92 rfl ?_
    refine jm_aload_n (pc := 94) 1 dX11_chord_94 rfl ?_
    refine jm_getr (pc := 95) 1 dX11_chord_95 fX11_19 (cC0 hg) rfl ?_
    refine jm_getr (pc := 98) 1 dX11_chord_98 fX11_245 (cC6 hg) rfl ?_
    refine jm_iload_n (pc := 101) 2 dX11_chord_101 rfl ?_
    have hg2 := h.1
    have h := h.2
    refine jm_iald (pc := 102) dX11_chord_102 (cC7 hg) (by decide) hg2.1 hg2.2 ?_
    refine jm_aload_n (pc := 103) 1 dX11_chord_103 rfl ?_
    refine jm_getr (pc := 104) 1 dX11_chord_104 fX11_19 (cC0 hg) rfl ?_
    refine jm_getr (pc := 107) 2 dX11_chord_107 fX11_248 (cC6 hg) rfl ?_
    refine jm_iload_n (pc := 110) 2 dX11_chord_110 rfl ?_
    refine jm_iald (pc := 111) dX11_chord_111 (cC8 hg) (by decide) hg2.1 hg2.2 ?_
    have hg3 := h.1
    have h := h.2
    refine jm_inlsi (pc := 112) (As := [_, _, _]) (st := []) iX11_isWithin dX11_chord_112 mX11_123 rfl rfl (Nat.le_of_ble_eq_true rfl) (pX11_isWithin hg hg3 (hm0 _ _) (hm0 _ _) (fun q => jm_kIi ?_) (fun q => jm_kIi ?_))
    · have h := h.1 q
      refine jm_if_eq (pc := 115) 128 dX11_chord_115 rfl ⟨by decide, by decide⟩ (fun q => absurd q (by decide)) (fun q => ?_)
      refine jm_iload (pc := 118) 7 dX11_chord_118 rfl ?_
      refine jm_iconst (pc := 120) dX11_chord_120 ?_
      refine jm_iconst (pc := 121) dX11_chord_121 ?_
      have hg4 := h.1
      have h := h.2
      refine jm_inlsi (pc := 122) (As := [_, _, _]) (st := []) iX11_isWithin dX11_chord_122 mX11_123 rfl rfl (Nat.le_of_ble_eq_true rfl) (pX11_isWithin hg hg4 ⟨by decide, by decide⟩ ⟨by decide, by decide⟩ (fun q => jm_kIi ?_) (fun q => jm_kIi ?_))
      · have h := h.1 q
        refine jm_if_ne (pc := 125) 130 dX11_chord_125 rfl ⟨by decide, by decide⟩ (fun q => ?_) (fun q => absurd q (by decide))
        refine jm_aload_n (pc := 130) 1 dX11_chord_130 rfl ?_
        refine jm_getr (pc := 131) 5 dX11_chord_131 fX11_51 (cC0 hg) rfl ?_
        refine jm_iload_n (pc := 134) 3 dX11_chord_134 rfl ?_
        refine jm_iload_n (pc := 135) 4 dX11_chord_135 rfl ?_
        refine jm_iload (pc := 136) 5 dX11_chord_136 rfl ?_
        refine jm_iload (pc := 138) 6 dX11_chord_138 rfl ?_
        refine jm_iload (pc := 140) 7 dX11_chord_140 rfl ?_
        refine jm_callvi (pc := 142) (As := [_, _, _, _, _]) (st := []) iX10_chordOf dX11_chord_142 mX11_344 (cC38 hg) ⟨_, rfl, rfl⟩ rfl rfl (Nat.le_of_ble_eq_true rfl) h (fun z6 m5 hz7 h hm8 => ?_)
        exact jm_iret (pc := 145) dX11_chord_145 rfl h
      · have h := h.2 q
        refine jm_if_ne (pc := 125) 130 dX11_chord_125 rfl ⟨by decide, by decide⟩ (fun q => absurd q (by decide)) (fun q => ?_)
        refine jm_iconst (pc := 128) dX11_chord_128 ?_
        exact jm_iret (pc := 129) dX11_chord_129 rfl h
    · have h := h.2 q
      refine jm_if_eq (pc := 115) 128 dX11_chord_115 rfl ⟨by decide, by decide⟩ (fun q => ?_) (fun q => absurd q (by decide))
      refine jm_iconst (pc := 128) dX11_chord_128 ?_
      exact jm_iret (pc := 129) dX11_chord_129 rfl h
theorem eX11_chord {l : Launch} {g : jm_G} {d : Nat} {v1 v2 v3 v4 v5 v6 : Int} (hg : jm_HC g) {mu : jm_M} {Q : Option Value → jm_M → Prop} (h : jm_rg v1 ∧ (0 ≤ v1 ∧ v1 < (mu.1 6 0) → jm_rg v2 ∧ (0 ≤ v2 ∧ v2 < (mu.1 6 0) → jm_rg v3 ∧ (0 ≤ v3 ∧ v3 < (mu.1 6 0) → jm_rg v4 ∧ (0 ≤ v4 ∧ v4 < (mu.1 6 0) → (v1 = v2 → jm_V l g (d + 2) iX11_chord 85 [(0, .ref 0), (1, jm_i v1), (2, jm_i v2), (3, jm_i v3), (4, jm_i v4), (5, jm_i v5), (6, jm_i v6)] [jm_i 1] mu Q) ∧ (¬ v1 = v2 → (v1 = v3 → jm_V l g (d + 2) iX11_chord 85 [(0, .ref 0), (1, jm_i v1), (2, jm_i v2), (3, jm_i v3), (4, jm_i v4), (5, jm_i v5), (6, jm_i v6)] [jm_i 1] mu Q) ∧ (¬ v1 = v3 → (v1 = v4 → jm_V l g (d + 2) iX11_chord 85 [(0, .ref 0), (1, jm_i v1), (2, jm_i v2), (3, jm_i v3), (4, jm_i v4), (5, jm_i v5), (6, jm_i v6)] [jm_i 1] mu Q) ∧ (¬ v1 = v4 → (v2 = v3 → jm_V l g (d + 2) iX11_chord 85 [(0, .ref 0), (1, jm_i v1), (2, jm_i v2), (3, jm_i v3), (4, jm_i v4), (5, jm_i v5), (6, jm_i v6)] [jm_i 1] mu Q) ∧ (¬ v2 = v3 → (v2 = v4 → jm_V l g (d + 2) iX11_chord 85 [(0, .ref 0), (1, jm_i v1), (2, jm_i v2), (3, jm_i v3), (4, jm_i v4), (5, jm_i v5), (6, jm_i v6)] [jm_i 1] mu Q) ∧ (¬ v2 = v4 → (¬ v3 = v4 → jm_V l g (d + 2) iX11_chord 85 [(0, .ref 0), (1, jm_i v1), (2, jm_i v2), (3, jm_i v3), (4, jm_i v4), (5, jm_i v5), (6, jm_i v6)] [jm_i 0] mu Q) ∧ (v3 = v4 → jm_V l g (d + 2) iX11_chord 85 [(0, .ref 0), (1, jm_i v1), (2, jm_i v2), (3, jm_i v3), (4, jm_i v4), (5, jm_i v5), (6, jm_i v6)] [jm_i 1] mu Q))))))) ∧ (¬ (0 ≤ v4 ∧ v4 < (mu.1 6 0)) → Q (some (jm_i (-1))) mu)) ∧ (¬ (0 ≤ v3 ∧ v3 < (mu.1 6 0)) → Q (some (jm_i (-1))) mu)) ∧ (¬ (0 ≤ v2 ∧ v2 < (mu.1 6 0)) → Q (some (jm_i (-1))) mu)) ∧ (¬ (0 ≤ v1 ∧ v1 < (mu.1 6 0)) → Q (some (jm_i (-1))) mu)) : jm_R l g (d + 2) iX11_chord [.ref 0, jm_i v1, jm_i v2, jm_i v3, jm_i v4, jm_i v5, jm_i v6] mu Q := by
  refine jm_enter [(0, .ref 0), (1, jm_i v1), (2, jm_i v2), (3, jm_i v3), (4, jm_i v4), (5, jm_i v5), (6, jm_i v6)] (by decide) (Nat.le_of_ble_eq_true rfl) rfl ?_
  refine jm_mrI (fun hm0 => ?_)
  refine jm_aload_n (pc := 0) 0 dX11_chord_0 rfl ?_
  refine jm_getr (pc := 1) 1 dX11_chord_1 fX11_19 (cC0 hg) rfl ?_
  refine jm_iload_n (pc := 4) 1 dX11_chord_4 rfl ?_
  have hg1 := h.1
  have h := h.2
  refine jm_inlvi (pc := 5) (As := [_]) (st := []) iX8_isWitness dX11_chord_5 mX11_141 (cC6 hg) ⟨_, rfl, rfl⟩ rfl rfl (Nat.le_of_ble_eq_true rfl) (pX8_isWitness hg hg1 (fun q => jm_kIi ?_) (fun q => jm_kIi ?_))
  · have h := h.1 q
    refine jm_if_eq (pc := 8) 45 dX11_chord_8 rfl ⟨by decide, by decide⟩ (fun q => absurd q (by decide)) (fun q => ?_)
    refine jm_aload_n (pc := 11) 0 dX11_chord_11 rfl ?_
    refine jm_getr (pc := 12) 1 dX11_chord_12 fX11_19 (cC0 hg) rfl ?_
    refine jm_iload_n (pc := 15) 2 dX11_chord_15 rfl ?_
    have hg2 := h.1
    have h := h.2
    refine jm_inlvi (pc := 16) (As := [_]) (st := []) iX8_isWitness dX11_chord_16 mX11_141 (cC6 hg) ⟨_, rfl, rfl⟩ rfl rfl (Nat.le_of_ble_eq_true rfl) (pX8_isWitness hg hg2 (fun q => jm_kIi ?_) (fun q => jm_kIi ?_))
    · have h := h.1 q
      refine jm_if_eq (pc := 19) 45 dX11_chord_19 rfl ⟨by decide, by decide⟩ (fun q => absurd q (by decide)) (fun q => ?_)
      refine jm_aload_n (pc := 22) 0 dX11_chord_22 rfl ?_
      refine jm_getr (pc := 23) 1 dX11_chord_23 fX11_19 (cC0 hg) rfl ?_
      refine jm_iload_n (pc := 26) 3 dX11_chord_26 rfl ?_
      have hg3 := h.1
      have h := h.2
      refine jm_inlvi (pc := 27) (As := [_]) (st := []) iX8_isWitness dX11_chord_27 mX11_141 (cC6 hg) ⟨_, rfl, rfl⟩ rfl rfl (Nat.le_of_ble_eq_true rfl) (pX8_isWitness hg hg3 (fun q => jm_kIi ?_) (fun q => jm_kIi ?_))
      · have h := h.1 q
        refine jm_if_eq (pc := 30) 45 dX11_chord_30 rfl ⟨by decide, by decide⟩ (fun q => absurd q (by decide)) (fun q => ?_)
        refine jm_aload_n (pc := 33) 0 dX11_chord_33 rfl ?_
        refine jm_getr (pc := 34) 1 dX11_chord_34 fX11_19 (cC0 hg) rfl ?_
        refine jm_iload (pc := 37) 4 dX11_chord_37 rfl ?_
        have hg4 := h.1
        have h := h.2
        refine jm_inlvi (pc := 39) (As := [_]) (st := []) iX8_isWitness dX11_chord_39 mX11_141 (cC6 hg) ⟨_, rfl, rfl⟩ rfl rfl (Nat.le_of_ble_eq_true rfl) (pX8_isWitness hg hg4 (fun q => jm_kIi ?_) (fun q => jm_kIi ?_))
        · have h := h.1 q
          refine jm_if_ne (pc := 42) 47 dX11_chord_42 rfl ⟨by decide, by decide⟩ (fun q => ?_) (fun q => absurd q (by decide))
          refine jm_iload_n (pc := 47) 1 dX11_chord_47 rfl ?_
          refine jm_iload_n (pc := 48) 2 dX11_chord_48 rfl ?_
          refine jm_icmp_eq (pc := 49) 80 dX11_chord_49 rfl hg1 hg2 (fun q => ?_) (fun q => ?_)
          · have h := h.1 q
            refine jm_iconst (pc := 80) dX11_chord_80 ?_
            refine jm_goto (pc := 81) 85 dX11_chord_81 rfl ?_
            exact jm_sub [0, 1, 2, 3, 4, 5, 6] rfl h
          · have h := h.2 q
            refine jm_iload_n (pc := 52) 1 dX11_chord_52 rfl ?_
            refine jm_iload_n (pc := 53) 3 dX11_chord_53 rfl ?_
            refine jm_icmp_eq (pc := 54) 80 dX11_chord_54 rfl hg1 hg3 (fun q => ?_) (fun q => ?_)
            · have h := h.1 q
              refine jm_iconst (pc := 80) dX11_chord_80 ?_
              refine jm_goto (pc := 81) 85 dX11_chord_81 rfl ?_
              exact jm_sub [0, 1, 2, 3, 4, 5, 6] rfl h
            · have h := h.2 q
              refine jm_iload_n (pc := 57) 1 dX11_chord_57 rfl ?_
              refine jm_iload (pc := 58) 4 dX11_chord_58 rfl ?_
              refine jm_icmp_eq (pc := 60) 80 dX11_chord_60 rfl hg1 hg4 (fun q => ?_) (fun q => ?_)
              · have h := h.1 q
                refine jm_iconst (pc := 80) dX11_chord_80 ?_
                refine jm_goto (pc := 81) 85 dX11_chord_81 rfl ?_
                exact jm_sub [0, 1, 2, 3, 4, 5, 6] rfl h
              · have h := h.2 q
                refine jm_iload_n (pc := 63) 2 dX11_chord_63 rfl ?_
                refine jm_iload_n (pc := 64) 3 dX11_chord_64 rfl ?_
                refine jm_icmp_eq (pc := 65) 80 dX11_chord_65 rfl hg2 hg3 (fun q => ?_) (fun q => ?_)
                · have h := h.1 q
                  refine jm_iconst (pc := 80) dX11_chord_80 ?_
                  refine jm_goto (pc := 81) 85 dX11_chord_81 rfl ?_
                  exact jm_sub [0, 1, 2, 3, 4, 5, 6] rfl h
                · have h := h.2 q
                  refine jm_iload_n (pc := 68) 2 dX11_chord_68 rfl ?_
                  refine jm_iload (pc := 69) 4 dX11_chord_69 rfl ?_
                  refine jm_icmp_eq (pc := 71) 80 dX11_chord_71 rfl hg2 hg4 (fun q => ?_) (fun q => ?_)
                  · have h := h.1 q
                    refine jm_iconst (pc := 80) dX11_chord_80 ?_
                    refine jm_goto (pc := 81) 85 dX11_chord_81 rfl ?_
                    exact jm_sub [0, 1, 2, 3, 4, 5, 6] rfl h
                  · have h := h.2 q
                    refine jm_iload_n (pc := 74) 3 dX11_chord_74 rfl ?_
                    refine jm_iload (pc := 75) 4 dX11_chord_75 rfl ?_
                    refine jm_icmp_ne (pc := 77) 84 dX11_chord_77 rfl hg3 hg4 (fun q => ?_) (fun q => ?_)
                    · have h := h.1 q
                      refine jm_iconst (pc := 84) dX11_chord_84 ?_
                      exact jm_sub [0, 1, 2, 3, 4, 5, 6] rfl h
                    · have h := h.2 q
                      refine jm_iconst (pc := 80) dX11_chord_80 ?_
                      refine jm_goto (pc := 81) 85 dX11_chord_81 rfl ?_
                      exact jm_sub [0, 1, 2, 3, 4, 5, 6] rfl h
        · have h := h.2 q
          refine jm_if_ne (pc := 42) 47 dX11_chord_42 rfl ⟨by decide, by decide⟩ (fun q => absurd q (by decide)) (fun q => ?_)
          refine jm_iconst (pc := 45) dX11_chord_45 ?_
          exact jm_iret (pc := 46) dX11_chord_46 rfl h
      · have h := h.2 q
        refine jm_if_eq (pc := 30) 45 dX11_chord_30 rfl ⟨by decide, by decide⟩ (fun q => ?_) (fun q => absurd q (by decide))
        refine jm_iconst (pc := 45) dX11_chord_45 ?_
        exact jm_iret (pc := 46) dX11_chord_46 rfl h
    · have h := h.2 q
      refine jm_if_eq (pc := 19) 45 dX11_chord_19 rfl ⟨by decide, by decide⟩ (fun q => ?_) (fun q => absurd q (by decide))
      refine jm_iconst (pc := 45) dX11_chord_45 ?_
      exact jm_iret (pc := 46) dX11_chord_46 rfl h
  · have h := h.2 q
    refine jm_if_eq (pc := 8) 45 dX11_chord_8 rfl ⟨by decide, by decide⟩ (fun q => ?_) (fun q => absurd q (by decide))
    refine jm_iconst (pc := 45) dX11_chord_45 ?_
    exact jm_iret (pc := 46) dX11_chord_46 rfl h
theorem dX11_undo_0 : decode cX11_undo 0 = .ok (.aload_n 0, 1) := by decide +kernel
theorem dX11_undo_1 : decode cX11_undo 1 = .ok (.getfield 106, 3) := by decide +kernel
theorem dX11_undo_4 : decode cX11_undo 4 = .ok (.ifCond .ne 5, 3) := by decide +kernel
theorem dX11_undo_7 : decode cX11_undo 7 = .ok (.iconst 0, 1) := by decide +kernel
theorem dX11_undo_8 : decode cX11_undo 8 = .ok (.ireturn, 1) := by decide +kernel
theorem dX11_undo_9 : decode cX11_undo 9 = .ok (.aload_n 0, 1) := by decide +kernel
theorem dX11_undo_10 : decode cX11_undo 10 = .ok (.aload_n 0, 1) := by decide +kernel
theorem dX11_undo_11 : decode cX11_undo 11 = .ok (.getfield 110, 3) := by decide +kernel
theorem dX11_undo_14 : decode cX11_undo 14 = .ok (.ifCond .ne 7, 3) := by decide +kernel
theorem dX11_undo_17 : decode cX11_undo 17 = .ok (.iconst 5, 1) := by decide +kernel
theorem dX11_undo_18 : decode cX11_undo 18 = .ok (.goto 9, 3) := by decide +kernel
theorem dX11_undo_21 : decode cX11_undo 21 = .ok (.aload_n 0, 1) := by decide +kernel
theorem dX11_undo_22 : decode cX11_undo 22 = .ok (.getfield 110, 3) := by decide +kernel
theorem dX11_undo_25 : decode cX11_undo 25 = .ok (.iconst 1, 1) := by decide +kernel
theorem dX11_undo_26 : decode cX11_undo 26 = .ok (.isub, 1) := by decide +kernel
theorem dX11_undo_27 : decode cX11_undo 27 = .ok (.putfield 110, 3) := by decide +kernel
theorem dX11_undo_30 : decode cX11_undo 30 = .ok (.aload_n 0, 1) := by decide +kernel
theorem dX11_undo_31 : decode cX11_undo 31 = .ok (.dup, 1) := by decide +kernel
theorem dX11_undo_32 : decode cX11_undo 32 = .ok (.getfield 106, 3) := by decide +kernel
theorem dX11_undo_35 : decode cX11_undo 35 = .ok (.iconst 1, 1) := by decide +kernel
theorem dX11_undo_36 : decode cX11_undo 36 = .ok (.isub, 1) := by decide +kernel
theorem dX11_undo_37 : decode cX11_undo 37 = .ok (.putfield 106, 3) := by decide +kernel
theorem dX11_undo_40 : decode cX11_undo 40 = .ok (.aload_n 0, 1) := by decide +kernel
theorem dX11_undo_41 : decode cX11_undo 41 = .ok (.getfield 26, 3) := by decide +kernel
theorem dX11_undo_44 : decode cX11_undo 44 = .ok (.aload_n 0, 1) := by decide +kernel
theorem dX11_undo_45 : decode cX11_undo 45 = .ok (.getfield 102, 3) := by decide +kernel
theorem dX11_undo_48 : decode cX11_undo 48 = .ok (.aload_n 0, 1) := by decide +kernel
theorem dX11_undo_49 : decode cX11_undo 49 = .ok (.getfield 110, 3) := by decide +kernel
theorem dX11_undo_52 : decode cX11_undo 52 = .ok (.aaload, 1) := by decide +kernel
theorem dX11_undo_53 : decode cX11_undo 53 = .ok (.invokevirtual 348, 3) := by decide +kernel
theorem dX11_undo_56 : decode cX11_undo 56 = .ok (.iconst 1, 1) := by decide +kernel
theorem dX11_undo_57 : decode cX11_undo 57 = .ok (.ireturn, 1) := by decide +kernel
theorem bX11_undo_27 {l : Launch} {g : jm_G} {d : Nat} {s0 : Int} (hg : jm_HC g) {mu : jm_M} {Q : Option Value → jm_M → Prop} (h : jm_rg s0 ∧ ∀ m2, m2 = jm_wr mu 0 16 s0 → jm_rg ((m2.1 0 15) - 1) ∧ ∀ m5, m5 = jm_wr m2 0 15 ((m2.1 0 15) - 1) → (0 ≤ (m5.1 0 16) ∧ (m5.1 0 16) < 6) ∧ jm_R l g d iX1_copyFrom [.ref 29, .ref (94 + 6 * ((m5.1 0 16)).toNat)] m5 (jm_qv fun m8 => Q (some (jm_i 1)) m8)) : jm_V l g (d + 1) iX11_undo 27 [(0, .ref 0)] [jm_i s0, .ref 0] mu Q := by
  refine jm_mrI (fun hm0 => ?_)
  have hg1 := h.1
  have h := h.2
  refine jm_put (pc := 27) 16 dX11_undo_27 fX11_110 ftX11 (fun q h => by cases h; rfl) (jm_nI _) (jm_fI _) (cC0 hg) rfl hg1 ?_
  have h := h _ rfl
  refine jm_mrI (fun hm3 => ?_)
  refine jm_aload_n (pc := 30) 0 dX11_undo_30 rfl ?_
  refine jm_dup (pc := 31) _ dX11_undo_31 rfl ?_
  refine jm_geti (pc := 32) 15 dX11_undo_32 fX11_106 (cC0 hg) rfl ?_
  refine jm_iconst (pc := 35) dX11_undo_35 ?_
  refine jm_isub (pc := 36) dX11_undo_36 ?_
  have hg4 := h.1
  have h := h.2
  refine jm_put (pc := 37) 15 dX11_undo_37 fX11_106 ftX11 (fun q h => by cases h; rfl) (jm_nI _) (jm_fI _) (cC0 hg) rfl hg4 ?_
  have h := h _ rfl
  refine jm_mrI (fun hm6 => ?_)
  refine jm_aload_n (pc := 40) 0 dX11_undo_40 rfl ?_
  refine jm_getr (pc := 41) 2 dX11_undo_41 fX11_26 (cC0 hg) rfl ?_
  refine jm_aload_n (pc := 44) 0 dX11_undo_44 rfl ?_
  refine jm_getr (pc := 45) 14 dX11_undo_45 fX11_102 (cC0 hg) rfl ?_
  refine jm_aload_n (pc := 48) 0 dX11_undo_48 rfl ?_
  refine jm_geti (pc := 49) 16 dX11_undo_49 fX11_110 (cC0 hg) rfl ?_
  have hg7 := h.1
  have h := h.2
  refine jm_aald (pc := 52) (r := 94 + 6 * _) dX11_undo_52 (cC93 hg) (by decide) hg7.1 hg7.2 (jm_kp hg7.1 hg7.2) ?_
  refine jm_callvv (pc := 53) (As := [_]) (st := []) iX1_copyFrom dX11_undo_53 mX11_348 (cC29 hg) ⟨_, rfl, rfl⟩ rfl rfl (Nat.le_of_ble_eq_true rfl) h (fun m8 h hm11 => ?_)
  refine jm_iconst (pc := 56) dX11_undo_56 ?_
  exact jm_zret (pc := 57) dX11_undo_57 rfl (Or.inr rfl) h
theorem eX11_undo {l : Launch} {g : jm_G} {d : Nat} (hg : jm_HC g) {mu : jm_M} {Q : Option Value → jm_M → Prop} (h : (¬ (mu.1 0 15) = 0 → (¬ (mu.1 0 16) = 0 → jm_V l g (d + 1) iX11_undo 27 [(0, .ref 0)] [jm_i ((mu.1 0 16) - 1), .ref 0] mu Q) ∧ ((mu.1 0 16) = 0 → jm_V l g (d + 1) iX11_undo 27 [(0, .ref 0)] [jm_i 5, .ref 0] mu Q)) ∧ ((mu.1 0 15) = 0 → Q (some (jm_i 0)) mu)) : jm_R l g (d + 1) iX11_undo [.ref 0] mu Q := by
  refine jm_enter [(0, .ref 0)] (by decide) (Nat.le_of_ble_eq_true rfl) rfl ?_
  refine jm_mrI (fun hm0 => ?_)
  refine jm_aload_n (pc := 0) 0 dX11_undo_0 rfl ?_
  refine jm_geti (pc := 1) 15 dX11_undo_1 fX11_106 (cC0 hg) rfl ?_
  refine jm_if_ne (pc := 4) 9 dX11_undo_4 rfl (hm0 _ _) (fun q => ?_) (fun q => ?_)
  · have h := h.1 q
    refine jm_aload_n (pc := 9) 0 dX11_undo_9 rfl ?_
    refine jm_aload_n (pc := 10) 0 dX11_undo_10 rfl ?_
    refine jm_geti (pc := 11) 16 dX11_undo_11 fX11_110 (cC0 hg) rfl ?_
    refine jm_if_ne (pc := 14) 21 dX11_undo_14 rfl (hm0 _ _) (fun q => ?_) (fun q => ?_)
    · have h := h.1 q
      refine jm_aload_n (pc := 21) 0 dX11_undo_21 rfl ?_
      refine jm_geti (pc := 22) 16 dX11_undo_22 fX11_110 (cC0 hg) rfl ?_
      refine jm_iconst (pc := 25) dX11_undo_25 ?_
      refine jm_isub (pc := 26) dX11_undo_26 ?_
      exact jm_sub [0] rfl h
    · have h := h.2 q
      refine jm_iconst (pc := 17) dX11_undo_17 ?_
      refine jm_goto (pc := 18) 27 dX11_undo_18 rfl ?_
      exact jm_sub [0] rfl h
  · have h := h.2 q
    refine jm_iconst (pc := 7) dX11_undo_7 ?_
    exact jm_zret (pc := 8) dX11_undo_8 rfl (Or.inl rfl) h
theorem eX3_copyFrom_15_73 {l : Launch} {g : jm_G} {d : Nat} (hg : jm_HC g) {mu : jm_M} {Q : Option Value → jm_M → Prop} (h : ∀ m1, m1 = jm_wr mu 15 0 (mu.1 73 0) → ∀ m3, m3 = jm_wr m1 15 1 (m1.1 73 1) → ∀ m5, m5 = jm_cp m3 74 0 16 0 400 → ∀ m7, m7 = jm_cp m5 75 0 17 0 16 → ∀ m9, m9 = jm_cp m7 76 0 18 0 16 → ∀ m11, m11 = jm_cp m9 77 0 19 0 16 → ∀ m13, m13 = jm_cp m11 78 0 20 0 16 → Q none m13) : jm_R l g (d + 1) iX3_copyFrom [.ref 15, .ref 73] mu Q := by
  refine jm_enter [(0, .ref 15), (1, .ref 73)] (by decide) (Nat.le_of_ble_eq_true rfl) rfl ?_
  refine jm_mrI (fun hm0 => ?_)
  refine jm_aload_n (pc := 0) 0 dX3_copyFrom_0 rfl ?_
  refine jm_aload_n (pc := 1) 1 dX3_copyFrom_1 rfl ?_
  refine jm_geti (pc := 2) 0 dX3_copyFrom_2 fX3_9 (cC73 hg) rfl ?_
  refine jm_put (pc := 5) 0 dX3_copyFrom_5 fX3_9 ftX3 (fun q h => by cases h; rfl) (jm_nI _) (jm_fI _) (cC15 hg) rfl (hm0 _ _) ?_
  have h := h _ rfl
  refine jm_mrI (fun hm2 => ?_)
  refine jm_aload_n (pc := 8) 0 dX3_copyFrom_8 rfl ?_
  refine jm_aload_n (pc := 9) 1 dX3_copyFrom_9 rfl ?_
  refine jm_geti (pc := 10) 1 dX3_copyFrom_10 fX3_15 (cC73 hg) rfl ?_
  refine jm_put (pc := 13) 1 dX3_copyFrom_13 fX3_15 ftX3 (fun q h => by cases h; rfl) (jm_nI _) (jm_fI _) (cC15 hg) rfl (hm2 _ _) ?_
  have h := h _ rfl
  refine jm_mrI (fun hm4 => ?_)
  refine jm_aload_n (pc := 16) 1 dX3_copyFrom_16 rfl ?_
  refine jm_getr (pc := 17) 2 dX3_copyFrom_17 fX3_18 (cC73 hg) rfl ?_
  refine jm_iconst (pc := 20) dX3_copyFrom_20 ?_
  refine jm_aload_n (pc := 21) 0 dX3_copyFrom_21 rfl ?_
  refine jm_getr (pc := 22) 2 dX3_copyFrom_22 fX3_18 (cC15 hg) rfl ?_
  refine jm_iconst (pc := 25) dX3_copyFrom_25 ?_
  refine jm_sipush (pc := 26) dX3_copyFrom_26 (by decide) ?_
  refine jm_copy (pc := 29) dX3_copyFrom_29 mX3_37 (cC74 hg) (cC16 hg) (by decide) (by decide) (by decide) (by decide) (by decide) (by decide) (by decide) (Nat.le_of_ble_eq_true rfl) ?_
  have h := h _ rfl
  refine jm_mrI (fun hm6 => ?_)
  refine jm_aload_n (pc := 32) 1 dX3_copyFrom_32 rfl ?_
  refine jm_getr (pc := 33) 3 dX3_copyFrom_33 fX3_22 (cC73 hg) rfl ?_
  refine jm_iconst (pc := 36) dX3_copyFrom_36 ?_
  refine jm_aload_n (pc := 37) 0 dX3_copyFrom_37 rfl ?_
  refine jm_getr (pc := 38) 3 dX3_copyFrom_38 fX3_22 (cC15 hg) rfl ?_
  refine jm_iconst (pc := 41) dX3_copyFrom_41 ?_
  refine jm_bipush (pc := 42) dX3_copyFrom_42 (by decide) ?_
  refine jm_copy (pc := 44) dX3_copyFrom_44 mX3_37 (cC75 hg) (cC17 hg) (by decide) (by decide) (by decide) (by decide) (by decide) (by decide) (by decide) (Nat.le_of_ble_eq_true rfl) ?_
  have h := h _ rfl
  refine jm_mrI (fun hm8 => ?_)
  refine jm_aload_n (pc := 47) 1 dX3_copyFrom_47 rfl ?_
  refine jm_getr (pc := 48) 4 dX3_copyFrom_48 fX3_25 (cC73 hg) rfl ?_
  refine jm_iconst (pc := 51) dX3_copyFrom_51 ?_
  refine jm_aload_n (pc := 52) 0 dX3_copyFrom_52 rfl ?_
  refine jm_getr (pc := 53) 4 dX3_copyFrom_53 fX3_25 (cC15 hg) rfl ?_
  refine jm_iconst (pc := 56) dX3_copyFrom_56 ?_
  refine jm_bipush (pc := 57) dX3_copyFrom_57 (by decide) ?_
  refine jm_copy (pc := 59) dX3_copyFrom_59 mX3_37 (cC76 hg) (cC18 hg) (by decide) (by decide) (by decide) (by decide) (by decide) (by decide) (by decide) (Nat.le_of_ble_eq_true rfl) ?_
  have h := h _ rfl
  refine jm_mrI (fun hm10 => ?_)
  refine jm_aload_n (pc := 62) 1 dX3_copyFrom_62 rfl ?_
  refine jm_getr (pc := 63) 5 dX3_copyFrom_63 fX3_28 (cC73 hg) rfl ?_
  refine jm_iconst (pc := 66) dX3_copyFrom_66 ?_
  refine jm_aload_n (pc := 67) 0 dX3_copyFrom_67 rfl ?_
  refine jm_getr (pc := 68) 5 dX3_copyFrom_68 fX3_28 (cC15 hg) rfl ?_
  refine jm_iconst (pc := 71) dX3_copyFrom_71 ?_
  refine jm_bipush (pc := 72) dX3_copyFrom_72 (by decide) ?_
  refine jm_copy (pc := 74) dX3_copyFrom_74 mX3_37 (cC77 hg) (cC19 hg) (by decide) (by decide) (by decide) (by decide) (by decide) (by decide) (by decide) (Nat.le_of_ble_eq_true rfl) ?_
  have h := h _ rfl
  refine jm_mrI (fun hm12 => ?_)
  refine jm_aload_n (pc := 77) 1 dX3_copyFrom_77 rfl ?_
  refine jm_getr (pc := 78) 6 dX3_copyFrom_78 fX3_31 (cC73 hg) rfl ?_
  refine jm_iconst (pc := 81) dX3_copyFrom_81 ?_
  refine jm_aload_n (pc := 82) 0 dX3_copyFrom_82 rfl ?_
  refine jm_getr (pc := 83) 6 dX3_copyFrom_83 fX3_31 (cC15 hg) rfl ?_
  refine jm_iconst (pc := 86) dX3_copyFrom_86 ?_
  refine jm_bipush (pc := 87) dX3_copyFrom_87 (by decide) ?_
  refine jm_copy (pc := 89) dX3_copyFrom_89 mX3_37 (cC78 hg) (cC20 hg) (by decide) (by decide) (by decide) (by decide) (by decide) (by decide) (by decide) (Nat.le_of_ble_eq_true rfl) ?_
  have h := h _ rfl
  refine jm_mrI (fun hm14 => ?_)
  exact jm_vret (pc := 92) dX3_copyFrom_92 rfl h
theorem eX5_copyFrom_12_70 {l : Launch} {g : jm_G} {d : Nat} (hg : jm_HC g) {mu : jm_M} {Q : Option Value → jm_M → Prop} (h : ∀ m1, m1 = jm_wr mu 12 0 (mu.1 70 0) → ∀ m3, m3 = jm_cp m1 71 0 13 0 24 → ∀ m5, m5 = jm_cp m3 72 0 14 0 168 → Q none m5) : jm_R l g (d + 1) iX5_copyFrom [.ref 12, .ref 70] mu Q := by
  refine jm_enter [(0, .ref 12), (1, .ref 70)] (by decide) (Nat.le_of_ble_eq_true rfl) rfl ?_
  refine jm_mrI (fun hm0 => ?_)
  refine jm_aload_n (pc := 0) 0 dX5_copyFrom_0 rfl ?_
  refine jm_aload_n (pc := 1) 1 dX5_copyFrom_1 rfl ?_
  refine jm_geti (pc := 2) 0 dX5_copyFrom_2 fX5_11 (cC70 hg) rfl ?_
  refine jm_put (pc := 5) 0 dX5_copyFrom_5 fX5_11 ftX5 (fun q h => by cases h; rfl) (jm_nI _) (jm_fI _) (cC12 hg) rfl (hm0 _ _) ?_
  have h := h _ rfl
  refine jm_mrI (fun hm2 => ?_)
  refine jm_aload_n (pc := 8) 1 dX5_copyFrom_8 rfl ?_
  refine jm_getr (pc := 9) 1 dX5_copyFrom_9 fX5_17 (cC70 hg) rfl ?_
  refine jm_iconst (pc := 12) dX5_copyFrom_12 ?_
  refine jm_aload_n (pc := 13) 0 dX5_copyFrom_13 rfl ?_
  refine jm_getr (pc := 14) 1 dX5_copyFrom_14 fX5_17 (cC12 hg) rfl ?_
  refine jm_iconst (pc := 17) dX5_copyFrom_17 ?_
  refine jm_bipush (pc := 18) dX5_copyFrom_18 (by decide) ?_
  refine jm_copy (pc := 20) dX5_copyFrom_20 mX5_24 (cC71 hg) (cC13 hg) (by decide) (by decide) (by decide) (by decide) (by decide) (by decide) (by decide) (Nat.le_of_ble_eq_true rfl) ?_
  have h := h _ rfl
  refine jm_mrI (fun hm4 => ?_)
  refine jm_aload_n (pc := 23) 1 dX5_copyFrom_23 rfl ?_
  refine jm_getr (pc := 24) 2 dX5_copyFrom_24 fX5_21 (cC70 hg) rfl ?_
  refine jm_iconst (pc := 27) dX5_copyFrom_27 ?_
  refine jm_aload_n (pc := 28) 0 dX5_copyFrom_28 rfl ?_
  refine jm_getr (pc := 29) 2 dX5_copyFrom_29 fX5_21 (cC12 hg) rfl ?_
  refine jm_iconst (pc := 32) dX5_copyFrom_32 ?_
  refine jm_sipush (pc := 33) dX5_copyFrom_33 (by decide) ?_
  refine jm_copy (pc := 36) dX5_copyFrom_36 mX5_24 (cC72 hg) (cC14 hg) (by decide) (by decide) (by decide) (by decide) (by decide) (by decide) (by decide) (Nat.le_of_ble_eq_true rfl) ?_
  have h := h _ rfl
  refine jm_mrI (fun hm6 => ?_)
  exact jm_vret (pc := 39) dX5_copyFrom_39 rfl h
theorem pX5_copyFrom_12_70 {l : Launch} {g : jm_G} {d : Nat} (hg : jm_HC g) {mu : jm_M} {Q : Option Value → jm_M → Prop} (h : Q none (jm_cp (jm_cp (jm_wr mu 12 0 (mu.1 70 0)) 71 0 13 0 24) 72 0 14 0 168)) : jm_R l g (d + 1) iX5_copyFrom [.ref 12, .ref 70] mu Q := by
  refine eX5_copyFrom_12_70 hg ?_
  intro x hx
  subst hx
  intro x hx
  subst hx
  intro x hx
  subst hx
  exact h
theorem eX6_copyFrom_22_80 {l : Launch} {g : jm_G} {d : Nat} (hg : jm_HC g) {mu : jm_M} {Q : Option Value → jm_M → Prop} (h : ∀ m1, m1 = jm_wr mu 22 0 (mu.1 80 0) → ∀ m3, m3 = jm_cp m1 81 0 23 0 60 → ∀ m5, m5 = jm_cp m3 82 0 24 0 60 → ∀ m7, m7 = jm_cp m5 83 0 25 0 60 → ∀ m9, m9 = jm_cp m7 84 0 26 0 60 → Q none m9) : jm_R l g (d + 1) iX6_copyFrom [.ref 22, .ref 80] mu Q := by
  refine jm_enter [(0, .ref 22), (1, .ref 80)] (by decide) (Nat.le_of_ble_eq_true rfl) rfl ?_
  refine jm_mrI (fun hm0 => ?_)
  refine jm_aload_n (pc := 0) 0 dX6_copyFrom_0 rfl ?_
  refine jm_aload_n (pc := 1) 1 dX6_copyFrom_1 rfl ?_
  refine jm_geti (pc := 2) 0 dX6_copyFrom_2 fX6_11 (cC80 hg) rfl ?_
  refine jm_put (pc := 5) 0 dX6_copyFrom_5 fX6_11 ftX6 (fun q h => by cases h; rfl) (jm_nI _) (jm_fI _) (cC22 hg) rfl (hm0 _ _) ?_
  have h := h _ rfl
  refine jm_mrI (fun hm2 => ?_)
  refine jm_aload_n (pc := 8) 1 dX6_copyFrom_8 rfl ?_
  refine jm_getr (pc := 9) 1 dX6_copyFrom_9 fX6_17 (cC80 hg) rfl ?_
  refine jm_iconst (pc := 12) dX6_copyFrom_12 ?_
  refine jm_aload_n (pc := 13) 0 dX6_copyFrom_13 rfl ?_
  refine jm_getr (pc := 14) 1 dX6_copyFrom_14 fX6_17 (cC22 hg) rfl ?_
  refine jm_iconst (pc := 17) dX6_copyFrom_17 ?_
  refine jm_bipush (pc := 18) dX6_copyFrom_18 (by decide) ?_
  refine jm_copy (pc := 20) dX6_copyFrom_20 mX6_39 (cC81 hg) (cC23 hg) (by decide) (by decide) (by decide) (by decide) (by decide) (by decide) (by decide) (Nat.le_of_ble_eq_true rfl) ?_
  have h := h _ rfl
  refine jm_mrI (fun hm4 => ?_)
  refine jm_aload_n (pc := 23) 1 dX6_copyFrom_23 rfl ?_
  refine jm_getr (pc := 24) 2 dX6_copyFrom_24 fX6_21 (cC80 hg) rfl ?_
  refine jm_iconst (pc := 27) dX6_copyFrom_27 ?_
  refine jm_aload_n (pc := 28) 0 dX6_copyFrom_28 rfl ?_
  refine jm_getr (pc := 29) 2 dX6_copyFrom_29 fX6_21 (cC22 hg) rfl ?_
  refine jm_iconst (pc := 32) dX6_copyFrom_32 ?_
  refine jm_bipush (pc := 33) dX6_copyFrom_33 (by decide) ?_
  refine jm_copy (pc := 35) dX6_copyFrom_35 mX6_39 (cC82 hg) (cC24 hg) (by decide) (by decide) (by decide) (by decide) (by decide) (by decide) (by decide) (Nat.le_of_ble_eq_true rfl) ?_
  have h := h _ rfl
  refine jm_mrI (fun hm6 => ?_)
  refine jm_aload_n (pc := 38) 1 dX6_copyFrom_38 rfl ?_
  refine jm_getr (pc := 39) 3 dX6_copyFrom_39 fX6_24 (cC80 hg) rfl ?_
  refine jm_iconst (pc := 42) dX6_copyFrom_42 ?_
  refine jm_aload_n (pc := 43) 0 dX6_copyFrom_43 rfl ?_
  refine jm_getr (pc := 44) 3 dX6_copyFrom_44 fX6_24 (cC22 hg) rfl ?_
  refine jm_iconst (pc := 47) dX6_copyFrom_47 ?_
  refine jm_bipush (pc := 48) dX6_copyFrom_48 (by decide) ?_
  refine jm_copy (pc := 50) dX6_copyFrom_50 mX6_39 (cC83 hg) (cC25 hg) (by decide) (by decide) (by decide) (by decide) (by decide) (by decide) (by decide) (Nat.le_of_ble_eq_true rfl) ?_
  have h := h _ rfl
  refine jm_mrI (fun hm8 => ?_)
  refine jm_aload_n (pc := 53) 1 dX6_copyFrom_53 rfl ?_
  refine jm_getr (pc := 54) 4 dX6_copyFrom_54 fX6_27 (cC80 hg) rfl ?_
  refine jm_iconst (pc := 57) dX6_copyFrom_57 ?_
  refine jm_aload_n (pc := 58) 0 dX6_copyFrom_58 rfl ?_
  refine jm_getr (pc := 59) 4 dX6_copyFrom_59 fX6_27 (cC22 hg) rfl ?_
  refine jm_iconst (pc := 62) dX6_copyFrom_62 ?_
  refine jm_bipush (pc := 63) dX6_copyFrom_63 (by decide) ?_
  refine jm_copy (pc := 65) dX6_copyFrom_65 mX6_39 (cC84 hg) (cC26 hg) (by decide) (by decide) (by decide) (by decide) (by decide) (by decide) (by decide) (Nat.le_of_ble_eq_true rfl) ?_
  have h := h _ rfl
  refine jm_mrI (fun hm10 => ?_)
  exact jm_vret (pc := 68) dX6_copyFrom_68 rfl h
theorem dX8_copyFrom_0 : decode cX8_copyFrom 0 = .ok (.aload_n 0, 1) := by decide +kernel
theorem dX8_copyFrom_1 : decode cX8_copyFrom 1 = .ok (.aload_n 1, 1) := by decide +kernel
theorem dX8_copyFrom_2 : decode cX8_copyFrom 2 = .ok (.getfield 9, 3) := by decide +kernel
theorem dX8_copyFrom_5 : decode cX8_copyFrom 5 = .ok (.putfield 9, 3) := by decide +kernel
theorem dX8_copyFrom_8 : decode cX8_copyFrom 8 = .ok (.aload_n 1, 1) := by decide +kernel
theorem dX8_copyFrom_9 : decode cX8_copyFrom 9 = .ok (.getfield 15, 3) := by decide +kernel
theorem dX8_copyFrom_12 : decode cX8_copyFrom 12 = .ok (.iconst 0, 1) := by decide +kernel
theorem dX8_copyFrom_13 : decode cX8_copyFrom 13 = .ok (.aload_n 0, 1) := by decide +kernel
theorem dX8_copyFrom_14 : decode cX8_copyFrom 14 = .ok (.getfield 15, 3) := by decide +kernel
theorem dX8_copyFrom_17 : decode cX8_copyFrom 17 = .ok (.iconst 0, 1) := by decide +kernel
theorem dX8_copyFrom_18 : decode cX8_copyFrom 18 = .ok (.bipush 8, 2) := by decide +kernel
theorem dX8_copyFrom_20 : decode cX8_copyFrom 20 = .ok (.invokestatic 64, 3) := by decide +kernel
theorem dX8_copyFrom_23 : decode cX8_copyFrom 23 = .ok (.aload_n 1, 1) := by decide +kernel
theorem dX8_copyFrom_24 : decode cX8_copyFrom 24 = .ok (.getfield 19, 3) := by decide +kernel
theorem dX8_copyFrom_27 : decode cX8_copyFrom 27 = .ok (.iconst 0, 1) := by decide +kernel
theorem dX8_copyFrom_28 : decode cX8_copyFrom 28 = .ok (.aload_n 0, 1) := by decide +kernel
theorem dX8_copyFrom_29 : decode cX8_copyFrom 29 = .ok (.getfield 19, 3) := by decide +kernel
theorem dX8_copyFrom_32 : decode cX8_copyFrom 32 = .ok (.iconst 0, 1) := by decide +kernel
theorem dX8_copyFrom_33 : decode cX8_copyFrom 33 = .ok (.bipush 8, 2) := by decide +kernel
theorem dX8_copyFrom_35 : decode cX8_copyFrom 35 = .ok (.invokestatic 64, 3) := by decide +kernel
theorem dX8_copyFrom_38 : decode cX8_copyFrom 38 = .ok (.aload_n 1, 1) := by decide +kernel
theorem dX8_copyFrom_39 : decode cX8_copyFrom 39 = .ok (.getfield 22, 3) := by decide +kernel
theorem dX8_copyFrom_42 : decode cX8_copyFrom 42 = .ok (.iconst 0, 1) := by decide +kernel
theorem dX8_copyFrom_43 : decode cX8_copyFrom 43 = .ok (.aload_n 0, 1) := by decide +kernel
theorem dX8_copyFrom_44 : decode cX8_copyFrom 44 = .ok (.getfield 22, 3) := by decide +kernel
theorem dX8_copyFrom_47 : decode cX8_copyFrom 47 = .ok (.iconst 0, 1) := by decide +kernel
theorem dX8_copyFrom_48 : decode cX8_copyFrom 48 = .ok (.bipush 8, 2) := by decide +kernel
theorem dX8_copyFrom_50 : decode cX8_copyFrom 50 = .ok (.invokestatic 64, 3) := by decide +kernel
theorem dX8_copyFrom_53 : decode cX8_copyFrom 53 = .ok (.aload_n 1, 1) := by decide +kernel
theorem dX8_copyFrom_54 : decode cX8_copyFrom 54 = .ok (.getfield 25, 3) := by decide +kernel
theorem dX8_copyFrom_57 : decode cX8_copyFrom 57 = .ok (.iconst 0, 1) := by decide +kernel
theorem dX8_copyFrom_58 : decode cX8_copyFrom 58 = .ok (.aload_n 0, 1) := by decide +kernel
theorem dX8_copyFrom_59 : decode cX8_copyFrom 59 = .ok (.getfield 25, 3) := by decide +kernel
theorem dX8_copyFrom_62 : decode cX8_copyFrom 62 = .ok (.iconst 0, 1) := by decide +kernel
theorem dX8_copyFrom_63 : decode cX8_copyFrom 63 = .ok (.bipush 48, 2) := by decide +kernel
theorem dX8_copyFrom_65 : decode cX8_copyFrom 65 = .ok (.invokestatic 64, 3) := by decide +kernel
theorem dX8_copyFrom_68 : decode cX8_copyFrom 68 = .ok (.aload_n 0, 1) := by decide +kernel
theorem dX8_copyFrom_69 : decode cX8_copyFrom 69 = .ok (.aload_n 1, 1) := by decide +kernel
theorem dX8_copyFrom_70 : decode cX8_copyFrom 70 = .ok (.getfield 28, 3) := by decide +kernel
theorem dX8_copyFrom_73 : decode cX8_copyFrom 73 = .ok (.putfield 28, 3) := by decide +kernel
theorem dX8_copyFrom_76 : decode cX8_copyFrom 76 = .ok (.aload_n 0, 1) := by decide +kernel
theorem dX8_copyFrom_77 : decode cX8_copyFrom 77 = .ok (.aload_n 1, 1) := by decide +kernel
theorem dX8_copyFrom_78 : decode cX8_copyFrom 78 = .ok (.getfield 31, 3) := by decide +kernel
theorem dX8_copyFrom_81 : decode cX8_copyFrom 81 = .ok (.putfield 31, 3) := by decide +kernel
theorem dX8_copyFrom_84 : decode cX8_copyFrom 84 = .ok (.aload_n 0, 1) := by decide +kernel
theorem dX8_copyFrom_85 : decode cX8_copyFrom 85 = .ok (.aload_n 1, 1) := by decide +kernel
theorem dX8_copyFrom_86 : decode cX8_copyFrom 86 = .ok (.getfield 34, 3) := by decide +kernel
theorem dX8_copyFrom_89 : decode cX8_copyFrom 89 = .ok (.putfield 34, 3) := by decide +kernel
theorem dX8_copyFrom_92 : decode cX8_copyFrom 92 = .ok (.aload_n 0, 1) := by decide +kernel
theorem dX8_copyFrom_93 : decode cX8_copyFrom 93 = .ok (.aload_n 1, 1) := by decide +kernel
theorem dX8_copyFrom_94 : decode cX8_copyFrom 94 = .ok (.getfield 37, 3) := by decide +kernel
theorem dX8_copyFrom_97 : decode cX8_copyFrom 97 = .ok (.putfield 37, 3) := by decide +kernel
theorem dX8_copyFrom_100 : decode cX8_copyFrom 100 = .ok (.aload_n 1, 1) := by decide +kernel
theorem dX8_copyFrom_101 : decode cX8_copyFrom 101 = .ok (.getfield 40, 3) := by decide +kernel
theorem dX8_copyFrom_104 : decode cX8_copyFrom 104 = .ok (.iconst 0, 1) := by decide +kernel
theorem dX8_copyFrom_105 : decode cX8_copyFrom 105 = .ok (.aload_n 0, 1) := by decide +kernel
theorem dX8_copyFrom_106 : decode cX8_copyFrom 106 = .ok (.getfield 40, 3) := by decide +kernel
theorem dX8_copyFrom_109 : decode cX8_copyFrom 109 = .ok (.iconst 0, 1) := by decide +kernel
theorem dX8_copyFrom_110 : decode cX8_copyFrom 110 = .ok (.bipush 12, 2) := by decide +kernel
theorem dX8_copyFrom_112 : decode cX8_copyFrom 112 = .ok (.invokestatic 64, 3) := by decide +kernel
theorem dX8_copyFrom_115 : decode cX8_copyFrom 115 = .ok (.aload_n 0, 1) := by decide +kernel
theorem dX8_copyFrom_116 : decode cX8_copyFrom 116 = .ok (.getfield 46, 3) := by decide +kernel
theorem dX8_copyFrom_119 : decode cX8_copyFrom 119 = .ok (.aload_n 1, 1) := by decide +kernel
theorem dX8_copyFrom_120 : decode cX8_copyFrom 120 = .ok (.getfield 46, 3) := by decide +kernel
theorem dX8_copyFrom_123 : decode cX8_copyFrom 123 = .ok (.invokevirtual 70, 3) := by decide +kernel
theorem dX8_copyFrom_126 : decode cX8_copyFrom 126 = .ok (.aload_n 0, 1) := by decide +kernel
theorem dX8_copyFrom_127 : decode cX8_copyFrom 127 = .ok (.getfield 53, 3) := by decide +kernel
theorem dX8_copyFrom_130 : decode cX8_copyFrom 130 = .ok (.aload_n 1, 1) := by decide +kernel
theorem dX8_copyFrom_131 : decode cX8_copyFrom 131 = .ok (.getfield 53, 3) := by decide +kernel
theorem dX8_copyFrom_134 : decode cX8_copyFrom 134 = .ok (.invokevirtual 74, 3) := by decide +kernel
theorem dX8_copyFrom_137 : decode cX8_copyFrom 137 = .ok (.aload_n 0, 1) := by decide +kernel
theorem dX8_copyFrom_138 : decode cX8_copyFrom 138 = .ok (.getfield 60, 3) := by decide +kernel
theorem dX8_copyFrom_141 : decode cX8_copyFrom 141 = .ok (.aload_n 1, 1) := by decide +kernel
theorem dX8_copyFrom_142 : decode cX8_copyFrom 142 = .ok (.getfield 60, 3) := by decide +kernel
theorem dX8_copyFrom_145 : decode cX8_copyFrom 145 = .ok (.invokevirtual 77, 3) := by decide +kernel
theorem dX8_copyFrom_148 : decode cX8_copyFrom 148 = .ok (.return_, 1) := by decide +kernel
theorem eX8_copyFrom_6_64 {l : Launch} {g : jm_G} {d : Nat} (hg : jm_HC g) {mu : jm_M} {Q : Option Value → jm_M → Prop} (h : ∀ m1, m1 = jm_wr mu 6 0 (mu.1 64 0) → ∀ m3, m3 = jm_cp m1 65 0 7 0 8 → ∀ m5, m5 = jm_cp m3 66 0 8 0 8 → ∀ m7, m7 = jm_cp m5 67 0 9 0 8 → ∀ m9, m9 = jm_cp m7 68 0 10 0 48 → ∀ m11, m11 = jm_wr m9 6 5 (m9.1 64 5) → ∀ m13, m13 = jm_wr m11 6 6 (m11.1 64 6) → ∀ m15, m15 = jm_wr m13 6 7 (m13.1 64 7) → ∀ m17, m17 = jm_wr m15 6 8 (m15.1 64 8) → ∀ m19, m19 = jm_cp m17 69 0 11 0 12 → ∀ m21, m21 = (jm_cp (jm_cp (jm_wr m19 12 0 (m19.1 70 0)) 71 0 13 0 24) 72 0 14 0 168) → jm_R l g (d + 1) iX3_copyFrom [.ref 15, .ref 73] m21 (jm_qv fun m23 => jm_R l g (d + 1) iX6_copyFrom [.ref 22, .ref 80] m23 (jm_qv fun m27 => Q none m27))) : jm_R l g (d + 2) iX8_copyFrom [.ref 6, .ref 64] mu Q := by
  refine jm_enter [(0, .ref 6), (1, .ref 64)] (by decide) (Nat.le_of_ble_eq_true rfl) rfl ?_
  refine jm_mrI (fun hm0 => ?_)
  refine jm_aload_n (pc := 0) 0 dX8_copyFrom_0 rfl ?_
  refine jm_aload_n (pc := 1) 1 dX8_copyFrom_1 rfl ?_
  refine jm_geti (pc := 2) 0 dX8_copyFrom_2 fX8_9 (cC64 hg) rfl ?_
  refine jm_put (pc := 5) 0 dX8_copyFrom_5 fX8_9 ftX8 (fun q h => by cases h; rfl) (jm_nI _) (jm_fI _) (cC6 hg) rfl (hm0 _ _) ?_
  have h := h _ rfl
  refine jm_mrI (fun hm2 => ?_)
  refine jm_aload_n (pc := 8) 1 dX8_copyFrom_8 rfl ?_
  refine jm_getr (pc := 9) 1 dX8_copyFrom_9 fX8_15 (cC64 hg) rfl ?_
  refine jm_iconst (pc := 12) dX8_copyFrom_12 ?_
  refine jm_aload_n (pc := 13) 0 dX8_copyFrom_13 rfl ?_
  refine jm_getr (pc := 14) 1 dX8_copyFrom_14 fX8_15 (cC6 hg) rfl ?_
  refine jm_iconst (pc := 17) dX8_copyFrom_17 ?_
  refine jm_bipush (pc := 18) dX8_copyFrom_18 (by decide) ?_
  refine jm_copy (pc := 20) dX8_copyFrom_20 mX8_64 (cC65 hg) (cC7 hg) (by decide) (by decide) (by decide) (by decide) (by decide) (by decide) (by decide) (Nat.le_of_ble_eq_true rfl) ?_
  have h := h _ rfl
  refine jm_mrI (fun hm4 => ?_)
  refine jm_aload_n (pc := 23) 1 dX8_copyFrom_23 rfl ?_
  refine jm_getr (pc := 24) 2 dX8_copyFrom_24 fX8_19 (cC64 hg) rfl ?_
  refine jm_iconst (pc := 27) dX8_copyFrom_27 ?_
  refine jm_aload_n (pc := 28) 0 dX8_copyFrom_28 rfl ?_
  refine jm_getr (pc := 29) 2 dX8_copyFrom_29 fX8_19 (cC6 hg) rfl ?_
  refine jm_iconst (pc := 32) dX8_copyFrom_32 ?_
  refine jm_bipush (pc := 33) dX8_copyFrom_33 (by decide) ?_
  refine jm_copy (pc := 35) dX8_copyFrom_35 mX8_64 (cC66 hg) (cC8 hg) (by decide) (by decide) (by decide) (by decide) (by decide) (by decide) (by decide) (Nat.le_of_ble_eq_true rfl) ?_
  have h := h _ rfl
  refine jm_mrI (fun hm6 => ?_)
  refine jm_aload_n (pc := 38) 1 dX8_copyFrom_38 rfl ?_
  refine jm_getr (pc := 39) 3 dX8_copyFrom_39 fX8_22 (cC64 hg) rfl ?_
  refine jm_iconst (pc := 42) dX8_copyFrom_42 ?_
  refine jm_aload_n (pc := 43) 0 dX8_copyFrom_43 rfl ?_
  refine jm_getr (pc := 44) 3 dX8_copyFrom_44 fX8_22 (cC6 hg) rfl ?_
  refine jm_iconst (pc := 47) dX8_copyFrom_47 ?_
  refine jm_bipush (pc := 48) dX8_copyFrom_48 (by decide) ?_
  refine jm_copy (pc := 50) dX8_copyFrom_50 mX8_64 (cC67 hg) (cC9 hg) (by decide) (by decide) (by decide) (by decide) (by decide) (by decide) (by decide) (Nat.le_of_ble_eq_true rfl) ?_
  have h := h _ rfl
  refine jm_mrI (fun hm8 => ?_)
  refine jm_aload_n (pc := 53) 1 dX8_copyFrom_53 rfl ?_
  refine jm_getr (pc := 54) 4 dX8_copyFrom_54 fX8_25 (cC64 hg) rfl ?_
  refine jm_iconst (pc := 57) dX8_copyFrom_57 ?_
  refine jm_aload_n (pc := 58) 0 dX8_copyFrom_58 rfl ?_
  refine jm_getr (pc := 59) 4 dX8_copyFrom_59 fX8_25 (cC6 hg) rfl ?_
  refine jm_iconst (pc := 62) dX8_copyFrom_62 ?_
  refine jm_bipush (pc := 63) dX8_copyFrom_63 (by decide) ?_
  refine jm_copy (pc := 65) dX8_copyFrom_65 mX8_64 (cC68 hg) (cC10 hg) (by decide) (by decide) (by decide) (by decide) (by decide) (by decide) (by decide) (Nat.le_of_ble_eq_true rfl) ?_
  have h := h _ rfl
  refine jm_mrI (fun hm10 => ?_)
  refine jm_aload_n (pc := 68) 0 dX8_copyFrom_68 rfl ?_
  refine jm_aload_n (pc := 69) 1 dX8_copyFrom_69 rfl ?_
  refine jm_geti (pc := 70) 5 dX8_copyFrom_70 fX8_28 (cC64 hg) rfl ?_
  refine jm_put (pc := 73) 5 dX8_copyFrom_73 fX8_28 ftX8 (fun q h => by cases h; rfl) (jm_nI _) (jm_fI _) (cC6 hg) rfl (hm10 _ _) ?_
  have h := h _ rfl
  refine jm_mrI (fun hm12 => ?_)
  refine jm_aload_n (pc := 76) 0 dX8_copyFrom_76 rfl ?_
  refine jm_aload_n (pc := 77) 1 dX8_copyFrom_77 rfl ?_
  refine jm_geti (pc := 78) 6 dX8_copyFrom_78 fX8_31 (cC64 hg) rfl ?_
  refine jm_put (pc := 81) 6 dX8_copyFrom_81 fX8_31 ftX8 (fun q h => by cases h; rfl) (jm_nI _) (jm_fI _) (cC6 hg) rfl (hm12 _ _) ?_
  have h := h _ rfl
  refine jm_mrI (fun hm14 => ?_)
  refine jm_aload_n (pc := 84) 0 dX8_copyFrom_84 rfl ?_
  refine jm_aload_n (pc := 85) 1 dX8_copyFrom_85 rfl ?_
  refine jm_geti (pc := 86) 7 dX8_copyFrom_86 fX8_34 (cC64 hg) rfl ?_
  refine jm_put (pc := 89) 7 dX8_copyFrom_89 fX8_34 ftX8 (fun q h => by cases h; rfl) (jm_nI _) (jm_fI _) (cC6 hg) rfl (hm14 _ _) ?_
  have h := h _ rfl
  refine jm_mrI (fun hm16 => ?_)
  refine jm_aload_n (pc := 92) 0 dX8_copyFrom_92 rfl ?_
  refine jm_aload_n (pc := 93) 1 dX8_copyFrom_93 rfl ?_
  refine jm_geti (pc := 94) 8 dX8_copyFrom_94 fX8_37 (cC64 hg) rfl ?_
  refine jm_put (pc := 97) 8 dX8_copyFrom_97 fX8_37 ftX8 (fun q h => by cases h; rfl) (jm_nI _) (jm_fI _) (cC6 hg) rfl (hm16 _ _) ?_
  have h := h _ rfl
  refine jm_mrI (fun hm18 => ?_)
  refine jm_aload_n (pc := 100) 1 dX8_copyFrom_100 rfl ?_
  refine jm_getr (pc := 101) 9 dX8_copyFrom_101 fX8_40 (cC64 hg) rfl ?_
  refine jm_iconst (pc := 104) dX8_copyFrom_104 ?_
  refine jm_aload_n (pc := 105) 0 dX8_copyFrom_105 rfl ?_
  refine jm_getr (pc := 106) 9 dX8_copyFrom_106 fX8_40 (cC6 hg) rfl ?_
  refine jm_iconst (pc := 109) dX8_copyFrom_109 ?_
  refine jm_bipush (pc := 110) dX8_copyFrom_110 (by decide) ?_
  refine jm_copy (pc := 112) dX8_copyFrom_112 mX8_64 (cC69 hg) (cC11 hg) (by decide) (by decide) (by decide) (by decide) (by decide) (by decide) (by decide) (Nat.le_of_ble_eq_true rfl) ?_
  have h := h _ rfl
  refine jm_mrI (fun hm20 => ?_)
  refine jm_aload_n (pc := 115) 0 dX8_copyFrom_115 rfl ?_
  refine jm_getr (pc := 116) 10 dX8_copyFrom_116 fX8_46 (cC6 hg) rfl ?_
  refine jm_aload_n (pc := 119) 1 dX8_copyFrom_119 rfl ?_
  refine jm_getr (pc := 120) 10 dX8_copyFrom_120 fX8_46 (cC64 hg) rfl ?_
  refine jm_inlvv (pc := 123) (As := [_]) (st := []) iX5_copyFrom dX8_copyFrom_123 mX8_70 (cC12 hg) ⟨_, rfl, rfl⟩ rfl rfl (Nat.le_of_ble_eq_true rfl) (pX5_copyFrom_12_70 hg  (jm_kVi ?_))
  have h := h _ rfl
  refine jm_mrI (fun hm22 => ?_)
  refine jm_aload_n (pc := 126) 0 dX8_copyFrom_126 rfl ?_
  refine jm_getr (pc := 127) 11 dX8_copyFrom_127 fX8_53 (cC6 hg) rfl ?_
  refine jm_aload_n (pc := 130) 1 dX8_copyFrom_130 rfl ?_
  refine jm_getr (pc := 131) 11 dX8_copyFrom_131 fX8_53 (cC64 hg) rfl ?_
  refine jm_callvv (pc := 134) (As := [_]) (st := []) iX3_copyFrom dX8_copyFrom_134 mX8_74 (cC15 hg) ⟨_, rfl, rfl⟩ rfl rfl (Nat.le_of_ble_eq_true rfl) h (fun m23 h hm26 => ?_)
  refine jm_aload_n (pc := 137) 0 dX8_copyFrom_137 rfl ?_
  refine jm_getr (pc := 138) 12 dX8_copyFrom_138 fX8_60 (cC6 hg) rfl ?_
  refine jm_aload_n (pc := 141) 1 dX8_copyFrom_141 rfl ?_
  refine jm_getr (pc := 142) 12 dX8_copyFrom_142 fX8_60 (cC64 hg) rfl ?_
  refine jm_callvv (pc := 145) (As := [_]) (st := []) iX6_copyFrom dX8_copyFrom_145 mX8_77 (cC22 hg) ⟨_, rfl, rfl⟩ rfl rfl (Nat.le_of_ble_eq_true rfl) h (fun m27 h hm30 => ?_)
  exact jm_vret (pc := 148) dX8_copyFrom_148 rfl h
theorem eX3_copyFrom_73_15 {l : Launch} {g : jm_G} {d : Nat} (hg : jm_HC g) {mu : jm_M} {Q : Option Value → jm_M → Prop} (h : ∀ m1, m1 = jm_wr mu 73 0 (mu.1 15 0) → ∀ m3, m3 = jm_wr m1 73 1 (m1.1 15 1) → ∀ m5, m5 = jm_cp m3 16 0 74 0 400 → ∀ m7, m7 = jm_cp m5 17 0 75 0 16 → ∀ m9, m9 = jm_cp m7 18 0 76 0 16 → ∀ m11, m11 = jm_cp m9 19 0 77 0 16 → ∀ m13, m13 = jm_cp m11 20 0 78 0 16 → Q none m13) : jm_R l g (d + 1) iX3_copyFrom [.ref 73, .ref 15] mu Q := by
  refine jm_enter [(0, .ref 73), (1, .ref 15)] (by decide) (Nat.le_of_ble_eq_true rfl) rfl ?_
  refine jm_mrI (fun hm0 => ?_)
  refine jm_aload_n (pc := 0) 0 dX3_copyFrom_0 rfl ?_
  refine jm_aload_n (pc := 1) 1 dX3_copyFrom_1 rfl ?_
  refine jm_geti (pc := 2) 0 dX3_copyFrom_2 fX3_9 (cC15 hg) rfl ?_
  refine jm_put (pc := 5) 0 dX3_copyFrom_5 fX3_9 ftX3 (fun q h => by cases h; rfl) (jm_nI _) (jm_fI _) (cC73 hg) rfl (hm0 _ _) ?_
  have h := h _ rfl
  refine jm_mrI (fun hm2 => ?_)
  refine jm_aload_n (pc := 8) 0 dX3_copyFrom_8 rfl ?_
  refine jm_aload_n (pc := 9) 1 dX3_copyFrom_9 rfl ?_
  refine jm_geti (pc := 10) 1 dX3_copyFrom_10 fX3_15 (cC15 hg) rfl ?_
  refine jm_put (pc := 13) 1 dX3_copyFrom_13 fX3_15 ftX3 (fun q h => by cases h; rfl) (jm_nI _) (jm_fI _) (cC73 hg) rfl (hm2 _ _) ?_
  have h := h _ rfl
  refine jm_mrI (fun hm4 => ?_)
  refine jm_aload_n (pc := 16) 1 dX3_copyFrom_16 rfl ?_
  refine jm_getr (pc := 17) 2 dX3_copyFrom_17 fX3_18 (cC15 hg) rfl ?_
  refine jm_iconst (pc := 20) dX3_copyFrom_20 ?_
  refine jm_aload_n (pc := 21) 0 dX3_copyFrom_21 rfl ?_
  refine jm_getr (pc := 22) 2 dX3_copyFrom_22 fX3_18 (cC73 hg) rfl ?_
  refine jm_iconst (pc := 25) dX3_copyFrom_25 ?_
  refine jm_sipush (pc := 26) dX3_copyFrom_26 (by decide) ?_
  refine jm_copy (pc := 29) dX3_copyFrom_29 mX3_37 (cC16 hg) (cC74 hg) (by decide) (by decide) (by decide) (by decide) (by decide) (by decide) (by decide) (Nat.le_of_ble_eq_true rfl) ?_
  have h := h _ rfl
  refine jm_mrI (fun hm6 => ?_)
  refine jm_aload_n (pc := 32) 1 dX3_copyFrom_32 rfl ?_
  refine jm_getr (pc := 33) 3 dX3_copyFrom_33 fX3_22 (cC15 hg) rfl ?_
  refine jm_iconst (pc := 36) dX3_copyFrom_36 ?_
  refine jm_aload_n (pc := 37) 0 dX3_copyFrom_37 rfl ?_
  refine jm_getr (pc := 38) 3 dX3_copyFrom_38 fX3_22 (cC73 hg) rfl ?_
  refine jm_iconst (pc := 41) dX3_copyFrom_41 ?_
  refine jm_bipush (pc := 42) dX3_copyFrom_42 (by decide) ?_
  refine jm_copy (pc := 44) dX3_copyFrom_44 mX3_37 (cC17 hg) (cC75 hg) (by decide) (by decide) (by decide) (by decide) (by decide) (by decide) (by decide) (Nat.le_of_ble_eq_true rfl) ?_
  have h := h _ rfl
  refine jm_mrI (fun hm8 => ?_)
  refine jm_aload_n (pc := 47) 1 dX3_copyFrom_47 rfl ?_
  refine jm_getr (pc := 48) 4 dX3_copyFrom_48 fX3_25 (cC15 hg) rfl ?_
  refine jm_iconst (pc := 51) dX3_copyFrom_51 ?_
  refine jm_aload_n (pc := 52) 0 dX3_copyFrom_52 rfl ?_
  refine jm_getr (pc := 53) 4 dX3_copyFrom_53 fX3_25 (cC73 hg) rfl ?_
  refine jm_iconst (pc := 56) dX3_copyFrom_56 ?_
  refine jm_bipush (pc := 57) dX3_copyFrom_57 (by decide) ?_
  refine jm_copy (pc := 59) dX3_copyFrom_59 mX3_37 (cC18 hg) (cC76 hg) (by decide) (by decide) (by decide) (by decide) (by decide) (by decide) (by decide) (Nat.le_of_ble_eq_true rfl) ?_
  have h := h _ rfl
  refine jm_mrI (fun hm10 => ?_)
  refine jm_aload_n (pc := 62) 1 dX3_copyFrom_62 rfl ?_
  refine jm_getr (pc := 63) 5 dX3_copyFrom_63 fX3_28 (cC15 hg) rfl ?_
  refine jm_iconst (pc := 66) dX3_copyFrom_66 ?_
  refine jm_aload_n (pc := 67) 0 dX3_copyFrom_67 rfl ?_
  refine jm_getr (pc := 68) 5 dX3_copyFrom_68 fX3_28 (cC73 hg) rfl ?_
  refine jm_iconst (pc := 71) dX3_copyFrom_71 ?_
  refine jm_bipush (pc := 72) dX3_copyFrom_72 (by decide) ?_
  refine jm_copy (pc := 74) dX3_copyFrom_74 mX3_37 (cC19 hg) (cC77 hg) (by decide) (by decide) (by decide) (by decide) (by decide) (by decide) (by decide) (Nat.le_of_ble_eq_true rfl) ?_
  have h := h _ rfl
  refine jm_mrI (fun hm12 => ?_)
  refine jm_aload_n (pc := 77) 1 dX3_copyFrom_77 rfl ?_
  refine jm_getr (pc := 78) 6 dX3_copyFrom_78 fX3_31 (cC15 hg) rfl ?_
  refine jm_iconst (pc := 81) dX3_copyFrom_81 ?_
  refine jm_aload_n (pc := 82) 0 dX3_copyFrom_82 rfl ?_
  refine jm_getr (pc := 83) 6 dX3_copyFrom_83 fX3_31 (cC73 hg) rfl ?_
  refine jm_iconst (pc := 86) dX3_copyFrom_86 ?_
  refine jm_bipush (pc := 87) dX3_copyFrom_87 (by decide) ?_
  refine jm_copy (pc := 89) dX3_copyFrom_89 mX3_37 (cC20 hg) (cC78 hg) (by decide) (by decide) (by decide) (by decide) (by decide) (by decide) (by decide) (Nat.le_of_ble_eq_true rfl) ?_
  have h := h _ rfl
  refine jm_mrI (fun hm14 => ?_)
  exact jm_vret (pc := 92) dX3_copyFrom_92 rfl h
theorem eX5_copyFrom_70_12 {l : Launch} {g : jm_G} {d : Nat} (hg : jm_HC g) {mu : jm_M} {Q : Option Value → jm_M → Prop} (h : ∀ m1, m1 = jm_wr mu 70 0 (mu.1 12 0) → ∀ m3, m3 = jm_cp m1 13 0 71 0 24 → ∀ m5, m5 = jm_cp m3 14 0 72 0 168 → Q none m5) : jm_R l g (d + 1) iX5_copyFrom [.ref 70, .ref 12] mu Q := by
  refine jm_enter [(0, .ref 70), (1, .ref 12)] (by decide) (Nat.le_of_ble_eq_true rfl) rfl ?_
  refine jm_mrI (fun hm0 => ?_)
  refine jm_aload_n (pc := 0) 0 dX5_copyFrom_0 rfl ?_
  refine jm_aload_n (pc := 1) 1 dX5_copyFrom_1 rfl ?_
  refine jm_geti (pc := 2) 0 dX5_copyFrom_2 fX5_11 (cC12 hg) rfl ?_
  refine jm_put (pc := 5) 0 dX5_copyFrom_5 fX5_11 ftX5 (fun q h => by cases h; rfl) (jm_nI _) (jm_fI _) (cC70 hg) rfl (hm0 _ _) ?_
  have h := h _ rfl
  refine jm_mrI (fun hm2 => ?_)
  refine jm_aload_n (pc := 8) 1 dX5_copyFrom_8 rfl ?_
  refine jm_getr (pc := 9) 1 dX5_copyFrom_9 fX5_17 (cC12 hg) rfl ?_
  refine jm_iconst (pc := 12) dX5_copyFrom_12 ?_
  refine jm_aload_n (pc := 13) 0 dX5_copyFrom_13 rfl ?_
  refine jm_getr (pc := 14) 1 dX5_copyFrom_14 fX5_17 (cC70 hg) rfl ?_
  refine jm_iconst (pc := 17) dX5_copyFrom_17 ?_
  refine jm_bipush (pc := 18) dX5_copyFrom_18 (by decide) ?_
  refine jm_copy (pc := 20) dX5_copyFrom_20 mX5_24 (cC13 hg) (cC71 hg) (by decide) (by decide) (by decide) (by decide) (by decide) (by decide) (by decide) (Nat.le_of_ble_eq_true rfl) ?_
  have h := h _ rfl
  refine jm_mrI (fun hm4 => ?_)
  refine jm_aload_n (pc := 23) 1 dX5_copyFrom_23 rfl ?_
  refine jm_getr (pc := 24) 2 dX5_copyFrom_24 fX5_21 (cC12 hg) rfl ?_
  refine jm_iconst (pc := 27) dX5_copyFrom_27 ?_
  refine jm_aload_n (pc := 28) 0 dX5_copyFrom_28 rfl ?_
  refine jm_getr (pc := 29) 2 dX5_copyFrom_29 fX5_21 (cC70 hg) rfl ?_
  refine jm_iconst (pc := 32) dX5_copyFrom_32 ?_
  refine jm_sipush (pc := 33) dX5_copyFrom_33 (by decide) ?_
  refine jm_copy (pc := 36) dX5_copyFrom_36 mX5_24 (cC14 hg) (cC72 hg) (by decide) (by decide) (by decide) (by decide) (by decide) (by decide) (by decide) (Nat.le_of_ble_eq_true rfl) ?_
  have h := h _ rfl
  refine jm_mrI (fun hm6 => ?_)
  exact jm_vret (pc := 39) dX5_copyFrom_39 rfl h
theorem pX5_copyFrom_70_12 {l : Launch} {g : jm_G} {d : Nat} (hg : jm_HC g) {mu : jm_M} {Q : Option Value → jm_M → Prop} (h : Q none (jm_cp (jm_cp (jm_wr mu 70 0 (mu.1 12 0)) 13 0 71 0 24) 14 0 72 0 168)) : jm_R l g (d + 1) iX5_copyFrom [.ref 70, .ref 12] mu Q := by
  refine eX5_copyFrom_70_12 hg ?_
  intro x hx
  subst hx
  intro x hx
  subst hx
  intro x hx
  subst hx
  exact h
theorem eX6_copyFrom_80_22 {l : Launch} {g : jm_G} {d : Nat} (hg : jm_HC g) {mu : jm_M} {Q : Option Value → jm_M → Prop} (h : ∀ m1, m1 = jm_wr mu 80 0 (mu.1 22 0) → ∀ m3, m3 = jm_cp m1 23 0 81 0 60 → ∀ m5, m5 = jm_cp m3 24 0 82 0 60 → ∀ m7, m7 = jm_cp m5 25 0 83 0 60 → ∀ m9, m9 = jm_cp m7 26 0 84 0 60 → Q none m9) : jm_R l g (d + 1) iX6_copyFrom [.ref 80, .ref 22] mu Q := by
  refine jm_enter [(0, .ref 80), (1, .ref 22)] (by decide) (Nat.le_of_ble_eq_true rfl) rfl ?_
  refine jm_mrI (fun hm0 => ?_)
  refine jm_aload_n (pc := 0) 0 dX6_copyFrom_0 rfl ?_
  refine jm_aload_n (pc := 1) 1 dX6_copyFrom_1 rfl ?_
  refine jm_geti (pc := 2) 0 dX6_copyFrom_2 fX6_11 (cC22 hg) rfl ?_
  refine jm_put (pc := 5) 0 dX6_copyFrom_5 fX6_11 ftX6 (fun q h => by cases h; rfl) (jm_nI _) (jm_fI _) (cC80 hg) rfl (hm0 _ _) ?_
  have h := h _ rfl
  refine jm_mrI (fun hm2 => ?_)
  refine jm_aload_n (pc := 8) 1 dX6_copyFrom_8 rfl ?_
  refine jm_getr (pc := 9) 1 dX6_copyFrom_9 fX6_17 (cC22 hg) rfl ?_
  refine jm_iconst (pc := 12) dX6_copyFrom_12 ?_
  refine jm_aload_n (pc := 13) 0 dX6_copyFrom_13 rfl ?_
  refine jm_getr (pc := 14) 1 dX6_copyFrom_14 fX6_17 (cC80 hg) rfl ?_
  refine jm_iconst (pc := 17) dX6_copyFrom_17 ?_
  refine jm_bipush (pc := 18) dX6_copyFrom_18 (by decide) ?_
  refine jm_copy (pc := 20) dX6_copyFrom_20 mX6_39 (cC23 hg) (cC81 hg) (by decide) (by decide) (by decide) (by decide) (by decide) (by decide) (by decide) (Nat.le_of_ble_eq_true rfl) ?_
  have h := h _ rfl
  refine jm_mrI (fun hm4 => ?_)
  refine jm_aload_n (pc := 23) 1 dX6_copyFrom_23 rfl ?_
  refine jm_getr (pc := 24) 2 dX6_copyFrom_24 fX6_21 (cC22 hg) rfl ?_
  refine jm_iconst (pc := 27) dX6_copyFrom_27 ?_
  refine jm_aload_n (pc := 28) 0 dX6_copyFrom_28 rfl ?_
  refine jm_getr (pc := 29) 2 dX6_copyFrom_29 fX6_21 (cC80 hg) rfl ?_
  refine jm_iconst (pc := 32) dX6_copyFrom_32 ?_
  refine jm_bipush (pc := 33) dX6_copyFrom_33 (by decide) ?_
  refine jm_copy (pc := 35) dX6_copyFrom_35 mX6_39 (cC24 hg) (cC82 hg) (by decide) (by decide) (by decide) (by decide) (by decide) (by decide) (by decide) (Nat.le_of_ble_eq_true rfl) ?_
  have h := h _ rfl
  refine jm_mrI (fun hm6 => ?_)
  refine jm_aload_n (pc := 38) 1 dX6_copyFrom_38 rfl ?_
  refine jm_getr (pc := 39) 3 dX6_copyFrom_39 fX6_24 (cC22 hg) rfl ?_
  refine jm_iconst (pc := 42) dX6_copyFrom_42 ?_
  refine jm_aload_n (pc := 43) 0 dX6_copyFrom_43 rfl ?_
  refine jm_getr (pc := 44) 3 dX6_copyFrom_44 fX6_24 (cC80 hg) rfl ?_
  refine jm_iconst (pc := 47) dX6_copyFrom_47 ?_
  refine jm_bipush (pc := 48) dX6_copyFrom_48 (by decide) ?_
  refine jm_copy (pc := 50) dX6_copyFrom_50 mX6_39 (cC25 hg) (cC83 hg) (by decide) (by decide) (by decide) (by decide) (by decide) (by decide) (by decide) (Nat.le_of_ble_eq_true rfl) ?_
  have h := h _ rfl
  refine jm_mrI (fun hm8 => ?_)
  refine jm_aload_n (pc := 53) 1 dX6_copyFrom_53 rfl ?_
  refine jm_getr (pc := 54) 4 dX6_copyFrom_54 fX6_27 (cC22 hg) rfl ?_
  refine jm_iconst (pc := 57) dX6_copyFrom_57 ?_
  refine jm_aload_n (pc := 58) 0 dX6_copyFrom_58 rfl ?_
  refine jm_getr (pc := 59) 4 dX6_copyFrom_59 fX6_27 (cC80 hg) rfl ?_
  refine jm_iconst (pc := 62) dX6_copyFrom_62 ?_
  refine jm_bipush (pc := 63) dX6_copyFrom_63 (by decide) ?_
  refine jm_copy (pc := 65) dX6_copyFrom_65 mX6_39 (cC26 hg) (cC84 hg) (by decide) (by decide) (by decide) (by decide) (by decide) (by decide) (by decide) (Nat.le_of_ble_eq_true rfl) ?_
  have h := h _ rfl
  refine jm_mrI (fun hm10 => ?_)
  exact jm_vret (pc := 68) dX6_copyFrom_68 rfl h
theorem eX8_copyFrom_64_6 {l : Launch} {g : jm_G} {d : Nat} (hg : jm_HC g) {mu : jm_M} {Q : Option Value → jm_M → Prop} (h : ∀ m1, m1 = jm_wr mu 64 0 (mu.1 6 0) → ∀ m3, m3 = jm_cp m1 7 0 65 0 8 → ∀ m5, m5 = jm_cp m3 8 0 66 0 8 → ∀ m7, m7 = jm_cp m5 9 0 67 0 8 → ∀ m9, m9 = jm_cp m7 10 0 68 0 48 → ∀ m11, m11 = jm_wr m9 64 5 (m9.1 6 5) → ∀ m13, m13 = jm_wr m11 64 6 (m11.1 6 6) → ∀ m15, m15 = jm_wr m13 64 7 (m13.1 6 7) → ∀ m17, m17 = jm_wr m15 64 8 (m15.1 6 8) → ∀ m19, m19 = jm_cp m17 11 0 69 0 12 → ∀ m21, m21 = (jm_cp (jm_cp (jm_wr m19 70 0 (m19.1 12 0)) 13 0 71 0 24) 14 0 72 0 168) → jm_R l g (d + 1) iX3_copyFrom [.ref 73, .ref 15] m21 (jm_qv fun m23 => jm_R l g (d + 1) iX6_copyFrom [.ref 80, .ref 22] m23 (jm_qv fun m27 => Q none m27))) : jm_R l g (d + 2) iX8_copyFrom [.ref 64, .ref 6] mu Q := by
  refine jm_enter [(0, .ref 64), (1, .ref 6)] (by decide) (Nat.le_of_ble_eq_true rfl) rfl ?_
  refine jm_mrI (fun hm0 => ?_)
  refine jm_aload_n (pc := 0) 0 dX8_copyFrom_0 rfl ?_
  refine jm_aload_n (pc := 1) 1 dX8_copyFrom_1 rfl ?_
  refine jm_geti (pc := 2) 0 dX8_copyFrom_2 fX8_9 (cC6 hg) rfl ?_
  refine jm_put (pc := 5) 0 dX8_copyFrom_5 fX8_9 ftX8 (fun q h => by cases h; rfl) (jm_nI _) (jm_fI _) (cC64 hg) rfl (hm0 _ _) ?_
  have h := h _ rfl
  refine jm_mrI (fun hm2 => ?_)
  refine jm_aload_n (pc := 8) 1 dX8_copyFrom_8 rfl ?_
  refine jm_getr (pc := 9) 1 dX8_copyFrom_9 fX8_15 (cC6 hg) rfl ?_
  refine jm_iconst (pc := 12) dX8_copyFrom_12 ?_
  refine jm_aload_n (pc := 13) 0 dX8_copyFrom_13 rfl ?_
  refine jm_getr (pc := 14) 1 dX8_copyFrom_14 fX8_15 (cC64 hg) rfl ?_
  refine jm_iconst (pc := 17) dX8_copyFrom_17 ?_
  refine jm_bipush (pc := 18) dX8_copyFrom_18 (by decide) ?_
  refine jm_copy (pc := 20) dX8_copyFrom_20 mX8_64 (cC7 hg) (cC65 hg) (by decide) (by decide) (by decide) (by decide) (by decide) (by decide) (by decide) (Nat.le_of_ble_eq_true rfl) ?_
  have h := h _ rfl
  refine jm_mrI (fun hm4 => ?_)
  refine jm_aload_n (pc := 23) 1 dX8_copyFrom_23 rfl ?_
  refine jm_getr (pc := 24) 2 dX8_copyFrom_24 fX8_19 (cC6 hg) rfl ?_
  refine jm_iconst (pc := 27) dX8_copyFrom_27 ?_
  refine jm_aload_n (pc := 28) 0 dX8_copyFrom_28 rfl ?_
  refine jm_getr (pc := 29) 2 dX8_copyFrom_29 fX8_19 (cC64 hg) rfl ?_
  refine jm_iconst (pc := 32) dX8_copyFrom_32 ?_
  refine jm_bipush (pc := 33) dX8_copyFrom_33 (by decide) ?_
  refine jm_copy (pc := 35) dX8_copyFrom_35 mX8_64 (cC8 hg) (cC66 hg) (by decide) (by decide) (by decide) (by decide) (by decide) (by decide) (by decide) (Nat.le_of_ble_eq_true rfl) ?_
  have h := h _ rfl
  refine jm_mrI (fun hm6 => ?_)
  refine jm_aload_n (pc := 38) 1 dX8_copyFrom_38 rfl ?_
  refine jm_getr (pc := 39) 3 dX8_copyFrom_39 fX8_22 (cC6 hg) rfl ?_
  refine jm_iconst (pc := 42) dX8_copyFrom_42 ?_
  refine jm_aload_n (pc := 43) 0 dX8_copyFrom_43 rfl ?_
  refine jm_getr (pc := 44) 3 dX8_copyFrom_44 fX8_22 (cC64 hg) rfl ?_
  refine jm_iconst (pc := 47) dX8_copyFrom_47 ?_
  refine jm_bipush (pc := 48) dX8_copyFrom_48 (by decide) ?_
  refine jm_copy (pc := 50) dX8_copyFrom_50 mX8_64 (cC9 hg) (cC67 hg) (by decide) (by decide) (by decide) (by decide) (by decide) (by decide) (by decide) (Nat.le_of_ble_eq_true rfl) ?_
  have h := h _ rfl
  refine jm_mrI (fun hm8 => ?_)
  refine jm_aload_n (pc := 53) 1 dX8_copyFrom_53 rfl ?_
  refine jm_getr (pc := 54) 4 dX8_copyFrom_54 fX8_25 (cC6 hg) rfl ?_
  refine jm_iconst (pc := 57) dX8_copyFrom_57 ?_
  refine jm_aload_n (pc := 58) 0 dX8_copyFrom_58 rfl ?_
  refine jm_getr (pc := 59) 4 dX8_copyFrom_59 fX8_25 (cC64 hg) rfl ?_
  refine jm_iconst (pc := 62) dX8_copyFrom_62 ?_
  refine jm_bipush (pc := 63) dX8_copyFrom_63 (by decide) ?_
  refine jm_copy (pc := 65) dX8_copyFrom_65 mX8_64 (cC10 hg) (cC68 hg) (by decide) (by decide) (by decide) (by decide) (by decide) (by decide) (by decide) (Nat.le_of_ble_eq_true rfl) ?_
  have h := h _ rfl
  refine jm_mrI (fun hm10 => ?_)
  refine jm_aload_n (pc := 68) 0 dX8_copyFrom_68 rfl ?_
  refine jm_aload_n (pc := 69) 1 dX8_copyFrom_69 rfl ?_
  refine jm_geti (pc := 70) 5 dX8_copyFrom_70 fX8_28 (cC6 hg) rfl ?_
  refine jm_put (pc := 73) 5 dX8_copyFrom_73 fX8_28 ftX8 (fun q h => by cases h; rfl) (jm_nI _) (jm_fI _) (cC64 hg) rfl (hm10 _ _) ?_
  have h := h _ rfl
  refine jm_mrI (fun hm12 => ?_)
  refine jm_aload_n (pc := 76) 0 dX8_copyFrom_76 rfl ?_
  refine jm_aload_n (pc := 77) 1 dX8_copyFrom_77 rfl ?_
  refine jm_geti (pc := 78) 6 dX8_copyFrom_78 fX8_31 (cC6 hg) rfl ?_
  refine jm_put (pc := 81) 6 dX8_copyFrom_81 fX8_31 ftX8 (fun q h => by cases h; rfl) (jm_nI _) (jm_fI _) (cC64 hg) rfl (hm12 _ _) ?_
  have h := h _ rfl
  refine jm_mrI (fun hm14 => ?_)
  refine jm_aload_n (pc := 84) 0 dX8_copyFrom_84 rfl ?_
  refine jm_aload_n (pc := 85) 1 dX8_copyFrom_85 rfl ?_
  refine jm_geti (pc := 86) 7 dX8_copyFrom_86 fX8_34 (cC6 hg) rfl ?_
  refine jm_put (pc := 89) 7 dX8_copyFrom_89 fX8_34 ftX8 (fun q h => by cases h; rfl) (jm_nI _) (jm_fI _) (cC64 hg) rfl (hm14 _ _) ?_
  have h := h _ rfl
  refine jm_mrI (fun hm16 => ?_)
  refine jm_aload_n (pc := 92) 0 dX8_copyFrom_92 rfl ?_
  refine jm_aload_n (pc := 93) 1 dX8_copyFrom_93 rfl ?_
  refine jm_geti (pc := 94) 8 dX8_copyFrom_94 fX8_37 (cC6 hg) rfl ?_
  refine jm_put (pc := 97) 8 dX8_copyFrom_97 fX8_37 ftX8 (fun q h => by cases h; rfl) (jm_nI _) (jm_fI _) (cC64 hg) rfl (hm16 _ _) ?_
  have h := h _ rfl
  refine jm_mrI (fun hm18 => ?_)
  refine jm_aload_n (pc := 100) 1 dX8_copyFrom_100 rfl ?_
  refine jm_getr (pc := 101) 9 dX8_copyFrom_101 fX8_40 (cC6 hg) rfl ?_
  refine jm_iconst (pc := 104) dX8_copyFrom_104 ?_
  refine jm_aload_n (pc := 105) 0 dX8_copyFrom_105 rfl ?_
  refine jm_getr (pc := 106) 9 dX8_copyFrom_106 fX8_40 (cC64 hg) rfl ?_
  refine jm_iconst (pc := 109) dX8_copyFrom_109 ?_
  refine jm_bipush (pc := 110) dX8_copyFrom_110 (by decide) ?_
  refine jm_copy (pc := 112) dX8_copyFrom_112 mX8_64 (cC11 hg) (cC69 hg) (by decide) (by decide) (by decide) (by decide) (by decide) (by decide) (by decide) (Nat.le_of_ble_eq_true rfl) ?_
  have h := h _ rfl
  refine jm_mrI (fun hm20 => ?_)
  refine jm_aload_n (pc := 115) 0 dX8_copyFrom_115 rfl ?_
  refine jm_getr (pc := 116) 10 dX8_copyFrom_116 fX8_46 (cC64 hg) rfl ?_
  refine jm_aload_n (pc := 119) 1 dX8_copyFrom_119 rfl ?_
  refine jm_getr (pc := 120) 10 dX8_copyFrom_120 fX8_46 (cC6 hg) rfl ?_
  refine jm_inlvv (pc := 123) (As := [_]) (st := []) iX5_copyFrom dX8_copyFrom_123 mX8_70 (cC70 hg) ⟨_, rfl, rfl⟩ rfl rfl (Nat.le_of_ble_eq_true rfl) (pX5_copyFrom_70_12 hg  (jm_kVi ?_))
  have h := h _ rfl
  refine jm_mrI (fun hm22 => ?_)
  refine jm_aload_n (pc := 126) 0 dX8_copyFrom_126 rfl ?_
  refine jm_getr (pc := 127) 11 dX8_copyFrom_127 fX8_53 (cC64 hg) rfl ?_
  refine jm_aload_n (pc := 130) 1 dX8_copyFrom_130 rfl ?_
  refine jm_getr (pc := 131) 11 dX8_copyFrom_131 fX8_53 (cC6 hg) rfl ?_
  refine jm_callvv (pc := 134) (As := [_]) (st := []) iX3_copyFrom dX8_copyFrom_134 mX8_74 (cC73 hg) ⟨_, rfl, rfl⟩ rfl rfl (Nat.le_of_ble_eq_true rfl) h (fun m23 h hm26 => ?_)
  refine jm_aload_n (pc := 137) 0 dX8_copyFrom_137 rfl ?_
  refine jm_getr (pc := 138) 12 dX8_copyFrom_138 fX8_60 (cC64 hg) rfl ?_
  refine jm_aload_n (pc := 141) 1 dX8_copyFrom_141 rfl ?_
  refine jm_getr (pc := 142) 12 dX8_copyFrom_142 fX8_60 (cC6 hg) rfl ?_
  refine jm_callvv (pc := 145) (As := [_]) (st := []) iX6_copyFrom dX8_copyFrom_145 mX8_77 (cC80 hg) ⟨_, rfl, rfl⟩ rfl rfl (Nat.le_of_ble_eq_true rfl) h (fun m27 h hm30 => ?_)
  exact jm_vret (pc := 148) dX8_copyFrom_148 rfl h
theorem dX11_image_0 : decode cX11_image 0 = .ok (.iload_n 1, 1) := by decide +kernel
theorem dX11_image_1 : decode cX11_image 1 = .ok (.ifCond .eq 32, 3) := by decide +kernel
theorem dX11_image_4 : decode cX11_image 4 = .ok (.aload_n 0, 1) := by decide +kernel
theorem dX11_image_5 : decode cX11_image 5 = .ok (.getfield 92, 3) := by decide +kernel
theorem dX11_image_8 : decode cX11_image 8 = .ok (.aload_n 0, 1) := by decide +kernel
theorem dX11_image_9 : decode cX11_image 9 = .ok (.getfield 19, 3) := by decide +kernel
theorem dX11_image_12 : decode cX11_image 12 = .ok (.invokevirtual 352, 3) := by decide +kernel
theorem dX11_image_15 : decode cX11_image 15 = .ok (.aload_n 0, 1) := by decide +kernel
theorem dX11_image_16 : decode cX11_image 16 = .ok (.getfield 95, 3) := by decide +kernel
theorem dX11_image_19 : decode cX11_image 19 = .ok (.aload_n 0, 1) := by decide +kernel
theorem dX11_image_20 : decode cX11_image 20 = .ok (.getfield 26, 3) := by decide +kernel
theorem dX11_image_23 : decode cX11_image 23 = .ok (.invokevirtual 348, 3) := by decide +kernel
theorem dX11_image_26 : decode cX11_image 26 = .ok (.aload_n 0, 1) := by decide +kernel
theorem dX11_image_27 : decode cX11_image 27 = .ok (.iconst 1, 1) := by decide +kernel
theorem dX11_image_28 : decode cX11_image 28 = .ok (.putfield 98, 3) := by decide +kernel
theorem dX11_image_31 : decode cX11_image 31 = .ok (.iconst 1, 1) := by decide +kernel
theorem dX11_image_32 : decode cX11_image 32 = .ok (.ireturn, 1) := by decide +kernel
theorem dX11_image_33 : decode cX11_image 33 = .ok (.aload_n 0, 1) := by decide +kernel
theorem dX11_image_34 : decode cX11_image 34 = .ok (.getfield 98, 3) := by decide +kernel
theorem dX11_image_37 : decode cX11_image 37 = .ok (.ifCond .ne 5, 3) := by decide +kernel
theorem dX11_image_40 : decode cX11_image 40 = .ok (.iconst 0, 1) := by decide +kernel
theorem dX11_image_41 : decode cX11_image 41 = .ok (.ireturn, 1) := by decide +kernel
theorem dX11_image_42 : decode cX11_image 42 = .ok (.aload_n 0, 1) := by decide +kernel
theorem dX11_image_43 : decode cX11_image 43 = .ok (.getfield 19, 3) := by decide +kernel
theorem dX11_image_46 : decode cX11_image 46 = .ok (.aload_n 0, 1) := by decide +kernel
theorem dX11_image_47 : decode cX11_image 47 = .ok (.getfield 92, 3) := by decide +kernel
theorem dX11_image_50 : decode cX11_image 50 = .ok (.invokevirtual 352, 3) := by decide +kernel
theorem dX11_image_53 : decode cX11_image 53 = .ok (.aload_n 0, 1) := by decide +kernel
theorem dX11_image_54 : decode cX11_image 54 = .ok (.getfield 26, 3) := by decide +kernel
theorem dX11_image_57 : decode cX11_image 57 = .ok (.aload_n 0, 1) := by decide +kernel
theorem dX11_image_58 : decode cX11_image 58 = .ok (.getfield 95, 3) := by decide +kernel
theorem dX11_image_61 : decode cX11_image 61 = .ok (.invokevirtual 348, 3) := by decide +kernel
theorem dX11_image_64 : decode cX11_image 64 = .ok (.aload_n 0, 1) := by decide +kernel
theorem dX11_image_65 : decode cX11_image 65 = .ok (.invokevirtual 116, 3) := by decide +kernel
theorem dX11_image_68 : decode cX11_image 68 = .ok (.iconst 1, 1) := by decide +kernel
theorem dX11_image_69 : decode cX11_image 69 = .ok (.ireturn, 1) := by decide +kernel
theorem eX11_image {l : Launch} {g : jm_G} {d : Nat} {v1 : Int} (hg : jm_HC g) {mu : jm_M} {Q : Option Value → jm_M → Prop} (h : jm_rg v1 ∧ (v1 = 0 → (¬ (mu.1 0 13) = 0 → jm_R l g (d + 1) iX8_copyFrom [.ref 6, .ref 64] mu (jm_qv fun m2 => jm_R l g (d + 1) iX1_copyFrom [.ref 29, .ref 87] m2 (jm_qv fun m6 => ∀ m10, m10 = (jm_wr (jm_wr m6 0 15 0) 0 16 0) → Q (some (jm_i 1)) m10))) ∧ ((mu.1 0 13) = 0 → Q (some (jm_i 0)) mu)) ∧ (¬ v1 = 0 → jm_R l g (d + 1) iX8_copyFrom [.ref 64, .ref 6] mu (jm_qv fun m12 => jm_R l g (d + 1) iX1_copyFrom [.ref 87, .ref 29] m12 (jm_qv fun m16 => ∀ m20, m20 = jm_wr m16 0 13 1 → Q (some (jm_i 1)) m20)))) : jm_R l g (d + 2) iX11_image [.ref 0, jm_i v1] mu Q := by
  refine jm_enter [(0, .ref 0), (1, jm_i v1)] (by decide) (Nat.le_of_ble_eq_true rfl) rfl ?_
  refine jm_mrI (fun hm0 => ?_)
  refine jm_iload_n (pc := 0) 1 dX11_image_0 rfl ?_
  have hg1 := h.1
  have h := h.2
  refine jm_if_eq (pc := 1) 33 dX11_image_1 rfl hg1 (fun q => ?_) (fun q => ?_)
  · have h := h.1 q
    refine jm_aload_n (pc := 33) 0 dX11_image_33 rfl ?_
    refine jm_geti (pc := 34) 13 dX11_image_34 fX11_98 (cC0 hg) rfl ?_
    refine jm_if_ne (pc := 37) 42 dX11_image_37 rfl (hm0 _ _) (fun q => ?_) (fun q => ?_)
    · have h := h.1 q
      refine jm_aload_n (pc := 42) 0 dX11_image_42 rfl ?_
      refine jm_getr (pc := 43) 1 dX11_image_43 fX11_19 (cC0 hg) rfl ?_
      refine jm_aload_n (pc := 46) 0 dX11_image_46 rfl ?_
      refine jm_getr (pc := 47) 11 dX11_image_47 fX11_92 (cC0 hg) rfl ?_
      refine jm_callvv (pc := 50) (As := [_]) (st := []) iX8_copyFrom dX11_image_50 mX11_352 (cC6 hg) ⟨_, rfl, rfl⟩ rfl rfl (Nat.le_of_ble_eq_true rfl) h (fun m2 h hm5 => ?_)
      refine jm_aload_n (pc := 53) 0 dX11_image_53 rfl ?_
      refine jm_getr (pc := 54) 2 dX11_image_54 fX11_26 (cC0 hg) rfl ?_
      refine jm_aload_n (pc := 57) 0 dX11_image_57 rfl ?_
      refine jm_getr (pc := 58) 12 dX11_image_58 fX11_95 (cC0 hg) rfl ?_
      refine jm_callvv (pc := 61) (As := [_]) (st := []) iX1_copyFrom dX11_image_61 mX11_348 (cC29 hg) ⟨_, rfl, rfl⟩ rfl rfl (Nat.le_of_ble_eq_true rfl) h (fun m6 h hm9 => ?_)
      refine jm_aload_n (pc := 64) 0 dX11_image_64 rfl ?_
      refine jm_inlvv (pc := 65) (As := []) (st := []) iX11_forgetDeeds dX11_image_65 mX11_116 (cC0 hg) ⟨_, rfl, rfl⟩ rfl rfl (Nat.le_of_ble_eq_true rfl) (pX11_forgetDeeds hg  (jm_kVi ?_))
      have h := h _ rfl
      refine jm_mrI (fun hm11 => ?_)
      refine jm_iconst (pc := 68) dX11_image_68 ?_
      exact jm_zret (pc := 69) dX11_image_69 rfl (Or.inr rfl) h
    · have h := h.2 q
      refine jm_iconst (pc := 40) dX11_image_40 ?_
      exact jm_zret (pc := 41) dX11_image_41 rfl (Or.inl rfl) h
  · have h := h.2 q
    refine jm_aload_n (pc := 4) 0 dX11_image_4 rfl ?_
    refine jm_getr (pc := 5) 11 dX11_image_5 fX11_92 (cC0 hg) rfl ?_
    refine jm_aload_n (pc := 8) 0 dX11_image_8 rfl ?_
    refine jm_getr (pc := 9) 1 dX11_image_9 fX11_19 (cC0 hg) rfl ?_
    refine jm_callvv (pc := 12) (As := [_]) (st := []) iX8_copyFrom dX11_image_12 mX11_352 (cC64 hg) ⟨_, rfl, rfl⟩ rfl rfl (Nat.le_of_ble_eq_true rfl) h (fun m12 h hm15 => ?_)
    refine jm_aload_n (pc := 15) 0 dX11_image_15 rfl ?_
    refine jm_getr (pc := 16) 12 dX11_image_16 fX11_95 (cC0 hg) rfl ?_
    refine jm_aload_n (pc := 19) 0 dX11_image_19 rfl ?_
    refine jm_getr (pc := 20) 2 dX11_image_20 fX11_26 (cC0 hg) rfl ?_
    refine jm_callvv (pc := 23) (As := [_]) (st := []) iX1_copyFrom dX11_image_23 mX11_348 (cC87 hg) ⟨_, rfl, rfl⟩ rfl rfl (Nat.le_of_ble_eq_true rfl) h (fun m16 h hm19 => ?_)
    refine jm_aload_n (pc := 26) 0 dX11_image_26 rfl ?_
    refine jm_iconst (pc := 27) dX11_image_27 ?_
    refine jm_put (pc := 28) 13 dX11_image_28 fX11_98 ftX11 (fun q h => by cases h; rfl) (jm_b01 (Or.inr rfl)).1 (jm_b01 (Or.inr rfl)).2 (cC0 hg) rfl ⟨by decide, by decide⟩ ?_
    have h := h _ rfl
    refine jm_mrI (fun hm21 => ?_)
    refine jm_iconst (pc := 31) dX11_image_31 ?_
    exact jm_zret (pc := 32) dX11_image_32 rfl (Or.inr rfl) h
theorem dX11_look_0 : decode cX11_look 0 = .ok (.iload_n 1, 1) := by decide +kernel
theorem dX11_look_1 : decode cX11_look 1 = .ok (.tableswitch 189 0 13 #[71, 79, 87, 95, 103, 111, 119, 130, 141, 152, 160, 165, 173, 181], 71) := by decide +kernel
theorem dX11_look_72 : decode cX11_look 72 = .ok (.aload_n 0, 1) := by decide +kernel
theorem dX11_look_73 : decode cX11_look 73 = .ok (.getfield 19, 3) := by decide +kernel
theorem dX11_look_76 : decode cX11_look 76 = .ok (.getfield 127, 3) := by decide +kernel
theorem dX11_look_79 : decode cX11_look 79 = .ok (.ireturn, 1) := by decide +kernel
theorem dX11_look_80 : decode cX11_look 80 = .ok (.aload_n 0, 1) := by decide +kernel
theorem dX11_look_81 : decode cX11_look 81 = .ok (.getfield 26, 3) := by decide +kernel
theorem dX11_look_84 : decode cX11_look 84 = .ok (.getfield 222, 3) := by decide +kernel
theorem dX11_look_87 : decode cX11_look 87 = .ok (.ireturn, 1) := by decide +kernel
theorem dX11_look_88 : decode cX11_look 88 = .ok (.aload_n 0, 1) := by decide +kernel
theorem dX11_look_89 : decode cX11_look 89 = .ok (.getfield 26, 3) := by decide +kernel
theorem dX11_look_92 : decode cX11_look 92 = .ok (.getfield 355, 3) := by decide +kernel
theorem dX11_look_95 : decode cX11_look 95 = .ok (.ireturn, 1) := by decide +kernel
theorem dX11_look_96 : decode cX11_look 96 = .ok (.aload_n 0, 1) := by decide +kernel
theorem dX11_look_97 : decode cX11_look 97 = .ok (.getfield 26, 3) := by decide +kernel
theorem dX11_look_100 : decode cX11_look 100 = .ok (.getfield 263, 3) := by decide +kernel
theorem dX11_look_103 : decode cX11_look 103 = .ok (.ireturn, 1) := by decide +kernel
theorem dX11_look_104 : decode cX11_look 104 = .ok (.aload_n 0, 1) := by decide +kernel
theorem dX11_look_105 : decode cX11_look 105 = .ok (.getfield 26, 3) := by decide +kernel
theorem dX11_look_108 : decode cX11_look 108 = .ok (.getfield 278, 3) := by decide +kernel
theorem dX11_look_111 : decode cX11_look 111 = .ok (.ireturn, 1) := by decide +kernel
theorem dX11_look_112 : decode cX11_look 112 = .ok (.aload_n 0, 1) := by decide +kernel
theorem dX11_look_113 : decode cX11_look 113 = .ok (.getfield 26, 3) := by decide +kernel
theorem dX11_look_116 : decode cX11_look 116 = .ok (.getfield 113, 3) := by decide +kernel
theorem dX11_look_119 : decode cX11_look 119 = .ok (.ireturn, 1) := by decide +kernel
theorem dX11_look_120 : decode cX11_look 120 = .ok (.aload_n 0, 1) := by decide +kernel
theorem dX11_look_121 : decode cX11_look 121 = .ok (.getfield 19, 3) := by decide +kernel
theorem dX11_look_124 : decode cX11_look 124 = .ok (.getfield 269, 3) := by decide +kernel
theorem dX11_look_127 : decode cX11_look 127 = .ok (.getfield 358, 3) := by decide +kernel
theorem dX11_look_130 : decode cX11_look 130 = .ok (.ireturn, 1) := by decide +kernel
theorem dX11_look_131 : decode cX11_look 131 = .ok (.aload_n 0, 1) := by decide +kernel
theorem dX11_look_132 : decode cX11_look 132 = .ok (.getfield 19, 3) := by decide +kernel
theorem dX11_look_135 : decode cX11_look 135 = .ok (.getfield 359, 3) := by decide +kernel
theorem dX11_look_138 : decode cX11_look 138 = .ok (.getfield 362, 3) := by decide +kernel
theorem dX11_look_141 : decode cX11_look 141 = .ok (.ireturn, 1) := by decide +kernel
theorem dX11_look_142 : decode cX11_look 142 = .ok (.aload_n 0, 1) := by decide +kernel
theorem dX11_look_143 : decode cX11_look 143 = .ok (.getfield 19, 3) := by decide +kernel
theorem dX11_look_146 : decode cX11_look 146 = .ok (.getfield 232, 3) := by decide +kernel
theorem dX11_look_149 : decode cX11_look 149 = .ok (.getfield 363, 3) := by decide +kernel
theorem dX11_look_152 : decode cX11_look 152 = .ok (.ireturn, 1) := by decide +kernel
theorem dX11_look_153 : decode cX11_look 153 = .ok (.aload_n 0, 1) := by decide +kernel
theorem dX11_look_154 : decode cX11_look 154 = .ok (.getfield 19, 3) := by decide +kernel
theorem dX11_look_157 : decode cX11_look 157 = .ok (.getfield 303, 3) := by decide +kernel
theorem dX11_look_160 : decode cX11_look 160 = .ok (.ireturn, 1) := by decide +kernel
theorem dX11_look_161 : decode cX11_look 161 = .ok (.aload_n 0, 1) := by decide +kernel
theorem dX11_look_162 : decode cX11_look 162 = .ok (.getfield 106, 3) := by decide +kernel
theorem dX11_look_165 : decode cX11_look 165 = .ok (.ireturn, 1) := by decide +kernel
theorem dX11_look_166 : decode cX11_look 166 = .ok (.aload_n 0, 1) := by decide +kernel
theorem dX11_look_167 : decode cX11_look 167 = .ok (.getfield 19, 3) := by decide +kernel
theorem dX11_look_170 : decode cX11_look 170 = .ok (.getfield 366, 3) := by decide +kernel
theorem dX11_look_173 : decode cX11_look 173 = .ok (.ireturn, 1) := by decide +kernel
theorem dX11_look_174 : decode cX11_look 174 = .ok (.aload_n 0, 1) := by decide +kernel
theorem dX11_look_175 : decode cX11_look 175 = .ok (.getfield 19, 3) := by decide +kernel
theorem dX11_look_178 : decode cX11_look 178 = .ok (.getfield 369, 3) := by decide +kernel
theorem dX11_look_181 : decode cX11_look 181 = .ok (.ireturn, 1) := by decide +kernel
theorem dX11_look_182 : decode cX11_look 182 = .ok (.aload_n 0, 1) := by decide +kernel
theorem dX11_look_183 : decode cX11_look 183 = .ok (.getfield 19, 3) := by decide +kernel
theorem dX11_look_186 : decode cX11_look 186 = .ok (.getfield 372, 3) := by decide +kernel
theorem dX11_look_189 : decode cX11_look 189 = .ok (.ireturn, 1) := by decide +kernel
theorem dX11_look_190 : decode cX11_look 190 = .ok (.iconst (-1), 1) := by decide +kernel
theorem dX11_look_191 : decode cX11_look 191 = .ok (.ireturn, 1) := by decide +kernel
theorem eX11_look {l : Launch} {g : jm_G} {d : Nat} {v1 : Int} (hg : jm_HC g) {mu : jm_M} {Q : Option Value → jm_M → Prop} (h : jm_rg v1 ∧ (v1 = 0 → Q (some (jm_i (mu.1 6 0))) mu) ∧ (v1 = 1 → Q (some (jm_i (mu.1 29 1))) mu) ∧ (v1 = 2 → Q (some (jm_i (mu.1 29 4))) mu) ∧ (v1 = 3 → Q (some (jm_i (mu.1 29 6))) mu) ∧ (v1 = 4 → Q (some (jm_i (mu.1 29 8))) mu) ∧ (v1 = 5 → Q (some (jm_i (mu.1 29 0))) mu) ∧ (v1 = 6 → Q (some (jm_i (mu.1 12 0))) mu) ∧ (v1 = 7 → Q (some (jm_i (mu.1 15 0))) mu) ∧ (v1 = 8 → Q (some (jm_i (mu.1 22 0))) mu) ∧ (v1 = 9 → Q (some (jm_i (mu.1 6 8))) mu) ∧ (v1 = 10 → Q (some (jm_i (mu.1 0 15))) mu) ∧ (v1 = 11 → Q (some (jm_i (mu.1 6 5))) mu) ∧ (v1 = 12 → Q (some (jm_i (mu.1 6 6))) mu) ∧ (v1 = 13 → Q (some (jm_i (mu.1 6 7))) mu) ∧ (v1 < 0 ∨ 13 < v1 → Q (some (jm_i (-1))) mu)) : jm_R l g (d + 1) iX11_look [.ref 0, jm_i v1] mu Q := by
  refine jm_enter [(0, .ref 0), (1, jm_i v1)] (by decide) (Nat.le_of_ble_eq_true rfl) rfl ?_
  refine jm_mrI (fun hm0 => ?_)
  refine jm_iload_n (pc := 0) 1 dX11_look_0 rfl ?_
  have hg1 := h.1
  have h := h.2
  by_cases q0 : v1 = 0
  · have h := h.1 q0
    refine jm_tin (pc := 1) 72 dX11_look_1 hg1 (by omega) (by omega) (by rw [q0] <;> rfl) rfl ?_
    refine jm_aload_n (pc := 72) 0 dX11_look_72 rfl ?_
    refine jm_getr (pc := 73) 1 dX11_look_73 fX11_19 (cC0 hg) rfl ?_
    refine jm_geti (pc := 76) 0 dX11_look_76 fX11_127 (cC6 hg) rfl ?_
    exact jm_iret (pc := 79) dX11_look_79 rfl h
  · by_cases q1 : v1 = 1
    · have h := h.2.1 q1
      refine jm_tin (pc := 1) 80 dX11_look_1 hg1 (by omega) (by omega) (by rw [q1] <;> rfl) rfl ?_
      refine jm_aload_n (pc := 80) 0 dX11_look_80 rfl ?_
      refine jm_getr (pc := 81) 2 dX11_look_81 fX11_26 (cC0 hg) rfl ?_
      refine jm_geti (pc := 84) 1 dX11_look_84 fX11_222 (cC29 hg) rfl ?_
      exact jm_iret (pc := 87) dX11_look_87 rfl h
    · by_cases q2 : v1 = 2
      · have h := h.2.2.1 q2
        refine jm_tin (pc := 1) 88 dX11_look_1 hg1 (by omega) (by omega) (by rw [q2] <;> rfl) rfl ?_
        refine jm_aload_n (pc := 88) 0 dX11_look_88 rfl ?_
        refine jm_getr (pc := 89) 2 dX11_look_89 fX11_26 (cC0 hg) rfl ?_
        refine jm_geti (pc := 92) 4 dX11_look_92 fX11_355 (cC29 hg) rfl ?_
        exact jm_iret (pc := 95) dX11_look_95 rfl h
      · by_cases q3 : v1 = 3
        · have h := h.2.2.2.1 q3
          refine jm_tin (pc := 1) 96 dX11_look_1 hg1 (by omega) (by omega) (by rw [q3] <;> rfl) rfl ?_
          refine jm_aload_n (pc := 96) 0 dX11_look_96 rfl ?_
          refine jm_getr (pc := 97) 2 dX11_look_97 fX11_26 (cC0 hg) rfl ?_
          refine jm_geti (pc := 100) 6 dX11_look_100 fX11_263 (cC29 hg) rfl ?_
          exact jm_iret (pc := 103) dX11_look_103 rfl h
        · by_cases q4 : v1 = 4
          · have h := h.2.2.2.2.1 q4
            refine jm_tin (pc := 1) 104 dX11_look_1 hg1 (by omega) (by omega) (by rw [q4] <;> rfl) rfl ?_
            refine jm_aload_n (pc := 104) 0 dX11_look_104 rfl ?_
            refine jm_getr (pc := 105) 2 dX11_look_105 fX11_26 (cC0 hg) rfl ?_
            refine jm_geti (pc := 108) 8 dX11_look_108 fX11_278 (cC29 hg) rfl ?_
            exact jm_iret (pc := 111) dX11_look_111 rfl h
          · by_cases q5 : v1 = 5
            · have h := h.2.2.2.2.2.1 q5
              refine jm_tin (pc := 1) 112 dX11_look_1 hg1 (by omega) (by omega) (by rw [q5] <;> rfl) rfl ?_
              refine jm_aload_n (pc := 112) 0 dX11_look_112 rfl ?_
              refine jm_getr (pc := 113) 2 dX11_look_113 fX11_26 (cC0 hg) rfl ?_
              refine jm_geti (pc := 116) 0 dX11_look_116 fX11_113 (cC29 hg) rfl ?_
              exact jm_iret (pc := 119) dX11_look_119 rfl h
            · by_cases q6 : v1 = 6
              · have h := h.2.2.2.2.2.2.1 q6
                refine jm_tin (pc := 1) 120 dX11_look_1 hg1 (by omega) (by omega) (by rw [q6] <;> rfl) rfl ?_
                refine jm_aload_n (pc := 120) 0 dX11_look_120 rfl ?_
                refine jm_getr (pc := 121) 1 dX11_look_121 fX11_19 (cC0 hg) rfl ?_
                refine jm_getr (pc := 124) 10 dX11_look_124 fX11_269 (cC6 hg) rfl ?_
                refine jm_geti (pc := 127) 0 dX11_look_127 fX11_358 (cC12 hg) rfl ?_
                exact jm_iret (pc := 130) dX11_look_130 rfl h
              · by_cases q7 : v1 = 7
                · have h := h.2.2.2.2.2.2.2.1 q7
                  refine jm_tin (pc := 1) 131 dX11_look_1 hg1 (by omega) (by omega) (by rw [q7] <;> rfl) rfl ?_
                  refine jm_aload_n (pc := 131) 0 dX11_look_131 rfl ?_
                  refine jm_getr (pc := 132) 1 dX11_look_132 fX11_19 (cC0 hg) rfl ?_
                  refine jm_getr (pc := 135) 11 dX11_look_135 fX11_359 (cC6 hg) rfl ?_
                  refine jm_geti (pc := 138) 0 dX11_look_138 fX11_362 (cC15 hg) rfl ?_
                  exact jm_iret (pc := 141) dX11_look_141 rfl h
                · by_cases q8 : v1 = 8
                  · have h := h.2.2.2.2.2.2.2.2.1 q8
                    refine jm_tin (pc := 1) 142 dX11_look_1 hg1 (by omega) (by omega) (by rw [q8] <;> rfl) rfl ?_
                    refine jm_aload_n (pc := 142) 0 dX11_look_142 rfl ?_
                    refine jm_getr (pc := 143) 1 dX11_look_143 fX11_19 (cC0 hg) rfl ?_
                    refine jm_getr (pc := 146) 12 dX11_look_146 fX11_232 (cC6 hg) rfl ?_
                    refine jm_geti (pc := 149) 0 dX11_look_149 fX11_363 (cC22 hg) rfl ?_
                    exact jm_iret (pc := 152) dX11_look_152 rfl h
                  · by_cases q9 : v1 = 9
                    · have h := h.2.2.2.2.2.2.2.2.2.1 q9
                      refine jm_tin (pc := 1) 153 dX11_look_1 hg1 (by omega) (by omega) (by rw [q9] <;> rfl) rfl ?_
                      refine jm_aload_n (pc := 153) 0 dX11_look_153 rfl ?_
                      refine jm_getr (pc := 154) 1 dX11_look_154 fX11_19 (cC0 hg) rfl ?_
                      refine jm_geti (pc := 157) 8 dX11_look_157 fX11_303 (cC6 hg) rfl ?_
                      exact jm_iret (pc := 160) dX11_look_160 rfl h
                    · by_cases q10 : v1 = 10
                      · have h := h.2.2.2.2.2.2.2.2.2.2.1 q10
                        refine jm_tin (pc := 1) 161 dX11_look_1 hg1 (by omega) (by omega) (by rw [q10] <;> rfl) rfl ?_
                        refine jm_aload_n (pc := 161) 0 dX11_look_161 rfl ?_
                        refine jm_geti (pc := 162) 15 dX11_look_162 fX11_106 (cC0 hg) rfl ?_
                        exact jm_iret (pc := 165) dX11_look_165 rfl h
                      · by_cases q11 : v1 = 11
                        · have h := h.2.2.2.2.2.2.2.2.2.2.2.1 q11
                          refine jm_tin (pc := 1) 166 dX11_look_1 hg1 (by omega) (by omega) (by rw [q11] <;> rfl) rfl ?_
                          refine jm_aload_n (pc := 166) 0 dX11_look_166 rfl ?_
                          refine jm_getr (pc := 167) 1 dX11_look_167 fX11_19 (cC0 hg) rfl ?_
                          refine jm_geti (pc := 170) 5 dX11_look_170 fX11_366 (cC6 hg) rfl ?_
                          exact jm_iret (pc := 173) dX11_look_173 rfl h
                        · by_cases q12 : v1 = 12
                          · have h := h.2.2.2.2.2.2.2.2.2.2.2.2.1 q12
                            refine jm_tin (pc := 1) 174 dX11_look_1 hg1 (by omega) (by omega) (by rw [q12] <;> rfl) rfl ?_
                            refine jm_aload_n (pc := 174) 0 dX11_look_174 rfl ?_
                            refine jm_getr (pc := 175) 1 dX11_look_175 fX11_19 (cC0 hg) rfl ?_
                            refine jm_geti (pc := 178) 6 dX11_look_178 fX11_369 (cC6 hg) rfl ?_
                            exact jm_iret (pc := 181) dX11_look_181 rfl h
                          · by_cases q13 : v1 = 13
                            · have h := h.2.2.2.2.2.2.2.2.2.2.2.2.2.1 q13
                              refine jm_tin (pc := 1) 182 dX11_look_1 hg1 (by omega) (by omega) (by rw [q13] <;> rfl) rfl ?_
                              refine jm_aload_n (pc := 182) 0 dX11_look_182 rfl ?_
                              refine jm_getr (pc := 183) 1 dX11_look_183 fX11_19 (cC0 hg) rfl ?_
                              refine jm_geti (pc := 186) 7 dX11_look_186 fX11_372 (cC6 hg) rfl ?_
                              exact jm_iret (pc := 189) dX11_look_189 rfl h
                            · have h := h.2.2.2.2.2.2.2.2.2.2.2.2.2.2 (by omega)
                              refine jm_tout (pc := 1) 190 dX11_look_1 hg1 (by omega) rfl ?_
                              refine jm_iconst (pc := 190) dX11_look_190 ?_
                              exact jm_iret (pc := 191) dX11_look_191 rfl h
theorem dX12_isIn_0 : decode cX12_isIn 0 = .ok (.iload_n 1, 1) := by decide +kernel
theorem dX12_isIn_1 : decode cX12_isIn 1 = .ok (.iload_n 2, 1) := by decide +kernel
theorem dX12_isIn_2 : decode cX12_isIn 2 = .ok (.if_icmp .lt 12, 3) := by decide +kernel
theorem dX12_isIn_5 : decode cX12_isIn 5 = .ok (.iload_n 1, 1) := by decide +kernel
theorem dX12_isIn_6 : decode cX12_isIn 6 = .ok (.iload_n 3, 1) := by decide +kernel
theorem dX12_isIn_7 : decode cX12_isIn 7 = .ok (.if_icmp .gt 7, 3) := by decide +kernel
theorem dX12_isIn_10 : decode cX12_isIn 10 = .ok (.iconst 1, 1) := by decide +kernel
theorem dX12_isIn_11 : decode cX12_isIn 11 = .ok (.goto 4, 3) := by decide +kernel
theorem dX12_isIn_14 : decode cX12_isIn 14 = .ok (.iconst 0, 1) := by decide +kernel
theorem dX12_isIn_15 : decode cX12_isIn 15 = .ok (.ireturn, 1) := by decide +kernel
theorem eX12_isIn {l : Launch} {g : jm_G} {d : Nat} {v1 v2 v3 : Int} (hg : jm_HR g) {mu : jm_M} {Q : Option Value → jm_M → Prop} (h : jm_rg v1 ∧ jm_rg v2 ∧ (v1 < v2 → Q (some (jm_i 0)) mu) ∧ (v2 ≤ v1 → jm_rg v3 ∧ (v3 < v1 → Q (some (jm_i 0)) mu) ∧ (v1 ≤ v3 → Q (some (jm_i 1)) mu))) : jm_R l g (d + 1) iX12_isIn [.ref 0, jm_i v1, jm_i v2, jm_i v3] mu Q := by
  refine jm_enter [(0, .ref 0), (1, jm_i v1), (2, jm_i v2), (3, jm_i v3)] (by decide) (Nat.le_of_ble_eq_true rfl) rfl ?_
  refine jm_mrI (fun hm0 => ?_)
  refine jm_iload_n (pc := 0) 1 dX12_isIn_0 rfl ?_
  refine jm_iload_n (pc := 1) 2 dX12_isIn_1 rfl ?_
  have hg1 := h.1
  have h := h.2
  have hg2 := h.1
  have h := h.2
  refine jm_icmp_lt (pc := 2) 14 dX12_isIn_2 rfl hg1 hg2 (fun q => ?_) (fun q => ?_)
  · have h := h.1 q
    refine jm_iconst (pc := 14) dX12_isIn_14 ?_
    exact jm_zret (pc := 15) dX12_isIn_15 rfl (Or.inl rfl) h
  · have h := h.2 q
    refine jm_iload_n (pc := 5) 1 dX12_isIn_5 rfl ?_
    refine jm_iload_n (pc := 6) 3 dX12_isIn_6 rfl ?_
    have hg3 := h.1
    have h := h.2
    refine jm_icmp_gt (pc := 7) 14 dX12_isIn_7 rfl hg1 hg3 (fun q => ?_) (fun q => ?_)
    · have h := h.1 q
      refine jm_iconst (pc := 14) dX12_isIn_14 ?_
      exact jm_zret (pc := 15) dX12_isIn_15 rfl (Or.inl rfl) h
    · have h := h.2 q
      refine jm_iconst (pc := 10) dX12_isIn_10 ?_
      refine jm_goto (pc := 11) 15 dX12_isIn_11 rfl ?_
      exact jm_zret (pc := 15) dX12_isIn_15 rfl (Or.inr rfl) h
theorem pX12_isIn {l : Launch} {g : jm_G} {d : Nat} {v1 v2 v3 : Int} (hg : jm_HR g) {mu : jm_M} {Q : Option Value → jm_M → Prop} (o0 : jm_rg v1) (o1 : jm_rg v2) (o2 : jm_rg v3) (h1 : v2 ≤ v1 ∧ v1 ≤ v3 → Q (some (jm_i 1)) mu) (h0 : ¬ (v2 ≤ v1 ∧ v1 ≤ v3) → Q (some (jm_i 0)) mu) : jm_R l g (d + 1) iX12_isIn [.ref 0, jm_i v1, jm_i v2, jm_i v3] mu Q := by
  refine eX12_isIn hg ?_
  refine ⟨o0, ?_⟩
  refine ⟨o1, ?_⟩
  refine ⟨fun q0 => ?_, fun q0 => ?_⟩
  · exact h0 (by omega)
  · refine ⟨o2, ?_⟩
    refine ⟨fun q1 => ?_, fun q1 => ?_⟩
    · exact h0 (by omega)
    · exact h1 (⟨q0, q1⟩)
theorem dX12_held_0 : decode cX12_held 0 = .ok (.iload_n 1, 1) := by decide +kernel
theorem dX12_held_1 : decode cX12_held 1 = .ok (.iload_n 2, 1) := by decide +kernel
theorem dX12_held_2 : decode cX12_held 2 = .ok (.if_icmp .ge 7, 3) := by decide +kernel
theorem dX12_held_5 : decode cX12_held 5 = .ok (.iload_n 2, 1) := by decide +kernel
theorem dX12_held_6 : decode cX12_held 6 = .ok (.goto 13, 3) := by decide +kernel
theorem dX12_held_9 : decode cX12_held 9 = .ok (.iload_n 1, 1) := by decide +kernel
theorem dX12_held_10 : decode cX12_held 10 = .ok (.iload_n 3, 1) := by decide +kernel
theorem dX12_held_11 : decode cX12_held 11 = .ok (.if_icmp .le 7, 3) := by decide +kernel
theorem dX12_held_14 : decode cX12_held 14 = .ok (.iload_n 3, 1) := by decide +kernel
theorem dX12_held_15 : decode cX12_held 15 = .ok (.goto 4, 3) := by decide +kernel
theorem dX12_held_18 : decode cX12_held 18 = .ok (.iload_n 1, 1) := by decide +kernel
theorem dX12_held_19 : decode cX12_held 19 = .ok (.ireturn, 1) := by decide +kernel
theorem eX12_held {l : Launch} {g : jm_G} {d : Nat} {v1 v2 v3 : Int} (hg : jm_HR g) {mu : jm_M} {Q : Option Value → jm_M → Prop} (h : jm_rg v1 ∧ jm_rg v2 ∧ (v2 ≤ v1 → jm_rg v3 ∧ (v1 ≤ v3 → Q (some (jm_i v1)) mu) ∧ (v3 < v1 → Q (some (jm_i v3)) mu)) ∧ (v1 < v2 → Q (some (jm_i v2)) mu)) : jm_R l g (d + 1) iX12_held [.ref 0, jm_i v1, jm_i v2, jm_i v3] mu Q := by
  refine jm_enter [(0, .ref 0), (1, jm_i v1), (2, jm_i v2), (3, jm_i v3)] (by decide) (Nat.le_of_ble_eq_true rfl) rfl ?_
  refine jm_mrI (fun hm0 => ?_)
  refine jm_iload_n (pc := 0) 1 dX12_held_0 rfl ?_
  refine jm_iload_n (pc := 1) 2 dX12_held_1 rfl ?_
  have hg1 := h.1
  have h := h.2
  have hg2 := h.1
  have h := h.2
  refine jm_icmp_ge (pc := 2) 9 dX12_held_2 rfl hg1 hg2 (fun q => ?_) (fun q => ?_)
  · have h := h.1 q
    refine jm_iload_n (pc := 9) 1 dX12_held_9 rfl ?_
    refine jm_iload_n (pc := 10) 3 dX12_held_10 rfl ?_
    have hg3 := h.1
    have h := h.2
    refine jm_icmp_le (pc := 11) 18 dX12_held_11 rfl hg1 hg3 (fun q => ?_) (fun q => ?_)
    · have h := h.1 q
      refine jm_iload_n (pc := 18) 1 dX12_held_18 rfl ?_
      exact jm_iret (pc := 19) dX12_held_19 rfl h
    · have h := h.2 q
      refine jm_iload_n (pc := 14) 3 dX12_held_14 rfl ?_
      refine jm_goto (pc := 15) 19 dX12_held_15 rfl ?_
      exact jm_iret (pc := 19) dX12_held_19 rfl h
  · have h := h.2 q
    refine jm_iload_n (pc := 5) 2 dX12_held_5 rfl ?_
    refine jm_goto (pc := 6) 19 dX12_held_6 rfl ?_
    exact jm_iret (pc := 19) dX12_held_19 rfl h
theorem dX12_greater_0 : decode cX12_greater 0 = .ok (.iload_n 1, 1) := by decide +kernel
theorem dX12_greater_1 : decode cX12_greater 1 = .ok (.iload_n 2, 1) := by decide +kernel
theorem dX12_greater_2 : decode cX12_greater 2 = .ok (.if_icmp .le 7, 3) := by decide +kernel
theorem dX12_greater_5 : decode cX12_greater 5 = .ok (.iload_n 1, 1) := by decide +kernel
theorem dX12_greater_6 : decode cX12_greater 6 = .ok (.goto 4, 3) := by decide +kernel
theorem dX12_greater_9 : decode cX12_greater 9 = .ok (.iload_n 2, 1) := by decide +kernel
theorem dX12_greater_10 : decode cX12_greater 10 = .ok (.ireturn, 1) := by decide +kernel
theorem eX12_greater {l : Launch} {g : jm_G} {d : Nat} {v1 v2 : Int} (hg : jm_HR g) {mu : jm_M} {Q : Option Value → jm_M → Prop} (h : jm_rg v1 ∧ jm_rg v2 ∧ (v1 ≤ v2 → Q (some (jm_i v2)) mu) ∧ (v2 < v1 → Q (some (jm_i v1)) mu)) : jm_R l g (d + 1) iX12_greater [.ref 0, jm_i v1, jm_i v2] mu Q := by
  refine jm_enter [(0, .ref 0), (1, jm_i v1), (2, jm_i v2)] (by decide) (Nat.le_of_ble_eq_true rfl) rfl ?_
  refine jm_mrI (fun hm0 => ?_)
  refine jm_iload_n (pc := 0) 1 dX12_greater_0 rfl ?_
  refine jm_iload_n (pc := 1) 2 dX12_greater_1 rfl ?_
  have hg1 := h.1
  have h := h.2
  have hg2 := h.1
  have h := h.2
  refine jm_icmp_le (pc := 2) 9 dX12_greater_2 rfl hg1 hg2 (fun q => ?_) (fun q => ?_)
  · have h := h.1 q
    refine jm_iload_n (pc := 9) 2 dX12_greater_9 rfl ?_
    exact jm_iret (pc := 10) dX12_greater_10 rfl h
  · have h := h.2 q
    refine jm_iload_n (pc := 5) 1 dX12_greater_5 rfl ?_
    refine jm_goto (pc := 6) 10 dX12_greater_6 rfl ?_
    exact jm_iret (pc := 10) dX12_greater_10 rfl h
theorem dX12_lesser_0 : decode cX12_lesser 0 = .ok (.iload_n 1, 1) := by decide +kernel
theorem dX12_lesser_1 : decode cX12_lesser 1 = .ok (.iload_n 2, 1) := by decide +kernel
theorem dX12_lesser_2 : decode cX12_lesser 2 = .ok (.if_icmp .ge 7, 3) := by decide +kernel
theorem dX12_lesser_5 : decode cX12_lesser 5 = .ok (.iload_n 1, 1) := by decide +kernel
theorem dX12_lesser_6 : decode cX12_lesser 6 = .ok (.goto 4, 3) := by decide +kernel
theorem dX12_lesser_9 : decode cX12_lesser 9 = .ok (.iload_n 2, 1) := by decide +kernel
theorem dX12_lesser_10 : decode cX12_lesser 10 = .ok (.ireturn, 1) := by decide +kernel
theorem eX12_lesser {l : Launch} {g : jm_G} {d : Nat} {v1 v2 : Int} (hg : jm_HR g) {mu : jm_M} {Q : Option Value → jm_M → Prop} (h : jm_rg v1 ∧ jm_rg v2 ∧ (v2 ≤ v1 → Q (some (jm_i v2)) mu) ∧ (v1 < v2 → Q (some (jm_i v1)) mu)) : jm_R l g (d + 1) iX12_lesser [.ref 0, jm_i v1, jm_i v2] mu Q := by
  refine jm_enter [(0, .ref 0), (1, jm_i v1), (2, jm_i v2)] (by decide) (Nat.le_of_ble_eq_true rfl) rfl ?_
  refine jm_mrI (fun hm0 => ?_)
  refine jm_iload_n (pc := 0) 1 dX12_lesser_0 rfl ?_
  refine jm_iload_n (pc := 1) 2 dX12_lesser_1 rfl ?_
  have hg1 := h.1
  have h := h.2
  have hg2 := h.1
  have h := h.2
  refine jm_icmp_ge (pc := 2) 9 dX12_lesser_2 rfl hg1 hg2 (fun q => ?_) (fun q => ?_)
  · have h := h.1 q
    refine jm_iload_n (pc := 9) 2 dX12_lesser_9 rfl ?_
    exact jm_iret (pc := 10) dX12_lesser_10 rfl h
  · have h := h.2 q
    refine jm_iload_n (pc := 5) 1 dX12_lesser_5 rfl ?_
    refine jm_goto (pc := 6) 10 dX12_lesser_6 rfl ?_
    exact jm_iret (pc := 10) dX12_lesser_10 rfl h
theorem dX12_far_0 : decode cX12_far 0 = .ok (.iload_n 1, 1) := by decide +kernel
theorem dX12_far_1 : decode cX12_far 1 = .ok (.iload_n 2, 1) := by decide +kernel
theorem dX12_far_2 : decode cX12_far 2 = .ok (.if_icmp .le 9, 3) := by decide +kernel
theorem dX12_far_5 : decode cX12_far 5 = .ok (.iload_n 1, 1) := by decide +kernel
theorem dX12_far_6 : decode cX12_far 6 = .ok (.iload_n 2, 1) := by decide +kernel
theorem dX12_far_7 : decode cX12_far 7 = .ok (.isub, 1) := by decide +kernel
theorem dX12_far_8 : decode cX12_far 8 = .ok (.goto 6, 3) := by decide +kernel
theorem dX12_far_11 : decode cX12_far 11 = .ok (.iload_n 2, 1) := by decide +kernel
theorem dX12_far_12 : decode cX12_far 12 = .ok (.iload_n 1, 1) := by decide +kernel
theorem dX12_far_13 : decode cX12_far 13 = .ok (.isub, 1) := by decide +kernel
theorem dX12_far_14 : decode cX12_far 14 = .ok (.ireturn, 1) := by decide +kernel
theorem eX12_far {l : Launch} {g : jm_G} {d : Nat} {v1 v2 : Int} (hg : jm_HR g) {mu : jm_M} {Q : Option Value → jm_M → Prop} (h : jm_rg v1 ∧ jm_rg v2 ∧ (v1 ≤ v2 → Q (some (jm_i (v2 - v1))) mu) ∧ (v2 < v1 → Q (some (jm_i (v1 - v2))) mu)) : jm_R l g (d + 1) iX12_far [.ref 0, jm_i v1, jm_i v2] mu Q := by
  refine jm_enter [(0, .ref 0), (1, jm_i v1), (2, jm_i v2)] (by decide) (Nat.le_of_ble_eq_true rfl) rfl ?_
  refine jm_mrI (fun hm0 => ?_)
  refine jm_iload_n (pc := 0) 1 dX12_far_0 rfl ?_
  refine jm_iload_n (pc := 1) 2 dX12_far_1 rfl ?_
  have hg1 := h.1
  have h := h.2
  have hg2 := h.1
  have h := h.2
  refine jm_icmp_le (pc := 2) 11 dX12_far_2 rfl hg1 hg2 (fun q => ?_) (fun q => ?_)
  · have h := h.1 q
    refine jm_iload_n (pc := 11) 2 dX12_far_11 rfl ?_
    refine jm_iload_n (pc := 12) 1 dX12_far_12 rfl ?_
    refine jm_isub (pc := 13) dX12_far_13 ?_
    exact jm_iret (pc := 14) dX12_far_14 rfl h
  · have h := h.2 q
    refine jm_iload_n (pc := 5) 1 dX12_far_5 rfl ?_
    refine jm_iload_n (pc := 6) 2 dX12_far_6 rfl ?_
    refine jm_isub (pc := 7) dX12_far_7 ?_
    refine jm_goto (pc := 8) 14 dX12_far_8 rfl ?_
    exact jm_iret (pc := 14) dX12_far_14 rfl h
theorem dX12_onesOf_0 : decode cX12_onesOf 0 = .ok (.iconst 0, 1) := by decide +kernel
theorem dX12_onesOf_1 : decode cX12_onesOf 1 = .ok (.istore_n 2, 1) := by decide +kernel
theorem dX12_onesOf_2 : decode cX12_onesOf 2 = .ok (.iload_n 1, 1) := by decide +kernel
theorem dX12_onesOf_3 : decode cX12_onesOf 3 = .ok (.istore_n 3, 1) := by decide +kernel
theorem dX12_onesOf_4 : decode cX12_onesOf 4 = .ok (.iload_n 3, 1) := by decide +kernel
theorem dX12_onesOf_5 : decode cX12_onesOf 5 = .ok (.ifCond .eq 16, 3) := by decide +kernel
theorem dX12_onesOf_8 : decode cX12_onesOf 8 = .ok (.iload_n 2, 1) := by decide +kernel
theorem dX12_onesOf_9 : decode cX12_onesOf 9 = .ok (.iconst 1, 1) := by decide +kernel
theorem dX12_onesOf_10 : decode cX12_onesOf 10 = .ok (.iadd, 1) := by decide +kernel
theorem dX12_onesOf_11 : decode cX12_onesOf 11 = .ok (.istore_n 2, 1) := by decide +kernel
theorem dX12_onesOf_12 : decode cX12_onesOf 12 = .ok (.iload_n 3, 1) := by decide +kernel
theorem dX12_onesOf_13 : decode cX12_onesOf 13 = .ok (.iload_n 3, 1) := by decide +kernel
theorem dX12_onesOf_14 : decode cX12_onesOf 14 = .ok (.iconst 1, 1) := by decide +kernel
theorem dX12_onesOf_15 : decode cX12_onesOf 15 = .ok (.isub, 1) := by decide +kernel
theorem dX12_onesOf_16 : decode cX12_onesOf 16 = .ok (.iand, 1) := by decide +kernel
theorem dX12_onesOf_17 : decode cX12_onesOf 17 = .ok (.istore_n 3, 1) := by decide +kernel
theorem dX12_onesOf_18 : decode cX12_onesOf 18 = .ok (.goto (-14), 3) := by decide +kernel
theorem dX12_onesOf_21 : decode cX12_onesOf 21 = .ok (.iload_n 2, 1) := by decide +kernel
theorem dX12_onesOf_22 : decode cX12_onesOf 22 = .ok (.ireturn, 1) := by decide +kernel
theorem bX12_onesOf_4 {l : Launch} {g : jm_G} {d : Nat} {v2 v3 : Int} (hg : jm_HR g) {mu : jm_M} {Q : Option Value → jm_M → Prop} (h : jm_rg v3 ∧ (v3 = 0 → Q (some (jm_i v2)) mu) ∧ (¬ v3 = 0 → ∀ x2, x2 = (v2 + 1) → ∀ x3, x3 = (jm_and v3 (v3 - 1)) → jm_V l g (d + 1) iX12_onesOf 4 [(2, jm_i x2), (3, jm_i x3)] [] mu Q)) : jm_V l g (d + 1) iX12_onesOf 4 [(2, jm_i v2), (3, jm_i v3)] [] mu Q := by
  refine jm_mrI (fun hm0 => ?_)
  refine jm_iload_n (pc := 4) 1 dX12_onesOf_4 rfl ?_
  have hg1 := h.1
  have h := h.2
  refine jm_if_eq (pc := 5) 21 dX12_onesOf_5 rfl hg1 (fun q => ?_) (fun q => ?_)
  · have h := h.1 q
    refine jm_iload_n (pc := 21) 0 dX12_onesOf_21 rfl ?_
    exact jm_iret (pc := 22) dX12_onesOf_22 rfl h
  · have h := h.2 q
    refine jm_iload_n (pc := 8) 0 dX12_onesOf_8 rfl ?_
    refine jm_iconst (pc := 9) dX12_onesOf_9 ?_
    refine jm_iadd (pc := 10) dX12_onesOf_10 ?_
    have h := h _ rfl
    refine jm_istore_n (pc := 11) (lv' := [(2, _), (3, _)]) dX12_onesOf_11 (by decide) rfl ?_
    refine jm_iload_n (pc := 12) 1 dX12_onesOf_12 rfl ?_
    refine jm_iload_n (pc := 13) 1 dX12_onesOf_13 rfl ?_
    refine jm_iconst (pc := 14) dX12_onesOf_14 ?_
    refine jm_isub (pc := 15) dX12_onesOf_15 ?_
    refine jm_iand (pc := 16) dX12_onesOf_16 ?_
    have h := h _ rfl
    refine jm_istore_n (pc := 17) (lv' := [(3, _), (2, _)]) dX12_onesOf_17 (by decide) rfl ?_
    refine jm_goto (pc := 18) 4 dX12_onesOf_18 rfl ?_
    exact jm_sub [1, 0] rfl h
theorem eX12_onesOf {l : Launch} {g : jm_G} {d : Nat} {v1 : Int} (hg : jm_HR g) {mu : jm_M} {Q : Option Value → jm_M → Prop} (h : jm_V l g (d + 1) iX12_onesOf 4 [(2, jm_i 0), (3, jm_i v1)] [] mu Q) : jm_R l g (d + 1) iX12_onesOf [.ref 0, jm_i v1] mu Q := by
  refine jm_enter [(0, .ref 0), (1, jm_i v1)] (by decide) (Nat.le_of_ble_eq_true rfl) rfl ?_
  refine jm_mrI (fun hm0 => ?_)
  refine jm_iconst (pc := 0) dX12_onesOf_0 ?_
  refine jm_istore_n (pc := 1) (lv' := [(2, _), (0, _), (1, _)]) dX12_onesOf_1 (by decide) rfl ?_
  refine jm_iload_n (pc := 2) 2 dX12_onesOf_2 rfl ?_
  refine jm_istore_n (pc := 3) (lv' := [(3, _), (2, _), (0, _), (1, _)]) dX12_onesOf_3 (by decide) rfl ?_
  exact jm_sub [1, 0] rfl h
theorem dX12_keepsAhead_0 : decode cX12_keepsAhead 0 = .ok (.aload_n 0, 1) := by decide +kernel
theorem dX12_keepsAhead_1 : decode cX12_keepsAhead 1 = .ok (.getfield 107, 3) := by decide +kernel
theorem dX12_keepsAhead_4 : decode cX12_keepsAhead 4 = .ok (.bipush 6, 2) := by decide +kernel
theorem dX12_keepsAhead_6 : decode cX12_keepsAhead 6 = .ok (.if_icmp .ne 47, 3) := by decide +kernel
theorem dX12_keepsAhead_9 : decode cX12_keepsAhead 9 = .ok (.aload_n 0, 1) := by decide +kernel
theorem dX12_keepsAhead_10 : decode cX12_keepsAhead 10 = .ok (.aload_n 0, 1) := by decide +kernel
theorem dX12_keepsAhead_11 : decode cX12_keepsAhead 11 = .ok (.getfield 107, 3) := by decide +kernel
theorem dX12_keepsAhead_14 : decode cX12_keepsAhead 14 = .ok (.iconst 1, 1) := by decide +kernel
theorem dX12_keepsAhead_15 : decode cX12_keepsAhead 15 = .ok (.isub, 1) := by decide +kernel
theorem dX12_keepsAhead_16 : decode cX12_keepsAhead 16 = .ok (.putfield 107, 3) := by decide +kernel
theorem dX12_keepsAhead_19 : decode cX12_keepsAhead 19 = .ok (.iconst 0, 1) := by decide +kernel
theorem dX12_keepsAhead_20 : decode cX12_keepsAhead 20 = .ok (.istore_n 1, 1) := by decide +kernel
theorem dX12_keepsAhead_21 : decode cX12_keepsAhead 21 = .ok (.iload_n 1, 1) := by decide +kernel
theorem dX12_keepsAhead_22 : decode cX12_keepsAhead 22 = .ok (.bipush 22, 2) := by decide +kernel
theorem dX12_keepsAhead_24 : decode cX12_keepsAhead 24 = .ok (.aload_n 0, 1) := by decide +kernel
theorem dX12_keepsAhead_25 : decode cX12_keepsAhead 25 = .ok (.getfield 107, 3) := by decide +kernel
theorem dX12_keepsAhead_28 : decode cX12_keepsAhead 28 = .ok (.imul, 1) := by decide +kernel
theorem dX12_keepsAhead_29 : decode cX12_keepsAhead 29 = .ok (.if_icmp .ge 24, 3) := by decide +kernel
theorem dX12_keepsAhead_32 : decode cX12_keepsAhead 32 = .ok (.aload_n 0, 1) := by decide +kernel
theorem dX12_keepsAhead_33 : decode cX12_keepsAhead 33 = .ok (.getfield 13, 3) := by decide +kernel
theorem dX12_keepsAhead_36 : decode cX12_keepsAhead 36 = .ok (.iload_n 1, 1) := by decide +kernel
theorem dX12_keepsAhead_37 : decode cX12_keepsAhead 37 = .ok (.aload_n 0, 1) := by decide +kernel
theorem dX12_keepsAhead_38 : decode cX12_keepsAhead 38 = .ok (.getfield 13, 3) := by decide +kernel
theorem dX12_keepsAhead_41 : decode cX12_keepsAhead 41 = .ok (.iload_n 1, 1) := by decide +kernel
theorem dX12_keepsAhead_42 : decode cX12_keepsAhead 42 = .ok (.bipush 22, 2) := by decide +kernel
theorem dX12_keepsAhead_44 : decode cX12_keepsAhead 44 = .ok (.iadd, 1) := by decide +kernel
theorem dX12_keepsAhead_45 : decode cX12_keepsAhead 45 = .ok (.iaload, 1) := by decide +kernel
theorem dX12_keepsAhead_46 : decode cX12_keepsAhead 46 = .ok (.iastore, 1) := by decide +kernel
theorem dX12_keepsAhead_47 : decode cX12_keepsAhead 47 = .ok (.iinc 1 1, 3) := by decide +kernel
theorem dX12_keepsAhead_50 : decode cX12_keepsAhead 50 = .ok (.goto (-29), 3) := by decide +kernel
theorem dX12_keepsAhead_53 : decode cX12_keepsAhead 53 = .ok (.iconst 0, 1) := by decide +kernel
theorem dX12_keepsAhead_54 : decode cX12_keepsAhead 54 = .ok (.istore_n 1, 1) := by decide +kernel
theorem dX12_keepsAhead_55 : decode cX12_keepsAhead 55 = .ok (.iload_n 1, 1) := by decide +kernel
theorem dX12_keepsAhead_56 : decode cX12_keepsAhead 56 = .ok (.bipush 22, 2) := by decide +kernel
theorem dX12_keepsAhead_58 : decode cX12_keepsAhead 58 = .ok (.if_icmp .ge 29, 3) := by decide +kernel
theorem dX12_keepsAhead_61 : decode cX12_keepsAhead 61 = .ok (.aload_n 0, 1) := by decide +kernel
theorem dX12_keepsAhead_62 : decode cX12_keepsAhead 62 = .ok (.getfield 13, 3) := by decide +kernel
theorem dX12_keepsAhead_65 : decode cX12_keepsAhead 65 = .ok (.bipush 22, 2) := by decide +kernel
theorem dX12_keepsAhead_67 : decode cX12_keepsAhead 67 = .ok (.aload_n 0, 1) := by decide +kernel
theorem dX12_keepsAhead_68 : decode cX12_keepsAhead 68 = .ok (.getfield 107, 3) := by decide +kernel
theorem dX12_keepsAhead_71 : decode cX12_keepsAhead 71 = .ok (.imul, 1) := by decide +kernel
theorem dX12_keepsAhead_72 : decode cX12_keepsAhead 72 = .ok (.iload_n 1, 1) := by decide +kernel
theorem dX12_keepsAhead_73 : decode cX12_keepsAhead 73 = .ok (.iadd, 1) := by decide +kernel
theorem dX12_keepsAhead_74 : decode cX12_keepsAhead 74 = .ok (.aload_n 0, 1) := by decide +kernel
theorem dX12_keepsAhead_75 : decode cX12_keepsAhead 75 = .ok (.getfield 7, 3) := by decide +kernel
theorem dX12_keepsAhead_78 : decode cX12_keepsAhead 78 = .ok (.iload_n 1, 1) := by decide +kernel
theorem dX12_keepsAhead_79 : decode cX12_keepsAhead 79 = .ok (.iaload, 1) := by decide +kernel
theorem dX12_keepsAhead_80 : decode cX12_keepsAhead 80 = .ok (.iastore, 1) := by decide +kernel
theorem dX12_keepsAhead_81 : decode cX12_keepsAhead 81 = .ok (.iinc 1 1, 3) := by decide +kernel
theorem dX12_keepsAhead_84 : decode cX12_keepsAhead 84 = .ok (.goto (-29), 3) := by decide +kernel
theorem dX12_keepsAhead_87 : decode cX12_keepsAhead 87 = .ok (.aload_n 0, 1) := by decide +kernel
theorem dX12_keepsAhead_88 : decode cX12_keepsAhead 88 = .ok (.aload_n 0, 1) := by decide +kernel
theorem dX12_keepsAhead_89 : decode cX12_keepsAhead 89 = .ok (.getfield 107, 3) := by decide +kernel
theorem dX12_keepsAhead_92 : decode cX12_keepsAhead 92 = .ok (.iconst 1, 1) := by decide +kernel
theorem dX12_keepsAhead_93 : decode cX12_keepsAhead 93 = .ok (.iadd, 1) := by decide +kernel
theorem dX12_keepsAhead_94 : decode cX12_keepsAhead 94 = .ok (.putfield 107, 3) := by decide +kernel
theorem dX12_keepsAhead_97 : decode cX12_keepsAhead 97 = .ok (.return_, 1) := by decide +kernel
theorem bX12_keepsAhead_55 {l : Launch} {g : jm_G} {d : Nat} {v1 : Int} (hg : jm_HR g) {mu : jm_M} {Q : Option Value → jm_M → Prop} (h : jm_rg v1 ∧ (22 ≤ v1 → jm_rg ((mu.1 0 3) + 1) ∧ ∀ m3, m3 = jm_wr mu 0 3 ((mu.1 0 3) + 1) → Q none m3) ∧ (v1 < 22 → (0 ≤ v1 ∧ v1 < 22) ∧ (0 ≤ ((22 * (mu.1 0 3)) + v1) ∧ ((22 * (mu.1 0 3)) + v1) < 132) ∧ ∀ m7, m7 = jm_wr mu 2 ((22 * (mu.1 0 3)) + v1) (mu.1 1 v1) → jm_V l g (d + 1) iX12_keepsAhead 55 [(0, .ref 0), (1, jm_i (v1 + 1))] [] m7 Q)) : jm_V l g (d + 1) iX12_keepsAhead 55 [(0, .ref 0), (1, jm_i v1)] [] mu Q := by
  refine jm_mrI (fun hm0 => ?_)
  refine jm_iload_n (pc := 55) 1 dX12_keepsAhead_55 rfl ?_
  refine jm_bipush (pc := 56) dX12_keepsAhead_56 (by decide) ?_
  have hg1 := h.1
  have h := h.2
  refine jm_icmp_ge (pc := 58) 87 dX12_keepsAhead_58 rfl hg1 ⟨by decide, by decide⟩ (fun q => ?_) (fun q => ?_)
  · have h := h.1 q
    refine jm_aload_n (pc := 87) 0 dX12_keepsAhead_87 rfl ?_
    refine jm_aload_n (pc := 88) 0 dX12_keepsAhead_88 rfl ?_
    refine jm_geti (pc := 89) 3 dX12_keepsAhead_89 fX12_107 (cR0 hg) rfl ?_
    refine jm_iconst (pc := 92) dX12_keepsAhead_92 ?_
    refine jm_iadd (pc := 93) dX12_keepsAhead_93 ?_
    have hg2 := h.1
    have h := h.2
    refine jm_put (pc := 94) 3 dX12_keepsAhead_94 fX12_107 ftX12 (fun q h => by cases h; rfl) (jm_nI _) (jm_fI _) (cR0 hg) rfl hg2 ?_
    have h := h _ rfl
    refine jm_mrI (fun hm4 => ?_)
    exact jm_vret (pc := 97) dX12_keepsAhead_97 rfl h
  · have h := h.2 q
    refine jm_aload_n (pc := 61) 0 dX12_keepsAhead_61 rfl ?_
    refine jm_getr (pc := 62) 2 dX12_keepsAhead_62 fX12_13 (cR0 hg) rfl ?_
    refine jm_bipush (pc := 65) dX12_keepsAhead_65 (by decide) ?_
    refine jm_aload_n (pc := 67) 0 dX12_keepsAhead_67 rfl ?_
    refine jm_geti (pc := 68) 3 dX12_keepsAhead_68 fX12_107 (cR0 hg) rfl ?_
    refine jm_imul (pc := 71) dX12_keepsAhead_71 ?_
    refine jm_iload_n (pc := 72) 1 dX12_keepsAhead_72 rfl ?_
    refine jm_iadd (pc := 73) dX12_keepsAhead_73 ?_
    refine jm_aload_n (pc := 74) 0 dX12_keepsAhead_74 rfl ?_
    refine jm_getr (pc := 75) 1 dX12_keepsAhead_75 fX12_7 (cR0 hg) rfl ?_
    refine jm_iload_n (pc := 78) 1 dX12_keepsAhead_78 rfl ?_
    have hg5 := h.1
    have h := h.2
    refine jm_iald (pc := 79) dX12_keepsAhead_79 (cR1 hg) (by decide) hg5.1 hg5.2 ?_
    have hg6 := h.1
    have h := h.2
    refine jm_iast (pc := 80) dX12_keepsAhead_80 (cR2 hg) (by decide) hg6.1 hg6.2 (hm0 _ _) ?_
    have h := h _ rfl
    refine jm_mrI (fun hm8 => ?_)
    refine jm_iinc (pc := 81) (lv' := [(1, _), (0, _)]) 1 dX12_keepsAhead_81 rfl (by decide) rfl ?_
    refine jm_goto (pc := 84) 55 dX12_keepsAhead_84 rfl ?_
    exact jm_sub [1, 0] rfl h
theorem bX12_keepsAhead_21 {l : Launch} {g : jm_G} {d : Nat} {v1 : Int} (hg : jm_HR g) {mu : jm_M} {Q : Option Value → jm_M → Prop} (h : jm_rg v1 ∧ jm_rg (22 * (mu.1 0 3)) ∧ ((22 * (mu.1 0 3)) ≤ v1 → jm_V l g (d + 1) iX12_keepsAhead 55 [(0, .ref 0), (1, jm_i 0)] [] mu Q) ∧ (v1 < (22 * (mu.1 0 3)) → (0 ≤ (v1 + 22) ∧ (v1 + 22) < 132) ∧ (0 ≤ v1 ∧ v1 < 132) ∧ ∀ m5, m5 = jm_wr mu 2 v1 (mu.1 2 (v1 + 22)) → jm_V l g (d + 1) iX12_keepsAhead 21 [(0, .ref 0), (1, jm_i (v1 + 1))] [] m5 Q)) : jm_V l g (d + 1) iX12_keepsAhead 21 [(0, .ref 0), (1, jm_i v1)] [] mu Q := by
  refine jm_mrI (fun hm0 => ?_)
  refine jm_iload_n (pc := 21) 1 dX12_keepsAhead_21 rfl ?_
  refine jm_bipush (pc := 22) dX12_keepsAhead_22 (by decide) ?_
  refine jm_aload_n (pc := 24) 0 dX12_keepsAhead_24 rfl ?_
  refine jm_geti (pc := 25) 3 dX12_keepsAhead_25 fX12_107 (cR0 hg) rfl ?_
  refine jm_imul (pc := 28) dX12_keepsAhead_28 ?_
  have hg1 := h.1
  have h := h.2
  have hg2 := h.1
  have h := h.2
  refine jm_icmp_ge (pc := 29) 53 dX12_keepsAhead_29 rfl hg1 hg2 (fun q => ?_) (fun q => ?_)
  · have h := h.1 q
    refine jm_iconst (pc := 53) dX12_keepsAhead_53 ?_
    refine jm_istore_n (pc := 54) (lv' := [(1, _), (0, _)]) dX12_keepsAhead_54 (by decide) rfl ?_
    exact jm_sub [1, 0] rfl h
  · have h := h.2 q
    refine jm_aload_n (pc := 32) 0 dX12_keepsAhead_32 rfl ?_
    refine jm_getr (pc := 33) 2 dX12_keepsAhead_33 fX12_13 (cR0 hg) rfl ?_
    refine jm_iload_n (pc := 36) 1 dX12_keepsAhead_36 rfl ?_
    refine jm_aload_n (pc := 37) 0 dX12_keepsAhead_37 rfl ?_
    refine jm_getr (pc := 38) 2 dX12_keepsAhead_38 fX12_13 (cR0 hg) rfl ?_
    refine jm_iload_n (pc := 41) 1 dX12_keepsAhead_41 rfl ?_
    refine jm_bipush (pc := 42) dX12_keepsAhead_42 (by decide) ?_
    refine jm_iadd (pc := 44) dX12_keepsAhead_44 ?_
    have hg3 := h.1
    have h := h.2
    refine jm_iald (pc := 45) dX12_keepsAhead_45 (cR2 hg) (by decide) hg3.1 hg3.2 ?_
    have hg4 := h.1
    have h := h.2
    refine jm_iast (pc := 46) dX12_keepsAhead_46 (cR2 hg) (by decide) hg4.1 hg4.2 (hm0 _ _) ?_
    have h := h _ rfl
    refine jm_mrI (fun hm6 => ?_)
    refine jm_iinc (pc := 47) (lv' := [(1, _), (0, _)]) 1 dX12_keepsAhead_47 rfl (by decide) rfl ?_
    refine jm_goto (pc := 50) 21 dX12_keepsAhead_50 rfl ?_
    exact jm_sub [1, 0] rfl h
theorem eX12_keepsAhead {l : Launch} {g : jm_G} {d : Nat} (hg : jm_HR g) {mu : jm_M} {Q : Option Value → jm_M → Prop} (h : (¬ (mu.1 0 3) = 6 → jm_V l g (d + 1) iX12_keepsAhead 55 [(0, .ref 0), (1, jm_i 0)] [] mu Q) ∧ ((mu.1 0 3) = 6 → jm_rg ((mu.1 0 3) - 1) ∧ ∀ m2, m2 = jm_wr mu 0 3 ((mu.1 0 3) - 1) → jm_V l g (d + 1) iX12_keepsAhead 21 [(0, .ref 0), (1, jm_i 0)] [] m2 Q)) : jm_R l g (d + 1) iX12_keepsAhead [.ref 0] mu Q := by
  refine jm_enter [(0, .ref 0)] (by decide) (Nat.le_of_ble_eq_true rfl) rfl ?_
  refine jm_mrI (fun hm0 => ?_)
  refine jm_aload_n (pc := 0) 0 dX12_keepsAhead_0 rfl ?_
  refine jm_geti (pc := 1) 3 dX12_keepsAhead_1 fX12_107 (cR0 hg) rfl ?_
  refine jm_bipush (pc := 4) dX12_keepsAhead_4 (by decide) ?_
  refine jm_icmp_ne (pc := 6) 53 dX12_keepsAhead_6 rfl (hm0 _ _) ⟨by decide, by decide⟩ (fun q => ?_) (fun q => ?_)
  · have h := h.1 q
    refine jm_iconst (pc := 53) dX12_keepsAhead_53 ?_
    refine jm_istore_n (pc := 54) (lv' := [(1, _), (0, _)]) dX12_keepsAhead_54 (by decide) rfl ?_
    exact jm_sub [1, 0] rfl h
  · have h := h.2 q
    refine jm_aload_n (pc := 9) 0 dX12_keepsAhead_9 rfl ?_
    refine jm_aload_n (pc := 10) 0 dX12_keepsAhead_10 rfl ?_
    refine jm_geti (pc := 11) 3 dX12_keepsAhead_11 fX12_107 (cR0 hg) rfl ?_
    refine jm_iconst (pc := 14) dX12_keepsAhead_14 ?_
    refine jm_isub (pc := 15) dX12_keepsAhead_15 ?_
    have hg1 := h.1
    have h := h.2
    refine jm_put (pc := 16) 3 dX12_keepsAhead_16 fX12_107 ftX12 (fun q h => by cases h; rfl) (jm_nI _) (jm_fI _) (cR0 hg) rfl hg1 ?_
    have h := h _ rfl
    refine jm_mrI (fun hm3 => ?_)
    refine jm_iconst (pc := 19) dX12_keepsAhead_19 ?_
    refine jm_istore_n (pc := 20) (lv' := [(1, _), (0, _)]) dX12_keepsAhead_20 (by decide) rfl ?_
    exact jm_sub [1, 0] rfl h
theorem dX12_undo_0 : decode cX12_undo 0 = .ok (.aload_n 0, 1) := by decide +kernel
theorem dX12_undo_1 : decode cX12_undo 1 = .ok (.iconst 0, 1) := by decide +kernel
theorem dX12_undo_2 : decode cX12_undo 2 = .ok (.putfield 104, 3) := by decide +kernel
theorem dX12_undo_5 : decode cX12_undo 5 = .ok (.aload_n 0, 1) := by decide +kernel
theorem dX12_undo_6 : decode cX12_undo 6 = .ok (.getfield 107, 3) := by decide +kernel
theorem dX12_undo_9 : decode cX12_undo 9 = .ok (.ifCond .ne 5, 3) := by decide +kernel
theorem dX12_undo_12 : decode cX12_undo 12 = .ok (.iconst 0, 1) := by decide +kernel
theorem dX12_undo_13 : decode cX12_undo 13 = .ok (.ireturn, 1) := by decide +kernel
theorem dX12_undo_14 : decode cX12_undo 14 = .ok (.aload_n 0, 1) := by decide +kernel
theorem dX12_undo_15 : decode cX12_undo 15 = .ok (.aload_n 0, 1) := by decide +kernel
theorem dX12_undo_16 : decode cX12_undo 16 = .ok (.getfield 107, 3) := by decide +kernel
theorem dX12_undo_19 : decode cX12_undo 19 = .ok (.iconst 1, 1) := by decide +kernel
theorem dX12_undo_20 : decode cX12_undo 20 = .ok (.isub, 1) := by decide +kernel
theorem dX12_undo_21 : decode cX12_undo 21 = .ok (.putfield 107, 3) := by decide +kernel
theorem dX12_undo_24 : decode cX12_undo 24 = .ok (.iconst 0, 1) := by decide +kernel
theorem dX12_undo_25 : decode cX12_undo 25 = .ok (.istore_n 1, 1) := by decide +kernel
theorem dX12_undo_26 : decode cX12_undo 26 = .ok (.iload_n 1, 1) := by decide +kernel
theorem dX12_undo_27 : decode cX12_undo 27 = .ok (.bipush 22, 2) := by decide +kernel
theorem dX12_undo_29 : decode cX12_undo 29 = .ok (.if_icmp .ge 29, 3) := by decide +kernel
theorem dX12_undo_32 : decode cX12_undo 32 = .ok (.aload_n 0, 1) := by decide +kernel
theorem dX12_undo_33 : decode cX12_undo 33 = .ok (.getfield 7, 3) := by decide +kernel
theorem dX12_undo_36 : decode cX12_undo 36 = .ok (.iload_n 1, 1) := by decide +kernel
theorem dX12_undo_37 : decode cX12_undo 37 = .ok (.aload_n 0, 1) := by decide +kernel
theorem dX12_undo_38 : decode cX12_undo 38 = .ok (.getfield 13, 3) := by decide +kernel
theorem dX12_undo_41 : decode cX12_undo 41 = .ok (.bipush 22, 2) := by decide +kernel
theorem dX12_undo_43 : decode cX12_undo 43 = .ok (.aload_n 0, 1) := by decide +kernel
theorem dX12_undo_44 : decode cX12_undo 44 = .ok (.getfield 107, 3) := by decide +kernel
theorem dX12_undo_47 : decode cX12_undo 47 = .ok (.imul, 1) := by decide +kernel
theorem dX12_undo_48 : decode cX12_undo 48 = .ok (.iload_n 1, 1) := by decide +kernel
theorem dX12_undo_49 : decode cX12_undo 49 = .ok (.iadd, 1) := by decide +kernel
theorem dX12_undo_50 : decode cX12_undo 50 = .ok (.iaload, 1) := by decide +kernel
theorem dX12_undo_51 : decode cX12_undo 51 = .ok (.iastore, 1) := by decide +kernel
theorem dX12_undo_52 : decode cX12_undo 52 = .ok (.iinc 1 1, 3) := by decide +kernel
theorem dX12_undo_55 : decode cX12_undo 55 = .ok (.goto (-29), 3) := by decide +kernel
theorem dX12_undo_58 : decode cX12_undo 58 = .ok (.iconst 1, 1) := by decide +kernel
theorem dX12_undo_59 : decode cX12_undo 59 = .ok (.ireturn, 1) := by decide +kernel
theorem bX12_undo_26 {l : Launch} {g : jm_G} {d : Nat} {v1 : Int} (hg : jm_HR g) {mu : jm_M} {Q : Option Value → jm_M → Prop} (h : jm_rg v1 ∧ (22 ≤ v1 → Q (some (jm_i 1)) mu) ∧ (v1 < 22 → (0 ≤ ((22 * (mu.1 0 3)) + v1) ∧ ((22 * (mu.1 0 3)) + v1) < 132) ∧ (0 ≤ v1 ∧ v1 < 22) ∧ ∀ m4, m4 = jm_wr mu 1 v1 (mu.1 2 ((22 * (mu.1 0 3)) + v1)) → jm_V l g (d + 1) iX12_undo 26 [(0, .ref 0), (1, jm_i (v1 + 1))] [] m4 Q)) : jm_V l g (d + 1) iX12_undo 26 [(0, .ref 0), (1, jm_i v1)] [] mu Q := by
  refine jm_mrI (fun hm0 => ?_)
  refine jm_iload_n (pc := 26) 1 dX12_undo_26 rfl ?_
  refine jm_bipush (pc := 27) dX12_undo_27 (by decide) ?_
  have hg1 := h.1
  have h := h.2
  refine jm_icmp_ge (pc := 29) 58 dX12_undo_29 rfl hg1 ⟨by decide, by decide⟩ (fun q => ?_) (fun q => ?_)
  · have h := h.1 q
    refine jm_iconst (pc := 58) dX12_undo_58 ?_
    exact jm_zret (pc := 59) dX12_undo_59 rfl (Or.inr rfl) h
  · have h := h.2 q
    refine jm_aload_n (pc := 32) 0 dX12_undo_32 rfl ?_
    refine jm_getr (pc := 33) 1 dX12_undo_33 fX12_7 (cR0 hg) rfl ?_
    refine jm_iload_n (pc := 36) 1 dX12_undo_36 rfl ?_
    refine jm_aload_n (pc := 37) 0 dX12_undo_37 rfl ?_
    refine jm_getr (pc := 38) 2 dX12_undo_38 fX12_13 (cR0 hg) rfl ?_
    refine jm_bipush (pc := 41) dX12_undo_41 (by decide) ?_
    refine jm_aload_n (pc := 43) 0 dX12_undo_43 rfl ?_
    refine jm_geti (pc := 44) 3 dX12_undo_44 fX12_107 (cR0 hg) rfl ?_
    refine jm_imul (pc := 47) dX12_undo_47 ?_
    refine jm_iload_n (pc := 48) 1 dX12_undo_48 rfl ?_
    refine jm_iadd (pc := 49) dX12_undo_49 ?_
    have hg2 := h.1
    have h := h.2
    refine jm_iald (pc := 50) dX12_undo_50 (cR2 hg) (by decide) hg2.1 hg2.2 ?_
    have hg3 := h.1
    have h := h.2
    refine jm_iast (pc := 51) dX12_undo_51 (cR1 hg) (by decide) hg3.1 hg3.2 (hm0 _ _) ?_
    have h := h _ rfl
    refine jm_mrI (fun hm5 => ?_)
    refine jm_iinc (pc := 52) (lv' := [(1, _), (0, _)]) 1 dX12_undo_52 rfl (by decide) rfl ?_
    refine jm_goto (pc := 55) 26 dX12_undo_55 rfl ?_
    exact jm_sub [1, 0] rfl h
theorem eX12_undo {l : Launch} {g : jm_G} {d : Nat} (hg : jm_HR g) {mu : jm_M} {Q : Option Value → jm_M → Prop} (h : ∀ m1, m1 = jm_wr mu 0 0 0 → (¬ (m1.1 0 3) = 0 → jm_rg ((m1.1 0 3) - 1) ∧ ∀ m4, m4 = jm_wr m1 0 3 ((m1.1 0 3) - 1) → jm_V l g (d + 1) iX12_undo 26 [(0, .ref 0), (1, jm_i 0)] [] m4 Q) ∧ ((m1.1 0 3) = 0 → Q (some (jm_i 0)) m1)) : jm_R l g (d + 1) iX12_undo [.ref 0] mu Q := by
  refine jm_enter [(0, .ref 0)] (by decide) (Nat.le_of_ble_eq_true rfl) rfl ?_
  refine jm_mrI (fun hm0 => ?_)
  refine jm_aload_n (pc := 0) 0 dX12_undo_0 rfl ?_
  refine jm_iconst (pc := 1) dX12_undo_1 ?_
  refine jm_put (pc := 2) 0 dX12_undo_2 fX12_104 ftX12 (fun q h => by cases h; rfl) (jm_nI _) (jm_fI _) (cR0 hg) rfl ⟨by decide, by decide⟩ ?_
  have h := h _ rfl
  refine jm_mrI (fun hm2 => ?_)
  refine jm_aload_n (pc := 5) 0 dX12_undo_5 rfl ?_
  refine jm_geti (pc := 6) 3 dX12_undo_6 fX12_107 (cR0 hg) rfl ?_
  refine jm_if_ne (pc := 9) 14 dX12_undo_9 rfl (hm2 _ _) (fun q => ?_) (fun q => ?_)
  · have h := h.1 q
    refine jm_aload_n (pc := 14) 0 dX12_undo_14 rfl ?_
    refine jm_aload_n (pc := 15) 0 dX12_undo_15 rfl ?_
    refine jm_geti (pc := 16) 3 dX12_undo_16 fX12_107 (cR0 hg) rfl ?_
    refine jm_iconst (pc := 19) dX12_undo_19 ?_
    refine jm_isub (pc := 20) dX12_undo_20 ?_
    have hg3 := h.1
    have h := h.2
    refine jm_put (pc := 21) 3 dX12_undo_21 fX12_107 ftX12 (fun q h => by cases h; rfl) (jm_nI _) (jm_fI _) (cR0 hg) rfl hg3 ?_
    have h := h _ rfl
    refine jm_mrI (fun hm5 => ?_)
    refine jm_iconst (pc := 24) dX12_undo_24 ?_
    refine jm_istore_n (pc := 25) (lv' := [(1, _), (0, _)]) dX12_undo_25 (by decide) rfl ?_
    exact jm_sub [1, 0] rfl h
  · have h := h.2 q
    refine jm_iconst (pc := 12) dX12_undo_12 ?_
    exact jm_zret (pc := 13) dX12_undo_13 rfl (Or.inl rfl) h
theorem dX12_state_0 : decode cX12_state 0 = .ok (.aload_n 0, 1) := by decide +kernel
theorem dX12_state_1 : decode cX12_state 1 = .ok (.iconst 0, 1) := by decide +kernel
theorem dX12_state_2 : decode cX12_state 2 = .ok (.putfield 104, 3) := by decide +kernel
theorem dX12_state_5 : decode cX12_state 5 = .ok (.aload_n 0, 1) := by decide +kernel
theorem dX12_state_6 : decode cX12_state 6 = .ok (.getfield 7, 3) := by decide +kernel
theorem dX12_state_9 : decode cX12_state 9 = .ok (.iconst 1, 1) := by decide +kernel
theorem dX12_state_10 : decode cX12_state 10 = .ok (.iaload, 1) := by decide +kernel
theorem dX12_state_11 : decode cX12_state 11 = .ok (.istore_n 2, 1) := by decide +kernel
theorem dX12_state_12 : decode cX12_state 12 = .ok (.aload_n 0, 1) := by decide +kernel
theorem dX12_state_13 : decode cX12_state 13 = .ok (.getfield 7, 3) := by decide +kernel
theorem dX12_state_16 : decode cX12_state 16 = .ok (.iconst 1, 1) := by decide +kernel
theorem dX12_state_17 : decode cX12_state 17 = .ok (.iload_n 1, 1) := by decide +kernel
theorem dX12_state_18 : decode cX12_state 18 = .ok (.iastore, 1) := by decide +kernel
theorem dX12_state_19 : decode cX12_state 19 = .ok (.aload_n 0, 1) := by decide +kernel
theorem dX12_state_20 : decode cX12_state 20 = .ok (.iconst 0, 1) := by decide +kernel
theorem dX12_state_21 : decode cX12_state 21 = .ok (.putfield 107, 3) := by decide +kernel
theorem dX12_state_24 : decode cX12_state 24 = .ok (.iload_n 2, 1) := by decide +kernel
theorem dX12_state_25 : decode cX12_state 25 = .ok (.ireturn, 1) := by decide +kernel
theorem eX12_state {l : Launch} {g : jm_G} {d : Nat} {v1 : Int} (hg : jm_HR g) {mu : jm_M} {Q : Option Value → jm_M → Prop} (h : ∀ m1, m1 = jm_wr mu 0 0 0 → ∀ x3, x3 = (m1.1 1 1) → jm_rg v1 ∧ ∀ m5, m5 = jm_wr m1 1 1 v1 → ∀ m7, m7 = jm_wr m5 0 3 0 → Q (some (jm_i x3)) m7) : jm_R l g (d + 1) iX12_state [.ref 0, jm_i v1] mu Q := by
  refine jm_enter [(0, .ref 0), (1, jm_i v1)] (by decide) (Nat.le_of_ble_eq_true rfl) rfl ?_
  refine jm_mrI (fun hm0 => ?_)
  refine jm_aload_n (pc := 0) 0 dX12_state_0 rfl ?_
  refine jm_iconst (pc := 1) dX12_state_1 ?_
  refine jm_put (pc := 2) 0 dX12_state_2 fX12_104 ftX12 (fun q h => by cases h; rfl) (jm_nI _) (jm_fI _) (cR0 hg) rfl ⟨by decide, by decide⟩ ?_
  have h := h _ rfl
  refine jm_mrI (fun hm2 => ?_)
  refine jm_aload_n (pc := 5) 0 dX12_state_5 rfl ?_
  refine jm_getr (pc := 6) 1 dX12_state_6 fX12_7 (cR0 hg) rfl ?_
  refine jm_iconst (pc := 9) dX12_state_9 ?_
  refine jm_iald (pc := 10) dX12_state_10 (cR1 hg) (by decide) (by decide) (by decide) ?_
  have h := h _ rfl
  refine jm_istore_n (pc := 11) (lv' := [(2, _), (0, _), (1, _)]) dX12_state_11 (by decide) rfl ?_
  refine jm_aload_n (pc := 12) 1 dX12_state_12 rfl ?_
  refine jm_getr (pc := 13) 1 dX12_state_13 fX12_7 (cR0 hg) rfl ?_
  refine jm_iconst (pc := 16) dX12_state_16 ?_
  refine jm_iload_n (pc := 17) 2 dX12_state_17 rfl ?_
  have hg4 := h.1
  have h := h.2
  refine jm_iast (pc := 18) dX12_state_18 (cR1 hg) (by decide) (by decide) (by decide) hg4 ?_
  have h := h _ rfl
  refine jm_mrI (fun hm6 => ?_)
  refine jm_aload_n (pc := 19) 1 dX12_state_19 rfl ?_
  refine jm_iconst (pc := 20) dX12_state_20 ?_
  refine jm_put (pc := 21) 3 dX12_state_21 fX12_107 ftX12 (fun q h => by cases h; rfl) (jm_nI _) (jm_fI _) (cR0 hg) rfl ⟨by decide, by decide⟩ ?_
  have h := h _ rfl
  refine jm_mrI (fun hm8 => ?_)
  refine jm_iload_n (pc := 24) 0 dX12_state_24 rfl ?_
  exact jm_iret (pc := 25) dX12_state_25 rfl h
theorem pX12_state {l : Launch} {g : jm_G} {d : Nat} {v1 : Int} (hg : jm_HR g) {mu : jm_M} {Q : Option Value → jm_M → Prop} (o0 : jm_rg v1) (h : Q (some (jm_i (((jm_wr mu 0 0 0).1 1 1)))) (jm_wr (jm_wr (jm_wr mu 0 0 0) 1 1 v1) 0 3 0)) : jm_R l g (d + 1) iX12_state [.ref 0, jm_i v1] mu Q := by
  refine eX12_state hg ?_
  intro x hx
  subst hx
  intro x hx
  subst hx
  refine ⟨o0, ?_⟩
  intro x hx
  subst hx
  intro x hx
  subst hx
  exact h
theorem dX12_draw_0 : decode cX12_draw 0 = .ok (.aload_n 0, 1) := by decide +kernel
theorem dX12_draw_1 : decode cX12_draw 1 = .ok (.getfield 7, 3) := by decide +kernel
theorem dX12_draw_4 : decode cX12_draw 4 = .ok (.iconst 1, 1) := by decide +kernel
theorem dX12_draw_5 : decode cX12_draw 5 = .ok (.ldc 110, 2) := by decide +kernel
theorem dX12_draw_7 : decode cX12_draw 7 = .ok (.aload_n 0, 1) := by decide +kernel
theorem dX12_draw_8 : decode cX12_draw 8 = .ok (.getfield 7, 3) := by decide +kernel
theorem dX12_draw_11 : decode cX12_draw 11 = .ok (.iconst 1, 1) := by decide +kernel
theorem dX12_draw_12 : decode cX12_draw 12 = .ok (.iaload, 1) := by decide +kernel
theorem dX12_draw_13 : decode cX12_draw 13 = .ok (.imul, 1) := by decide +kernel
theorem dX12_draw_14 : decode cX12_draw 14 = .ok (.ldc 111, 2) := by decide +kernel
theorem dX12_draw_16 : decode cX12_draw 16 = .ok (.iadd, 1) := by decide +kernel
theorem dX12_draw_17 : decode cX12_draw 17 = .ok (.iastore, 1) := by decide +kernel
theorem dX12_draw_18 : decode cX12_draw 18 = .ok (.aload_n 0, 1) := by decide +kernel
theorem dX12_draw_19 : decode cX12_draw 19 = .ok (.getfield 7, 3) := by decide +kernel
theorem dX12_draw_22 : decode cX12_draw 22 = .ok (.iconst 1, 1) := by decide +kernel
theorem dX12_draw_23 : decode cX12_draw 23 = .ok (.iaload, 1) := by decide +kernel
theorem dX12_draw_24 : decode cX12_draw 24 = .ok (.bipush 8, 2) := by decide +kernel
theorem dX12_draw_26 : decode cX12_draw 26 = .ok (.iushr, 1) := by decide +kernel
theorem dX12_draw_27 : decode cX12_draw 27 = .ok (.iload_n 1, 1) := by decide +kernel
theorem dX12_draw_28 : decode cX12_draw 28 = .ok (.irem, 1) := by decide +kernel
theorem dX12_draw_29 : decode cX12_draw 29 = .ok (.ireturn, 1) := by decide +kernel
theorem eX12_draw {l : Launch} {g : jm_G} {d : Nat} {v1 : Int} (hg : jm_HR g) {mu : jm_M} {Q : Option Value → jm_M → Prop} (h : ∀ m1, m1 = jm_wr mu 1 1 (jm_nm ((1664525 * (mu.1 1 1)) + 1013904223)) → jm_rg v1 ∧ ¬ v1 = 0 ∧ Q (some (jm_i (Int.tmod (jm_ushr (m1.1 1 1) 8) v1))) m1) : jm_R l g (d + 1) iX12_draw [.ref 0, jm_i v1] mu Q := by
  refine jm_enter [(0, .ref 0), (1, jm_i v1)] (by decide) (Nat.le_of_ble_eq_true rfl) rfl ?_
  refine jm_mrI (fun hm0 => ?_)
  refine jm_aload_n (pc := 0) 0 dX12_draw_0 rfl ?_
  refine jm_getr (pc := 1) 1 dX12_draw_1 fX12_7 (cR0 hg) rfl ?_
  refine jm_iconst (pc := 4) dX12_draw_4 ?_
  refine jm_ldc (pc := 5) 1664525 dX12_draw_5 kX12_110 (by decide) ?_
  refine jm_aload_n (pc := 7) 0 dX12_draw_7 rfl ?_
  refine jm_getr (pc := 8) 1 dX12_draw_8 fX12_7 (cR0 hg) rfl ?_
  refine jm_iconst (pc := 11) dX12_draw_11 ?_
  refine jm_iald (pc := 12) dX12_draw_12 (cR1 hg) (by decide) (by decide) (by decide) ?_
  refine jm_imul (pc := 13) dX12_draw_13 ?_
  refine jm_ldc (pc := 14) 1013904223 dX12_draw_14 kX12_111 (by decide) ?_
  refine jm_iadd (pc := 16) dX12_draw_16 ?_
  refine jm_n0 ?_
  refine jm_iast (pc := 17) dX12_draw_17 (cR1 hg) (by decide) (by decide) (by decide) (jm_rgT _) ?_
  have h := h _ rfl
  refine jm_mrI (fun hm2 => ?_)
  refine jm_aload_n (pc := 18) 0 dX12_draw_18 rfl ?_
  refine jm_getr (pc := 19) 1 dX12_draw_19 fX12_7 (cR0 hg) rfl ?_
  refine jm_iconst (pc := 22) dX12_draw_22 ?_
  refine jm_iald (pc := 23) dX12_draw_23 (cR1 hg) (by decide) (by decide) (by decide) ?_
  refine jm_bipush (pc := 24) dX12_draw_24 (by decide) ?_
  refine jm_iushr (pc := 26) dX12_draw_26 ?_
  refine jm_iload_n (pc := 27) 1 dX12_draw_27 rfl ?_
  have hg3 := h.1
  have h := h.2
  have hg4 := h.1
  have h := h.2
  refine jm_irem (pc := 28) (jm_rgT _) hg3 hg4 dX12_draw_28 ?_
  exact jm_iret (pc := 29) dX12_draw_29 rfl h
theorem pX12_draw {l : Launch} {g : jm_G} {d : Nat} {v1 : Int} (hg : jm_HR g) {mu : jm_M} {Q : Option Value → jm_M → Prop} (o0 : jm_rg v1) (o1 : ¬ v1 = 0) (h : Q (some (jm_i (Int.tmod (jm_ushr ((jm_wr mu 1 1 (jm_nm ((1664525 * (mu.1 1 1)) + 1013904223))).1 1 1) 8) v1))) (jm_wr mu 1 1 (jm_nm ((1664525 * (mu.1 1 1)) + 1013904223)))) : jm_R l g (d + 1) iX12_draw [.ref 0, jm_i v1] mu Q := by
  refine eX12_draw hg ?_
  intro x hx
  subst hx
  refine ⟨o0, ?_⟩
  refine ⟨o1, ?_⟩
  exact h
theorem dX12_soundNow_0 : decode cX12_soundNow 0 = .ok (.sipush 953, 3) := by decide +kernel
theorem dX12_soundNow_3 : decode cX12_soundNow 3 = .ok (.aload_n 0, 1) := by decide +kernel
theorem dX12_soundNow_4 : decode cX12_soundNow 4 = .ok (.getfield 112, 3) := by decide +kernel
theorem dX12_soundNow_7 : decode cX12_soundNow 7 = .ok (.ixor, 1) := by decide +kernel
theorem dX12_soundNow_8 : decode cX12_soundNow 8 = .ok (.ireturn, 1) := by decide +kernel
theorem eX12_soundNow {l : Launch} {g : jm_G} {d : Nat} (hg : jm_HR g) {mu : jm_M} {Q : Option Value → jm_M → Prop} (h : Q (some (jm_i (jm_xor 953 (mu.1 0 9)))) mu) : jm_R l g (d + 1) iX12_soundNow [.ref 0] mu Q := by
  refine jm_enter [(0, .ref 0)] (by decide) (Nat.le_of_ble_eq_true rfl) rfl ?_
  refine jm_mrI (fun hm0 => ?_)
  refine jm_sipush (pc := 0) dX12_soundNow_0 (by decide) ?_
  refine jm_aload_n (pc := 3) 0 dX12_soundNow_3 rfl ?_
  refine jm_geti (pc := 4) 9 dX12_soundNow_4 fX12_112 (cR0 hg) rfl ?_
  refine jm_ixor (pc := 7) dX12_soundNow_7 ?_
  exact jm_iret (pc := 8) dX12_soundNow_8 rfl h
theorem pX12_soundNow {l : Launch} {g : jm_G} {d : Nat} (hg : jm_HR g) {mu : jm_M} {Q : Option Value → jm_M → Prop} (h : Q (some (jm_i (jm_xor 953 (mu.1 0 9)))) mu) : jm_R l g (d + 1) iX12_soundNow [.ref 0] mu Q := by
  refine eX12_soundNow hg ?_
  exact h
theorem dX12_needNow_0 : decode cX12_needNow 0 = .ok (.aload_n 0, 1) := by decide +kernel
theorem dX12_needNow_1 : decode cX12_needNow 1 = .ok (.getfield 115, 3) := by decide +kernel
theorem dX12_needNow_4 : decode cX12_needNow 4 = .ok (.bipush 10, 2) := by decide +kernel
theorem dX12_needNow_6 : decode cX12_needNow 6 = .ok (.iadd, 1) := by decide +kernel
theorem dX12_needNow_7 : decode cX12_needNow 7 = .ok (.ireturn, 1) := by decide +kernel
theorem eX12_needNow {l : Launch} {g : jm_G} {d : Nat} (hg : jm_HR g) {mu : jm_M} {Q : Option Value → jm_M → Prop} (h : Q (some (jm_i ((mu.1 0 10) + 10))) mu) : jm_R l g (d + 1) iX12_needNow [.ref 0] mu Q := by
  refine jm_enter [(0, .ref 0)] (by decide) (Nat.le_of_ble_eq_true rfl) rfl ?_
  refine jm_mrI (fun hm0 => ?_)
  refine jm_aload_n (pc := 0) 0 dX12_needNow_0 rfl ?_
  refine jm_geti (pc := 1) 10 dX12_needNow_1 fX12_115 (cR0 hg) rfl ?_
  refine jm_bipush (pc := 4) dX12_needNow_4 (by decide) ?_
  refine jm_iadd (pc := 6) dX12_needNow_6 ?_
  exact jm_iret (pc := 7) dX12_needNow_7 rfl h
theorem pX12_needNow {l : Launch} {g : jm_G} {d : Nat} (hg : jm_HR g) {mu : jm_M} {Q : Option Value → jm_M → Prop} (h : Q (some (jm_i ((mu.1 0 10) + 10))) mu) : jm_R l g (d + 1) iX12_needNow [.ref 0] mu Q := by
  refine eX12_needNow hg ?_
  exact h
