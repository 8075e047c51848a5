section JKC
variable {l : Launch} {g : jc_G}
theorem dX5_init_0 : decode cX5_init 0 = .ok (.aload_n 0, 1) := by decide +kernel
theorem dX5_init_1 : decode cX5_init 1 = .ok (.invokespecial 5, 3) := by decide +kernel
theorem dX5_init_4 : decode cX5_init 4 = .ok (.aload_n 0, 1) := by decide +kernel
theorem dX5_init_5 : decode cX5_init 5 = .ok (.iconst 0, 1) := by decide +kernel
theorem dX5_init_6 : decode cX5_init 6 = .ok (.putfield 11, 3) := by decide +kernel
theorem dX5_init_9 : decode cX5_init 9 = .ok (.aload_n 0, 1) := by decide +kernel
theorem dX5_init_10 : decode cX5_init 10 = .ok (.bipush 24, 2) := by decide +kernel
theorem dX5_init_12 : decode cX5_init 12 = .ok (.newarray .int, 2) := by decide +kernel
theorem dX5_init_14 : decode cX5_init 14 = .ok (.putfield 17, 3) := by decide +kernel
theorem dX5_init_17 : decode cX5_init 17 = .ok (.aload_n 0, 1) := by decide +kernel
theorem dX5_init_18 : decode cX5_init 18 = .ok (.sipush 168, 3) := by decide +kernel
theorem dX5_init_21 : decode cX5_init 21 = .ok (.newarray .int, 2) := by decide +kernel
theorem dX5_init_23 : decode cX5_init 23 = .ok (.putfield 21, 3) := by decide +kernel
theorem dX5_init_26 : decode cX5_init 26 = .ok (.return_, 1) := by decide +kernel
def wX5 (g : jc_G) (ad : Nat → Nat) : va_W := [(ad 0, .inr (5, [.int 0, .ref (ad 1), .ref (ad 2)])), (ad 1, .inl (g.2.1, 24, .inl (fun _ => 0))), (ad 2, .inl (g.2.1, 168, .inl (fun _ => 0)))]
theorem kX5 (h0 : Nat) : jc_R l g 4 2 192 iX5_init [.ref h0] [(h0, .inr (5, dvX5))] (fun w => ∃ ad : Nat → Nat, ad 0 = h0 ∧ w = wX5 g ad) := by
  refine jc_enter [(0, .ref h0)] (by decide) rfl (Nat.le_of_ble_eq_true rfl) rfl rfl ?_
  refine jc_aload_n (pc := 0) 0 dX5_init_0 rfl ?_
  refine jc_obj (pc := 1) dX5_init_1 oiX5_5 oiI oiC (by decide) ?_
  refine jc_aload_n (pc := 4) 0 dX5_init_4 rfl ?_
  refine jc_iconst (pc := 5) 0 dX5_init_5 (by decide) ?_
  refine jc_put (pc := 6) (ws' := [(h0, .inr (5, [.int 0, .null, .null]))]) 0 0 dX5_init_6 fkX5_11 ftX5 (fun q h => by cases h; exact Or.inl rfl) rfl rfl rfl (Nat.le_of_ble_eq_true rfl) rfl ?_
  refine jc_aload_n (pc := 9) 0 dX5_init_9 rfl ?_
  refine jc_bipush (pc := 10) 24 dX5_init_10 (by decide) ?_
  refine jc_newi (pc := 12) 24 dX5_init_12 acI (by decide) (by decide) (by decide) (by decide) (by decide) (fun a1 => ?_)
  refine jc_to (ws' := [(h0, .inr (5, [.int 0, .null, .null])), (a1, .inl (g.2.1, 24, .inl (fun _ => 0)))]) rfl ?_
  refine jc_put (pc := 14) (ws' := [(h0, .inr (5, [.int 0, .ref a1, .null])), (a1, .inl (g.2.1, 24, .inl (fun _ => 0)))]) 0 1 dX5_init_14 fkX5_17 ftX5 (fun q h => by cases h; exact Or.inr ⟨rfl, rfl⟩) rfl rfl rfl (Nat.le_of_ble_eq_true rfl) rfl ?_
  refine jc_aload_n (pc := 17) 0 dX5_init_17 rfl ?_
  refine jc_sipush (pc := 18) 168 dX5_init_18 (by decide) ?_
  refine jc_newi (pc := 21) 168 dX5_init_21 acI (by decide) (by decide) (by decide) (by decide) (by decide) (fun a2 => ?_)
  refine jc_to (ws' := [(h0, .inr (5, [.int 0, .ref a1, .null])), (a1, .inl (g.2.1, 24, .inl (fun _ => 0))), (a2, .inl (g.2.1, 168, .inl (fun _ => 0)))]) rfl ?_
  refine jc_put (pc := 23) (ws' := [(h0, .inr (5, [.int 0, .ref a1, .ref a2])), (a1, .inl (g.2.1, 24, .inl (fun _ => 0))), (a2, .inl (g.2.1, 168, .inl (fun _ => 0)))]) 0 2 dX5_init_23 fkX5_21 ftX5 (fun q h => by cases h; exact Or.inr ⟨rfl, rfl⟩) rfl rfl rfl (Nat.le_of_ble_eq_true rfl) rfl ?_
  exact jc_ret (pc := 26) dX5_init_26 (by decide) (by decide) ⟨fun k => [h0, a1, a2].getD k 0, rfl, rfl⟩
theorem dX3_init_0 : decode cX3_init 0 = .ok (.aload_n 0, 1) := by decide +kernel
theorem dX3_init_1 : decode cX3_init 1 = .ok (.invokespecial 3, 3) := by decide +kernel
theorem dX3_init_4 : decode cX3_init 4 = .ok (.aload_n 0, 1) := by decide +kernel
theorem dX3_init_5 : decode cX3_init 5 = .ok (.iconst 0, 1) := by decide +kernel
theorem dX3_init_6 : decode cX3_init 6 = .ok (.putfield 9, 3) := by decide +kernel
theorem dX3_init_9 : decode cX3_init 9 = .ok (.aload_n 0, 1) := by decide +kernel
theorem dX3_init_10 : decode cX3_init 10 = .ok (.iconst 0, 1) := by decide +kernel
theorem dX3_init_11 : decode cX3_init 11 = .ok (.putfield 15, 3) := by decide +kernel
theorem dX3_init_14 : decode cX3_init 14 = .ok (.aload_n 0, 1) := by decide +kernel
theorem dX3_init_15 : decode cX3_init 15 = .ok (.sipush 400, 3) := by decide +kernel
theorem dX3_init_18 : decode cX3_init 18 = .ok (.newarray .int, 2) := by decide +kernel
theorem dX3_init_20 : decode cX3_init 20 = .ok (.putfield 18, 3) := by decide +kernel
theorem dX3_init_23 : decode cX3_init 23 = .ok (.aload_n 0, 1) := by decide +kernel
theorem dX3_init_24 : decode cX3_init 24 = .ok (.bipush 16, 2) := by decide +kernel
theorem dX3_init_26 : decode cX3_init 26 = .ok (.newarray .int, 2) := by decide +kernel
theorem dX3_init_28 : decode cX3_init 28 = .ok (.putfield 22, 3) := by decide +kernel
theorem dX3_init_31 : decode cX3_init 31 = .ok (.aload_n 0, 1) := by decide +kernel
theorem dX3_init_32 : decode cX3_init 32 = .ok (.bipush 16, 2) := by decide +kernel
theorem dX3_init_34 : decode cX3_init 34 = .ok (.newarray .int, 2) := by decide +kernel
theorem dX3_init_36 : decode cX3_init 36 = .ok (.putfield 25, 3) := by decide +kernel
theorem dX3_init_39 : decode cX3_init 39 = .ok (.aload_n 0, 1) := by decide +kernel
theorem dX3_init_40 : decode cX3_init 40 = .ok (.bipush 16, 2) := by decide +kernel
theorem dX3_init_42 : decode cX3_init 42 = .ok (.newarray .int, 2) := by decide +kernel
theorem dX3_init_44 : decode cX3_init 44 = .ok (.putfield 28, 3) := by decide +kernel
theorem dX3_init_47 : decode cX3_init 47 = .ok (.aload_n 0, 1) := by decide +kernel
theorem dX3_init_48 : decode cX3_init 48 = .ok (.bipush 16, 2) := by decide +kernel
theorem dX3_init_50 : decode cX3_init 50 = .ok (.newarray .int, 2) := by decide +kernel
theorem dX3_init_52 : decode cX3_init 52 = .ok (.putfield 31, 3) := by decide +kernel
theorem dX3_init_55 : decode cX3_init 55 = .ok (.aload_n 0, 1) := by decide +kernel
theorem dX3_init_56 : decode cX3_init 56 = .ok (.bipush 64, 2) := by decide +kernel
theorem dX3_init_58 : decode cX3_init 58 = .ok (.newarray .int, 2) := by decide +kernel
theorem dX3_init_60 : decode cX3_init 60 = .ok (.putfield 34, 3) := by decide +kernel
theorem dX3_init_63 : decode cX3_init 63 = .ok (.return_, 1) := by decide +kernel
def wX3 (g : jc_G) (ad : Nat → Nat) : va_W := [(ad 0, .inr (3, [.int 0, .int 0, .ref (ad 1), .ref (ad 2), .ref (ad 3), .ref (ad 4), .ref (ad 5), .ref (ad 6)])), (ad 1, .inl (g.2.1, 400, .inl (fun _ => 0))), (ad 2, .inl (g.2.1, 16, .inl (fun _ => 0))), (ad 3, .inl (g.2.1, 16, .inl (fun _ => 0))), (ad 4, .inl (g.2.1, 16, .inl (fun _ => 0))), (ad 5, .inl (g.2.1, 16, .inl (fun _ => 0))), (ad 6, .inl (g.2.1, 64, .inl (fun _ => 0)))]
theorem kX3 (h0 : Nat) : jc_R l g 4 6 528 iX3_init [.ref h0] [(h0, .inr (3, dvX3))] (fun w => ∃ ad : Nat → Nat, ad 0 = h0 ∧ w = wX3 g ad) := by
  refine jc_enter [(0, .ref h0)] (by decide) rfl (Nat.le_of_ble_eq_true rfl) rfl rfl ?_
  refine jc_aload_n (pc := 0) 0 dX3_init_0 rfl ?_
  refine jc_obj (pc := 1) dX3_init_1 oiX3_3 oiI oiC (by decide) ?_
  refine jc_aload_n (pc := 4) 0 dX3_init_4 rfl ?_
  refine jc_iconst (pc := 5) 0 dX3_init_5 (by decide) ?_
  refine jc_put (pc := 6) (ws' := [(h0, .inr (3, [.int 0, .int 0, .null, .null, .null, .null, .null, .null]))]) 0 0 dX3_init_6 fkX3_9 ftX3 (fun q h => by cases h; exact Or.inl rfl) rfl rfl rfl (Nat.le_of_ble_eq_true rfl) rfl ?_
  refine jc_aload_n (pc := 9) 0 dX3_init_9 rfl ?_
  refine jc_iconst (pc := 10) 0 dX3_init_10 (by decide) ?_
  refine jc_put (pc := 11) (ws' := [(h0, .inr (3, [.int 0, .int 0, .null, .null, .null, .null, .null, .null]))]) 0 1 dX3_init_11 fkX3_15 ftX3 (fun q h => by cases h; exact Or.inl rfl) rfl rfl rfl (Nat.le_of_ble_eq_true rfl) rfl ?_
  refine jc_aload_n (pc := 14) 0 dX3_init_14 rfl ?_
  refine jc_sipush (pc := 15) 400 dX3_init_15 (by decide) ?_
  refine jc_newi (pc := 18) 400 dX3_init_18 acI (by decide) (by decide) (by decide) (by decide) (by decide) (fun a1 => ?_)
  refine jc_to (ws' := [(h0, .inr (3, [.int 0, .int 0, .null, .null, .null, .null, .null, .null])), (a1, .inl (g.2.1, 400, .inl (fun _ => 0)))]) rfl ?_
  refine jc_put (pc := 20) (ws' := [(h0, .inr (3, [.int 0, .int 0, .ref a1, .null, .null, .null, .null, .null])), (a1, .inl (g.2.1, 400, .inl (fun _ => 0)))]) 0 2 dX3_init_20 fkX3_18 ftX3 (fun q h => by cases h; exact Or.inr ⟨rfl, rfl⟩) rfl rfl rfl (Nat.le_of_ble_eq_true rfl) rfl ?_
  refine jc_aload_n (pc := 23) 0 dX3_init_23 rfl ?_
  refine jc_bipush (pc := 24) 16 dX3_init_24 (by decide) ?_
  refine jc_newi (pc := 26) 16 dX3_init_26 acI (by decide) (by decide) (by decide) (by decide) (by decide) (fun a2 => ?_)
  refine jc_to (ws' := [(h0, .inr (3, [.int 0, .int 0, .ref a1, .null, .null, .null, .null, .null])), (a1, .inl (g.2.1, 400, .inl (fun _ => 0))), (a2, .inl (g.2.1, 16, .inl (fun _ => 0)))]) rfl ?_
  refine jc_put (pc := 28) (ws' := [(h0, .inr (3, [.int 0, .int 0, .ref a1, .ref a2, .null, .null, .null, .null])), (a1, .inl (g.2.1, 400, .inl (fun _ => 0))), (a2, .inl (g.2.1, 16, .inl (fun _ => 0)))]) 0 3 dX3_init_28 fkX3_22 ftX3 (fun q h => by cases h; exact Or.inr ⟨rfl, rfl⟩) rfl rfl rfl (Nat.le_of_ble_eq_true rfl) rfl ?_
  refine jc_aload_n (pc := 31) 0 dX3_init_31 rfl ?_
  refine jc_bipush (pc := 32) 16 dX3_init_32 (by decide) ?_
  refine jc_newi (pc := 34) 16 dX3_init_34 acI (by decide) (by decide) (by decide) (by decide) (by decide) (fun a3 => ?_)
  refine jc_to (ws' := [(h0, .inr (3, [.int 0, .int 0, .ref a1, .ref a2, .null, .null, .null, .null])), (a1, .inl (g.2.1, 400, .inl (fun _ => 0))), (a2, .inl (g.2.1, 16, .inl (fun _ => 0))), (a3, .inl (g.2.1, 16, .inl (fun _ => 0)))]) rfl ?_
  refine jc_put (pc := 36) (ws' := [(h0, .inr (3, [.int 0, .int 0, .ref a1, .ref a2, .ref a3, .null, .null, .null])), (a1, .inl (g.2.1, 400, .inl (fun _ => 0))), (a2, .inl (g.2.1, 16, .inl (fun _ => 0))), (a3, .inl (g.2.1, 16, .inl (fun _ => 0)))]) 0 4 dX3_init_36 fkX3_25 ftX3 (fun q h => by cases h; exact Or.inr ⟨rfl, rfl⟩) rfl rfl rfl (Nat.le_of_ble_eq_true rfl) rfl ?_
  refine jc_aload_n (pc := 39) 0 dX3_init_39 rfl ?_
  refine jc_bipush (pc := 40) 16 dX3_init_40 (by decide) ?_
  refine jc_newi (pc := 42) 16 dX3_init_42 acI (by decide) (by decide) (by decide) (by decide) (by decide) (fun a4 => ?_)
  refine jc_to (ws' := [(h0, .inr (3, [.int 0, .int 0, .ref a1, .ref a2, .ref a3, .null, .null, .null])), (a1, .inl (g.2.1, 400, .inl (fun _ => 0))), (a2, .inl (g.2.1, 16, .inl (fun _ => 0))), (a3, .inl (g.2.1, 16, .inl (fun _ => 0))), (a4, .inl (g.2.1, 16, .inl (fun _ => 0)))]) rfl ?_
  refine jc_put (pc := 44) (ws' := [(h0, .inr (3, [.int 0, .int 0, .ref a1, .ref a2, .ref a3, .ref a4, .null, .null])), (a1, .inl (g.2.1, 400, .inl (fun _ => 0))), (a2, .inl (g.2.1, 16, .inl (fun _ => 0))), (a3, .inl (g.2.1, 16, .inl (fun _ => 0))), (a4, .inl (g.2.1, 16, .inl (fun _ => 0)))]) 0 5 dX3_init_44 fkX3_28 ftX3 (fun q h => by cases h; exact Or.inr ⟨rfl, rfl⟩) rfl rfl rfl (Nat.le_of_ble_eq_true rfl) rfl ?_
  refine jc_aload_n (pc := 47) 0 dX3_init_47 rfl ?_
  refine jc_bipush (pc := 48) 16 dX3_init_48 (by decide) ?_
  refine jc_newi (pc := 50) 16 dX3_init_50 acI (by decide) (by decide) (by decide) (by decide) (by decide) (fun a5 => ?_)
  refine jc_to (ws' := [(h0, .inr (3, [.int 0, .int 0, .ref a1, .ref a2, .ref a3, .ref a4, .null, .null])), (a1, .inl (g.2.1, 400, .inl (fun _ => 0))), (a2, .inl (g.2.1, 16, .inl (fun _ => 0))), (a3, .inl (g.2.1, 16, .inl (fun _ => 0))), (a4, .inl (g.2.1, 16, .inl (fun _ => 0))), (a5, .inl (g.2.1, 16, .inl (fun _ => 0)))]) rfl ?_
  refine jc_put (pc := 52) (ws' := [(h0, .inr (3, [.int 0, .int 0, .ref a1, .ref a2, .ref a3, .ref a4, .ref a5, .null])), (a1, .inl (g.2.1, 400, .inl (fun _ => 0))), (a2, .inl (g.2.1, 16, .inl (fun _ => 0))), (a3, .inl (g.2.1, 16, .inl (fun _ => 0))), (a4, .inl (g.2.1, 16, .inl (fun _ => 0))), (a5, .inl (g.2.1, 16, .inl (fun _ => 0)))]) 0 6 dX3_init_52 fkX3_31 ftX3 (fun q h => by cases h; exact Or.inr ⟨rfl, rfl⟩) rfl rfl rfl (Nat.le_of_ble_eq_true rfl) rfl ?_
  refine jc_aload_n (pc := 55) 0 dX3_init_55 rfl ?_
  refine jc_bipush (pc := 56) 64 dX3_init_56 (by decide) ?_
  refine jc_newi (pc := 58) 64 dX3_init_58 acI (by decide) (by decide) (by decide) (by decide) (by decide) (fun a6 => ?_)
  refine jc_to (ws' := [(h0, .inr (3, [.int 0, .int 0, .ref a1, .ref a2, .ref a3, .ref a4, .ref a5, .null])), (a1, .inl (g.2.1, 400, .inl (fun _ => 0))), (a2, .inl (g.2.1, 16, .inl (fun _ => 0))), (a3, .inl (g.2.1, 16, .inl (fun _ => 0))), (a4, .inl (g.2.1, 16, .inl (fun _ => 0))), (a5, .inl (g.2.1, 16, .inl (fun _ => 0))), (a6, .inl (g.2.1, 64, .inl (fun _ => 0)))]) rfl ?_
  refine jc_put (pc := 60) (ws' := [(h0, .inr (3, [.int 0, .int 0, .ref a1, .ref a2, .ref a3, .ref a4, .ref a5, .ref a6])), (a1, .inl (g.2.1, 400, .inl (fun _ => 0))), (a2, .inl (g.2.1, 16, .inl (fun _ => 0))), (a3, .inl (g.2.1, 16, .inl (fun _ => 0))), (a4, .inl (g.2.1, 16, .inl (fun _ => 0))), (a5, .inl (g.2.1, 16, .inl (fun _ => 0))), (a6, .inl (g.2.1, 64, .inl (fun _ => 0)))]) 0 7 dX3_init_60 fkX3_34 ftX3 (fun q h => by cases h; exact Or.inr ⟨rfl, rfl⟩) rfl rfl rfl (Nat.le_of_ble_eq_true rfl) rfl ?_
  exact jc_ret (pc := 63) dX3_init_63 (by decide) (by decide) ⟨fun k => [h0, a1, a2, a3, a4, a5, a6].getD k 0, rfl, rfl⟩
theorem dX6_init_0 : decode cX6_init 0 = .ok (.aload_n 0, 1) := by decide +kernel
theorem dX6_init_1 : decode cX6_init 1 = .ok (.invokespecial 5, 3) := by decide +kernel
theorem dX6_init_4 : decode cX6_init 4 = .ok (.aload_n 0, 1) := by decide +kernel
theorem dX6_init_5 : decode cX6_init 5 = .ok (.iconst 0, 1) := by decide +kernel
theorem dX6_init_6 : decode cX6_init 6 = .ok (.putfield 11, 3) := by decide +kernel
theorem dX6_init_9 : decode cX6_init 9 = .ok (.aload_n 0, 1) := by decide +kernel
theorem dX6_init_10 : decode cX6_init 10 = .ok (.bipush 60, 2) := by decide +kernel
theorem dX6_init_12 : decode cX6_init 12 = .ok (.newarray .int, 2) := by decide +kernel
theorem dX6_init_14 : decode cX6_init 14 = .ok (.putfield 17, 3) := by decide +kernel
theorem dX6_init_17 : decode cX6_init 17 = .ok (.aload_n 0, 1) := by decide +kernel
theorem dX6_init_18 : decode cX6_init 18 = .ok (.bipush 60, 2) := by decide +kernel
theorem dX6_init_20 : decode cX6_init 20 = .ok (.newarray .int, 2) := by decide +kernel
theorem dX6_init_22 : decode cX6_init 22 = .ok (.putfield 21, 3) := by decide +kernel
theorem dX6_init_25 : decode cX6_init 25 = .ok (.aload_n 0, 1) := by decide +kernel
theorem dX6_init_26 : decode cX6_init 26 = .ok (.bipush 60, 2) := by decide +kernel
theorem dX6_init_28 : decode cX6_init 28 = .ok (.newarray .int, 2) := by decide +kernel
theorem dX6_init_30 : decode cX6_init 30 = .ok (.putfield 24, 3) := by decide +kernel
theorem dX6_init_33 : decode cX6_init 33 = .ok (.aload_n 0, 1) := by decide +kernel
theorem dX6_init_34 : decode cX6_init 34 = .ok (.bipush 60, 2) := by decide +kernel
theorem dX6_init_36 : decode cX6_init 36 = .ok (.newarray .int, 2) := by decide +kernel
theorem dX6_init_38 : decode cX6_init 38 = .ok (.putfield 27, 3) := by decide +kernel
theorem dX6_init_41 : decode cX6_init 41 = .ok (.aload_n 0, 1) := by decide +kernel
theorem dX6_init_42 : decode cX6_init 42 = .ok (.iconst 4, 1) := by decide +kernel
theorem dX6_init_43 : decode cX6_init 43 = .ok (.newarray .int, 2) := by decide +kernel
theorem dX6_init_45 : decode cX6_init 45 = .ok (.putfield 30, 3) := by decide +kernel
theorem dX6_init_48 : decode cX6_init 48 = .ok (.aload_n 0, 1) := by decide +kernel
theorem dX6_init_49 : decode cX6_init 49 = .ok (.iconst 4, 1) := by decide +kernel
theorem dX6_init_50 : decode cX6_init 50 = .ok (.newarray .int, 2) := by decide +kernel
theorem dX6_init_52 : decode cX6_init 52 = .ok (.putfield 33, 3) := by decide +kernel
theorem dX6_init_55 : decode cX6_init 55 = .ok (.aload_n 0, 1) := by decide +kernel
theorem dX6_init_56 : decode cX6_init 56 = .ok (.iconst 0, 1) := by decide +kernel
theorem dX6_init_57 : decode cX6_init 57 = .ok (.putfield 36, 3) := by decide +kernel
theorem dX6_init_60 : decode cX6_init 60 = .ok (.return_, 1) := by decide +kernel
def wX6 (g : jc_G) (ad : Nat → Nat) : va_W := [(ad 0, .inr (6, [.int 0, .ref (ad 1), .ref (ad 2), .ref (ad 3), .ref (ad 4), .ref (ad 5), .ref (ad 6), .int 0])), (ad 1, .inl (g.2.1, 60, .inl (fun _ => 0))), (ad 2, .inl (g.2.1, 60, .inl (fun _ => 0))), (ad 3, .inl (g.2.1, 60, .inl (fun _ => 0))), (ad 4, .inl (g.2.1, 60, .inl (fun _ => 0))), (ad 5, .inl (g.2.1, 4, .inl (fun _ => 0))), (ad 6, .inl (g.2.1, 4, .inl (fun _ => 0)))]
theorem kX6 (h0 : Nat) : jc_R l g 4 6 248 iX6_init [.ref h0] [(h0, .inr (6, dvX6))] (fun w => ∃ ad : Nat → Nat, ad 0 = h0 ∧ w = wX6 g ad) := by
  refine jc_enter [(0, .ref h0)] (by decide) rfl (Nat.le_of_ble_eq_true rfl) rfl rfl ?_
  refine jc_aload_n (pc := 0) 0 dX6_init_0 rfl ?_
  refine jc_obj (pc := 1) dX6_init_1 oiX6_5 oiI oiC (by decide) ?_
  refine jc_aload_n (pc := 4) 0 dX6_init_4 rfl ?_
  refine jc_iconst (pc := 5) 0 dX6_init_5 (by decide) ?_
  refine jc_put (pc := 6) (ws' := [(h0, .inr (6, [.int 0, .null, .null, .null, .null, .null, .null, .int 0]))]) 0 0 dX6_init_6 fkX6_11 ftX6 (fun q h => by cases h; exact Or.inl rfl) rfl rfl rfl (Nat.le_of_ble_eq_true rfl) rfl ?_
  refine jc_aload_n (pc := 9) 0 dX6_init_9 rfl ?_
  refine jc_bipush (pc := 10) 60 dX6_init_10 (by decide) ?_
  refine jc_newi (pc := 12) 60 dX6_init_12 acI (by decide) (by decide) (by decide) (by decide) (by decide) (fun a1 => ?_)
  refine jc_to (ws' := [(h0, .inr (6, [.int 0, .null, .null, .null, .null, .null, .null, .int 0])), (a1, .inl (g.2.1, 60, .inl (fun _ => 0)))]) rfl ?_
  refine jc_put (pc := 14) (ws' := [(h0, .inr (6, [.int 0, .ref a1, .null, .null, .null, .null, .null, .int 0])), (a1, .inl (g.2.1, 60, .inl (fun _ => 0)))]) 0 1 dX6_init_14 fkX6_17 ftX6 (fun q h => by cases h; exact Or.inr ⟨rfl, rfl⟩) rfl rfl rfl (Nat.le_of_ble_eq_true rfl) rfl ?_
  refine jc_aload_n (pc := 17) 0 dX6_init_17 rfl ?_
  refine jc_bipush (pc := 18) 60 dX6_init_18 (by decide) ?_
  refine jc_newi (pc := 20) 60 dX6_init_20 acI (by decide) (by decide) (by decide) (by decide) (by decide) (fun a2 => ?_)
  refine jc_to (ws' := [(h0, .inr (6, [.int 0, .ref a1, .null, .null, .null, .null, .null, .int 0])), (a1, .inl (g.2.1, 60, .inl (fun _ => 0))), (a2, .inl (g.2.1, 60, .inl (fun _ => 0)))]) rfl ?_
  refine jc_put (pc := 22) (ws' := [(h0, .inr (6, [.int 0, .ref a1, .ref a2, .null, .null, .null, .null, .int 0])), (a1, .inl (g.2.1, 60, .inl (fun _ => 0))), (a2, .inl (g.2.1, 60, .inl (fun _ => 0)))]) 0 2 dX6_init_22 fkX6_21 ftX6 (fun q h => by cases h; exact Or.inr ⟨rfl, rfl⟩) rfl rfl rfl (Nat.le_of_ble_eq_true rfl) rfl ?_
  refine jc_aload_n (pc := 25) 0 dX6_init_25 rfl ?_
  refine jc_bipush (pc := 26) 60 dX6_init_26 (by decide) ?_
  refine jc_newi (pc := 28) 60 dX6_init_28 acI (by decide) (by decide) (by decide) (by decide) (by decide) (fun a3 => ?_)
  refine jc_to (ws' := [(h0, .inr (6, [.int 0, .ref a1, .ref a2, .null, .null, .null, .null, .int 0])), (a1, .inl (g.2.1, 60, .inl (fun _ => 0))), (a2, .inl (g.2.1, 60, .inl (fun _ => 0))), (a3, .inl (g.2.1, 60, .inl (fun _ => 0)))]) rfl ?_
  refine jc_put (pc := 30) (ws' := [(h0, .inr (6, [.int 0, .ref a1, .ref a2, .ref a3, .null, .null, .null, .int 0])), (a1, .inl (g.2.1, 60, .inl (fun _ => 0))), (a2, .inl (g.2.1, 60, .inl (fun _ => 0))), (a3, .inl (g.2.1, 60, .inl (fun _ => 0)))]) 0 3 dX6_init_30 fkX6_24 ftX6 (fun q h => by cases h; exact Or.inr ⟨rfl, rfl⟩) rfl rfl rfl (Nat.le_of_ble_eq_true rfl) rfl ?_
  refine jc_aload_n (pc := 33) 0 dX6_init_33 rfl ?_
  refine jc_bipush (pc := 34) 60 dX6_init_34 (by decide) ?_
  refine jc_newi (pc := 36) 60 dX6_init_36 acI (by decide) (by decide) (by decide) (by decide) (by decide) (fun a4 => ?_)
  refine jc_to (ws' := [(h0, .inr (6, [.int 0, .ref a1, .ref a2, .ref a3, .null, .null, .null, .int 0])), (a1, .inl (g.2.1, 60, .inl (fun _ => 0))), (a2, .inl (g.2.1, 60, .inl (fun _ => 0))), (a3, .inl (g.2.1, 60, .inl (fun _ => 0))), (a4, .inl (g.2.1, 60, .inl (fun _ => 0)))]) rfl ?_
  refine jc_put (pc := 38) (ws' := [(h0, .inr (6, [.int 0, .ref a1, .ref a2, .ref a3, .ref a4, .null, .null, .int 0])), (a1, .inl (g.2.1, 60, .inl (fun _ => 0))), (a2, .inl (g.2.1, 60, .inl (fun _ => 0))), (a3, .inl (g.2.1, 60, .inl (fun _ => 0))), (a4, .inl (g.2.1, 60, .inl (fun _ => 0)))]) 0 4 dX6_init_38 fkX6_27 ftX6 (fun q h => by cases h; exact Or.inr ⟨rfl, rfl⟩) rfl rfl rfl (Nat.le_of_ble_eq_true rfl) rfl ?_
  refine jc_aload_n (pc := 41) 0 dX6_init_41 rfl ?_
  refine jc_iconst (pc := 42) 4 dX6_init_42 (by decide) ?_
  refine jc_newi (pc := 43) 4 dX6_init_43 acI (by decide) (by decide) (by decide) (by decide) (by decide) (fun a5 => ?_)
  refine jc_to (ws' := [(h0, .inr (6, [.int 0, .ref a1, .ref a2, .ref a3, .ref a4, .null, .null, .int 0])), (a1, .inl (g.2.1, 60, .inl (fun _ => 0))), (a2, .inl (g.2.1, 60, .inl (fun _ => 0))), (a3, .inl (g.2.1, 60, .inl (fun _ => 0))), (a4, .inl (g.2.1, 60, .inl (fun _ => 0))), (a5, .inl (g.2.1, 4, .inl (fun _ => 0)))]) rfl ?_
  refine jc_put (pc := 45) (ws' := [(h0, .inr (6, [.int 0, .ref a1, .ref a2, .ref a3, .ref a4, .ref a5, .null, .int 0])), (a1, .inl (g.2.1, 60, .inl (fun _ => 0))), (a2, .inl (g.2.1, 60, .inl (fun _ => 0))), (a3, .inl (g.2.1, 60, .inl (fun _ => 0))), (a4, .inl (g.2.1, 60, .inl (fun _ => 0))), (a5, .inl (g.2.1, 4, .inl (fun _ => 0)))]) 0 5 dX6_init_45 fkX6_30 ftX6 (fun q h => by cases h; exact Or.inr ⟨rfl, rfl⟩) rfl rfl rfl (Nat.le_of_ble_eq_true rfl) rfl ?_
  refine jc_aload_n (pc := 48) 0 dX6_init_48 rfl ?_
  refine jc_iconst (pc := 49) 4 dX6_init_49 (by decide) ?_
  refine jc_newi (pc := 50) 4 dX6_init_50 acI (by decide) (by decide) (by decide) (by decide) (by decide) (fun a6 => ?_)
  refine jc_to (ws' := [(h0, .inr (6, [.int 0, .ref a1, .ref a2, .ref a3, .ref a4, .ref a5, .null, .int 0])), (a1, .inl (g.2.1, 60, .inl (fun _ => 0))), (a2, .inl (g.2.1, 60, .inl (fun _ => 0))), (a3, .inl (g.2.1, 60, .inl (fun _ => 0))), (a4, .inl (g.2.1, 60, .inl (fun _ => 0))), (a5, .inl (g.2.1, 4, .inl (fun _ => 0))), (a6, .inl (g.2.1, 4, .inl (fun _ => 0)))]) rfl ?_
  refine jc_put (pc := 52) (ws' := [(h0, .inr (6, [.int 0, .ref a1, .ref a2, .ref a3, .ref a4, .ref a5, .ref a6, .int 0])), (a1, .inl (g.2.1, 60, .inl (fun _ => 0))), (a2, .inl (g.2.1, 60, .inl (fun _ => 0))), (a3, .inl (g.2.1, 60, .inl (fun _ => 0))), (a4, .inl (g.2.1, 60, .inl (fun _ => 0))), (a5, .inl (g.2.1, 4, .inl (fun _ => 0))), (a6, .inl (g.2.1, 4, .inl (fun _ => 0)))]) 0 6 dX6_init_52 fkX6_33 ftX6 (fun q h => by cases h; exact Or.inr ⟨rfl, rfl⟩) rfl rfl rfl (Nat.le_of_ble_eq_true rfl) rfl ?_
  refine jc_aload_n (pc := 55) 0 dX6_init_55 rfl ?_
  refine jc_iconst (pc := 56) 0 dX6_init_56 (by decide) ?_
  refine jc_put (pc := 57) (ws' := [(h0, .inr (6, [.int 0, .ref a1, .ref a2, .ref a3, .ref a4, .ref a5, .ref a6, .int 0])), (a1, .inl (g.2.1, 60, .inl (fun _ => 0))), (a2, .inl (g.2.1, 60, .inl (fun _ => 0))), (a3, .inl (g.2.1, 60, .inl (fun _ => 0))), (a4, .inl (g.2.1, 60, .inl (fun _ => 0))), (a5, .inl (g.2.1, 4, .inl (fun _ => 0))), (a6, .inl (g.2.1, 4, .inl (fun _ => 0)))]) 0 7 dX6_init_57 fkX6_36 ftX6 (fun q h => by cases h; exact Or.inl rfl) rfl rfl rfl (Nat.le_of_ble_eq_true rfl) rfl ?_
  exact jc_ret (pc := 60) dX6_init_60 (by decide) (by decide) ⟨fun k => [h0, a1, a2, a3, a4, a5, a6].getD k 0, rfl, rfl⟩
theorem dX7_init_0 : decode cX7_init 0 = .ok (.aload_n 0, 1) := by decide +kernel
theorem dX7_init_1 : decode cX7_init 1 = .ok (.invokespecial 3, 3) := by decide +kernel
theorem dX7_init_4 : decode cX7_init 4 = .ok (.aload_n 0, 1) := by decide +kernel
theorem dX7_init_5 : decode cX7_init 5 = .ok (.sipush 400, 3) := by decide +kernel
theorem dX7_init_8 : decode cX7_init 8 = .ok (.newarray .int, 2) := by decide +kernel
theorem dX7_init_10 : decode cX7_init 10 = .ok (.putfield 11, 3) := by decide +kernel
theorem dX7_init_13 : decode cX7_init 13 = .ok (.aload_n 0, 1) := by decide +kernel
theorem dX7_init_14 : decode cX7_init 14 = .ok (.iconst 0, 1) := by decide +kernel
theorem dX7_init_15 : decode cX7_init 15 = .ok (.putfield 15, 3) := by decide +kernel
theorem dX7_init_18 : decode cX7_init 18 = .ok (.aload_n 0, 1) := by decide +kernel
theorem dX7_init_19 : decode cX7_init 19 = .ok (.iconst 0, 1) := by decide +kernel
theorem dX7_init_20 : decode cX7_init 20 = .ok (.putfield 19, 3) := by decide +kernel
theorem dX7_init_23 : decode cX7_init 23 = .ok (.aload_n 0, 1) := by decide +kernel
theorem dX7_init_24 : decode cX7_init 24 = .ok (.iconst (-1), 1) := by decide +kernel
theorem dX7_init_25 : decode cX7_init 25 = .ok (.putfield 22, 3) := by decide +kernel
theorem dX7_init_28 : decode cX7_init 28 = .ok (.aload_n 0, 1) := by decide +kernel
theorem dX7_init_29 : decode cX7_init 29 = .ok (.sipush 401, 3) := by decide +kernel
theorem dX7_init_32 : decode cX7_init 32 = .ok (.newarray .int, 2) := by decide +kernel
theorem dX7_init_34 : decode cX7_init 34 = .ok (.putfield 25, 3) := by decide +kernel
theorem dX7_init_37 : decode cX7_init 37 = .ok (.aload_n 0, 1) := by decide +kernel
theorem dX7_init_38 : decode cX7_init 38 = .ok (.sipush 401, 3) := by decide +kernel
theorem dX7_init_41 : decode cX7_init 41 = .ok (.newarray .int, 2) := by decide +kernel
theorem dX7_init_43 : decode cX7_init 43 = .ok (.putfield 28, 3) := by decide +kernel
theorem dX7_init_46 : decode cX7_init 46 = .ok (.aload_n 0, 1) := by decide +kernel
theorem dX7_init_47 : decode cX7_init 47 = .ok (.sipush 401, 3) := by decide +kernel
theorem dX7_init_50 : decode cX7_init 50 = .ok (.newarray .int, 2) := by decide +kernel
theorem dX7_init_52 : decode cX7_init 52 = .ok (.putfield 31, 3) := by decide +kernel
theorem dX7_init_55 : decode cX7_init 55 = .ok (.aload_n 0, 1) := by decide +kernel
theorem dX7_init_56 : decode cX7_init 56 = .ok (.iconst 0, 1) := by decide +kernel
theorem dX7_init_57 : decode cX7_init 57 = .ok (.putfield 34, 3) := by decide +kernel
theorem dX7_init_60 : decode cX7_init 60 = .ok (.aload_n 0, 1) := by decide +kernel
theorem dX7_init_61 : decode cX7_init 61 = .ok (.iconst 0, 1) := by decide +kernel
theorem dX7_init_62 : decode cX7_init 62 = .ok (.putfield 37, 3) := by decide +kernel
theorem dX7_init_65 : decode cX7_init 65 = .ok (.return_, 1) := by decide +kernel
def wX7 (g : jc_G) (ad : Nat → Nat) : va_W := [(ad 0, .inr (7, [.ref (ad 1), .int 0, .int 0, .int (-1), .ref (ad 2), .ref (ad 3), .ref (ad 4), .int 0, .int 0])), (ad 1, .inl (g.2.1, 400, .inl (fun _ => 0))), (ad 2, .inl (g.2.1, 401, .inl (fun _ => 0))), (ad 3, .inl (g.2.1, 401, .inl (fun _ => 0))), (ad 4, .inl (g.2.1, 401, .inl (fun _ => 0)))]
theorem kX7 (h0 : Nat) : jc_R l g 4 4 1603 iX7_init [.ref h0] [(h0, .inr (7, dvX7))] (fun w => ∃ ad : Nat → Nat, ad 0 = h0 ∧ w = wX7 g ad) := by
  refine jc_enter [(0, .ref h0)] (by decide) rfl (Nat.le_of_ble_eq_true rfl) rfl rfl ?_
  refine jc_aload_n (pc := 0) 0 dX7_init_0 rfl ?_
  refine jc_obj (pc := 1) dX7_init_1 oiX7_3 oiI oiC (by decide) ?_
  refine jc_aload_n (pc := 4) 0 dX7_init_4 rfl ?_
  refine jc_sipush (pc := 5) 400 dX7_init_5 (by decide) ?_
  refine jc_newi (pc := 8) 400 dX7_init_8 acI (by decide) (by decide) (by decide) (by decide) (by decide) (fun a1 => ?_)
  refine jc_to (ws' := [(h0, .inr (7, [.null, .int 0, .int 0, .int 0, .null, .null, .null, .int 0, .int 0])), (a1, .inl (g.2.1, 400, .inl (fun _ => 0)))]) rfl ?_
  refine jc_put (pc := 10) (ws' := [(h0, .inr (7, [.ref a1, .int 0, .int 0, .int 0, .null, .null, .null, .int 0, .int 0])), (a1, .inl (g.2.1, 400, .inl (fun _ => 0)))]) 0 0 dX7_init_10 fkX7_11 ftX7 (fun q h => by cases h; exact Or.inr ⟨rfl, rfl⟩) rfl rfl rfl (Nat.le_of_ble_eq_true rfl) rfl ?_
  refine jc_aload_n (pc := 13) 0 dX7_init_13 rfl ?_
  refine jc_iconst (pc := 14) 0 dX7_init_14 (by decide) ?_
  refine jc_put (pc := 15) (ws' := [(h0, .inr (7, [.ref a1, .int 0, .int 0, .int 0, .null, .null, .null, .int 0, .int 0])), (a1, .inl (g.2.1, 400, .inl (fun _ => 0)))]) 0 1 dX7_init_15 fkX7_15 ftX7 (fun q h => by cases h; exact Or.inl rfl) rfl rfl rfl (Nat.le_of_ble_eq_true rfl) rfl ?_
  refine jc_aload_n (pc := 18) 0 dX7_init_18 rfl ?_
  refine jc_iconst (pc := 19) 0 dX7_init_19 (by decide) ?_
  refine jc_put (pc := 20) (ws' := [(h0, .inr (7, [.ref a1, .int 0, .int 0, .int 0, .null, .null, .null, .int 0, .int 0])), (a1, .inl (g.2.1, 400, .inl (fun _ => 0)))]) 0 2 dX7_init_20 fkX7_19 ftX7 (fun q h => by cases h; exact Or.inl rfl) rfl rfl rfl (Nat.le_of_ble_eq_true rfl) rfl ?_
  refine jc_aload_n (pc := 23) 0 dX7_init_23 rfl ?_
  refine jc_iconst (pc := 24) (-1) dX7_init_24 (by decide) ?_
  refine jc_put (pc := 25) (ws' := [(h0, .inr (7, [.ref a1, .int 0, .int 0, .int (-1), .null, .null, .null, .int 0, .int 0])), (a1, .inl (g.2.1, 400, .inl (fun _ => 0)))]) 0 3 dX7_init_25 fkX7_22 ftX7 (fun q h => by cases h; exact Or.inl rfl) rfl rfl rfl (Nat.le_of_ble_eq_true rfl) rfl ?_
  refine jc_aload_n (pc := 28) 0 dX7_init_28 rfl ?_
  refine jc_sipush (pc := 29) 401 dX7_init_29 (by decide) ?_
  refine jc_newi (pc := 32) 401 dX7_init_32 acI (by decide) (by decide) (by decide) (by decide) (by decide) (fun a2 => ?_)
  refine jc_to (ws' := [(h0, .inr (7, [.ref a1, .int 0, .int 0, .int (-1), .null, .null, .null, .int 0, .int 0])), (a1, .inl (g.2.1, 400, .inl (fun _ => 0))), (a2, .inl (g.2.1, 401, .inl (fun _ => 0)))]) rfl ?_
  refine jc_put (pc := 34) (ws' := [(h0, .inr (7, [.ref a1, .int 0, .int 0, .int (-1), .ref a2, .null, .null, .int 0, .int 0])), (a1, .inl (g.2.1, 400, .inl (fun _ => 0))), (a2, .inl (g.2.1, 401, .inl (fun _ => 0)))]) 0 4 dX7_init_34 fkX7_25 ftX7 (fun q h => by cases h; exact Or.inr ⟨rfl, rfl⟩) rfl rfl rfl (Nat.le_of_ble_eq_true rfl) rfl ?_
  refine jc_aload_n (pc := 37) 0 dX7_init_37 rfl ?_
  refine jc_sipush (pc := 38) 401 dX7_init_38 (by decide) ?_
  refine jc_newi (pc := 41) 401 dX7_init_41 acI (by decide) (by decide) (by decide) (by decide) (by decide) (fun a3 => ?_)
  refine jc_to (ws' := [(h0, .inr (7, [.ref a1, .int 0, .int 0, .int (-1), .ref a2, .null, .null, .int 0, .int 0])), (a1, .inl (g.2.1, 400, .inl (fun _ => 0))), (a2, .inl (g.2.1, 401, .inl (fun _ => 0))), (a3, .inl (g.2.1, 401, .inl (fun _ => 0)))]) rfl ?_
  refine jc_put (pc := 43) (ws' := [(h0, .inr (7, [.ref a1, .int 0, .int 0, .int (-1), .ref a2, .ref a3, .null, .int 0, .int 0])), (a1, .inl (g.2.1, 400, .inl (fun _ => 0))), (a2, .inl (g.2.1, 401, .inl (fun _ => 0))), (a3, .inl (g.2.1, 401, .inl (fun _ => 0)))]) 0 5 dX7_init_43 fkX7_28 ftX7 (fun q h => by cases h; exact Or.inr ⟨rfl, rfl⟩) rfl rfl rfl (Nat.le_of_ble_eq_true rfl) rfl ?_
  refine jc_aload_n (pc := 46) 0 dX7_init_46 rfl ?_
  refine jc_sipush (pc := 47) 401 dX7_init_47 (by decide) ?_
  refine jc_newi (pc := 50) 401 dX7_init_50 acI (by decide) (by decide) (by decide) (by decide) (by decide) (fun a4 => ?_)
  refine jc_to (ws' := [(h0, .inr (7, [.ref a1, .int 0, .int 0, .int (-1), .ref a2, .ref a3, .null, .int 0, .int 0])), (a1, .inl (g.2.1, 400, .inl (fun _ => 0))), (a2, .inl (g.2.1, 401, .inl (fun _ => 0))), (a3, .inl (g.2.1, 401, .inl (fun _ => 0))), (a4, .inl (g.2.1, 401, .inl (fun _ => 0)))]) rfl ?_
  refine jc_put (pc := 52) (ws' := [(h0, .inr (7, [.ref a1, .int 0, .int 0, .int (-1), .ref a2, .ref a3, .ref a4, .int 0, .int 0])), (a1, .inl (g.2.1, 400, .inl (fun _ => 0))), (a2, .inl (g.2.1, 401, .inl (fun _ => 0))), (a3, .inl (g.2.1, 401, .inl (fun _ => 0))), (a4, .inl (g.2.1, 401, .inl (fun _ => 0)))]) 0 6 dX7_init_52 fkX7_31 ftX7 (fun q h => by cases h; exact Or.inr ⟨rfl, rfl⟩) rfl rfl rfl (Nat.le_of_ble_eq_true rfl) rfl ?_
  refine jc_aload_n (pc := 55) 0 dX7_init_55 rfl ?_
  refine jc_iconst (pc := 56) 0 dX7_init_56 (by decide) ?_
  refine jc_put (pc := 57) (ws' := [(h0, .inr (7, [.ref a1, .int 0, .int 0, .int (-1), .ref a2, .ref a3, .ref a4, .int 0, .int 0])), (a1, .inl (g.2.1, 400, .inl (fun _ => 0))), (a2, .inl (g.2.1, 401, .inl (fun _ => 0))), (a3, .inl (g.2.1, 401, .inl (fun _ => 0))), (a4, .inl (g.2.1, 401, .inl (fun _ => 0)))]) 0 7 dX7_init_57 fkX7_34 ftX7 (fun q h => by cases h; exact Or.inl rfl) rfl rfl rfl (Nat.le_of_ble_eq_true rfl) rfl ?_
  refine jc_aload_n (pc := 60) 0 dX7_init_60 rfl ?_
  refine jc_iconst (pc := 61) 0 dX7_init_61 (by decide) ?_
  refine jc_put (pc := 62) (ws' := [(h0, .inr (7, [.ref a1, .int 0, .int 0, .int (-1), .ref a2, .ref a3, .ref a4, .int 0, .int 0])), (a1, .inl (g.2.1, 400, .inl (fun _ => 0))), (a2, .inl (g.2.1, 401, .inl (fun _ => 0))), (a3, .inl (g.2.1, 401, .inl (fun _ => 0))), (a4, .inl (g.2.1, 401, .inl (fun _ => 0)))]) 0 8 dX7_init_62 fkX7_37 ftX7 (fun q h => by cases h; exact Or.inl rfl) rfl rfl rfl (Nat.le_of_ble_eq_true rfl) rfl ?_
  exact jc_ret (pc := 65) dX7_init_65 (by decide) (by decide) ⟨fun k => [h0, a1, a2, a3, a4].getD k 0, rfl, rfl⟩
theorem dX1_init_0 : decode cX1_init 0 = .ok (.aload_n 0, 1) := by decide +kernel
theorem dX1_init_1 : decode cX1_init 1 = .ok (.invokespecial 3, 3) := by decide +kernel
theorem dX1_init_4 : decode cX1_init 4 = .ok (.aload_n 0, 1) := by decide +kernel
theorem dX1_init_5 : decode cX1_init 5 = .ok (.iconst 0, 1) := by decide +kernel
theorem dX1_init_6 : decode cX1_init 6 = .ok (.putfield 9, 3) := by decide +kernel
theorem dX1_init_9 : decode cX1_init 9 = .ok (.aload_n 0, 1) := by decide +kernel
theorem dX1_init_10 : decode cX1_init 10 = .ok (.iconst 0, 1) := by decide +kernel
theorem dX1_init_11 : decode cX1_init 11 = .ok (.putfield 15, 3) := by decide +kernel
theorem dX1_init_14 : decode cX1_init 14 = .ok (.aload_n 0, 1) := by decide +kernel
theorem dX1_init_15 : decode cX1_init 15 = .ok (.bipush 8, 2) := by decide +kernel
theorem dX1_init_17 : decode cX1_init 17 = .ok (.newarray .int, 2) := by decide +kernel
theorem dX1_init_19 : decode cX1_init 19 = .ok (.putfield 18, 3) := by decide +kernel
theorem dX1_init_22 : decode cX1_init 22 = .ok (.aload_n 0, 1) := by decide +kernel
theorem dX1_init_23 : decode cX1_init 23 = .ok (.bipush 8, 2) := by decide +kernel
theorem dX1_init_25 : decode cX1_init 25 = .ok (.newarray .int, 2) := by decide +kernel
theorem dX1_init_27 : decode cX1_init 27 = .ok (.putfield 22, 3) := by decide +kernel
theorem dX1_init_30 : decode cX1_init 30 = .ok (.aload_n 0, 1) := by decide +kernel
theorem dX1_init_31 : decode cX1_init 31 = .ok (.iconst 0, 1) := by decide +kernel
theorem dX1_init_32 : decode cX1_init 32 = .ok (.putfield 25, 3) := by decide +kernel
theorem dX1_init_35 : decode cX1_init 35 = .ok (.aload_n 0, 1) := by decide +kernel
theorem dX1_init_36 : decode cX1_init 36 = .ok (.sipush 140, 3) := by decide +kernel
theorem dX1_init_39 : decode cX1_init 39 = .ok (.newarray .int, 2) := by decide +kernel
theorem dX1_init_41 : decode cX1_init 41 = .ok (.putfield 28, 3) := by decide +kernel
theorem dX1_init_44 : decode cX1_init 44 = .ok (.aload_n 0, 1) := by decide +kernel
theorem dX1_init_45 : decode cX1_init 45 = .ok (.iconst 0, 1) := by decide +kernel
theorem dX1_init_46 : decode cX1_init 46 = .ok (.putfield 31, 3) := by decide +kernel
theorem dX1_init_49 : decode cX1_init 49 = .ok (.aload_n 0, 1) := by decide +kernel
theorem dX1_init_50 : decode cX1_init 50 = .ok (.sipush 200, 3) := by decide +kernel
theorem dX1_init_53 : decode cX1_init 53 = .ok (.newarray .int, 2) := by decide +kernel
theorem dX1_init_55 : decode cX1_init 55 = .ok (.putfield 34, 3) := by decide +kernel
theorem dX1_init_58 : decode cX1_init 58 = .ok (.aload_n 0, 1) := by decide +kernel
theorem dX1_init_59 : decode cX1_init 59 = .ok (.iconst 0, 1) := by decide +kernel
theorem dX1_init_60 : decode cX1_init 60 = .ok (.putfield 37, 3) := by decide +kernel
theorem dX1_init_63 : decode cX1_init 63 = .ok (.aload_n 0, 1) := by decide +kernel
theorem dX1_init_64 : decode cX1_init 64 = .ok (.sipush 600, 3) := by decide +kernel
theorem dX1_init_67 : decode cX1_init 67 = .ok (.newarray .int, 2) := by decide +kernel
theorem dX1_init_69 : decode cX1_init 69 = .ok (.putfield 40, 3) := by decide +kernel
theorem dX1_init_72 : decode cX1_init 72 = .ok (.return_, 1) := by decide +kernel
def wX1 (g : jc_G) (ad : Nat → Nat) : va_W := [(ad 0, .inr (1, [.int 0, .int 0, .ref (ad 1), .ref (ad 2), .int 0, .ref (ad 3), .int 0, .ref (ad 4), .int 0, .ref (ad 5)])), (ad 1, .inl (g.2.1, 8, .inl (fun _ => 0))), (ad 2, .inl (g.2.1, 8, .inl (fun _ => 0))), (ad 3, .inl (g.2.1, 140, .inl (fun _ => 0))), (ad 4, .inl (g.2.1, 200, .inl (fun _ => 0))), (ad 5, .inl (g.2.1, 600, .inl (fun _ => 0)))]
theorem kX1 (h0 : Nat) : jc_R l g 4 5 956 iX1_init [.ref h0] [(h0, .inr (1, dvX1))] (fun w => ∃ ad : Nat → Nat, ad 0 = h0 ∧ w = wX1 g ad) := by
  refine jc_enter [(0, .ref h0)] (by decide) rfl (Nat.le_of_ble_eq_true rfl) rfl rfl ?_
  refine jc_aload_n (pc := 0) 0 dX1_init_0 rfl ?_
  refine jc_obj (pc := 1) dX1_init_1 oiX1_3 oiI oiC (by decide) ?_
  refine jc_aload_n (pc := 4) 0 dX1_init_4 rfl ?_
  refine jc_iconst (pc := 5) 0 dX1_init_5 (by decide) ?_
  refine jc_put (pc := 6) (ws' := [(h0, .inr (1, [.int 0, .int 0, .null, .null, .int 0, .null, .int 0, .null, .int 0, .null]))]) 0 0 dX1_init_6 fkX1_9 ftX1 (fun q h => by cases h; exact Or.inl rfl) rfl rfl rfl (Nat.le_of_ble_eq_true rfl) rfl ?_
  refine jc_aload_n (pc := 9) 0 dX1_init_9 rfl ?_
  refine jc_iconst (pc := 10) 0 dX1_init_10 (by decide) ?_
  refine jc_put (pc := 11) (ws' := [(h0, .inr (1, [.int 0, .int 0, .null, .null, .int 0, .null, .int 0, .null, .int 0, .null]))]) 0 1 dX1_init_11 fkX1_15 ftX1 (fun q h => by cases h; exact Or.inl rfl) rfl rfl rfl (Nat.le_of_ble_eq_true rfl) rfl ?_
  refine jc_aload_n (pc := 14) 0 dX1_init_14 rfl ?_
  refine jc_bipush (pc := 15) 8 dX1_init_15 (by decide) ?_
  refine jc_newi (pc := 17) 8 dX1_init_17 acI (by decide) (by decide) (by decide) (by decide) (by decide) (fun a1 => ?_)
  refine jc_to (ws' := [(h0, .inr (1, [.int 0, .int 0, .null, .null, .int 0, .null, .int 0, .null, .int 0, .null])), (a1, .inl (g.2.1, 8, .inl (fun _ => 0)))]) rfl ?_
  refine jc_put (pc := 19) (ws' := [(h0, .inr (1, [.int 0, .int 0, .ref a1, .null, .int 0, .null, .int 0, .null, .int 0, .null])), (a1, .inl (g.2.1, 8, .inl (fun _ => 0)))]) 0 2 dX1_init_19 fkX1_18 ftX1 (fun q h => by cases h; exact Or.inr ⟨rfl, rfl⟩) rfl rfl rfl (Nat.le_of_ble_eq_true rfl) rfl ?_
  refine jc_aload_n (pc := 22) 0 dX1_init_22 rfl ?_
  refine jc_bipush (pc := 23) 8 dX1_init_23 (by decide) ?_
  refine jc_newi (pc := 25) 8 dX1_init_25 acI (by decide) (by decide) (by decide) (by decide) (by decide) (fun a2 => ?_)
  refine jc_to (ws' := [(h0, .inr (1, [.int 0, .int 0, .ref a1, .null, .int 0, .null, .int 0, .null, .int 0, .null])), (a1, .inl (g.2.1, 8, .inl (fun _ => 0))), (a2, .inl (g.2.1, 8, .inl (fun _ => 0)))]) rfl ?_
  refine jc_put (pc := 27) (ws' := [(h0, .inr (1, [.int 0, .int 0, .ref a1, .ref a2, .int 0, .null, .int 0, .null, .int 0, .null])), (a1, .inl (g.2.1, 8, .inl (fun _ => 0))), (a2, .inl (g.2.1, 8, .inl (fun _ => 0)))]) 0 3 dX1_init_27 fkX1_22 ftX1 (fun q h => by cases h; exact Or.inr ⟨rfl, rfl⟩) rfl rfl rfl (Nat.le_of_ble_eq_true rfl) rfl ?_
  refine jc_aload_n (pc := 30) 0 dX1_init_30 rfl ?_
  refine jc_iconst (pc := 31) 0 dX1_init_31 (by decide) ?_
  refine jc_put (pc := 32) (ws' := [(h0, .inr (1, [.int 0, .int 0, .ref a1, .ref a2, .int 0, .null, .int 0, .null, .int 0, .null])), (a1, .inl (g.2.1, 8, .inl (fun _ => 0))), (a2, .inl (g.2.1, 8, .inl (fun _ => 0)))]) 0 4 dX1_init_32 fkX1_25 ftX1 (fun q h => by cases h; exact Or.inl rfl) rfl rfl rfl (Nat.le_of_ble_eq_true rfl) rfl ?_
  refine jc_aload_n (pc := 35) 0 dX1_init_35 rfl ?_
  refine jc_sipush (pc := 36) 140 dX1_init_36 (by decide) ?_
  refine jc_newi (pc := 39) 140 dX1_init_39 acI (by decide) (by decide) (by decide) (by decide) (by decide) (fun a3 => ?_)
  refine jc_to (ws' := [(h0, .inr (1, [.int 0, .int 0, .ref a1, .ref a2, .int 0, .null, .int 0, .null, .int 0, .null])), (a1, .inl (g.2.1, 8, .inl (fun _ => 0))), (a2, .inl (g.2.1, 8, .inl (fun _ => 0))), (a3, .inl (g.2.1, 140, .inl (fun _ => 0)))]) rfl ?_
  refine jc_put (pc := 41) (ws' := [(h0, .inr (1, [.int 0, .int 0, .ref a1, .ref a2, .int 0, .ref a3, .int 0, .null, .int 0, .null])), (a1, .inl (g.2.1, 8, .inl (fun _ => 0))), (a2, .inl (g.2.1, 8, .inl (fun _ => 0))), (a3, .inl (g.2.1, 140, .inl (fun _ => 0)))]) 0 5 dX1_init_41 fkX1_28 ftX1 (fun q h => by cases h; exact Or.inr ⟨rfl, rfl⟩) rfl rfl rfl (Nat.le_of_ble_eq_true rfl) rfl ?_
  refine jc_aload_n (pc := 44) 0 dX1_init_44 rfl ?_
  refine jc_iconst (pc := 45) 0 dX1_init_45 (by decide) ?_
  refine jc_put (pc := 46) (ws' := [(h0, .inr (1, [.int 0, .int 0, .ref a1, .ref a2, .int 0, .ref a3, .int 0, .null, .int 0, .null])), (a1, .inl (g.2.1, 8, .inl (fun _ => 0))), (a2, .inl (g.2.1, 8, .inl (fun _ => 0))), (a3, .inl (g.2.1, 140, .inl (fun _ => 0)))]) 0 6 dX1_init_46 fkX1_31 ftX1 (fun q h => by cases h; exact Or.inl rfl) rfl rfl rfl (Nat.le_of_ble_eq_true rfl) rfl ?_
  refine jc_aload_n (pc := 49) 0 dX1_init_49 rfl ?_
  refine jc_sipush (pc := 50) 200 dX1_init_50 (by decide) ?_
  refine jc_newi (pc := 53) 200 dX1_init_53 acI (by decide) (by decide) (by decide) (by decide) (by decide) (fun a4 => ?_)
  refine jc_to (ws' := [(h0, .inr (1, [.int 0, .int 0, .ref a1, .ref a2, .int 0, .ref a3, .int 0, .null, .int 0, .null])), (a1, .inl (g.2.1, 8, .inl (fun _ => 0))), (a2, .inl (g.2.1, 8, .inl (fun _ => 0))), (a3, .inl (g.2.1, 140, .inl (fun _ => 0))), (a4, .inl (g.2.1, 200, .inl (fun _ => 0)))]) rfl ?_
  refine jc_put (pc := 55) (ws' := [(h0, .inr (1, [.int 0, .int 0, .ref a1, .ref a2, .int 0, .ref a3, .int 0, .ref a4, .int 0, .null])), (a1, .inl (g.2.1, 8, .inl (fun _ => 0))), (a2, .inl (g.2.1, 8, .inl (fun _ => 0))), (a3, .inl (g.2.1, 140, .inl (fun _ => 0))), (a4, .inl (g.2.1, 200, .inl (fun _ => 0)))]) 0 7 dX1_init_55 fkX1_34 ftX1 (fun q h => by cases h; exact Or.inr ⟨rfl, rfl⟩) rfl rfl rfl (Nat.le_of_ble_eq_true rfl) rfl ?_
  refine jc_aload_n (pc := 58) 0 dX1_init_58 rfl ?_
  refine jc_iconst (pc := 59) 0 dX1_init_59 (by decide) ?_
  refine jc_put (pc := 60) (ws' := [(h0, .inr (1, [.int 0, .int 0, .ref a1, .ref a2, .int 0, .ref a3, .int 0, .ref a4, .int 0, .null])), (a1, .inl (g.2.1, 8, .inl (fun _ => 0))), (a2, .inl (g.2.1, 8, .inl (fun _ => 0))), (a3, .inl (g.2.1, 140, .inl (fun _ => 0))), (a4, .inl (g.2.1, 200, .inl (fun _ => 0)))]) 0 8 dX1_init_60 fkX1_37 ftX1 (fun q h => by cases h; exact Or.inl rfl) rfl rfl rfl (Nat.le_of_ble_eq_true rfl) rfl ?_
  refine jc_aload_n (pc := 63) 0 dX1_init_63 rfl ?_
  refine jc_sipush (pc := 64) 600 dX1_init_64 (by decide) ?_
  refine jc_newi (pc := 67) 600 dX1_init_67 acI (by decide) (by decide) (by decide) (by decide) (by decide) (fun a5 => ?_)
  refine jc_to (ws' := [(h0, .inr (1, [.int 0, .int 0, .ref a1, .ref a2, .int 0, .ref a3, .int 0, .ref a4, .int 0, .null])), (a1, .inl (g.2.1, 8, .inl (fun _ => 0))), (a2, .inl (g.2.1, 8, .inl (fun _ => 0))), (a3, .inl (g.2.1, 140, .inl (fun _ => 0))), (a4, .inl (g.2.1, 200, .inl (fun _ => 0))), (a5, .inl (g.2.1, 600, .inl (fun _ => 0)))]) rfl ?_
  refine jc_put (pc := 69) (ws' := [(h0, .inr (1, [.int 0, .int 0, .ref a1, .ref a2, .int 0, .ref a3, .int 0, .ref a4, .int 0, .ref a5])), (a1, .inl (g.2.1, 8, .inl (fun _ => 0))), (a2, .inl (g.2.1, 8, .inl (fun _ => 0))), (a3, .inl (g.2.1, 140, .inl (fun _ => 0))), (a4, .inl (g.2.1, 200, .inl (fun _ => 0))), (a5, .inl (g.2.1, 600, .inl (fun _ => 0)))]) 0 9 dX1_init_69 fkX1_40 ftX1 (fun q h => by cases h; exact Or.inr ⟨rfl, rfl⟩) rfl rfl rfl (Nat.le_of_ble_eq_true rfl) rfl ?_
  exact jc_ret (pc := 72) dX1_init_72 (by decide) (by decide) ⟨fun k => [h0, a1, a2, a3, a4, a5].getD k 0, rfl, rfl⟩
end JKC
