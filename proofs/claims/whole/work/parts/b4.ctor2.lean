section JKD
variable {l : Launch} {g : jc_G}
theorem dX0_init_0 : decode cX0_init 0 = .ok (.aload_n 0, 1) := by decide +kernel
theorem dX0_init_1 : decode cX0_init 1 = .ok (.invokespecial 3, 3) := by decide +kernel
theorem dX0_init_4 : decode cX0_init 4 = .ok (.aload_n 0, 1) := by decide +kernel
theorem dX0_init_5 : decode cX0_init 5 = .ok (.bipush 11, 2) := by decide +kernel
theorem dX0_init_7 : decode cX0_init 7 = .ok (.newarray .int, 2) := by decide +kernel
theorem dX0_init_9 : decode cX0_init 9 = .ok (.putfield 11, 3) := by decide +kernel
theorem dX0_init_12 : decode cX0_init 12 = .ok (.aload_n 0, 1) := by decide +kernel
theorem dX0_init_13 : decode cX0_init 13 = .ok (.aload_n 1, 1) := by decide +kernel
theorem dX0_init_14 : decode cX0_init 14 = .ok (.putfield 15, 3) := by decide +kernel
theorem dX0_init_17 : decode cX0_init 17 = .ok (.aload_n 0, 1) := by decide +kernel
theorem dX0_init_18 : decode cX0_init 18 = .ok (.aload_n 2, 1) := by decide +kernel
theorem dX0_init_19 : decode cX0_init 19 = .ok (.putfield 19, 3) := by decide +kernel
theorem dX0_init_22 : decode cX0_init 22 = .ok (.return_, 1) := by decide +kernel
def wX0 (g : jc_G) (T C : Nat) (ad : Nat → Nat) : va_W := [(ad 0, .inr (0, [.ref T, .ref C, .ref (ad 1)])), (ad 1, .inl (g.2.1, 11, .inl (fun _ => 0)))]
theorem kX0 (h0 T C : Nat) : jc_R l g 4 1 11 iX0_init [.ref h0, .ref T, .ref C] [(h0, .inr (0, dvX0))] (fun w => ∃ ad : Nat → Nat, ad 0 = h0 ∧ w = wX0 g T C ad) := by
  refine jc_enter [(0, .ref h0), (1, .ref T), (2, .ref C)] (by decide) rfl (Nat.le_of_ble_eq_true rfl) rfl rfl ?_
  refine jc_aload_n (pc := 0) 0 dX0_init_0 rfl ?_
  refine jc_obj (pc := 1) dX0_init_1 oiX0_3 oiI oiC (by decide) ?_
  refine jc_aload_n (pc := 4) 0 dX0_init_4 rfl ?_
  refine jc_bipush (pc := 5) 11 dX0_init_5 (by decide) ?_
  refine jc_newi (pc := 7) 11 dX0_init_7 acI (by decide) (by decide) (by decide) (by decide) (by decide) (fun a1 => ?_)
  refine jc_to (ws' := [(h0, .inr (0, [.null, .null, .null])), (a1, .inl (g.2.1, 11, .inl (fun _ => 0)))]) rfl ?_
  refine jc_put (pc := 9) (ws' := [(h0, .inr (0, [.null, .null, .ref a1])), (a1, .inl (g.2.1, 11, .inl (fun _ => 0)))]) 0 2 dX0_init_9 fkX0_11 ftX0 (fun q h => by cases h; exact Or.inr ⟨rfl, rfl⟩) rfl rfl rfl (Nat.le_of_ble_eq_true rfl) rfl ?_
  refine jc_aload_n (pc := 12) 0 dX0_init_12 rfl ?_
  refine jc_aload_n (pc := 13) 1 dX0_init_13 rfl ?_
  refine jc_put (pc := 14) (ws' := [(h0, .inr (0, [.ref T, .null, .ref a1])), (a1, .inl (g.2.1, 11, .inl (fun _ => 0)))]) 0 0 dX0_init_14 fkX0_15 ftX0 (fun q h => by cases h; exact Or.inr ⟨rfl, rfl⟩) rfl rfl rfl (Nat.le_of_ble_eq_true rfl) rfl ?_
  refine jc_aload_n (pc := 17) 0 dX0_init_17 rfl ?_
  refine jc_aload_n (pc := 18) 2 dX0_init_18 rfl ?_
  refine jc_put (pc := 19) (ws' := [(h0, .inr (0, [.ref T, .ref C, .ref a1])), (a1, .inl (g.2.1, 11, .inl (fun _ => 0)))]) 0 1 dX0_init_19 fkX0_19 ftX0 (fun q h => by cases h; exact Or.inr ⟨rfl, rfl⟩) rfl rfl rfl (Nat.le_of_ble_eq_true rfl) rfl ?_
  exact jc_ret (pc := 22) dX0_init_22 (by decide) (by decide) ⟨fun k => [h0, a1].getD k 0, rfl, rfl⟩
theorem dX4_init_0 : decode cX4_init 0 = .ok (.aload_n 0, 1) := by decide +kernel
theorem dX4_init_1 : decode cX4_init 1 = .ok (.invokespecial 11, 3) := by decide +kernel
theorem dX4_init_4 : decode cX4_init 4 = .ok (.aload_n 0, 1) := by decide +kernel
theorem dX4_init_5 : decode cX4_init 5 = .ok (.aload_n 1, 1) := by decide +kernel
theorem dX4_init_6 : decode cX4_init 6 = .ok (.putfield 17, 3) := by decide +kernel
theorem dX4_init_9 : decode cX4_init 9 = .ok (.aload_n 0, 1) := by decide +kernel
theorem dX4_init_10 : decode cX4_init 10 = .ok (.aload_n 2, 1) := by decide +kernel
theorem dX4_init_11 : decode cX4_init 11 = .ok (.putfield 21, 3) := by decide +kernel
theorem dX4_init_14 : decode cX4_init 14 = .ok (.return_, 1) := by decide +kernel
def wX4 (g : jc_G) (T L : Nat) (ad : Nat → Nat) : va_W := [(ad 0, .inr (4, [.ref T, .ref L]))]
theorem kX4 (h0 T L : Nat) : jc_R l g 4 0 0 iX4_init [.ref h0, .ref T, .ref L] [(h0, .inr (4, dvX4))] (fun w => ∃ ad : Nat → Nat, ad 0 = h0 ∧ w = wX4 g T L ad) := by
  refine jc_enter [(0, .ref h0), (1, .ref T), (2, .ref L)] (by decide) rfl (Nat.le_of_ble_eq_true rfl) rfl rfl ?_
  refine jc_aload_n (pc := 0) 0 dX4_init_0 rfl ?_
  refine jc_obj (pc := 1) dX4_init_1 oiX4_11 oiI oiC (by decide) ?_
  refine jc_aload_n (pc := 4) 0 dX4_init_4 rfl ?_
  refine jc_aload_n (pc := 5) 1 dX4_init_5 rfl ?_
  refine jc_put (pc := 6) (ws' := [(h0, .inr (4, [.ref T, .null]))]) 0 0 dX4_init_6 fkX4_17 ftX4 (fun q h => by cases h; exact Or.inr ⟨rfl, rfl⟩) rfl rfl rfl (Nat.le_of_ble_eq_true rfl) rfl ?_
  refine jc_aload_n (pc := 9) 0 dX4_init_9 rfl ?_
  refine jc_aload_n (pc := 10) 2 dX4_init_10 rfl ?_
  refine jc_put (pc := 11) (ws' := [(h0, .inr (4, [.ref T, .ref L]))]) 0 1 dX4_init_11 fkX4_21 ftX4 (fun q h => by cases h; exact Or.inr ⟨rfl, rfl⟩) rfl rfl rfl (Nat.le_of_ble_eq_true rfl) rfl ?_
  exact jc_ret (pc := 14) dX4_init_14 (by decide) (by decide) ⟨fun k => [h0].getD k 0, rfl, rfl⟩
theorem dX2_init_0 : decode cX2_init 0 = .ok (.aload_n 0, 1) := by decide +kernel
theorem dX2_init_1 : decode cX2_init 1 = .ok (.invokespecial 3, 3) := by decide +kernel
theorem dX2_init_4 : decode cX2_init 4 = .ok (.aload_n 0, 1) := by decide +kernel
theorem dX2_init_5 : decode cX2_init 5 = .ok (.aload_n 1, 1) := by decide +kernel
theorem dX2_init_6 : decode cX2_init 6 = .ok (.putfield 9, 3) := by decide +kernel
theorem dX2_init_9 : decode cX2_init 9 = .ok (.aload_n 0, 1) := by decide +kernel
theorem dX2_init_10 : decode cX2_init 10 = .ok (.aload_n 1, 1) := by decide +kernel
theorem dX2_init_11 : decode cX2_init 11 = .ok (.getfield 15, 3) := by decide +kernel
theorem dX2_init_14 : decode cX2_init 14 = .ok (.putfield 21, 3) := by decide +kernel
theorem dX2_init_17 : decode cX2_init 17 = .ok (.aload_n 0, 1) := by decide +kernel
theorem dX2_init_18 : decode cX2_init 18 = .ok (.aload_n 1, 1) := by decide +kernel
theorem dX2_init_19 : decode cX2_init 19 = .ok (.getfield 22, 3) := by decide +kernel
theorem dX2_init_22 : decode cX2_init 22 = .ok (.putfield 26, 3) := by decide +kernel
theorem dX2_init_25 : decode cX2_init 25 = .ok (.return_, 1) := by decide +kernel
def wX2 (g : jc_G) (B T C : Nat) (ad : Nat → Nat) : va_W := [(ad 0, .inr (2, [.ref B, .ref T, .ref C]))]
theorem kX2 (h0 B T C tm : Nat) : jc_R l g 4 0 0 iX2_init [.ref h0, .ref B] [(h0, .inr (2, dvX2)), (B, .inr (0, [.ref T, .ref C, .ref tm]))] (fun w => ∃ ad : Nat → Nat, ad 0 = h0 ∧ w = (ad 0, .inr (2, [.ref B, .ref T, .ref C])) :: (B, .inr (0, [.ref T, .ref C, .ref tm])) :: []) := by
  refine jc_enter [(0, .ref h0), (1, .ref B)] (by decide) rfl (Nat.le_of_ble_eq_true rfl) rfl rfl ?_
  refine jc_aload_n (pc := 0) 0 dX2_init_0 rfl ?_
  refine jc_obj (pc := 1) dX2_init_1 oiX2_3 oiI oiC (by decide) ?_
  refine jc_aload_n (pc := 4) 0 dX2_init_4 rfl ?_
  refine jc_aload_n (pc := 5) 1 dX2_init_5 rfl ?_
  refine jc_put (pc := 6) (ws' := [(h0, .inr (2, [.ref B, .null, .null])), (B, .inr (0, [.ref T, .ref C, .ref tm]))]) 0 0 dX2_init_6 fkX2_9 ftX2 (fun q h => by cases h; exact Or.inr ⟨rfl, rfl⟩) rfl rfl rfl (Nat.le_of_ble_eq_true rfl) rfl ?_
  refine jc_aload_n (pc := 9) 0 dX2_init_9 rfl ?_
  refine jc_aload_n (pc := 10) 1 dX2_init_10 rfl ?_
  refine jc_get (pc := 11) (.ref T) 1 0 dX2_init_11 fkX2_15 rfl rfl ?_
  refine jc_put (pc := 14) (ws' := [(h0, .inr (2, [.ref B, .ref T, .null])), (B, .inr (0, [.ref T, .ref C, .ref tm]))]) 0 1 dX2_init_14 fkX2_21 ftX2 (fun q h => by cases h; exact Or.inr ⟨rfl, rfl⟩) rfl rfl rfl (Nat.le_of_ble_eq_true rfl) rfl ?_
  refine jc_aload_n (pc := 17) 0 dX2_init_17 rfl ?_
  refine jc_aload_n (pc := 18) 1 dX2_init_18 rfl ?_
  refine jc_get (pc := 19) (.ref C) 1 1 dX2_init_19 fkX2_22 rfl rfl ?_
  refine jc_put (pc := 22) (ws' := [(h0, .inr (2, [.ref B, .ref T, .ref C])), (B, .inr (0, [.ref T, .ref C, .ref tm]))]) 0 2 dX2_init_22 fkX2_26 ftX2 (fun q h => by cases h; exact Or.inr ⟨rfl, rfl⟩) rfl rfl rfl (Nat.le_of_ble_eq_true rfl) rfl ?_
  exact jc_ret (pc := 25) dX2_init_25 (by decide) (by decide) ⟨fun k => [h0].getD k 0, rfl, rfl⟩
theorem dX9_init_0 : decode cX9_init 0 = .ok (.aload_n 0, 1) := by decide +kernel
theorem dX9_init_1 : decode cX9_init 1 = .ok (.invokespecial 3, 3) := by decide +kernel
theorem dX9_init_4 : decode cX9_init 4 = .ok (.aload_n 0, 1) := by decide +kernel
theorem dX9_init_5 : decode cX9_init 5 = .ok (.iconst 4, 1) := by decide +kernel
theorem dX9_init_6 : decode cX9_init 6 = .ok (.newarray .int, 2) := by decide +kernel
theorem dX9_init_8 : decode cX9_init 8 = .ok (.putfield 9, 3) := by decide +kernel
theorem dX9_init_11 : decode cX9_init 11 = .ok (.aload_n 0, 1) := by decide +kernel
theorem dX9_init_12 : decode cX9_init 12 = .ok (.bipush 8, 2) := by decide +kernel
theorem dX9_init_14 : decode cX9_init 14 = .ok (.newarray .int, 2) := by decide +kernel
theorem dX9_init_16 : decode cX9_init 16 = .ok (.putfield 15, 3) := by decide +kernel
theorem dX9_init_19 : decode cX9_init 19 = .ok (.aload_n 0, 1) := by decide +kernel
theorem dX9_init_20 : decode cX9_init 20 = .ok (.bipush 24, 2) := by decide +kernel
theorem dX9_init_22 : decode cX9_init 22 = .ok (.newarray .int, 2) := by decide +kernel
theorem dX9_init_24 : decode cX9_init 24 = .ok (.putfield 18, 3) := by decide +kernel
theorem dX9_init_27 : decode cX9_init 27 = .ok (.aload_n 0, 1) := by decide +kernel
theorem dX9_init_28 : decode cX9_init 28 = .ok (.bipush 24, 2) := by decide +kernel
theorem dX9_init_30 : decode cX9_init 30 = .ok (.newarray .int, 2) := by decide +kernel
theorem dX9_init_32 : decode cX9_init 32 = .ok (.putfield 21, 3) := by decide +kernel
theorem dX9_init_35 : decode cX9_init 35 = .ok (.aload_n 0, 1) := by decide +kernel
theorem dX9_init_36 : decode cX9_init 36 = .ok (.aload_n 1, 1) := by decide +kernel
theorem dX9_init_37 : decode cX9_init 37 = .ok (.putfield 24, 3) := by decide +kernel
theorem dX9_init_40 : decode cX9_init 40 = .ok (.aload_n 0, 1) := by decide +kernel
theorem dX9_init_41 : decode cX9_init 41 = .ok (.aload_n 1, 1) := by decide +kernel
theorem dX9_init_42 : decode cX9_init 42 = .ok (.getfield 28, 3) := by decide +kernel
theorem dX9_init_45 : decode cX9_init 45 = .ok (.putfield 34, 3) := by decide +kernel
theorem dX9_init_48 : decode cX9_init 48 = .ok (.aload_n 0, 1) := by decide +kernel
theorem dX9_init_49 : decode cX9_init 49 = .ok (.aload_n 1, 1) := by decide +kernel
theorem dX9_init_50 : decode cX9_init 50 = .ok (.getfield 35, 3) := by decide +kernel
theorem dX9_init_53 : decode cX9_init 53 = .ok (.putfield 39, 3) := by decide +kernel
theorem dX9_init_56 : decode cX9_init 56 = .ok (.return_, 1) := by decide +kernel
def wX9 (g : jc_G) (B T C : Nat) (ad : Nat → Nat) : va_W := [(ad 0, .inr (9, [.ref B, .ref T, .ref C, .ref (ad 1), .ref (ad 2), .ref (ad 3), .ref (ad 4)])), (ad 1, .inl (g.2.1, 4, .inl (fun _ => 0))), (ad 2, .inl (g.2.1, 8, .inl (fun _ => 0))), (ad 3, .inl (g.2.1, 24, .inl (fun _ => 0))), (ad 4, .inl (g.2.1, 24, .inl (fun _ => 0)))]
theorem kX9 (h0 B T C tm : Nat) : jc_R l g 4 4 60 iX9_init [.ref h0, .ref B] [(h0, .inr (9, dvX9)), (B, .inr (0, [.ref T, .ref C, .ref tm]))] (fun w => ∃ ad : Nat → Nat, ad 0 = h0 ∧ w = (ad 0, .inr (9, [.ref B, .ref T, .ref C, .ref (ad 1), .ref (ad 2), .ref (ad 3), .ref (ad 4)])) :: (B, .inr (0, [.ref T, .ref C, .ref tm])) :: [(ad 1, .inl (g.2.1, 4, .inl (fun _ => 0))), (ad 2, .inl (g.2.1, 8, .inl (fun _ => 0))), (ad 3, .inl (g.2.1, 24, .inl (fun _ => 0))), (ad 4, .inl (g.2.1, 24, .inl (fun _ => 0)))]) := by
  refine jc_enter [(0, .ref h0), (1, .ref B)] (by decide) rfl (Nat.le_of_ble_eq_true rfl) rfl rfl ?_
  refine jc_aload_n (pc := 0) 0 dX9_init_0 rfl ?_
  refine jc_obj (pc := 1) dX9_init_1 oiX9_3 oiI oiC (by decide) ?_
  refine jc_aload_n (pc := 4) 0 dX9_init_4 rfl ?_
  refine jc_iconst (pc := 5) 4 dX9_init_5 (by decide) ?_
  refine jc_newi (pc := 6) 4 dX9_init_6 acI (by decide) (by decide) (by decide) (by decide) (by decide) (fun a1 => ?_)
  refine jc_to (ws' := [(h0, .inr (9, [.null, .null, .null, .null, .null, .null, .null])), (B, .inr (0, [.ref T, .ref C, .ref tm])), (a1, .inl (g.2.1, 4, .inl (fun _ => 0)))]) rfl ?_
  refine jc_put (pc := 8) (ws' := [(h0, .inr (9, [.null, .null, .null, .ref a1, .null, .null, .null])), (B, .inr (0, [.ref T, .ref C, .ref tm])), (a1, .inl (g.2.1, 4, .inl (fun _ => 0)))]) 0 3 dX9_init_8 fkX9_9 ftX9 (fun q h => by cases h; exact Or.inr ⟨rfl, rfl⟩) rfl rfl rfl (Nat.le_of_ble_eq_true rfl) rfl ?_
  refine jc_aload_n (pc := 11) 0 dX9_init_11 rfl ?_
  refine jc_bipush (pc := 12) 8 dX9_init_12 (by decide) ?_
  refine jc_newi (pc := 14) 8 dX9_init_14 acI (by decide) (by decide) (by decide) (by decide) (by decide) (fun a2 => ?_)
  refine jc_to (ws' := [(h0, .inr (9, [.null, .null, .null, .ref a1, .null, .null, .null])), (B, .inr (0, [.ref T, .ref C, .ref tm])), (a1, .inl (g.2.1, 4, .inl (fun _ => 0))), (a2, .inl (g.2.1, 8, .inl (fun _ => 0)))]) rfl ?_
  refine jc_put (pc := 16) (ws' := [(h0, .inr (9, [.null, .null, .null, .ref a1, .ref a2, .null, .null])), (B, .inr (0, [.ref T, .ref C, .ref tm])), (a1, .inl (g.2.1, 4, .inl (fun _ => 0))), (a2, .inl (g.2.1, 8, .inl (fun _ => 0)))]) 0 4 dX9_init_16 fkX9_15 ftX9 (fun q h => by cases h; exact Or.inr ⟨rfl, rfl⟩) rfl rfl rfl (Nat.le_of_ble_eq_true rfl) rfl ?_
  refine jc_aload_n (pc := 19) 0 dX9_init_19 rfl ?_
  refine jc_bipush (pc := 20) 24 dX9_init_20 (by decide) ?_
  refine jc_newi (pc := 22) 24 dX9_init_22 acI (by decide) (by decide) (by decide) (by decide) (by decide) (fun a3 => ?_)
  refine jc_to (ws' := [(h0, .inr (9, [.null, .null, .null, .ref a1, .ref a2, .null, .null])), (B, .inr (0, [.ref T, .ref C, .ref tm])), (a1, .inl (g.2.1, 4, .inl (fun _ => 0))), (a2, .inl (g.2.1, 8, .inl (fun _ => 0))), (a3, .inl (g.2.1, 24, .inl (fun _ => 0)))]) rfl ?_
  refine jc_put (pc := 24) (ws' := [(h0, .inr (9, [.null, .null, .null, .ref a1, .ref a2, .ref a3, .null])), (B, .inr (0, [.ref T, .ref C, .ref tm])), (a1, .inl (g.2.1, 4, .inl (fun _ => 0))), (a2, .inl (g.2.1, 8, .inl (fun _ => 0))), (a3, .inl (g.2.1, 24, .inl (fun _ => 0)))]) 0 5 dX9_init_24 fkX9_18 ftX9 (fun q h => by cases h; exact Or.inr ⟨rfl, rfl⟩) rfl rfl rfl (Nat.le_of_ble_eq_true rfl) rfl ?_
  refine jc_aload_n (pc := 27) 0 dX9_init_27 rfl ?_
  refine jc_bipush (pc := 28) 24 dX9_init_28 (by decide) ?_
  refine jc_newi (pc := 30) 24 dX9_init_30 acI (by decide) (by decide) (by decide) (by decide) (by decide) (fun a4 => ?_)
  refine jc_to (ws' := [(h0, .inr (9, [.null, .null, .null, .ref a1, .ref a2, .ref a3, .null])), (B, .inr (0, [.ref T, .ref C, .ref tm])), (a1, .inl (g.2.1, 4, .inl (fun _ => 0))), (a2, .inl (g.2.1, 8, .inl (fun _ => 0))), (a3, .inl (g.2.1, 24, .inl (fun _ => 0))), (a4, .inl (g.2.1, 24, .inl (fun _ => 0)))]) rfl ?_
  refine jc_put (pc := 32) (ws' := [(h0, .inr (9, [.null, .null, .null, .ref a1, .ref a2, .ref a3, .ref a4])), (B, .inr (0, [.ref T, .ref C, .ref tm])), (a1, .inl (g.2.1, 4, .inl (fun _ => 0))), (a2, .inl (g.2.1, 8, .inl (fun _ => 0))), (a3, .inl (g.2.1, 24, .inl (fun _ => 0))), (a4, .inl (g.2.1, 24, .inl (fun _ => 0)))]) 0 6 dX9_init_32 fkX9_21 ftX9 (fun q h => by cases h; exact Or.inr ⟨rfl, rfl⟩) rfl rfl rfl (Nat.le_of_ble_eq_true rfl) rfl ?_
  refine jc_aload_n (pc := 35) 0 dX9_init_35 rfl ?_
  refine jc_aload_n (pc := 36) 1 dX9_init_36 rfl ?_
  refine jc_put (pc := 37) (ws' := [(h0, .inr (9, [.ref B, .null, .null, .ref a1, .ref a2, .ref a3, .ref a4])), (B, .inr (0, [.ref T, .ref C, .ref tm])), (a1, .inl (g.2.1, 4, .inl (fun _ => 0))), (a2, .inl (g.2.1, 8, .inl (fun _ => 0))), (a3, .inl (g.2.1, 24, .inl (fun _ => 0))), (a4, .inl (g.2.1, 24, .inl (fun _ => 0)))]) 0 0 dX9_init_37 fkX9_24 ftX9 (fun q h => by cases h; exact Or.inr ⟨rfl, rfl⟩) rfl rfl rfl (Nat.le_of_ble_eq_true rfl) rfl ?_
  refine jc_aload_n (pc := 40) 0 dX9_init_40 rfl ?_
  refine jc_aload_n (pc := 41) 1 dX9_init_41 rfl ?_
  refine jc_get (pc := 42) (.ref T) 1 0 dX9_init_42 fkX9_28 rfl rfl ?_
  refine jc_put (pc := 45) (ws' := [(h0, .inr (9, [.ref B, .ref T, .null, .ref a1, .ref a2, .ref a3, .ref a4])), (B, .inr (0, [.ref T, .ref C, .ref tm])), (a1, .inl (g.2.1, 4, .inl (fun _ => 0))), (a2, .inl (g.2.1, 8, .inl (fun _ => 0))), (a3, .inl (g.2.1, 24, .inl (fun _ => 0))), (a4, .inl (g.2.1, 24, .inl (fun _ => 0)))]) 0 1 dX9_init_45 fkX9_34 ftX9 (fun q h => by cases h; exact Or.inr ⟨rfl, rfl⟩) rfl rfl rfl (Nat.le_of_ble_eq_true rfl) rfl ?_
  refine jc_aload_n (pc := 48) 0 dX9_init_48 rfl ?_
  refine jc_aload_n (pc := 49) 1 dX9_init_49 rfl ?_
  refine jc_get (pc := 50) (.ref C) 1 1 dX9_init_50 fkX9_35 rfl rfl ?_
  refine jc_put (pc := 53) (ws' := [(h0, .inr (9, [.ref B, .ref T, .ref C, .ref a1, .ref a2, .ref a3, .ref a4])), (B, .inr (0, [.ref T, .ref C, .ref tm])), (a1, .inl (g.2.1, 4, .inl (fun _ => 0))), (a2, .inl (g.2.1, 8, .inl (fun _ => 0))), (a3, .inl (g.2.1, 24, .inl (fun _ => 0))), (a4, .inl (g.2.1, 24, .inl (fun _ => 0)))]) 0 2 dX9_init_53 fkX9_39 ftX9 (fun q h => by cases h; exact Or.inr ⟨rfl, rfl⟩) rfl rfl rfl (Nat.le_of_ble_eq_true rfl) rfl ?_
  exact jc_ret (pc := 56) dX9_init_56 (by decide) (by decide) ⟨fun k => [h0, a1, a2, a3, a4].getD k 0, rfl, rfl⟩
theorem dX10_init_0 : decode cX10_init 0 = .ok (.aload_n 0, 1) := by decide +kernel
theorem dX10_init_1 : decode cX10_init 1 = .ok (.invokespecial 3, 3) := by decide +kernel
theorem dX10_init_4 : decode cX10_init 4 = .ok (.aload_n 0, 1) := by decide +kernel
theorem dX10_init_5 : decode cX10_init 5 = .ok (.bipush 10, 2) := by decide +kernel
theorem dX10_init_7 : decode cX10_init 7 = .ok (.newarray .int, 2) := by decide +kernel
theorem dX10_init_9 : decode cX10_init 9 = .ok (.putfield 9, 3) := by decide +kernel
theorem dX10_init_12 : decode cX10_init 12 = .ok (.aload_n 0, 1) := by decide +kernel
theorem dX10_init_13 : decode cX10_init 13 = .ok (.bipush 61, 2) := by decide +kernel
theorem dX10_init_15 : decode cX10_init 15 = .ok (.newarray .long, 2) := by decide +kernel
theorem dX10_init_17 : decode cX10_init 17 = .ok (.putfield 15, 3) := by decide +kernel
theorem dX10_init_20 : decode cX10_init 20 = .ok (.aload_n 0, 1) := by decide +kernel
theorem dX10_init_21 : decode cX10_init 21 = .ok (.aload_n 1, 1) := by decide +kernel
theorem dX10_init_22 : decode cX10_init 22 = .ok (.putfield 19, 3) := by decide +kernel
theorem dX10_init_25 : decode cX10_init 25 = .ok (.aload_n 0, 1) := by decide +kernel
theorem dX10_init_26 : decode cX10_init 26 = .ok (.aload_n 1, 1) := by decide +kernel
theorem dX10_init_27 : decode cX10_init 27 = .ok (.getfield 23, 3) := by decide +kernel
theorem dX10_init_30 : decode cX10_init 30 = .ok (.putfield 29, 3) := by decide +kernel
theorem dX10_init_33 : decode cX10_init 33 = .ok (.aload_n 0, 1) := by decide +kernel
theorem dX10_init_34 : decode cX10_init 34 = .ok (.aload_n 1, 1) := by decide +kernel
theorem dX10_init_35 : decode cX10_init 35 = .ok (.getfield 30, 3) := by decide +kernel
theorem dX10_init_38 : decode cX10_init 38 = .ok (.putfield 34, 3) := by decide +kernel
theorem dX10_init_41 : decode cX10_init 41 = .ok (.return_, 1) := by decide +kernel
def wX10 (g : jc_G) (B T C : Nat) (ad : Nat → Nat) : va_W := [(ad 0, .inr (10, [.ref B, .ref T, .ref C, .ref (ad 1), .ref (ad 2)])), (ad 1, .inl (g.2.1, 10, .inl (fun _ => 0))), (ad 2, .inl (g.2.2.1, 61, .inr (.inl (fun _ => 0))))]
theorem kX10 (h0 B T C tm : Nat) : jc_R l g 4 2 71 iX10_init [.ref h0, .ref B] [(h0, .inr (10, dvX10)), (B, .inr (0, [.ref T, .ref C, .ref tm]))] (fun w => ∃ ad : Nat → Nat, ad 0 = h0 ∧ w = (ad 0, .inr (10, [.ref B, .ref T, .ref C, .ref (ad 1), .ref (ad 2)])) :: (B, .inr (0, [.ref T, .ref C, .ref tm])) :: [(ad 1, .inl (g.2.1, 10, .inl (fun _ => 0))), (ad 2, .inl (g.2.2.1, 61, .inr (.inl (fun _ => 0))))]) := by
  refine jc_enter [(0, .ref h0), (1, .ref B)] (by decide) rfl (Nat.le_of_ble_eq_true rfl) rfl rfl ?_
  refine jc_aload_n (pc := 0) 0 dX10_init_0 rfl ?_
  refine jc_obj (pc := 1) dX10_init_1 oiX10_3 oiI oiC (by decide) ?_
  refine jc_aload_n (pc := 4) 0 dX10_init_4 rfl ?_
  refine jc_bipush (pc := 5) 10 dX10_init_5 (by decide) ?_
  refine jc_newi (pc := 7) 10 dX10_init_7 acI (by decide) (by decide) (by decide) (by decide) (by decide) (fun a1 => ?_)
  refine jc_to (ws' := [(h0, .inr (10, [.null, .null, .null, .null, .null])), (B, .inr (0, [.ref T, .ref C, .ref tm])), (a1, .inl (g.2.1, 10, .inl (fun _ => 0)))]) rfl ?_
  refine jc_put (pc := 9) (ws' := [(h0, .inr (10, [.null, .null, .null, .ref a1, .null])), (B, .inr (0, [.ref T, .ref C, .ref tm])), (a1, .inl (g.2.1, 10, .inl (fun _ => 0)))]) 0 3 dX10_init_9 fkX10_9 ftX10 (fun q h => by cases h; exact Or.inr ⟨rfl, rfl⟩) rfl rfl rfl (Nat.le_of_ble_eq_true rfl) rfl ?_
  refine jc_aload_n (pc := 12) 0 dX10_init_12 rfl ?_
  refine jc_bipush (pc := 13) 61 dX10_init_13 (by decide) ?_
  refine jc_newl (pc := 15) 61 dX10_init_15 acL (by decide) (by decide) (by decide) (by decide) (by decide) (fun a2 => ?_)
  refine jc_to (ws' := [(h0, .inr (10, [.null, .null, .null, .ref a1, .null])), (B, .inr (0, [.ref T, .ref C, .ref tm])), (a1, .inl (g.2.1, 10, .inl (fun _ => 0))), (a2, .inl (g.2.2.1, 61, .inr (.inl (fun _ => 0))))]) rfl ?_
  refine jc_put (pc := 17) (ws' := [(h0, .inr (10, [.null, .null, .null, .ref a1, .ref a2])), (B, .inr (0, [.ref T, .ref C, .ref tm])), (a1, .inl (g.2.1, 10, .inl (fun _ => 0))), (a2, .inl (g.2.2.1, 61, .inr (.inl (fun _ => 0))))]) 0 4 dX10_init_17 fkX10_15 ftX10 (fun q h => by cases h; exact Or.inr ⟨rfl, rfl⟩) rfl rfl rfl (Nat.le_of_ble_eq_true rfl) rfl ?_
  refine jc_aload_n (pc := 20) 0 dX10_init_20 rfl ?_
  refine jc_aload_n (pc := 21) 1 dX10_init_21 rfl ?_
  refine jc_put (pc := 22) (ws' := [(h0, .inr (10, [.ref B, .null, .null, .ref a1, .ref a2])), (B, .inr (0, [.ref T, .ref C, .ref tm])), (a1, .inl (g.2.1, 10, .inl (fun _ => 0))), (a2, .inl (g.2.2.1, 61, .inr (.inl (fun _ => 0))))]) 0 0 dX10_init_22 fkX10_19 ftX10 (fun q h => by cases h; exact Or.inr ⟨rfl, rfl⟩) rfl rfl rfl (Nat.le_of_ble_eq_true rfl) rfl ?_
  refine jc_aload_n (pc := 25) 0 dX10_init_25 rfl ?_
  refine jc_aload_n (pc := 26) 1 dX10_init_26 rfl ?_
  refine jc_get (pc := 27) (.ref T) 1 0 dX10_init_27 fkX10_23 rfl rfl ?_
  refine jc_put (pc := 30) (ws' := [(h0, .inr (10, [.ref B, .ref T, .null, .ref a1, .ref a2])), (B, .inr (0, [.ref T, .ref C, .ref tm])), (a1, .inl (g.2.1, 10, .inl (fun _ => 0))), (a2, .inl (g.2.2.1, 61, .inr (.inl (fun _ => 0))))]) 0 1 dX10_init_30 fkX10_29 ftX10 (fun q h => by cases h; exact Or.inr ⟨rfl, rfl⟩) rfl rfl rfl (Nat.le_of_ble_eq_true rfl) rfl ?_
  refine jc_aload_n (pc := 33) 0 dX10_init_33 rfl ?_
  refine jc_aload_n (pc := 34) 1 dX10_init_34 rfl ?_
  refine jc_get (pc := 35) (.ref C) 1 1 dX10_init_35 fkX10_30 rfl rfl ?_
  refine jc_put (pc := 38) (ws' := [(h0, .inr (10, [.ref B, .ref T, .ref C, .ref a1, .ref a2])), (B, .inr (0, [.ref T, .ref C, .ref tm])), (a1, .inl (g.2.1, 10, .inl (fun _ => 0))), (a2, .inl (g.2.2.1, 61, .inr (.inl (fun _ => 0))))]) 0 2 dX10_init_38 fkX10_34 ftX10 (fun q h => by cases h; exact Or.inr ⟨rfl, rfl⟩) rfl rfl rfl (Nat.le_of_ble_eq_true rfl) rfl ?_
  exact jc_ret (pc := 41) dX10_init_41 (by decide) (by decide) ⟨fun k => [h0, a1, a2].getD k 0, rfl, rfl⟩
theorem dX8_init_0 : decode cX8_init 0 = .ok (.aload_n 0, 1) := by decide +kernel
theorem dX8_init_1 : decode cX8_init 1 = .ok (.invokespecial 3, 3) := by decide +kernel
theorem dX8_init_4 : decode cX8_init 4 = .ok (.aload_n 0, 1) := by decide +kernel
theorem dX8_init_5 : decode cX8_init 5 = .ok (.iconst 0, 1) := by decide +kernel
theorem dX8_init_6 : decode cX8_init 6 = .ok (.putfield 9, 3) := by decide +kernel
theorem dX8_init_9 : decode cX8_init 9 = .ok (.aload_n 0, 1) := by decide +kernel
theorem dX8_init_10 : decode cX8_init 10 = .ok (.bipush 8, 2) := by decide +kernel
theorem dX8_init_12 : decode cX8_init 12 = .ok (.newarray .int, 2) := by decide +kernel
theorem dX8_init_14 : decode cX8_init 14 = .ok (.putfield 15, 3) := by decide +kernel
theorem dX8_init_17 : decode cX8_init 17 = .ok (.aload_n 0, 1) := by decide +kernel
theorem dX8_init_18 : decode cX8_init 18 = .ok (.bipush 8, 2) := by decide +kernel
theorem dX8_init_20 : decode cX8_init 20 = .ok (.newarray .int, 2) := by decide +kernel
theorem dX8_init_22 : decode cX8_init 22 = .ok (.putfield 19, 3) := by decide +kernel
theorem dX8_init_25 : decode cX8_init 25 = .ok (.aload_n 0, 1) := by decide +kernel
theorem dX8_init_26 : decode cX8_init 26 = .ok (.bipush 8, 2) := by decide +kernel
theorem dX8_init_28 : decode cX8_init 28 = .ok (.newarray .int, 2) := by decide +kernel
theorem dX8_init_30 : decode cX8_init 30 = .ok (.putfield 22, 3) := by decide +kernel
theorem dX8_init_33 : decode cX8_init 33 = .ok (.aload_n 0, 1) := by decide +kernel
theorem dX8_init_34 : decode cX8_init 34 = .ok (.bipush 48, 2) := by decide +kernel
theorem dX8_init_36 : decode cX8_init 36 = .ok (.newarray .int, 2) := by decide +kernel
theorem dX8_init_38 : decode cX8_init 38 = .ok (.putfield 25, 3) := by decide +kernel
theorem dX8_init_41 : decode cX8_init 41 = .ok (.aload_n 0, 1) := by decide +kernel
theorem dX8_init_42 : decode cX8_init 42 = .ok (.sipush 953, 3) := by decide +kernel
theorem dX8_init_45 : decode cX8_init 45 = .ok (.putfield 28, 3) := by decide +kernel
theorem dX8_init_48 : decode cX8_init 48 = .ok (.aload_n 0, 1) := by decide +kernel
theorem dX8_init_49 : decode cX8_init 49 = .ok (.bipush 10, 2) := by decide +kernel
theorem dX8_init_51 : decode cX8_init 51 = .ok (.putfield 31, 3) := by decide +kernel
theorem dX8_init_54 : decode cX8_init 54 = .ok (.aload_n 0, 1) := by decide +kernel
theorem dX8_init_55 : decode cX8_init 55 = .ok (.iconst 1, 1) := by decide +kernel
theorem dX8_init_56 : decode cX8_init 56 = .ok (.putfield 34, 3) := by decide +kernel
theorem dX8_init_59 : decode cX8_init 59 = .ok (.aload_n 0, 1) := by decide +kernel
theorem dX8_init_60 : decode cX8_init 60 = .ok (.iconst 0, 1) := by decide +kernel
theorem dX8_init_61 : decode cX8_init 61 = .ok (.putfield 37, 3) := by decide +kernel
theorem dX8_init_64 : decode cX8_init 64 = .ok (.aload_n 0, 1) := by decide +kernel
theorem dX8_init_65 : decode cX8_init 65 = .ok (.bipush 12, 2) := by decide +kernel
theorem dX8_init_67 : decode cX8_init 67 = .ok (.newarray .int, 2) := by decide +kernel
theorem dX8_init_69 : decode cX8_init 69 = .ok (.putfield 40, 3) := by decide +kernel
theorem dX8_init_72 : decode cX8_init 72 = .ok (.aload_n 0, 1) := by decide +kernel
theorem dX8_init_73 : decode cX8_init 73 = .ok (.new 43, 3) := by decide +kernel
theorem dX8_init_76 : decode cX8_init 76 = .ok (.dup, 1) := by decide +kernel
theorem dX8_init_77 : decode cX8_init 77 = .ok (.invokespecial 45, 3) := by decide +kernel
theorem dX8_init_80 : decode cX8_init 80 = .ok (.putfield 46, 3) := by decide +kernel
theorem dX8_init_83 : decode cX8_init 83 = .ok (.aload_n 0, 1) := by decide +kernel
theorem dX8_init_84 : decode cX8_init 84 = .ok (.new 50, 3) := by decide +kernel
theorem dX8_init_87 : decode cX8_init 87 = .ok (.dup, 1) := by decide +kernel
theorem dX8_init_88 : decode cX8_init 88 = .ok (.invokespecial 52, 3) := by decide +kernel
theorem dX8_init_91 : decode cX8_init 91 = .ok (.putfield 53, 3) := by decide +kernel
theorem dX8_init_94 : decode cX8_init 94 = .ok (.aload_n 0, 1) := by decide +kernel
theorem dX8_init_95 : decode cX8_init 95 = .ok (.new 57, 3) := by decide +kernel
theorem dX8_init_98 : decode cX8_init 98 = .ok (.dup, 1) := by decide +kernel
theorem dX8_init_99 : decode cX8_init 99 = .ok (.invokespecial 59, 3) := by decide +kernel
theorem dX8_init_102 : decode cX8_init 102 = .ok (.putfield 60, 3) := by decide +kernel
theorem dX8_init_105 : decode cX8_init 105 = .ok (.return_, 1) := by decide +kernel
def wX8 (g : jc_G) (ad : Nat → Nat) : va_W := ((([(ad 0, .inr (8, [.int 0, .ref (ad 1), .ref (ad 2), .ref (ad 3), .ref (ad 4), .int 953, .int 10, .int 1, .int 0, .ref (ad 5), .ref (ad 6), .ref (ad 9), .ref (ad 16)])), (ad 1, .inl (g.2.1, 8, .inl (fun _ => 0))), (ad 2, .inl (g.2.1, 8, .inl (fun _ => 0))), (ad 3, .inl (g.2.1, 8, .inl (fun _ => 0))), (ad 4, .inl (g.2.1, 48, .inl (fun _ => 0))), (ad 5, .inl (g.2.1, 12, .inl (fun _ => 0)))] ++ wX5 g (fun k => ad (6 + k))) ++ wX3 g (fun k => ad (9 + k))) ++ wX6 g (fun k => ad (16 + k)))
theorem kX8 (h0 : Nat) : jc_R l g 5 22 1071 iX8_init [.ref h0] [(h0, .inr (8, dvX8))] (fun w => ∃ ad : Nat → Nat, ad 0 = h0 ∧ w = wX8 g ad) := by
  refine jc_enter [(0, .ref h0)] (by decide) rfl (Nat.le_of_ble_eq_true rfl) rfl rfl ?_
  refine jc_aload_n (pc := 0) 0 dX8_init_0 rfl ?_
  refine jc_obj (pc := 1) dX8_init_1 oiX8_3 oiI oiC (by decide) ?_
  refine jc_aload_n (pc := 4) 0 dX8_init_4 rfl ?_
  refine jc_iconst (pc := 5) 0 dX8_init_5 (by decide) ?_
  refine jc_put (pc := 6) (ws' := [(h0, .inr (8, [.int 0, .null, .null, .null, .null, .int 0, .int 0, .int 0, .int 0, .null, .null, .null, .null]))]) 0 0 dX8_init_6 fkX8_9 ftX8 (fun q h => by cases h; exact Or.inl rfl) rfl rfl rfl (Nat.le_of_ble_eq_true rfl) rfl ?_
  refine jc_aload_n (pc := 9) 0 dX8_init_9 rfl ?_
  refine jc_bipush (pc := 10) 8 dX8_init_10 (by decide) ?_
  refine jc_newi (pc := 12) 8 dX8_init_12 acI (by decide) (by decide) (by decide) (by decide) (by decide) (fun a1 => ?_)
  refine jc_to (ws' := [(h0, .inr (8, [.int 0, .null, .null, .null, .null, .int 0, .int 0, .int 0, .int 0, .null, .null, .null, .null])), (a1, .inl (g.2.1, 8, .inl (fun _ => 0)))]) rfl ?_
  refine jc_put (pc := 14) (ws' := [(h0, .inr (8, [.int 0, .ref a1, .null, .null, .null, .int 0, .int 0, .int 0, .int 0, .null, .null, .null, .null])), (a1, .inl (g.2.1, 8, .inl (fun _ => 0)))]) 0 1 dX8_init_14 fkX8_15 ftX8 (fun q h => by cases h; exact Or.inr ⟨rfl, rfl⟩) rfl rfl rfl (Nat.le_of_ble_eq_true rfl) rfl ?_
  refine jc_aload_n (pc := 17) 0 dX8_init_17 rfl ?_
  refine jc_bipush (pc := 18) 8 dX8_init_18 (by decide) ?_
  refine jc_newi (pc := 20) 8 dX8_init_20 acI (by decide) (by decide) (by decide) (by decide) (by decide) (fun a2 => ?_)
  refine jc_to (ws' := [(h0, .inr (8, [.int 0, .ref a1, .null, .null, .null, .int 0, .int 0, .int 0, .int 0, .null, .null, .null, .null])), (a1, .inl (g.2.1, 8, .inl (fun _ => 0))), (a2, .inl (g.2.1, 8, .inl (fun _ => 0)))]) rfl ?_
  refine jc_put (pc := 22) (ws' := [(h0, .inr (8, [.int 0, .ref a1, .ref a2, .null, .null, .int 0, .int 0, .int 0, .int 0, .null, .null, .null, .null])), (a1, .inl (g.2.1, 8, .inl (fun _ => 0))), (a2, .inl (g.2.1, 8, .inl (fun _ => 0)))]) 0 2 dX8_init_22 fkX8_19 ftX8 (fun q h => by cases h; exact Or.inr ⟨rfl, rfl⟩) rfl rfl rfl (Nat.le_of_ble_eq_true rfl) rfl ?_
  refine jc_aload_n (pc := 25) 0 dX8_init_25 rfl ?_
  refine jc_bipush (pc := 26) 8 dX8_init_26 (by decide) ?_
  refine jc_newi (pc := 28) 8 dX8_init_28 acI (by decide) (by decide) (by decide) (by decide) (by decide) (fun a3 => ?_)
  refine jc_to (ws' := [(h0, .inr (8, [.int 0, .ref a1, .ref a2, .null, .null, .int 0, .int 0, .int 0, .int 0, .null, .null, .null, .null])), (a1, .inl (g.2.1, 8, .inl (fun _ => 0))), (a2, .inl (g.2.1, 8, .inl (fun _ => 0))), (a3, .inl (g.2.1, 8, .inl (fun _ => 0)))]) rfl ?_
  refine jc_put (pc := 30) (ws' := [(h0, .inr (8, [.int 0, .ref a1, .ref a2, .ref a3, .null, .int 0, .int 0, .int 0, .int 0, .null, .null, .null, .null])), (a1, .inl (g.2.1, 8, .inl (fun _ => 0))), (a2, .inl (g.2.1, 8, .inl (fun _ => 0))), (a3, .inl (g.2.1, 8, .inl (fun _ => 0)))]) 0 3 dX8_init_30 fkX8_22 ftX8 (fun q h => by cases h; exact Or.inr ⟨rfl, rfl⟩) rfl rfl rfl (Nat.le_of_ble_eq_true rfl) rfl ?_
  refine jc_aload_n (pc := 33) 0 dX8_init_33 rfl ?_
  refine jc_bipush (pc := 34) 48 dX8_init_34 (by decide) ?_
  refine jc_newi (pc := 36) 48 dX8_init_36 acI (by decide) (by decide) (by decide) (by decide) (by decide) (fun a4 => ?_)
  refine jc_to (ws' := [(h0, .inr (8, [.int 0, .ref a1, .ref a2, .ref a3, .null, .int 0, .int 0, .int 0, .int 0, .null, .null, .null, .null])), (a1, .inl (g.2.1, 8, .inl (fun _ => 0))), (a2, .inl (g.2.1, 8, .inl (fun _ => 0))), (a3, .inl (g.2.1, 8, .inl (fun _ => 0))), (a4, .inl (g.2.1, 48, .inl (fun _ => 0)))]) rfl ?_
  refine jc_put (pc := 38) (ws' := [(h0, .inr (8, [.int 0, .ref a1, .ref a2, .ref a3, .ref a4, .int 0, .int 0, .int 0, .int 0, .null, .null, .null, .null])), (a1, .inl (g.2.1, 8, .inl (fun _ => 0))), (a2, .inl (g.2.1, 8, .inl (fun _ => 0))), (a3, .inl (g.2.1, 8, .inl (fun _ => 0))), (a4, .inl (g.2.1, 48, .inl (fun _ => 0)))]) 0 4 dX8_init_38 fkX8_25 ftX8 (fun q h => by cases h; exact Or.inr ⟨rfl, rfl⟩) rfl rfl rfl (Nat.le_of_ble_eq_true rfl) rfl ?_
  refine jc_aload_n (pc := 41) 0 dX8_init_41 rfl ?_
  refine jc_sipush (pc := 42) 953 dX8_init_42 (by decide) ?_
  refine jc_put (pc := 45) (ws' := [(h0, .inr (8, [.int 0, .ref a1, .ref a2, .ref a3, .ref a4, .int 953, .int 0, .int 0, .int 0, .null, .null, .null, .null])), (a1, .inl (g.2.1, 8, .inl (fun _ => 0))), (a2, .inl (g.2.1, 8, .inl (fun _ => 0))), (a3, .inl (g.2.1, 8, .inl (fun _ => 0))), (a4, .inl (g.2.1, 48, .inl (fun _ => 0)))]) 0 5 dX8_init_45 fkX8_28 ftX8 (fun q h => by cases h; exact Or.inl rfl) rfl rfl rfl (Nat.le_of_ble_eq_true rfl) rfl ?_
  refine jc_aload_n (pc := 48) 0 dX8_init_48 rfl ?_
  refine jc_bipush (pc := 49) 10 dX8_init_49 (by decide) ?_
  refine jc_put (pc := 51) (ws' := [(h0, .inr (8, [.int 0, .ref a1, .ref a2, .ref a3, .ref a4, .int 953, .int 10, .int 0, .int 0, .null, .null, .null, .null])), (a1, .inl (g.2.1, 8, .inl (fun _ => 0))), (a2, .inl (g.2.1, 8, .inl (fun _ => 0))), (a3, .inl (g.2.1, 8, .inl (fun _ => 0))), (a4, .inl (g.2.1, 48, .inl (fun _ => 0)))]) 0 6 dX8_init_51 fkX8_31 ftX8 (fun q h => by cases h; exact Or.inl rfl) rfl rfl rfl (Nat.le_of_ble_eq_true rfl) rfl ?_
  refine jc_aload_n (pc := 54) 0 dX8_init_54 rfl ?_
  refine jc_iconst (pc := 55) 1 dX8_init_55 (by decide) ?_
  refine jc_put (pc := 56) (ws' := [(h0, .inr (8, [.int 0, .ref a1, .ref a2, .ref a3, .ref a4, .int 953, .int 10, .int 1, .int 0, .null, .null, .null, .null])), (a1, .inl (g.2.1, 8, .inl (fun _ => 0))), (a2, .inl (g.2.1, 8, .inl (fun _ => 0))), (a3, .inl (g.2.1, 8, .inl (fun _ => 0))), (a4, .inl (g.2.1, 48, .inl (fun _ => 0)))]) 0 7 dX8_init_56 fkX8_34 ftX8 (fun q h => by cases h; exact Or.inl rfl) rfl rfl rfl (Nat.le_of_ble_eq_true rfl) rfl ?_
  refine jc_aload_n (pc := 59) 0 dX8_init_59 rfl ?_
  refine jc_iconst (pc := 60) 0 dX8_init_60 (by decide) ?_
  refine jc_put (pc := 61) (ws' := [(h0, .inr (8, [.int 0, .ref a1, .ref a2, .ref a3, .ref a4, .int 953, .int 10, .int 1, .int 0, .null, .null, .null, .null])), (a1, .inl (g.2.1, 8, .inl (fun _ => 0))), (a2, .inl (g.2.1, 8, .inl (fun _ => 0))), (a3, .inl (g.2.1, 8, .inl (fun _ => 0))), (a4, .inl (g.2.1, 48, .inl (fun _ => 0)))]) 0 8 dX8_init_61 fkX8_37 ftX8 (fun q h => by cases h; exact Or.inl rfl) rfl rfl rfl (Nat.le_of_ble_eq_true rfl) rfl ?_
  refine jc_aload_n (pc := 64) 0 dX8_init_64 rfl ?_
  refine jc_bipush (pc := 65) 12 dX8_init_65 (by decide) ?_
  refine jc_newi (pc := 67) 12 dX8_init_67 acI (by decide) (by decide) (by decide) (by decide) (by decide) (fun a5 => ?_)
  refine jc_to (ws' := [(h0, .inr (8, [.int 0, .ref a1, .ref a2, .ref a3, .ref a4, .int 953, .int 10, .int 1, .int 0, .null, .null, .null, .null])), (a1, .inl (g.2.1, 8, .inl (fun _ => 0))), (a2, .inl (g.2.1, 8, .inl (fun _ => 0))), (a3, .inl (g.2.1, 8, .inl (fun _ => 0))), (a4, .inl (g.2.1, 48, .inl (fun _ => 0))), (a5, .inl (g.2.1, 12, .inl (fun _ => 0)))]) rfl ?_
  refine jc_put (pc := 69) (ws' := [(h0, .inr (8, [.int 0, .ref a1, .ref a2, .ref a3, .ref a4, .int 953, .int 10, .int 1, .int 0, .ref a5, .null, .null, .null])), (a1, .inl (g.2.1, 8, .inl (fun _ => 0))), (a2, .inl (g.2.1, 8, .inl (fun _ => 0))), (a3, .inl (g.2.1, 8, .inl (fun _ => 0))), (a4, .inl (g.2.1, 48, .inl (fun _ => 0))), (a5, .inl (g.2.1, 12, .inl (fun _ => 0)))]) 0 9 dX8_init_69 fkX8_40 ftX8 (fun q h => by cases h; exact Or.inr ⟨rfl, rfl⟩) rfl rfl rfl (Nat.le_of_ble_eq_true rfl) rfl ?_
  refine jc_aload_n (pc := 72) 0 dX8_init_72 rfl ?_
  refine jc_new (pc := 73) (ci := 5) (q := (RX5, TX5, 3)) tyX5 dvX5 dX8_init_73 rfl uX5 tyX5_ok clX8_43 insX5 iniX5 dvX5_ok (by decide) (by decide) (fun n1 => ?_)
  refine jc_dup (pc := 76) dX8_init_76 rfl ?_
  refine jc_call (pc := 77) (As := []) (st := [.ref n1, .ref h0]) iX5_init dX8_init_77 miX8_45 rfl rfl (by show (2 : Nat) ≤ 8; decide) (kX5 n1) (by decide) (by decide) (by decide) (fun w1 hw1 => ?_)
  obtain ⟨b1, e1, rfl⟩ := hw1
  subst e1
  refine jc_put (pc := 80) (ws' := ([(h0, .inr (8, [.int 0, .ref a1, .ref a2, .ref a3, .ref a4, .int 953, .int 10, .int 1, .int 0, .ref a5, .ref (b1 0), .null, .null])), (a1, .inl (g.2.1, 8, .inl (fun _ => 0))), (a2, .inl (g.2.1, 8, .inl (fun _ => 0))), (a3, .inl (g.2.1, 8, .inl (fun _ => 0))), (a4, .inl (g.2.1, 48, .inl (fun _ => 0))), (a5, .inl (g.2.1, 12, .inl (fun _ => 0)))] ++ wX5 g b1)) 0 10 dX8_init_80 fkX8_46 ftX8 (fun q h => by cases h; exact Or.inr ⟨rfl, rfl⟩) rfl rfl rfl (Nat.le_of_ble_eq_true rfl) rfl ?_
  refine jc_aload_n (pc := 83) 0 dX8_init_83 rfl ?_
  refine jc_new (pc := 84) (ci := 3) (q := (RX3, TX3, 8)) tyX3 dvX3 dX8_init_84 rfl uX3 tyX3_ok clX8_50 insX3 iniX3 dvX3_ok (by decide) (by decide) (fun n2 => ?_)
  refine jc_dup (pc := 87) dX8_init_87 rfl ?_
  refine jc_call (pc := 88) (As := []) (st := [.ref n2, .ref h0]) iX3_init dX8_init_88 miX8_52 rfl rfl (by show (2 : Nat) ≤ 8; decide) (kX3 n2) (by decide) (by decide) (by decide) (fun w1 hw1 => ?_)
  obtain ⟨b2, e1, rfl⟩ := hw1
  subst e1
  refine jc_put (pc := 91) (ws' := (([(h0, .inr (8, [.int 0, .ref a1, .ref a2, .ref a3, .ref a4, .int 953, .int 10, .int 1, .int 0, .ref a5, .ref (b1 0), .ref (b2 0), .null])), (a1, .inl (g.2.1, 8, .inl (fun _ => 0))), (a2, .inl (g.2.1, 8, .inl (fun _ => 0))), (a3, .inl (g.2.1, 8, .inl (fun _ => 0))), (a4, .inl (g.2.1, 48, .inl (fun _ => 0))), (a5, .inl (g.2.1, 12, .inl (fun _ => 0)))] ++ wX5 g b1) ++ wX3 g b2)) 0 11 dX8_init_91 fkX8_53 ftX8 (fun q h => by cases h; exact Or.inr ⟨rfl, rfl⟩) rfl rfl rfl (Nat.le_of_ble_eq_true rfl) rfl ?_
  refine jc_aload_n (pc := 94) 0 dX8_init_94 rfl ?_
  refine jc_new (pc := 95) (ci := 6) (q := (RX6, TX6, 8)) tyX6 dvX6 dX8_init_95 rfl uX6 tyX6_ok clX8_57 insX6 iniX6 dvX6_ok (by decide) (by decide) (fun n3 => ?_)
  refine jc_dup (pc := 98) dX8_init_98 rfl ?_
  refine jc_call (pc := 99) (As := []) (st := [.ref n3, .ref h0]) iX6_init dX8_init_99 miX8_59 rfl rfl (by show (2 : Nat) ≤ 8; decide) (kX6 n3) (by decide) (by decide) (by decide) (fun w1 hw1 => ?_)
  obtain ⟨b3, e1, rfl⟩ := hw1
  subst e1
  refine jc_put (pc := 102) (ws' := ((([(h0, .inr (8, [.int 0, .ref a1, .ref a2, .ref a3, .ref a4, .int 953, .int 10, .int 1, .int 0, .ref a5, .ref (b1 0), .ref (b2 0), .ref (b3 0)])), (a1, .inl (g.2.1, 8, .inl (fun _ => 0))), (a2, .inl (g.2.1, 8, .inl (fun _ => 0))), (a3, .inl (g.2.1, 8, .inl (fun _ => 0))), (a4, .inl (g.2.1, 48, .inl (fun _ => 0))), (a5, .inl (g.2.1, 12, .inl (fun _ => 0)))] ++ wX5 g b1) ++ wX3 g b2) ++ wX6 g b3)) 0 12 dX8_init_102 fkX8_60 ftX8 (fun q h => by cases h; exact Or.inr ⟨rfl, rfl⟩) rfl rfl rfl (Nat.le_of_ble_eq_true rfl) rfl ?_
  exact jc_ret (pc := 105) dX8_init_105 (by decide) (by decide) ⟨fun k => if k < 6 then [h0, a1, a2, a3, a4, a5].getD k 0 else if k < 9 then b1 (k - 6) else if k < 16 then b2 (k - 9) else b3 (k - 16), rfl, rfl⟩
end JKD
