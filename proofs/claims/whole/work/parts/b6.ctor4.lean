section JKE
variable {l : Launch} {g : jc_G} {d mc ms k n : Nat} {Q : va_W → Prop}
theorem dX11_init_0 : decode cX11_init 0 = .ok (.aload_n 0, 1) := by decide +kernel
theorem dX11_init_1 : decode cX11_init 1 = .ok (.invokespecial 3, 3) := by decide +kernel
theorem dX11_init_4 : decode cX11_init 4 = .ok (.aload_n 0, 1) := by decide +kernel
theorem dX11_init_5 : decode cX11_init 5 = .ok (.new 9, 3) := by decide +kernel
theorem dX11_init_8 : decode cX11_init 8 = .ok (.dup, 1) := by decide +kernel
theorem dX11_init_9 : decode cX11_init 9 = .ok (.invokespecial 11, 3) := by decide +kernel
theorem dX11_init_12 : decode cX11_init 12 = .ok (.putfield 12, 3) := by decide +kernel
theorem dX11_init_15 : decode cX11_init 15 = .ok (.aload_n 0, 1) := by decide +kernel
theorem dX11_init_16 : decode cX11_init 16 = .ok (.new 16, 3) := by decide +kernel
theorem dX11_init_19 : decode cX11_init 19 = .ok (.dup, 1) := by decide +kernel
theorem dX11_init_20 : decode cX11_init 20 = .ok (.invokespecial 18, 3) := by decide +kernel
theorem dX11_init_23 : decode cX11_init 23 = .ok (.putfield 19, 3) := by decide +kernel
theorem dX11_init_26 : decode cX11_init 26 = .ok (.aload_n 0, 1) := by decide +kernel
theorem dX11_init_27 : decode cX11_init 27 = .ok (.new 23, 3) := by decide +kernel
theorem dX11_init_30 : decode cX11_init 30 = .ok (.dup, 1) := by decide +kernel
theorem dX11_init_31 : decode cX11_init 31 = .ok (.invokespecial 25, 3) := by decide +kernel
theorem dX11_init_34 : decode cX11_init 34 = .ok (.putfield 26, 3) := by decide +kernel
theorem dX11_init_37 : decode cX11_init 37 = .ok (.aload_n 0, 1) := by decide +kernel
theorem dX11_init_38 : decode cX11_init 38 = .ok (.new 30, 3) := by decide +kernel
theorem dX11_init_41 : decode cX11_init 41 = .ok (.dup, 1) := by decide +kernel
theorem dX11_init_42 : decode cX11_init 42 = .ok (.aload_n 0, 1) := by decide +kernel
theorem dX11_init_43 : decode cX11_init 43 = .ok (.getfield 19, 3) := by decide +kernel
theorem dX11_init_46 : decode cX11_init 46 = .ok (.aload_n 0, 1) := by decide +kernel
theorem dX11_init_47 : decode cX11_init 47 = .ok (.getfield 26, 3) := by decide +kernel
theorem dX11_init_50 : decode cX11_init 50 = .ok (.invokespecial 32, 3) := by decide +kernel
theorem dX11_init_53 : decode cX11_init 53 = .ok (.putfield 35, 3) := by decide +kernel
theorem dX11_init_56 : decode cX11_init 56 = .ok (.aload_n 0, 1) := by decide +kernel
theorem dX11_init_57 : decode cX11_init 57 = .ok (.new 39, 3) := by decide +kernel
theorem dX11_init_60 : decode cX11_init 60 = .ok (.dup, 1) := by decide +kernel
theorem dX11_init_61 : decode cX11_init 61 = .ok (.aload_n 0, 1) := by decide +kernel
theorem dX11_init_62 : decode cX11_init 62 = .ok (.getfield 35, 3) := by decide +kernel
theorem dX11_init_65 : decode cX11_init 65 = .ok (.invokespecial 41, 3) := by decide +kernel
theorem dX11_init_68 : decode cX11_init 68 = .ok (.putfield 44, 3) := by decide +kernel
theorem dX11_init_71 : decode cX11_init 71 = .ok (.aload_n 0, 1) := by decide +kernel
theorem dX11_init_72 : decode cX11_init 72 = .ok (.new 48, 3) := by decide +kernel
theorem dX11_init_75 : decode cX11_init 75 = .ok (.dup, 1) := by decide +kernel
theorem dX11_init_76 : decode cX11_init 76 = .ok (.aload_n 0, 1) := by decide +kernel
theorem dX11_init_77 : decode cX11_init 77 = .ok (.getfield 35, 3) := by decide +kernel
theorem dX11_init_80 : decode cX11_init 80 = .ok (.invokespecial 50, 3) := by decide +kernel
theorem dX11_init_83 : decode cX11_init 83 = .ok (.putfield 51, 3) := by decide +kernel
theorem dX11_init_86 : decode cX11_init 86 = .ok (.aload_n 0, 1) := by decide +kernel
theorem dX11_init_87 : decode cX11_init 87 = .ok (.new 55, 3) := by decide +kernel
theorem dX11_init_90 : decode cX11_init 90 = .ok (.dup, 1) := by decide +kernel
theorem dX11_init_91 : decode cX11_init 91 = .ok (.aload_n 0, 1) := by decide +kernel
theorem dX11_init_92 : decode cX11_init 92 = .ok (.getfield 35, 3) := by decide +kernel
theorem dX11_init_95 : decode cX11_init 95 = .ok (.invokespecial 57, 3) := by decide +kernel
theorem dX11_init_98 : decode cX11_init 98 = .ok (.putfield 58, 3) := by decide +kernel
theorem dX11_init_101 : decode cX11_init 101 = .ok (.aload_n 0, 1) := by decide +kernel
theorem dX11_init_102 : decode cX11_init 102 = .ok (.new 62, 3) := by decide +kernel
theorem dX11_init_105 : decode cX11_init 105 = .ok (.dup, 1) := by decide +kernel
theorem dX11_init_106 : decode cX11_init 106 = .ok (.invokespecial 64, 3) := by decide +kernel
theorem dX11_init_109 : decode cX11_init 109 = .ok (.putfield 65, 3) := by decide +kernel
theorem dX11_init_112 : decode cX11_init 112 = .ok (.aload_n 0, 1) := by decide +kernel
theorem dX11_init_113 : decode cX11_init 113 = .ok (.new 69, 3) := by decide +kernel
theorem dX11_init_116 : decode cX11_init 116 = .ok (.dup, 1) := by decide +kernel
theorem dX11_init_117 : decode cX11_init 117 = .ok (.invokespecial 71, 3) := by decide +kernel
theorem dX11_init_120 : decode cX11_init 120 = .ok (.putfield 72, 3) := by decide +kernel
theorem dX11_init_123 : decode cX11_init 123 = .ok (.aload_n 0, 1) := by decide +kernel
theorem dX11_init_124 : decode cX11_init 124 = .ok (.new 76, 3) := by decide +kernel
theorem dX11_init_127 : decode cX11_init 127 = .ok (.dup, 1) := by decide +kernel
theorem dX11_init_128 : decode cX11_init 128 = .ok (.invokespecial 78, 3) := by decide +kernel
theorem dX11_init_131 : decode cX11_init 131 = .ok (.putfield 79, 3) := by decide +kernel
theorem dX11_init_134 : decode cX11_init 134 = .ok (.aload_n 0, 1) := by decide +kernel
theorem dX11_init_135 : decode cX11_init 135 = .ok (.new 83, 3) := by decide +kernel
theorem dX11_init_138 : decode cX11_init 138 = .ok (.dup, 1) := by decide +kernel
theorem dX11_init_139 : decode cX11_init 139 = .ok (.aload_n 0, 1) := by decide +kernel
theorem dX11_init_140 : decode cX11_init 140 = .ok (.getfield 12, 3) := by decide +kernel
theorem dX11_init_143 : decode cX11_init 143 = .ok (.aload_n 0, 1) := by decide +kernel
theorem dX11_init_144 : decode cX11_init 144 = .ok (.getfield 72, 3) := by decide +kernel
theorem dX11_init_147 : decode cX11_init 147 = .ok (.invokespecial 85, 3) := by decide +kernel
theorem dX11_init_150 : decode cX11_init 150 = .ok (.putfield 88, 3) := by decide +kernel
theorem dX11_init_153 : decode cX11_init 153 = .ok (.aload_n 0, 1) := by decide +kernel
theorem dX11_init_154 : decode cX11_init 154 = .ok (.new 16, 3) := by decide +kernel
theorem dX11_init_157 : decode cX11_init 157 = .ok (.dup, 1) := by decide +kernel
theorem dX11_init_158 : decode cX11_init 158 = .ok (.invokespecial 18, 3) := by decide +kernel
theorem dX11_init_161 : decode cX11_init 161 = .ok (.putfield 92, 3) := by decide +kernel
theorem dX11_init_164 : decode cX11_init 164 = .ok (.aload_n 0, 1) := by decide +kernel
theorem dX11_init_165 : decode cX11_init 165 = .ok (.new 23, 3) := by decide +kernel
theorem dX11_init_168 : decode cX11_init 168 = .ok (.dup, 1) := by decide +kernel
theorem dX11_init_169 : decode cX11_init 169 = .ok (.invokespecial 25, 3) := by decide +kernel
theorem dX11_init_172 : decode cX11_init 172 = .ok (.putfield 95, 3) := by decide +kernel
theorem dX11_init_175 : decode cX11_init 175 = .ok (.aload_n 0, 1) := by decide +kernel
theorem dX11_init_176 : decode cX11_init 176 = .ok (.iconst 0, 1) := by decide +kernel
theorem dX11_init_177 : decode cX11_init 177 = .ok (.putfield 98, 3) := by decide +kernel
theorem dX11_init_180 : decode cX11_init 180 = .ok (.aload_n 0, 1) := by decide +kernel
theorem dX11_init_181 : decode cX11_init 181 = .ok (.bipush 6, 2) := by decide +kernel
theorem dX11_init_183 : decode cX11_init 183 = .ok (.anewarray 23, 3) := by decide +kernel
theorem dX11_init_186 : decode cX11_init 186 = .ok (.putfield 102, 3) := by decide +kernel
theorem dX11_init_189 : decode cX11_init 189 = .ok (.aload_n 0, 1) := by decide +kernel
theorem dX11_init_190 : decode cX11_init 190 = .ok (.iconst 0, 1) := by decide +kernel
theorem dX11_init_191 : decode cX11_init 191 = .ok (.putfield 106, 3) := by decide +kernel
theorem dX11_init_194 : decode cX11_init 194 = .ok (.aload_n 0, 1) := by decide +kernel
theorem dX11_init_195 : decode cX11_init 195 = .ok (.iconst 0, 1) := by decide +kernel
theorem dX11_init_196 : decode cX11_init 196 = .ok (.putfield 110, 3) := by decide +kernel
theorem dX11_init_199 : decode cX11_init 199 = .ok (.iconst 0, 1) := by decide +kernel
theorem dX11_init_200 : decode cX11_init 200 = .ok (.istore_n 1, 1) := by decide +kernel
theorem dX11_init_201 : decode cX11_init 201 = .ok (.iload_n 1, 1) := by decide +kernel
theorem dX11_init_202 : decode cX11_init 202 = .ok (.bipush 6, 2) := by decide +kernel
theorem dX11_init_204 : decode cX11_init 204 = .ok (.if_icmp .ge 22, 3) := by decide +kernel
theorem dX11_init_207 : decode cX11_init 207 = .ok (.aload_n 0, 1) := by decide +kernel
theorem dX11_init_208 : decode cX11_init 208 = .ok (.getfield 102, 3) := by decide +kernel
theorem dX11_init_211 : decode cX11_init 211 = .ok (.iload_n 1, 1) := by decide +kernel
theorem dX11_init_212 : decode cX11_init 212 = .ok (.new 23, 3) := by decide +kernel
theorem dX11_init_215 : decode cX11_init 215 = .ok (.dup, 1) := by decide +kernel
theorem dX11_init_216 : decode cX11_init 216 = .ok (.invokespecial 25, 3) := by decide +kernel
theorem dX11_init_219 : decode cX11_init 219 = .ok (.aastore, 1) := by decide +kernel
theorem dX11_init_220 : decode cX11_init 220 = .ok (.iinc 1 1, 3) := by decide +kernel
theorem dX11_init_223 : decode cX11_init 223 = .ok (.goto (-22), 3) := by decide +kernel
theorem dX11_init_226 : decode cX11_init 226 = .ok (.return_, 1) := by decide +kernel
theorem kX11_it {h0 ka : Nat} {fs : List Value} {Y Z : va_W} {f : Nat → Option Nat} (x : Int32) (hx : ¬ (6 : Int32) ≤ x) (h0x : ¬ x < 0) (hx6 : x.toNatClampNeg < 6) (hf : fs[14]? = some (.ref ka)) (hk : k + 6 ≤ mc) (hn : n + 966 ≤ ms) (kk : ∀ b : Nat → Nat, jc_V l g 7 mc ms iX11_init 201 [(1, .int (x + 1)), (0, .ref h0)] [] ((((h0, .inr (11, fs)) :: Y) ++ [(ka, .inl (g.2.2.2, 6, .inr (.inr (.inr (.inr (va_up f x.toNatClampNeg (some (b 0))))))))]) ++ (Z ++ wX1 g b)) (k + 6) (n + 966) Q) : jc_V l g 7 mc ms iX11_init 201 [(1, .int x), (0, .ref h0)] [] ((((h0, .inr (11, fs)) :: Y) ++ [(ka, .inl (g.2.2.2, 6, .inr (.inr (.inr (.inr f)))))]) ++ Z) k n Q := by
  refine jc_iload_n (pc := 201) 0 dX11_init_201 rfl ?_
  refine jc_bipush (pc := 202) 6 dX11_init_202 (by decide) ?_
  refine jc_icmp_ge (pc := 204) 226 dX11_init_204 rfl (fun q => absurd q hx) (fun _ => ?_)
  refine jc_aload_n (pc := 207) 1 dX11_init_207 rfl ?_
  refine jc_get (pc := 208) (.ref ka) 0 14 dX11_init_208 fkX11_102 rfl hf ?_
  refine jc_iload_n (pc := 211) 0 dX11_init_211 rfl ?_
  refine jc_new (pc := 212) (ci := 1) (q := (RX1, TX1, 10)) tyX1 dvX1 dX11_init_212 rfl uX1 tyX1_ok clX11_23 insX1 iniX1 dvX1_ok (by show k + 1 ≤ mc; omega) (by show n + 10 ≤ ms; omega) (fun a => ?_)
  refine jc_dup (pc := 215) dX11_init_215 rfl ?_
  refine jc_call (pc := 216) (As := []) (st := [.ref a, .int x, .ref ka]) iX1_init dX11_init_216 miX11_25 rfl rfl (by show (3 : Nat) ≤ 8; decide) (kX1 a) (by decide) (by show k + 1 + 5 ≤ mc; omega) (by show n + 10 + 956 ≤ ms; omega) (fun w1 hw1 => ?_)
  obtain ⟨b, e1, rfl⟩ := hw1
  subst e1
  refine jc_to (List.append_assoc _ _ _) ?_
  refine jc_aast (pc := 219) (N := 6) (f := f) (ws' := (((h0, .inr (11, fs)) :: Y) ++ [(ka, .inl (g.2.2.2, 6, .inr (.inr (.inr (.inr (va_up f x.toNatClampNeg (some (b 0))))))))]) ++ (Z ++ wX1 g b)) (vs := [.int 0, .int 0, .ref (b 1), .ref (b 2), .int 0, .ref (b 3), .int 0, .ref (b 4), .int 0, .ref (b 5)]) (Y.length + 1) (Y.length + 2 + Z.length) dX11_init_219 ?_ ?_ (fun q => by rcases q with q | q; exact h0x q; omega) ?_ ?_
  · rw [List.getElem?_append_left (by simp), List.getElem?_append_right (by simp)]
    simp
  · rw [List.getElem?_append_right (by simp only [List.length_append, List.length_cons, List.length_nil]; omega), List.getElem?_append_right (by simp only [List.length_append, List.length_cons, List.length_nil]; omega)]
    simp only [List.length_append, List.length_cons, List.length_nil]
    rw [show Y.length + 2 + Z.length - (Y.length + 1 + (0 + 1)) - Z.length = 0 by omega]
    rfl
  · rw [List.set_append_left _ _ (by simp), List.set_append_right _ _ (by simp)]
    simp
  · refine jc_iinc (lv' := [(1, .int (x + 1)), (0, .ref h0)]) (q := 0) (pc := 220) (x + 1) dX11_init_220 rfl rfl (by decide) rfl ?_
    refine jc_goto (pc := 223) 201 dX11_init_223 rfl ?_
    exact kk b
def wX11 (g : jc_G) (h0 : Nat) (b1 b2 b3 b4 b5 b6 b7 b8 b9 b10 b11 b12 b13 : Nat → Nat) (ka : Nat) (c0 c1 c2 c3 c4 c5 : Nat → Nat) : va_W := ((((h0, .inr (11, [.ref (b1 0), .ref (b2 0), .ref (b3 0), .ref (b4 0), .ref (b5 0), .ref (b6 0), .ref (b7 0), .ref (b8 0), .ref (b9 0), .ref (b10 0), .ref (b11 0), .ref (b12 0), .ref (b13 0), .int 0, .ref ka, .int 0, .int 0])) :: (((((((((((((([] : va_W) ++ wX7 g b1) ++ wX8 g b2) ++ wX1 g b3) ++ wX0 g (b2 0) (b3 0) b4) ++ wX2 g (b4 0) (b2 0) (b3 0) b5) ++ wX10 g (b4 0) (b2 0) (b3 0) b6) ++ wX9 g (b4 0) (b2 0) (b3 0) b7) ++ wX5 g b8) ++ wX3 g b9) ++ wX6 g b10) ++ wX4 g (b1 0) (b9 0) b11) ++ wX8 g b12) ++ wX1 g b13)) ++ [(ka, .inl (g.2.2.2, 6, .inr (.inr (.inr (.inr (va_up (va_up (va_up (va_up (va_up (va_up (fun _ => none) (0 : Int32).toNatClampNeg (some (c0 0))) (1 : Int32).toNatClampNeg (some (c1 0))) (2 : Int32).toNatClampNeg (some (c2 0))) (3 : Int32).toNatClampNeg (some (c3 0))) (4 : Int32).toNatClampNeg (some (c4 0))) (5 : Int32).toNatClampNeg (some (c5 0))))))))]) ++ ((((((([] : va_W) ++ wX1 g c0) ++ wX1 g c1) ++ wX1 g c2) ++ wX1 g c3) ++ wX1 g c4) ++ wX1 g c5))
set_option maxRecDepth 100000 in
set_option maxHeartbeats 8000000 in
theorem kX11 (h0 : Nat) : jc_R l g 7 129 12663 iX11_init [.ref h0] [(h0, .inr (11, dvX11))] (fun w => ∃ (b1 b2 b3 b4 b5 b6 b7 b8 b9 b10 b11 b12 b13 : Nat → Nat) (ka : Nat) (c0 c1 c2 c3 c4 c5 : Nat → Nat), w = wX11 g h0 b1 b2 b3 b4 b5 b6 b7 b8 b9 b10 b11 b12 b13 ka c0 c1 c2 c3 c4 c5) := by
  refine jc_enter [(0, .ref h0)] (by decide) rfl (Nat.le_of_ble_eq_true rfl) rfl rfl ?_
  refine jc_aload_n (pc := 0) 0 dX11_init_0 rfl ?_
  refine jc_obj (pc := 1) dX11_init_1 oiX11_3 oiI oiC (by decide) ?_
  refine jc_aload_n (pc := 4) 0 dX11_init_4 rfl ?_
  refine jc_new (pc := 5) (ci := 7) (q := (RX7, TX7, 9)) tyX7 dvX7 dX11_init_5 rfl uX7 tyX7_ok clX11_9 insX7 iniX7 dvX7_ok (by decide) (by decide) (fun n1 => ?_)
  refine jc_dup (pc := 8) dX11_init_8 rfl ?_
  refine jc_call (pc := 9) (As := []) (st := [.ref n1, .ref h0]) iX7_init dX11_init_9 miX11_11 rfl rfl (by show (2 : Nat) ≤ 8; decide) (kX7 n1) (by decide) (by decide) (by decide) (fun w1 hw1 => ?_)
  obtain ⟨b1, e1, rfl⟩ := hw1
  subst e1
  refine jc_put (pc := 12) (ws' := ([(h0, .inr (11, [.ref (b1 0), .null, .null, .null, .null, .null, .null, .null, .null, .null, .null, .null, .null, .int 0, .null, .int 0, .int 0]))] ++ wX7 g b1)) 0 0 dX11_init_12 fkX11_12 ftX11 (fun q h => by cases h; exact Or.inr ⟨rfl, rfl⟩) rfl rfl rfl (Nat.le_of_ble_eq_true rfl) rfl ?_
  refine jc_aload_n (pc := 15) 0 dX11_init_15 rfl ?_
  refine jc_new (pc := 16) (ci := 8) (q := (RX8, TX8, 13)) tyX8 dvX8 dX11_init_16 rfl uX8 tyX8_ok clX11_16 insX8 iniX8 dvX8_ok (by decide) (by decide) (fun n2 => ?_)
  refine jc_dup (pc := 19) dX11_init_19 rfl ?_
  refine jc_call (pc := 20) (As := []) (st := [.ref n2, .ref h0]) iX8_init dX11_init_20 miX11_18 rfl rfl (by show (2 : Nat) ≤ 8; decide) (kX8 n2) (by decide) (by decide) (by decide) (fun w1 hw1 => ?_)
  obtain ⟨b2, e1, rfl⟩ := hw1
  subst e1
  refine jc_put (pc := 23) (ws' := (([(h0, .inr (11, [.ref (b1 0), .ref (b2 0), .null, .null, .null, .null, .null, .null, .null, .null, .null, .null, .null, .int 0, .null, .int 0, .int 0]))] ++ wX7 g b1) ++ wX8 g b2)) 0 1 dX11_init_23 fkX11_19 ftX11 (fun q h => by cases h; exact Or.inr ⟨rfl, rfl⟩) rfl rfl rfl (Nat.le_of_ble_eq_true rfl) rfl ?_
  refine jc_aload_n (pc := 26) 0 dX11_init_26 rfl ?_
  refine jc_new (pc := 27) (ci := 1) (q := (RX1, TX1, 10)) tyX1 dvX1 dX11_init_27 rfl uX1 tyX1_ok clX11_23 insX1 iniX1 dvX1_ok (by decide) (by decide) (fun n3 => ?_)
  refine jc_dup (pc := 30) dX11_init_30 rfl ?_
  refine jc_call (pc := 31) (As := []) (st := [.ref n3, .ref h0]) iX1_init dX11_init_31 miX11_25 rfl rfl (by show (2 : Nat) ≤ 8; decide) (kX1 n3) (by decide) (by decide) (by decide) (fun w1 hw1 => ?_)
  obtain ⟨b3, e1, rfl⟩ := hw1
  subst e1
  refine jc_put (pc := 34) (ws' := ((([(h0, .inr (11, [.ref (b1 0), .ref (b2 0), .ref (b3 0), .null, .null, .null, .null, .null, .null, .null, .null, .null, .null, .int 0, .null, .int 0, .int 0]))] ++ wX7 g b1) ++ wX8 g b2) ++ wX1 g b3)) 0 2 dX11_init_34 fkX11_26 ftX11 (fun q h => by cases h; exact Or.inr ⟨rfl, rfl⟩) rfl rfl rfl (Nat.le_of_ble_eq_true rfl) rfl ?_
  refine jc_aload_n (pc := 37) 0 dX11_init_37 rfl ?_
  refine jc_new (pc := 38) (ci := 0) (q := (RX0, TX0, 3)) tyX0 dvX0 dX11_init_38 rfl uX0 tyX0_ok clX11_30 insX0 iniX0 dvX0_ok (by decide) (by decide) (fun n4 => ?_)
  refine jc_dup (pc := 41) dX11_init_41 rfl ?_
  refine jc_aload_n (pc := 42) 0 dX11_init_42 rfl ?_
  refine jc_get (pc := 43) (.ref (b2 0)) 0 1 dX11_init_43 fkX11_19 rfl rfl ?_
  refine jc_aload_n (pc := 46) 0 dX11_init_46 rfl ?_
  refine jc_get (pc := 47) (.ref (b3 0)) 0 2 dX11_init_47 fkX11_26 rfl rfl ?_
  refine jc_call (pc := 50) (As := [.ref (b2 0), .ref (b3 0)]) (st := [.ref n4, .ref h0]) iX0_init dX11_init_50 miX11_32 rfl rfl (by show (2 : Nat) ≤ 8; decide) (kX0 n4 (b2 0) (b3 0)) (by decide) (by decide) (by decide) (fun w1 hw1 => ?_)
  obtain ⟨b4, e1, rfl⟩ := hw1
  subst e1
  refine jc_put (pc := 53) (ws' := (((([(h0, .inr (11, [.ref (b1 0), .ref (b2 0), .ref (b3 0), .ref (b4 0), .null, .null, .null, .null, .null, .null, .null, .null, .null, .int 0, .null, .int 0, .int 0]))] ++ wX7 g b1) ++ wX8 g b2) ++ wX1 g b3) ++ wX0 g (b2 0) (b3 0) b4)) 0 3 dX11_init_53 fkX11_35 ftX11 (fun q h => by cases h; exact Or.inr ⟨rfl, rfl⟩) rfl rfl rfl (Nat.le_of_ble_eq_true rfl) rfl ?_
  refine jc_aload_n (pc := 56) 0 dX11_init_56 rfl ?_
  refine jc_new (pc := 57) (ci := 2) (q := (RX2, TX2, 3)) tyX2 dvX2 dX11_init_57 rfl uX2 tyX2_ok clX11_39 insX2 iniX2 dvX2_ok (by decide) (by decide) (fun n5 => ?_)
  refine jc_dup (pc := 60) dX11_init_60 rfl ?_
  refine jc_aload_n (pc := 61) 0 dX11_init_61 rfl ?_
  refine jc_get (pc := 62) (.ref (b4 0)) 0 3 dX11_init_62 fkX11_35 rfl rfl ?_
  refine jc_call2 (pc := 65) (As := [.ref (b4 0)]) (st := [.ref n5, .ref h0]) (u := 35) (qb := (b4 0)) (eb := .inr (0, [.ref (b2 0), .ref (b3 0), .ref (b4 1)])) iX2_init dX11_init_65 miX11_41 rfl rfl (by show (2 : Nat) ≤ 8; decide) rfl (kX2 n5 (b4 0) (b2 0) (b3 0) (b4 1)) (by decide) (by decide) (by decide) (fun w1 hw1 => ?_)
  obtain ⟨b5, e1, rfl⟩ := hw1
  subst e1
  refine ⟨_, _, rfl, ?_⟩
  refine jc_to (ws' := ((((([(h0, .inr (11, [.ref (b1 0), .ref (b2 0), .ref (b3 0), .ref (b4 0), .null, .null, .null, .null, .null, .null, .null, .null, .null, .int 0, .null, .int 0, .int 0]))] ++ wX7 g b1) ++ wX8 g b2) ++ wX1 g b3) ++ wX0 g (b2 0) (b3 0) b4) ++ wX2 g (b4 0) (b2 0) (b3 0) b5)) rfl ?_
  refine jc_put (pc := 68) (ws' := ((((([(h0, .inr (11, [.ref (b1 0), .ref (b2 0), .ref (b3 0), .ref (b4 0), .ref (b5 0), .null, .null, .null, .null, .null, .null, .null, .null, .int 0, .null, .int 0, .int 0]))] ++ wX7 g b1) ++ wX8 g b2) ++ wX1 g b3) ++ wX0 g (b2 0) (b3 0) b4) ++ wX2 g (b4 0) (b2 0) (b3 0) b5)) 0 4 dX11_init_68 fkX11_44 ftX11 (fun q h => by cases h; exact Or.inr ⟨rfl, rfl⟩) rfl rfl rfl (Nat.le_of_ble_eq_true rfl) rfl ?_
  refine jc_aload_n (pc := 71) 0 dX11_init_71 rfl ?_
  refine jc_new (pc := 72) (ci := 10) (q := (RX10, TX10, 5)) tyX10 dvX10 dX11_init_72 rfl uX10 tyX10_ok clX11_48 insX10 iniX10 dvX10_ok (by decide) (by decide) (fun n6 => ?_)
  refine jc_dup (pc := 75) dX11_init_75 rfl ?_
  refine jc_aload_n (pc := 76) 0 dX11_init_76 rfl ?_
  refine jc_get (pc := 77) (.ref (b4 0)) 0 3 dX11_init_77 fkX11_35 rfl rfl ?_
  refine jc_call2 (pc := 80) (As := [.ref (b4 0)]) (st := [.ref n6, .ref h0]) (u := 35) (qb := (b4 0)) (eb := .inr (0, [.ref (b2 0), .ref (b3 0), .ref (b4 1)])) iX10_init dX11_init_80 miX11_50 rfl rfl (by show (2 : Nat) ≤ 8; decide) rfl (kX10 n6 (b4 0) (b2 0) (b3 0) (b4 1)) (by decide) (by decide) (by decide) (fun w1 hw1 => ?_)
  obtain ⟨b6, e1, rfl⟩ := hw1
  subst e1
  refine ⟨_, _, rfl, ?_⟩
  refine jc_to (ws' := (((((([(h0, .inr (11, [.ref (b1 0), .ref (b2 0), .ref (b3 0), .ref (b4 0), .ref (b5 0), .null, .null, .null, .null, .null, .null, .null, .null, .int 0, .null, .int 0, .int 0]))] ++ wX7 g b1) ++ wX8 g b2) ++ wX1 g b3) ++ wX0 g (b2 0) (b3 0) b4) ++ wX2 g (b4 0) (b2 0) (b3 0) b5) ++ wX10 g (b4 0) (b2 0) (b3 0) b6)) rfl ?_
  refine jc_put (pc := 83) (ws' := (((((([(h0, .inr (11, [.ref (b1 0), .ref (b2 0), .ref (b3 0), .ref (b4 0), .ref (b5 0), .ref (b6 0), .null, .null, .null, .null, .null, .null, .null, .int 0, .null, .int 0, .int 0]))] ++ wX7 g b1) ++ wX8 g b2) ++ wX1 g b3) ++ wX0 g (b2 0) (b3 0) b4) ++ wX2 g (b4 0) (b2 0) (b3 0) b5) ++ wX10 g (b4 0) (b2 0) (b3 0) b6)) 0 5 dX11_init_83 fkX11_51 ftX11 (fun q h => by cases h; exact Or.inr ⟨rfl, rfl⟩) rfl rfl rfl (Nat.le_of_ble_eq_true rfl) rfl ?_
  refine jc_aload_n (pc := 86) 0 dX11_init_86 rfl ?_
  refine jc_new (pc := 87) (ci := 9) (q := (RX9, TX9, 7)) tyX9 dvX9 dX11_init_87 rfl uX9 tyX9_ok clX11_55 insX9 iniX9 dvX9_ok (by decide) (by decide) (fun n7 => ?_)
  refine jc_dup (pc := 90) dX11_init_90 rfl ?_
  refine jc_aload_n (pc := 91) 0 dX11_init_91 rfl ?_
  refine jc_get (pc := 92) (.ref (b4 0)) 0 3 dX11_init_92 fkX11_35 rfl rfl ?_
  refine jc_call2 (pc := 95) (As := [.ref (b4 0)]) (st := [.ref n7, .ref h0]) (u := 35) (qb := (b4 0)) (eb := .inr (0, [.ref (b2 0), .ref (b3 0), .ref (b4 1)])) iX9_init dX11_init_95 miX11_57 rfl rfl (by show (2 : Nat) ≤ 8; decide) rfl (kX9 n7 (b4 0) (b2 0) (b3 0) (b4 1)) (by decide) (by decide) (by decide) (fun w1 hw1 => ?_)
  obtain ⟨b7, e1, rfl⟩ := hw1
  subst e1
  refine ⟨_, _, rfl, ?_⟩
  refine jc_to (ws' := ((((((([(h0, .inr (11, [.ref (b1 0), .ref (b2 0), .ref (b3 0), .ref (b4 0), .ref (b5 0), .ref (b6 0), .null, .null, .null, .null, .null, .null, .null, .int 0, .null, .int 0, .int 0]))] ++ wX7 g b1) ++ wX8 g b2) ++ wX1 g b3) ++ wX0 g (b2 0) (b3 0) b4) ++ wX2 g (b4 0) (b2 0) (b3 0) b5) ++ wX10 g (b4 0) (b2 0) (b3 0) b6) ++ wX9 g (b4 0) (b2 0) (b3 0) b7)) rfl ?_
  refine jc_put (pc := 98) (ws' := ((((((([(h0, .inr (11, [.ref (b1 0), .ref (b2 0), .ref (b3 0), .ref (b4 0), .ref (b5 0), .ref (b6 0), .ref (b7 0), .null, .null, .null, .null, .null, .null, .int 0, .null, .int 0, .int 0]))] ++ wX7 g b1) ++ wX8 g b2) ++ wX1 g b3) ++ wX0 g (b2 0) (b3 0) b4) ++ wX2 g (b4 0) (b2 0) (b3 0) b5) ++ wX10 g (b4 0) (b2 0) (b3 0) b6) ++ wX9 g (b4 0) (b2 0) (b3 0) b7)) 0 6 dX11_init_98 fkX11_58 ftX11 (fun q h => by cases h; exact Or.inr ⟨rfl, rfl⟩) rfl rfl rfl (Nat.le_of_ble_eq_true rfl) rfl ?_
  refine jc_aload_n (pc := 101) 0 dX11_init_101 rfl ?_
  refine jc_new (pc := 102) (ci := 5) (q := (RX5, TX5, 3)) tyX5 dvX5 dX11_init_102 rfl uX5 tyX5_ok clX11_62 insX5 iniX5 dvX5_ok (by decide) (by decide) (fun n8 => ?_)
  refine jc_dup (pc := 105) dX11_init_105 rfl ?_
  refine jc_call (pc := 106) (As := []) (st := [.ref n8, .ref h0]) iX5_init dX11_init_106 miX11_64 rfl rfl (by show (2 : Nat) ≤ 8; decide) (kX5 n8) (by decide) (by decide) (by decide) (fun w1 hw1 => ?_)
  obtain ⟨b8, e1, rfl⟩ := hw1
  subst e1
  refine jc_put (pc := 109) (ws' := (((((((([(h0, .inr (11, [.ref (b1 0), .ref (b2 0), .ref (b3 0), .ref (b4 0), .ref (b5 0), .ref (b6 0), .ref (b7 0), .ref (b8 0), .null, .null, .null, .null, .null, .int 0, .null, .int 0, .int 0]))] ++ wX7 g b1) ++ wX8 g b2) ++ wX1 g b3) ++ wX0 g (b2 0) (b3 0) b4) ++ wX2 g (b4 0) (b2 0) (b3 0) b5) ++ wX10 g (b4 0) (b2 0) (b3 0) b6) ++ wX9 g (b4 0) (b2 0) (b3 0) b7) ++ wX5 g b8)) 0 7 dX11_init_109 fkX11_65 ftX11 (fun q h => by cases h; exact Or.inr ⟨rfl, rfl⟩) rfl rfl rfl (Nat.le_of_ble_eq_true rfl) rfl ?_
  refine jc_aload_n (pc := 112) 0 dX11_init_112 rfl ?_
  refine jc_new (pc := 113) (ci := 3) (q := (RX3, TX3, 8)) tyX3 dvX3 dX11_init_113 rfl uX3 tyX3_ok clX11_69 insX3 iniX3 dvX3_ok (by decide) (by decide) (fun n9 => ?_)
  refine jc_dup (pc := 116) dX11_init_116 rfl ?_
  refine jc_call (pc := 117) (As := []) (st := [.ref n9, .ref h0]) iX3_init dX11_init_117 miX11_71 rfl rfl (by show (2 : Nat) ≤ 8; decide) (kX3 n9) (by decide) (by decide) (by decide) (fun w1 hw1 => ?_)
  obtain ⟨b9, e1, rfl⟩ := hw1
  subst e1
  refine jc_put (pc := 120) (ws' := ((((((((([(h0, .inr (11, [.ref (b1 0), .ref (b2 0), .ref (b3 0), .ref (b4 0), .ref (b5 0), .ref (b6 0), .ref (b7 0), .ref (b8 0), .ref (b9 0), .null, .null, .null, .null, .int 0, .null, .int 0, .int 0]))] ++ wX7 g b1) ++ wX8 g b2) ++ wX1 g b3) ++ wX0 g (b2 0) (b3 0) b4) ++ wX2 g (b4 0) (b2 0) (b3 0) b5) ++ wX10 g (b4 0) (b2 0) (b3 0) b6) ++ wX9 g (b4 0) (b2 0) (b3 0) b7) ++ wX5 g b8) ++ wX3 g b9)) 0 8 dX11_init_120 fkX11_72 ftX11 (fun q h => by cases h; exact Or.inr ⟨rfl, rfl⟩) rfl rfl rfl (Nat.le_of_ble_eq_true rfl) rfl ?_
  refine jc_aload_n (pc := 123) 0 dX11_init_123 rfl ?_
  refine jc_new (pc := 124) (ci := 6) (q := (RX6, TX6, 8)) tyX6 dvX6 dX11_init_124 rfl uX6 tyX6_ok clX11_76 insX6 iniX6 dvX6_ok (by decide) (by decide) (fun n10 => ?_)
  refine jc_dup (pc := 127) dX11_init_127 rfl ?_
  refine jc_call (pc := 128) (As := []) (st := [.ref n10, .ref h0]) iX6_init dX11_init_128 miX11_78 rfl rfl (by show (2 : Nat) ≤ 8; decide) (kX6 n10) (by decide) (by decide) (by decide) (fun w1 hw1 => ?_)
  obtain ⟨b10, e1, rfl⟩ := hw1
  subst e1
  refine jc_put (pc := 131) (ws' := (((((((((([(h0, .inr (11, [.ref (b1 0), .ref (b2 0), .ref (b3 0), .ref (b4 0), .ref (b5 0), .ref (b6 0), .ref (b7 0), .ref (b8 0), .ref (b9 0), .ref (b10 0), .null, .null, .null, .int 0, .null, .int 0, .int 0]))] ++ wX7 g b1) ++ wX8 g b2) ++ wX1 g b3) ++ wX0 g (b2 0) (b3 0) b4) ++ wX2 g (b4 0) (b2 0) (b3 0) b5) ++ wX10 g (b4 0) (b2 0) (b3 0) b6) ++ wX9 g (b4 0) (b2 0) (b3 0) b7) ++ wX5 g b8) ++ wX3 g b9) ++ wX6 g b10)) 0 9 dX11_init_131 fkX11_79 ftX11 (fun q h => by cases h; exact Or.inr ⟨rfl, rfl⟩) rfl rfl rfl (Nat.le_of_ble_eq_true rfl) rfl ?_
  refine jc_aload_n (pc := 134) 0 dX11_init_134 rfl ?_
  refine jc_new (pc := 135) (ci := 4) (q := (RX4, TX4, 2)) tyX4 dvX4 dX11_init_135 rfl uX4 tyX4_ok clX11_83 insX4 iniX4 dvX4_ok (by decide) (by decide) (fun n11 => ?_)
  refine jc_dup (pc := 138) dX11_init_138 rfl ?_
  refine jc_aload_n (pc := 139) 0 dX11_init_139 rfl ?_
  refine jc_get (pc := 140) (.ref (b1 0)) 0 0 dX11_init_140 fkX11_12 rfl rfl ?_
  refine jc_aload_n (pc := 143) 0 dX11_init_143 rfl ?_
  refine jc_get (pc := 144) (.ref (b9 0)) 0 8 dX11_init_144 fkX11_72 rfl rfl ?_
  refine jc_call (pc := 147) (As := [.ref (b1 0), .ref (b9 0)]) (st := [.ref n11, .ref h0]) iX4_init dX11_init_147 miX11_85 rfl rfl (by show (2 : Nat) ≤ 8; decide) (kX4 n11 (b1 0) (b9 0)) (by decide) (by decide) (by decide) (fun w1 hw1 => ?_)
  obtain ⟨b11, e1, rfl⟩ := hw1
  subst e1
  refine jc_put (pc := 150) (ws' := ((((((((((([(h0, .inr (11, [.ref (b1 0), .ref (b2 0), .ref (b3 0), .ref (b4 0), .ref (b5 0), .ref (b6 0), .ref (b7 0), .ref (b8 0), .ref (b9 0), .ref (b10 0), .ref (b11 0), .null, .null, .int 0, .null, .int 0, .int 0]))] ++ wX7 g b1) ++ wX8 g b2) ++ wX1 g b3) ++ wX0 g (b2 0) (b3 0) b4) ++ wX2 g (b4 0) (b2 0) (b3 0) b5) ++ wX10 g (b4 0) (b2 0) (b3 0) b6) ++ wX9 g (b4 0) (b2 0) (b3 0) b7) ++ wX5 g b8) ++ wX3 g b9) ++ wX6 g b10) ++ wX4 g (b1 0) (b9 0) b11)) 0 10 dX11_init_150 fkX11_88 ftX11 (fun q h => by cases h; exact Or.inr ⟨rfl, rfl⟩) rfl rfl rfl (Nat.le_of_ble_eq_true rfl) rfl ?_
  refine jc_aload_n (pc := 153) 0 dX11_init_153 rfl ?_
  refine jc_new (pc := 154) (ci := 8) (q := (RX8, TX8, 13)) tyX8 dvX8 dX11_init_154 rfl uX8 tyX8_ok clX11_16 insX8 iniX8 dvX8_ok (by decide) (by decide) (fun n12 => ?_)
  refine jc_dup (pc := 157) dX11_init_157 rfl ?_
  refine jc_call (pc := 158) (As := []) (st := [.ref n12, .ref h0]) iX8_init dX11_init_158 miX11_18 rfl rfl (by show (2 : Nat) ≤ 8; decide) (kX8 n12) (by decide) (by decide) (by decide) (fun w1 hw1 => ?_)
  obtain ⟨b12, e1, rfl⟩ := hw1
  subst e1
  refine jc_put (pc := 161) (ws' := (((((((((((([(h0, .inr (11, [.ref (b1 0), .ref (b2 0), .ref (b3 0), .ref (b4 0), .ref (b5 0), .ref (b6 0), .ref (b7 0), .ref (b8 0), .ref (b9 0), .ref (b10 0), .ref (b11 0), .ref (b12 0), .null, .int 0, .null, .int 0, .int 0]))] ++ wX7 g b1) ++ wX8 g b2) ++ wX1 g b3) ++ wX0 g (b2 0) (b3 0) b4) ++ wX2 g (b4 0) (b2 0) (b3 0) b5) ++ wX10 g (b4 0) (b2 0) (b3 0) b6) ++ wX9 g (b4 0) (b2 0) (b3 0) b7) ++ wX5 g b8) ++ wX3 g b9) ++ wX6 g b10) ++ wX4 g (b1 0) (b9 0) b11) ++ wX8 g b12)) 0 11 dX11_init_161 fkX11_92 ftX11 (fun q h => by cases h; exact Or.inr ⟨rfl, rfl⟩) rfl rfl rfl (Nat.le_of_ble_eq_true rfl) rfl ?_
  refine jc_aload_n (pc := 164) 0 dX11_init_164 rfl ?_
  refine jc_new (pc := 165) (ci := 1) (q := (RX1, TX1, 10)) tyX1 dvX1 dX11_init_165 rfl uX1 tyX1_ok clX11_23 insX1 iniX1 dvX1_ok (by decide) (by decide) (fun n13 => ?_)
  refine jc_dup (pc := 168) dX11_init_168 rfl ?_
  refine jc_call (pc := 169) (As := []) (st := [.ref n13, .ref h0]) iX1_init dX11_init_169 miX11_25 rfl rfl (by show (2 : Nat) ≤ 8; decide) (kX1 n13) (by decide) (by decide) (by decide) (fun w1 hw1 => ?_)
  obtain ⟨b13, e1, rfl⟩ := hw1
  subst e1
  refine jc_put (pc := 172) (ws' := ((((((((((((([(h0, .inr (11, [.ref (b1 0), .ref (b2 0), .ref (b3 0), .ref (b4 0), .ref (b5 0), .ref (b6 0), .ref (b7 0), .ref (b8 0), .ref (b9 0), .ref (b10 0), .ref (b11 0), .ref (b12 0), .ref (b13 0), .int 0, .null, .int 0, .int 0]))] ++ wX7 g b1) ++ wX8 g b2) ++ wX1 g b3) ++ wX0 g (b2 0) (b3 0) b4) ++ wX2 g (b4 0) (b2 0) (b3 0) b5) ++ wX10 g (b4 0) (b2 0) (b3 0) b6) ++ wX9 g (b4 0) (b2 0) (b3 0) b7) ++ wX5 g b8) ++ wX3 g b9) ++ wX6 g b10) ++ wX4 g (b1 0) (b9 0) b11) ++ wX8 g b12) ++ wX1 g b13)) 0 12 dX11_init_172 fkX11_95 ftX11 (fun q h => by cases h; exact Or.inr ⟨rfl, rfl⟩) rfl rfl rfl (Nat.le_of_ble_eq_true rfl) rfl ?_
  refine jc_aload_n (pc := 175) 0 dX11_init_175 rfl ?_
  refine jc_iconst (pc := 176) 0 dX11_init_176 (by decide) ?_
  refine jc_put (pc := 177) (ws' := ((((((((((((([(h0, .inr (11, [.ref (b1 0), .ref (b2 0), .ref (b3 0), .ref (b4 0), .ref (b5 0), .ref (b6 0), .ref (b7 0), .ref (b8 0), .ref (b9 0), .ref (b10 0), .ref (b11 0), .ref (b12 0), .ref (b13 0), .int 0, .null, .int 0, .int 0]))] ++ wX7 g b1) ++ wX8 g b2) ++ wX1 g b3) ++ wX0 g (b2 0) (b3 0) b4) ++ wX2 g (b4 0) (b2 0) (b3 0) b5) ++ wX10 g (b4 0) (b2 0) (b3 0) b6) ++ wX9 g (b4 0) (b2 0) (b3 0) b7) ++ wX5 g b8) ++ wX3 g b9) ++ wX6 g b10) ++ wX4 g (b1 0) (b9 0) b11) ++ wX8 g b12) ++ wX1 g b13)) 0 13 dX11_init_177 fkX11_98 ftX11 (fun q h => by cases h; exact Or.inl rfl) rfl rfl rfl (Nat.le_of_ble_eq_true rfl) rfl ?_
  refine jc_aload_n (pc := 180) 0 dX11_init_180 rfl ?_
  refine jc_bipush (pc := 181) 6 dX11_init_181 (by decide) ?_
  refine jc_newc (pc := 183) 6 dX11_init_183 clX11_23 (by decide) (by decide) (by decide) (by decide) (by decide) (fun ka => ?_)
  refine jc_put (pc := 186) (ws' := (((((((((((((([(h0, .inr (11, [.ref (b1 0), .ref (b2 0), .ref (b3 0), .ref (b4 0), .ref (b5 0), .ref (b6 0), .ref (b7 0), .ref (b8 0), .ref (b9 0), .ref (b10 0), .ref (b11 0), .ref (b12 0), .ref (b13 0), .int 0, .ref ka, .int 0, .int 0]))] ++ wX7 g b1) ++ wX8 g b2) ++ wX1 g b3) ++ wX0 g (b2 0) (b3 0) b4) ++ wX2 g (b4 0) (b2 0) (b3 0) b5) ++ wX10 g (b4 0) (b2 0) (b3 0) b6) ++ wX9 g (b4 0) (b2 0) (b3 0) b7) ++ wX5 g b8) ++ wX3 g b9) ++ wX6 g b10) ++ wX4 g (b1 0) (b9 0) b11) ++ wX8 g b12) ++ wX1 g b13) ++ [(ka, .inl (g.2.2.2, 6, .inr (.inr (.inr (.inr (fun _ => none))))))])) 0 14 dX11_init_186 fkX11_102 ftX11 (fun q h => by cases h; exact Or.inr ⟨rfl, rfl⟩) rfl rfl rfl (Nat.le_of_ble_eq_true rfl) rfl ?_
  refine jc_aload_n (pc := 189) 0 dX11_init_189 rfl ?_
  refine jc_iconst (pc := 190) 0 dX11_init_190 (by decide) ?_
  refine jc_put (pc := 191) (ws' := (((((((((((((([(h0, .inr (11, [.ref (b1 0), .ref (b2 0), .ref (b3 0), .ref (b4 0), .ref (b5 0), .ref (b6 0), .ref (b7 0), .ref (b8 0), .ref (b9 0), .ref (b10 0), .ref (b11 0), .ref (b12 0), .ref (b13 0), .int 0, .ref ka, .int 0, .int 0]))] ++ wX7 g b1) ++ wX8 g b2) ++ wX1 g b3) ++ wX0 g (b2 0) (b3 0) b4) ++ wX2 g (b4 0) (b2 0) (b3 0) b5) ++ wX10 g (b4 0) (b2 0) (b3 0) b6) ++ wX9 g (b4 0) (b2 0) (b3 0) b7) ++ wX5 g b8) ++ wX3 g b9) ++ wX6 g b10) ++ wX4 g (b1 0) (b9 0) b11) ++ wX8 g b12) ++ wX1 g b13) ++ [(ka, .inl (g.2.2.2, 6, .inr (.inr (.inr (.inr (fun _ => none))))))])) 0 15 dX11_init_191 fkX11_106 ftX11 (fun q h => by cases h; exact Or.inl rfl) rfl rfl rfl (Nat.le_of_ble_eq_true rfl) rfl ?_
  refine jc_aload_n (pc := 194) 0 dX11_init_194 rfl ?_
  refine jc_iconst (pc := 195) 0 dX11_init_195 (by decide) ?_
  refine jc_put (pc := 196) (ws' := (((((((((((((([(h0, .inr (11, [.ref (b1 0), .ref (b2 0), .ref (b3 0), .ref (b4 0), .ref (b5 0), .ref (b6 0), .ref (b7 0), .ref (b8 0), .ref (b9 0), .ref (b10 0), .ref (b11 0), .ref (b12 0), .ref (b13 0), .int 0, .ref ka, .int 0, .int 0]))] ++ wX7 g b1) ++ wX8 g b2) ++ wX1 g b3) ++ wX0 g (b2 0) (b3 0) b4) ++ wX2 g (b4 0) (b2 0) (b3 0) b5) ++ wX10 g (b4 0) (b2 0) (b3 0) b6) ++ wX9 g (b4 0) (b2 0) (b3 0) b7) ++ wX5 g b8) ++ wX3 g b9) ++ wX6 g b10) ++ wX4 g (b1 0) (b9 0) b11) ++ wX8 g b12) ++ wX1 g b13) ++ [(ka, .inl (g.2.2.2, 6, .inr (.inr (.inr (.inr (fun _ => none))))))])) 0 16 dX11_init_196 fkX11_110 ftX11 (fun q h => by cases h; exact Or.inl rfl) rfl rfl rfl (Nat.le_of_ble_eq_true rfl) rfl ?_
  refine jc_iconst (pc := 199) 0 dX11_init_199 (by decide) ?_
  refine jc_istore_n (lv' := [(1, .int 0), (0, .ref h0)]) (pc := 200) dX11_init_200 (by decide) rfl ?_
  refine jc_to (ws' := ((((h0, .inr (11, [.ref (b1 0), .ref (b2 0), .ref (b3 0), .ref (b4 0), .ref (b5 0), .ref (b6 0), .ref (b7 0), .ref (b8 0), .ref (b9 0), .ref (b10 0), .ref (b11 0), .ref (b12 0), .ref (b13 0), .int 0, .ref ka, .int 0, .int 0])) :: (((((((((((((([] : va_W) ++ wX7 g b1) ++ wX8 g b2) ++ wX1 g b3) ++ wX0 g (b2 0) (b3 0) b4) ++ wX2 g (b4 0) (b2 0) (b3 0) b5) ++ wX10 g (b4 0) (b2 0) (b3 0) b6) ++ wX9 g (b4 0) (b2 0) (b3 0) b7) ++ wX5 g b8) ++ wX3 g b9) ++ wX6 g b10) ++ wX4 g (b1 0) (b9 0) b11) ++ wX8 g b12) ++ wX1 g b13)) ++ [(ka, .inl (g.2.2.2, 6, .inr (.inr (.inr (.inr (fun _ => none))))))]) ++ [])) (List.append_nil _).symm ?_
  refine kX11_it 0 (by decide) (by decide) (by decide) rfl (by decide) (by decide) (fun c0 => ?_)
  rw [show (0 : Int32) + 1 = 1 by decide]
  refine kX11_it 1 (by decide) (by decide) (by decide) rfl (by decide) (by decide) (fun c1 => ?_)
  rw [show (1 : Int32) + 1 = 2 by decide]
  refine kX11_it 2 (by decide) (by decide) (by decide) rfl (by decide) (by decide) (fun c2 => ?_)
  rw [show (2 : Int32) + 1 = 3 by decide]
  refine kX11_it 3 (by decide) (by decide) (by decide) rfl (by decide) (by decide) (fun c3 => ?_)
  rw [show (3 : Int32) + 1 = 4 by decide]
  refine kX11_it 4 (by decide) (by decide) (by decide) rfl (by decide) (by decide) (fun c4 => ?_)
  rw [show (4 : Int32) + 1 = 5 by decide]
  refine kX11_it 5 (by decide) (by decide) (by decide) rfl (by decide) (by decide) (fun c5 => ?_)
  rw [show (5 : Int32) + 1 = 6 by decide]
  refine jc_iload_n (pc := 201) 0 dX11_init_201 rfl ?_
  refine jc_bipush (pc := 202) 6 dX11_init_202 (by decide) ?_
  refine jc_icmp_ge (pc := 204) 226 dX11_init_204 rfl (fun _ => ?_) (fun q => absurd (by decide) q)
  exact jc_ret (pc := 226) dX11_init_226 (by decide) (by decide) ⟨b1, b2, b3, b4, b5, b6, b7, b8, b9, b10, b11, b12, b13, ka, c0, c1, c2, c3, c4, c5, rfl⟩
end JKE
