theorem dX12_chord_0 : decode cX12_chord 0 = .ok (.aload_n 0, 1) := by decide +kernel
theorem dX12_chord_1 : decode cX12_chord 1 = .ok (.iconst 0, 1) := by decide +kernel
theorem dX12_chord_2 : decode cX12_chord 2 = .ok (.putfield 104, 3) := by decide +kernel
theorem dX12_chord_5 : decode cX12_chord 5 = .ok (.aload_n 0, 1) := by decide +kernel
theorem dX12_chord_6 : decode cX12_chord 6 = .ok (.iload_n 1, 1) := by decide +kernel
theorem dX12_chord_7 : decode cX12_chord 7 = .ok (.iload_n 2, 1) := by decide +kernel
theorem dX12_chord_8 : decode cX12_chord 8 = .ok (.iload_n 3, 1) := by decide +kernel
theorem dX12_chord_9 : decode cX12_chord 9 = .ok (.iload 4, 2) := by decide +kernel
theorem dX12_chord_11 : decode cX12_chord 11 = .ok (.invokevirtual 489, 3) := by decide +kernel
theorem dX12_chord_14 : decode cX12_chord 14 = .ok (.ifCond .eq 35, 3) := by decide +kernel
theorem dX12_chord_17 : decode cX12_chord 17 = .ok (.aload_n 0, 1) := by decide +kernel
theorem dX12_chord_18 : decode cX12_chord 18 = .ok (.iload 5, 2) := by decide +kernel
theorem dX12_chord_20 : decode cX12_chord 20 = .ok (.aload_n 0, 1) := by decide +kernel
theorem dX12_chord_21 : decode cX12_chord 21 = .ok (.getfield 16, 3) := by decide +kernel
theorem dX12_chord_24 : decode cX12_chord 24 = .ok (.iload_n 1, 1) := by decide +kernel
theorem dX12_chord_25 : decode cX12_chord 25 = .ok (.iaload, 1) := by decide +kernel
theorem dX12_chord_26 : decode cX12_chord 26 = .ok (.aload_n 0, 1) := by decide +kernel
theorem dX12_chord_27 : decode cX12_chord 27 = .ok (.getfield 19, 3) := by decide +kernel
theorem dX12_chord_30 : decode cX12_chord 30 = .ok (.iload_n 1, 1) := by decide +kernel
theorem dX12_chord_31 : decode cX12_chord 31 = .ok (.iaload, 1) := by decide +kernel
theorem dX12_chord_32 : decode cX12_chord 32 = .ok (.invokevirtual 128, 3) := by decide +kernel
theorem dX12_chord_35 : decode cX12_chord 35 = .ok (.ifCond .eq 14, 3) := by decide +kernel
theorem dX12_chord_38 : decode cX12_chord 38 = .ok (.aload_n 0, 1) := by decide +kernel
theorem dX12_chord_39 : decode cX12_chord 39 = .ok (.iload 6, 2) := by decide +kernel
theorem dX12_chord_41 : decode cX12_chord 41 = .ok (.iconst 0, 1) := by decide +kernel
theorem dX12_chord_42 : decode cX12_chord 42 = .ok (.iconst 3, 1) := by decide +kernel
theorem dX12_chord_43 : decode cX12_chord 43 = .ok (.invokevirtual 128, 3) := by decide +kernel
theorem dX12_chord_46 : decode cX12_chord 46 = .ok (.ifCond .ne 5, 3) := by decide +kernel
theorem dX12_chord_49 : decode cX12_chord 49 = .ok (.iconst (-1), 1) := by decide +kernel
theorem dX12_chord_50 : decode cX12_chord 50 = .ok (.ireturn, 1) := by decide +kernel
theorem dX12_chord_51 : decode cX12_chord 51 = .ok (.iconst 0, 1) := by decide +kernel
theorem dX12_chord_52 : decode cX12_chord 52 = .ok (.istore 7, 2) := by decide +kernel
theorem dX12_chord_54 : decode cX12_chord 54 = .ok (.iconst (-1), 1) := by decide +kernel
theorem dX12_chord_55 : decode cX12_chord 55 = .ok (.istore 8, 2) := by decide +kernel
theorem dX12_chord_57 : decode cX12_chord 57 = .ok (.aload_n 0, 1) := by decide +kernel
theorem dX12_chord_58 : decode cX12_chord 58 = .ok (.getfield 16, 3) := by decide +kernel
theorem dX12_chord_61 : decode cX12_chord 61 = .ok (.iload_n 2, 1) := by decide +kernel
theorem dX12_chord_62 : decode cX12_chord 62 = .ok (.iaload, 1) := by decide +kernel
theorem dX12_chord_63 : decode cX12_chord 63 = .ok (.istore 9, 2) := by decide +kernel
theorem dX12_chord_65 : decode cX12_chord 65 = .ok (.iload 9, 2) := by decide +kernel
theorem dX12_chord_67 : decode cX12_chord 67 = .ok (.aload_n 0, 1) := by decide +kernel
theorem dX12_chord_68 : decode cX12_chord 68 = .ok (.getfield 19, 3) := by decide +kernel
theorem dX12_chord_71 : decode cX12_chord 71 = .ok (.iload_n 2, 1) := by decide +kernel
theorem dX12_chord_72 : decode cX12_chord 72 = .ok (.iaload, 1) := by decide +kernel
theorem dX12_chord_73 : decode cX12_chord 73 = .ok (.if_icmp .gt 164, 3) := by decide +kernel
theorem dX12_chord_76 : decode cX12_chord 76 = .ok (.aload_n 0, 1) := by decide +kernel
theorem dX12_chord_77 : decode cX12_chord 77 = .ok (.iload 5, 2) := by decide +kernel
theorem dX12_chord_79 : decode cX12_chord 79 = .ok (.iload 9, 2) := by decide +kernel
theorem dX12_chord_81 : decode cX12_chord 81 = .ok (.invokevirtual 440, 3) := by decide +kernel
theorem dX12_chord_84 : decode cX12_chord 84 = .ok (.ifCond .ne 6, 3) := by decide +kernel
theorem dX12_chord_87 : decode cX12_chord 87 = .ok (.goto 144, 3) := by decide +kernel
theorem dX12_chord_90 : decode cX12_chord 90 = .ok (.aload_n 0, 1) := by decide +kernel
theorem dX12_chord_91 : decode cX12_chord 91 = .ok (.getfield 16, 3) := by decide +kernel
theorem dX12_chord_94 : decode cX12_chord 94 = .ok (.iload_n 3, 1) := by decide +kernel
theorem dX12_chord_95 : decode cX12_chord 95 = .ok (.iaload, 1) := by decide +kernel
theorem dX12_chord_96 : decode cX12_chord 96 = .ok (.istore 10, 2) := by decide +kernel
theorem dX12_chord_98 : decode cX12_chord 98 = .ok (.iload 10, 2) := by decide +kernel
theorem dX12_chord_100 : decode cX12_chord 100 = .ok (.aload_n 0, 1) := by decide +kernel
theorem dX12_chord_101 : decode cX12_chord 101 = .ok (.getfield 19, 3) := by decide +kernel
theorem dX12_chord_104 : decode cX12_chord 104 = .ok (.iload_n 3, 1) := by decide +kernel
theorem dX12_chord_105 : decode cX12_chord 105 = .ok (.iaload, 1) := by decide +kernel
theorem dX12_chord_106 : decode cX12_chord 106 = .ok (.if_icmp .gt 125, 3) := by decide +kernel
theorem dX12_chord_109 : decode cX12_chord 109 = .ok (.aload_n 0, 1) := by decide +kernel
theorem dX12_chord_110 : decode cX12_chord 110 = .ok (.iload 5, 2) := by decide +kernel
theorem dX12_chord_112 : decode cX12_chord 112 = .ok (.iload 10, 2) := by decide +kernel
theorem dX12_chord_114 : decode cX12_chord 114 = .ok (.invokevirtual 440, 3) := by decide +kernel
theorem dX12_chord_117 : decode cX12_chord 117 = .ok (.ifCond .eq 108, 3) := by decide +kernel
theorem dX12_chord_120 : decode cX12_chord 120 = .ok (.aload_n 0, 1) := by decide +kernel
theorem dX12_chord_121 : decode cX12_chord 121 = .ok (.iload 9, 2) := by decide +kernel
theorem dX12_chord_123 : decode cX12_chord 123 = .ok (.iload 10, 2) := by decide +kernel
theorem dX12_chord_125 : decode cX12_chord 125 = .ok (.invokevirtual 440, 3) := by decide +kernel
theorem dX12_chord_128 : decode cX12_chord 128 = .ok (.ifCond .ne 6, 3) := by decide +kernel
theorem dX12_chord_131 : decode cX12_chord 131 = .ok (.goto 94, 3) := by decide +kernel
theorem dX12_chord_134 : decode cX12_chord 134 = .ok (.aload_n 0, 1) := by decide +kernel
theorem dX12_chord_135 : decode cX12_chord 135 = .ok (.getfield 16, 3) := by decide +kernel
theorem dX12_chord_138 : decode cX12_chord 138 = .ok (.iload 4, 2) := by decide +kernel
theorem dX12_chord_140 : decode cX12_chord 140 = .ok (.iaload, 1) := by decide +kernel
theorem dX12_chord_141 : decode cX12_chord 141 = .ok (.istore 11, 2) := by decide +kernel
theorem dX12_chord_143 : decode cX12_chord 143 = .ok (.iload 11, 2) := by decide +kernel
theorem dX12_chord_145 : decode cX12_chord 145 = .ok (.aload_n 0, 1) := by decide +kernel
theorem dX12_chord_146 : decode cX12_chord 146 = .ok (.getfield 19, 3) := by decide +kernel
theorem dX12_chord_149 : decode cX12_chord 149 = .ok (.iload 4, 2) := by decide +kernel
theorem dX12_chord_151 : decode cX12_chord 151 = .ok (.iaload, 1) := by decide +kernel
theorem dX12_chord_152 : decode cX12_chord 152 = .ok (.if_icmp .gt 73, 3) := by decide +kernel
theorem dX12_chord_155 : decode cX12_chord 155 = .ok (.aload_n 0, 1) := by decide +kernel
theorem dX12_chord_156 : decode cX12_chord 156 = .ok (.iload 5, 2) := by decide +kernel
theorem dX12_chord_158 : decode cX12_chord 158 = .ok (.iload 11, 2) := by decide +kernel
theorem dX12_chord_160 : decode cX12_chord 160 = .ok (.invokevirtual 440, 3) := by decide +kernel
theorem dX12_chord_163 : decode cX12_chord 163 = .ok (.ifCond .eq 56, 3) := by decide +kernel
theorem dX12_chord_166 : decode cX12_chord 166 = .ok (.aload_n 0, 1) := by decide +kernel
theorem dX12_chord_167 : decode cX12_chord 167 = .ok (.iload 9, 2) := by decide +kernel
theorem dX12_chord_169 : decode cX12_chord 169 = .ok (.iload 11, 2) := by decide +kernel
theorem dX12_chord_171 : decode cX12_chord 171 = .ok (.invokevirtual 440, 3) := by decide +kernel
theorem dX12_chord_174 : decode cX12_chord 174 = .ok (.ifCond .eq 45, 3) := by decide +kernel
theorem dX12_chord_177 : decode cX12_chord 177 = .ok (.aload_n 0, 1) := by decide +kernel
theorem dX12_chord_178 : decode cX12_chord 178 = .ok (.iload 10, 2) := by decide +kernel
theorem dX12_chord_180 : decode cX12_chord 180 = .ok (.iload 11, 2) := by decide +kernel
theorem dX12_chord_182 : decode cX12_chord 182 = .ok (.invokevirtual 440, 3) := by decide +kernel
theorem dX12_chord_185 : decode cX12_chord 185 = .ok (.ifCond .ne 6, 3) := by decide +kernel
theorem dX12_chord_188 : decode cX12_chord 188 = .ok (.goto 31, 3) := by decide +kernel
theorem dX12_chord_191 : decode cX12_chord 191 = .ok (.iload 7, 2) := by decide +kernel
theorem dX12_chord_193 : decode cX12_chord 193 = .ok (.ifCond .ne 20, 3) := by decide +kernel
theorem dX12_chord_196 : decode cX12_chord 196 = .ok (.sipush 10000, 3) := by decide +kernel
theorem dX12_chord_199 : decode cX12_chord 199 = .ok (.iload 9, 2) := by decide +kernel
theorem dX12_chord_201 : decode cX12_chord 201 = .ok (.imul, 1) := by decide +kernel
theorem dX12_chord_202 : decode cX12_chord 202 = .ok (.bipush 100, 2) := by decide +kernel
theorem dX12_chord_204 : decode cX12_chord 204 = .ok (.iload 10, 2) := by decide +kernel
theorem dX12_chord_206 : decode cX12_chord 206 = .ok (.imul, 1) := by decide +kernel
theorem dX12_chord_207 : decode cX12_chord 207 = .ok (.iadd, 1) := by decide +kernel
theorem dX12_chord_208 : decode cX12_chord 208 = .ok (.iload 11, 2) := by decide +kernel
theorem dX12_chord_210 : decode cX12_chord 210 = .ok (.iadd, 1) := by decide +kernel
theorem dX12_chord_211 : decode cX12_chord 211 = .ok (.istore 8, 2) := by decide +kernel
theorem dX12_chord_213 : decode cX12_chord 213 = .ok (.iload 7, 2) := by decide +kernel
theorem dX12_chord_215 : decode cX12_chord 215 = .ok (.iconst 1, 1) := by decide +kernel
theorem dX12_chord_216 : decode cX12_chord 216 = .ok (.iadd, 1) := by decide +kernel
theorem dX12_chord_217 : decode cX12_chord 217 = .ok (.istore 7, 2) := by decide +kernel
theorem dX12_chord_219 : decode cX12_chord 219 = .ok (.iinc 11 1, 3) := by decide +kernel
theorem dX12_chord_222 : decode cX12_chord 222 = .ok (.goto (-79), 3) := by decide +kernel
theorem dX12_chord_225 : decode cX12_chord 225 = .ok (.iinc 10 1, 3) := by decide +kernel
theorem dX12_chord_228 : decode cX12_chord 228 = .ok (.goto (-130), 3) := by decide +kernel
theorem dX12_chord_231 : decode cX12_chord 231 = .ok (.iinc 9 1, 3) := by decide +kernel
theorem dX12_chord_234 : decode cX12_chord 234 = .ok (.goto (-169), 3) := by decide +kernel
theorem dX12_chord_237 : decode cX12_chord 237 = .ok (.iload 6, 2) := by decide +kernel
theorem dX12_chord_239 : decode cX12_chord 239 = .ok (.ifCond .ne 6, 3) := by decide +kernel
theorem dX12_chord_242 : decode cX12_chord 242 = .ok (.iload 7, 2) := by decide +kernel
theorem dX12_chord_244 : decode cX12_chord 244 = .ok (.ireturn, 1) := by decide +kernel
theorem dX12_chord_245 : decode cX12_chord 245 = .ok (.iload 8, 2) := by decide +kernel
theorem dX12_chord_247 : decode cX12_chord 247 = .ok (.iconst (-1), 1) := by decide +kernel
theorem dX12_chord_248 : decode cX12_chord 248 = .ok (.if_icmp .ne 7, 3) := by decide +kernel
theorem dX12_chord_251 : decode cX12_chord 251 = .ok (.iconst (-1), 1) := by decide +kernel
theorem dX12_chord_252 : decode cX12_chord 252 = .ok (.goto 40, 3) := by decide +kernel
theorem dX12_chord_255 : decode cX12_chord 255 = .ok (.iload 6, 2) := by decide +kernel
theorem dX12_chord_257 : decode cX12_chord 257 = .ok (.iconst 1, 1) := by decide +kernel
theorem dX12_chord_258 : decode cX12_chord 258 = .ok (.if_icmp .ne 12, 3) := by decide +kernel
theorem dX12_chord_261 : decode cX12_chord 261 = .ok (.iload 8, 2) := by decide +kernel
theorem dX12_chord_263 : decode cX12_chord 263 = .ok (.sipush 10000, 3) := by decide +kernel
theorem dX12_chord_266 : decode cX12_chord 266 = .ok (.idiv, 1) := by decide +kernel
theorem dX12_chord_267 : decode cX12_chord 267 = .ok (.goto 25, 3) := by decide +kernel
theorem dX12_chord_270 : decode cX12_chord 270 = .ok (.iload 6, 2) := by decide +kernel
theorem dX12_chord_272 : decode cX12_chord 272 = .ok (.iconst 2, 1) := by decide +kernel
theorem dX12_chord_273 : decode cX12_chord 273 = .ok (.if_icmp .ne 14, 3) := by decide +kernel
theorem dX12_chord_276 : decode cX12_chord 276 = .ok (.iload 8, 2) := by decide +kernel
theorem dX12_chord_278 : decode cX12_chord 278 = .ok (.bipush 100, 2) := by decide +kernel
theorem dX12_chord_280 : decode cX12_chord 280 = .ok (.idiv, 1) := by decide +kernel
theorem dX12_chord_281 : decode cX12_chord 281 = .ok (.bipush 100, 2) := by decide +kernel
theorem dX12_chord_283 : decode cX12_chord 283 = .ok (.irem, 1) := by decide +kernel
theorem dX12_chord_284 : decode cX12_chord 284 = .ok (.goto 8, 3) := by decide +kernel
theorem dX12_chord_287 : decode cX12_chord 287 = .ok (.iload 8, 2) := by decide +kernel
theorem dX12_chord_289 : decode cX12_chord 289 = .ok (.bipush 100, 2) := by decide +kernel
theorem dX12_chord_291 : decode cX12_chord 291 = .ok (.irem, 1) := by decide +kernel
theorem dX12_chord_292 : decode cX12_chord 292 = .ok (.ireturn, 1) := by decide +kernel
theorem bX12_chord_143 {l : Launch} {g : jm_G} {d : Nat} {v2 v3 v4 v5 v6 v7 v8 v9 v10 v11 : Int} (hg : jm_HR g) {mu : jm_M} {Q : Option Value → jm_M → Prop} (h : (0 ≤ v4 ∧ v4 < 8) ∧ jm_rg v11 ∧ ((mu.1 4 v4) < v11 → jm_V l g (d + 3) iX12_chord 98 [(0, .ref 0), (2, jm_i v2), (3, jm_i v3), (4, jm_i v4), (5, jm_i v5), (6, jm_i v6), (7, jm_i v7), (8, jm_i v8), (9, jm_i v9), (10, jm_i (v10 + 1))] [] mu Q) ∧ (v11 ≤ (mu.1 4 v4) → jm_R l g (d + 2) iX12_doSound [.ref 0, jm_i v5, jm_i v11] mu (jm_qi fun z4 m3 => (z4 = 0 → jm_V l g (d + 3) iX12_chord 143 [(0, .ref 0), (2, jm_i v2), (3, jm_i v3), (4, jm_i v4), (5, jm_i v5), (6, jm_i v6), (7, jm_i v7), (8, jm_i v8), (9, jm_i v9), (10, jm_i v10), (11, jm_i (v11 + 1))] [] m3 Q) ∧ (¬ z4 = 0 → jm_R l g (d + 2) iX12_doSound [.ref 0, jm_i v9, jm_i v11] m3 (jm_qi fun z8 m7 => (z8 = 0 → jm_V l g (d + 3) iX12_chord 143 [(0, .ref 0), (2, jm_i v2), (3, jm_i v3), (4, jm_i v4), (5, jm_i v5), (6, jm_i v6), (7, jm_i v7), (8, jm_i v8), (9, jm_i v9), (10, jm_i v10), (11, jm_i (v11 + 1))] [] m7 Q) ∧ (¬ z8 = 0 → jm_R l g (d + 2) iX12_doSound [.ref 0, jm_i v10, jm_i v11] m7 (jm_qi fun z12 m11 => (¬ z12 = 0 → jm_rg v7 ∧ (¬ v7 = 0 → ∀ x16, x16 = (v7 + 1) → jm_V l g (d + 3) iX12_chord 143 [(0, .ref 0), (2, jm_i v2), (3, jm_i v3), (4, jm_i v4), (5, jm_i v5), (6, jm_i v6), (7, jm_i x16), (8, jm_i v8), (9, jm_i v9), (10, jm_i v10), (11, jm_i (v11 + 1))] [] m11 Q) ∧ (v7 = 0 → ∀ x17, x17 = (((10000 * v9) + (100 * v10)) + v11) → ∀ x18, x18 = (v7 + 1) → jm_V l g (d + 3) iX12_chord 143 [(0, .ref 0), (2, jm_i v2), (3, jm_i v3), (4, jm_i v4), (5, jm_i v5), (6, jm_i v6), (7, jm_i x18), (8, jm_i x17), (9, jm_i v9), (10, jm_i v10), (11, jm_i (v11 + 1))] [] m11 Q)) ∧ (z12 = 0 → jm_V l g (d + 3) iX12_chord 143 [(0, .ref 0), (2, jm_i v2), (3, jm_i v3), (4, jm_i v4), (5, jm_i v5), (6, jm_i v6), (7, jm_i v7), (8, jm_i v8), (9, jm_i v9), (10, jm_i v10), (11, jm_i (v11 + 1))] [] m11 Q)))))))) : jm_V l g (d + 3) iX12_chord 143 [(0, .ref 0), (2, jm_i v2), (3, jm_i v3), (4, jm_i v4), (5, jm_i v5), (6, jm_i v6), (7, jm_i v7), (8, jm_i v8), (9, jm_i v9), (10, jm_i v10), (11, jm_i v11)] [] mu Q := by
  refine jm_mrI (fun hm0 => ?_)
  refine jm_iload (pc := 143) 10 dX12_chord_143 rfl ?_
  refine jm_aload_n (pc := 145) 0 dX12_chord_145 rfl ?_
  refine jm_getr (pc := 146) 6 dX12_chord_146 fX12_19 (cR0 hg) rfl ?_
  refine jm_iload (pc := 149) 3 dX12_chord_149 rfl ?_
  have hg1 := h.1
  have h := h.2
  refine jm_iald (pc := 151) dX12_chord_151 (cR4 hg) (by decide) hg1.1 hg1.2 ?_
  have hg2 := h.1
  have h := h.2
  refine jm_icmp_gt (pc := 152) 225 dX12_chord_152 rfl hg2 (hm0 _ _) (fun q => ?_) (fun q => ?_)
  · have h := h.1 q
    refine jm_iinc (pc := 225) (lv' := [(10, _), (0, _), (2, _), (3, _), (4, _), (5, _), (6, _), (7, _), (8, _), (9, _), (11, _)]) 9 dX12_chord_225 rfl (by decide) rfl ?_
    refine jm_goto (pc := 228) 98 dX12_chord_228 rfl ?_
    exact jm_sub [1, 2, 3, 4, 5, 6, 7, 8, 9, 0] rfl h
  · have h := h.2 q
    refine jm_aload_n (pc := 155) 0 dX12_chord_155 rfl ?_
    refine jm_iload (pc := 156) 4 dX12_chord_156 rfl ?_
    refine jm_iload (pc := 158) 10 dX12_chord_158 rfl ?_
    refine jm_callvi (pc := 160) (As := [_, _]) (st := []) iX12_doSound dX12_chord_160 mX12_440 (cR0 hg) ⟨_, rfl, rfl⟩ rfl rfl (Nat.le_of_ble_eq_true rfl) h (fun z4 m3 hz5 h hm6 => ?_)
    refine jm_if_eq (pc := 163) 219 dX12_chord_163 rfl hz5 (fun q => ?_) (fun q => ?_)
    · have h := h.1 q
      refine jm_iinc (pc := 219) (lv' := [(11, _), (0, _), (2, _), (3, _), (4, _), (5, _), (6, _), (7, _), (8, _), (9, _), (10, _)]) 10 dX12_chord_219 rfl (by decide) rfl ?_
      refine jm_goto (pc := 222) 143 dX12_chord_222 rfl ?_
      exact jm_sub [1, 2, 3, 4, 5, 6, 7, 8, 9, 10, 0] rfl h
    · have h := h.2 q
      refine jm_aload_n (pc := 166) 0 dX12_chord_166 rfl ?_
      refine jm_iload (pc := 167) 8 dX12_chord_167 rfl ?_
      refine jm_iload (pc := 169) 10 dX12_chord_169 rfl ?_
      refine jm_callvi (pc := 171) (As := [_, _]) (st := []) iX12_doSound dX12_chord_171 mX12_440 (cR0 hg) ⟨_, rfl, rfl⟩ rfl rfl (Nat.le_of_ble_eq_true rfl) h (fun z8 m7 hz9 h hm10 => ?_)
      refine jm_if_eq (pc := 174) 219 dX12_chord_174 rfl hz9 (fun q => ?_) (fun q => ?_)
      · have h := h.1 q
        refine jm_iinc (pc := 219) (lv' := [(11, _), (0, _), (2, _), (3, _), (4, _), (5, _), (6, _), (7, _), (8, _), (9, _), (10, _)]) 10 dX12_chord_219 rfl (by decide) rfl ?_
        refine jm_goto (pc := 222) 143 dX12_chord_222 rfl ?_
        exact jm_sub [1, 2, 3, 4, 5, 6, 7, 8, 9, 10, 0] rfl h
      · have h := h.2 q
        refine jm_aload_n (pc := 177) 0 dX12_chord_177 rfl ?_
        refine jm_iload (pc := 178) 9 dX12_chord_178 rfl ?_
        refine jm_iload (pc := 180) 10 dX12_chord_180 rfl ?_
        refine jm_callvi (pc := 182) (As := [_, _]) (st := []) iX12_doSound dX12_chord_182 mX12_440 (cR0 hg) ⟨_, rfl, rfl⟩ rfl rfl (Nat.le_of_ble_eq_true rfl) h (fun z12 m11 hz13 h hm14 => ?_)
        refine jm_if_ne (pc := 185) 191 dX12_chord_185 rfl hz13 (fun q => ?_) (fun q => ?_)
        · have h := h.1 q
          refine jm_iload (pc := 191) 6 dX12_chord_191 rfl ?_
          have hg15 := h.1
          have h := h.2
          refine jm_if_ne (pc := 193) 213 dX12_chord_193 rfl hg15 (fun q => ?_) (fun q => ?_)
          · have h := h.1 q
            refine jm_iload (pc := 213) 6 dX12_chord_213 rfl ?_
            refine jm_iconst (pc := 215) dX12_chord_215 ?_
            refine jm_iadd (pc := 216) dX12_chord_216 ?_
            have h := h _ rfl
            refine jm_istore (pc := 217) (lv' := [(7, _), (0, _), (2, _), (3, _), (4, _), (5, _), (6, _), (8, _), (9, _), (10, _), (11, _)]) dX12_chord_217 (by decide) rfl ?_
            refine jm_iinc (pc := 219) (lv' := [(11, _), (7, _), (0, _), (2, _), (3, _), (4, _), (5, _), (6, _), (8, _), (9, _), (10, _)]) 10 dX12_chord_219 rfl (by decide) rfl ?_
            refine jm_goto (pc := 222) 143 dX12_chord_222 rfl ?_
            exact jm_sub [2, 3, 4, 5, 6, 7, 1, 8, 9, 10, 0] rfl h
          · have h := h.2 q
            refine jm_sipush (pc := 196) dX12_chord_196 (by decide) ?_
            refine jm_iload (pc := 199) 8 dX12_chord_199 rfl ?_
            refine jm_imul (pc := 201) dX12_chord_201 ?_
            refine jm_bipush (pc := 202) dX12_chord_202 (by decide) ?_
            refine jm_iload (pc := 204) 9 dX12_chord_204 rfl ?_
            refine jm_imul (pc := 206) dX12_chord_206 ?_
            refine jm_iadd (pc := 207) dX12_chord_207 ?_
            refine jm_iload (pc := 208) 10 dX12_chord_208 rfl ?_
            refine jm_iadd (pc := 210) dX12_chord_210 ?_
            have h := h _ rfl
            refine jm_istore (pc := 211) (lv' := [(8, _), (0, _), (2, _), (3, _), (4, _), (5, _), (6, _), (7, _), (9, _), (10, _), (11, _)]) dX12_chord_211 (by decide) rfl ?_
            refine jm_iload (pc := 213) 7 dX12_chord_213 rfl ?_
            refine jm_iconst (pc := 215) dX12_chord_215 ?_
            refine jm_iadd (pc := 216) dX12_chord_216 ?_
            have h := h _ rfl
            refine jm_istore (pc := 217) (lv' := [(7, _), (8, _), (0, _), (2, _), (3, _), (4, _), (5, _), (6, _), (9, _), (10, _), (11, _)]) dX12_chord_217 (by decide) rfl ?_
            refine jm_iinc (pc := 219) (lv' := [(11, _), (7, _), (8, _), (0, _), (2, _), (3, _), (4, _), (5, _), (6, _), (9, _), (10, _)]) 10 dX12_chord_219 rfl (by decide) rfl ?_
            refine jm_goto (pc := 222) 143 dX12_chord_222 rfl ?_
            exact jm_sub [3, 4, 5, 6, 7, 8, 1, 2, 9, 10, 0] rfl h
        · have h := h.2 q
          refine jm_goto (pc := 188) 219 dX12_chord_188 rfl ?_
          refine jm_iinc (pc := 219) (lv' := [(11, _), (0, _), (2, _), (3, _), (4, _), (5, _), (6, _), (7, _), (8, _), (9, _), (10, _)]) 10 dX12_chord_219 rfl (by decide) rfl ?_
          refine jm_goto (pc := 222) 143 dX12_chord_222 rfl ?_
          exact jm_sub [1, 2, 3, 4, 5, 6, 7, 8, 9, 10, 0] rfl h
theorem bX12_chord_98 {l : Launch} {g : jm_G} {d : Nat} {v2 v3 v4 v5 v6 v7 v8 v9 v10 : Int} (hg : jm_HR g) {mu : jm_M} {Q : Option Value → jm_M → Prop} (h : (0 ≤ v3 ∧ v3 < 8) ∧ jm_rg v10 ∧ ((mu.1 4 v3) < v10 → jm_V l g (d + 3) iX12_chord 65 [(0, .ref 0), (2, jm_i v2), (3, jm_i v3), (4, jm_i v4), (5, jm_i v5), (6, jm_i v6), (7, jm_i v7), (8, jm_i v8), (9, jm_i (v9 + 1))] [] mu Q) ∧ (v10 ≤ (mu.1 4 v3) → jm_R l g (d + 2) iX12_doSound [.ref 0, jm_i v5, jm_i v10] mu (jm_qi fun z4 m3 => (z4 = 0 → jm_V l g (d + 3) iX12_chord 98 [(0, .ref 0), (2, jm_i v2), (3, jm_i v3), (4, jm_i v4), (5, jm_i v5), (6, jm_i v6), (7, jm_i v7), (8, jm_i v8), (9, jm_i v9), (10, jm_i (v10 + 1))] [] m3 Q) ∧ (¬ z4 = 0 → jm_R l g (d + 2) iX12_doSound [.ref 0, jm_i v9, jm_i v10] m3 (jm_qi fun z8 m7 => (¬ z8 = 0 → (0 ≤ v4 ∧ v4 < 8) ∧ ∀ x12, x12 = (m7.1 3 v4) → jm_V l g (d + 3) iX12_chord 143 [(0, .ref 0), (2, jm_i v2), (3, jm_i v3), (4, jm_i v4), (5, jm_i v5), (6, jm_i v6), (7, jm_i v7), (8, jm_i v8), (9, jm_i v9), (10, jm_i v10), (11, jm_i x12)] [] m7 Q) ∧ (z8 = 0 → jm_V l g (d + 3) iX12_chord 98 [(0, .ref 0), (2, jm_i v2), (3, jm_i v3), (4, jm_i v4), (5, jm_i v5), (6, jm_i v6), (7, jm_i v7), (8, jm_i v8), (9, jm_i v9), (10, jm_i (v10 + 1))] [] m7 Q)))))) : jm_V l g (d + 3) iX12_chord 98 [(0, .ref 0), (2, jm_i v2), (3, jm_i v3), (4, jm_i v4), (5, jm_i v5), (6, jm_i v6), (7, jm_i v7), (8, jm_i v8), (9, jm_i v9), (10, jm_i v10)] [] mu Q := by
  refine jm_mrI (fun hm0 => ?_)
  refine jm_iload (pc := 98) 9 dX12_chord_98 rfl ?_
  refine jm_aload_n (pc := 100) 0 dX12_chord_100 rfl ?_
  refine jm_getr (pc := 101) 6 dX12_chord_101 fX12_19 (cR0 hg) rfl ?_
  refine jm_iload_n (pc := 104) 2 dX12_chord_104 rfl ?_
  have hg1 := h.1
  have h := h.2
  refine jm_iald (pc := 105) dX12_chord_105 (cR4 hg) (by decide) hg1.1 hg1.2 ?_
  have hg2 := h.1
  have h := h.2
  refine jm_icmp_gt (pc := 106) 231 dX12_chord_106 rfl hg2 (hm0 _ _) (fun q => ?_) (fun q => ?_)
  · have h := h.1 q
    refine jm_iinc (pc := 231) (lv' := [(9, _), (0, _), (2, _), (3, _), (4, _), (5, _), (6, _), (7, _), (8, _), (10, _)]) 8 dX12_chord_231 rfl (by decide) rfl ?_
    refine jm_goto (pc := 234) 65 dX12_chord_234 rfl ?_
    exact jm_sub [1, 2, 3, 4, 5, 6, 7, 8, 0] rfl h
  · have h := h.2 q
    refine jm_aload_n (pc := 109) 0 dX12_chord_109 rfl ?_
    refine jm_iload (pc := 110) 4 dX12_chord_110 rfl ?_
    refine jm_iload (pc := 112) 9 dX12_chord_112 rfl ?_
    refine jm_callvi (pc := 114) (As := [_, _]) (st := []) iX12_doSound dX12_chord_114 mX12_440 (cR0 hg) ⟨_, rfl, rfl⟩ rfl rfl (Nat.le_of_ble_eq_true rfl) h (fun z4 m3 hz5 h hm6 => ?_)
    refine jm_if_eq (pc := 117) 225 dX12_chord_117 rfl hz5 (fun q => ?_) (fun q => ?_)
    · have h := h.1 q
      refine jm_iinc (pc := 225) (lv' := [(10, _), (0, _), (2, _), (3, _), (4, _), (5, _), (6, _), (7, _), (8, _), (9, _)]) 9 dX12_chord_225 rfl (by decide) rfl ?_
      refine jm_goto (pc := 228) 98 dX12_chord_228 rfl ?_
      exact jm_sub [1, 2, 3, 4, 5, 6, 7, 8, 9, 0] rfl h
    · have h := h.2 q
      refine jm_aload_n (pc := 120) 0 dX12_chord_120 rfl ?_
      refine jm_iload (pc := 121) 8 dX12_chord_121 rfl ?_
      refine jm_iload (pc := 123) 9 dX12_chord_123 rfl ?_
      refine jm_callvi (pc := 125) (As := [_, _]) (st := []) iX12_doSound dX12_chord_125 mX12_440 (cR0 hg) ⟨_, rfl, rfl⟩ rfl rfl (Nat.le_of_ble_eq_true rfl) h (fun z8 m7 hz9 h hm10 => ?_)
      refine jm_if_ne (pc := 128) 134 dX12_chord_128 rfl hz9 (fun q => ?_) (fun q => ?_)
      · have h := h.1 q
        refine jm_aload_n (pc := 134) 0 dX12_chord_134 rfl ?_
        refine jm_getr (pc := 135) 5 dX12_chord_135 fX12_16 (cR0 hg) rfl ?_
        refine jm_iload (pc := 138) 3 dX12_chord_138 rfl ?_
        have hg11 := h.1
        have h := h.2
        refine jm_iald (pc := 140) dX12_chord_140 (cR3 hg) (by decide) hg11.1 hg11.2 ?_
        have h := h _ rfl
        refine jm_istore (pc := 141) (lv' := [(11, _), (0, _), (2, _), (3, _), (4, _), (5, _), (6, _), (7, _), (8, _), (9, _), (10, _)]) dX12_chord_141 (by decide) rfl ?_
        exact jm_sub [1, 2, 3, 4, 5, 6, 7, 8, 9, 10, 0] rfl h
      · have h := h.2 q
        refine jm_goto (pc := 131) 225 dX12_chord_131 rfl ?_
        refine jm_iinc (pc := 225) (lv' := [(10, _), (0, _), (2, _), (3, _), (4, _), (5, _), (6, _), (7, _), (8, _), (9, _)]) 9 dX12_chord_225 rfl (by decide) rfl ?_
        refine jm_goto (pc := 228) 98 dX12_chord_228 rfl ?_
        exact jm_sub [1, 2, 3, 4, 5, 6, 7, 8, 9, 0] rfl h
theorem bX12_chord_65 {l : Launch} {g : jm_G} {d : Nat} {v2 v3 v4 v5 v6 v7 v8 v9 : Int} (hg : jm_HR g) {mu : jm_M} {Q : Option Value → jm_M → Prop} (h : (0 ≤ v2 ∧ v2 < 8) ∧ jm_rg v9 ∧ ((mu.1 4 v2) < v9 → jm_rg v6 ∧ (¬ v6 = 0 → jm_rg v8 ∧ (¬ v8 = (-1) → (¬ v6 = 1 → (¬ v6 = 2 → Q (some (jm_i (Int.tmod v8 100))) mu) ∧ (v6 = 2 → jm_rg (Int.tdiv v8 100) ∧ Q (some (jm_i (Int.tmod (Int.tdiv v8 100) 100))) mu)) ∧ (v6 = 1 → Q (some (jm_i (Int.tdiv v8 10000))) mu)) ∧ (v8 = (-1) → Q (some (jm_i (-1))) mu)) ∧ (v6 = 0 → Q (some (jm_i v7)) mu)) ∧ (v9 ≤ (mu.1 4 v2) → jm_R l g (d + 2) iX12_doSound [.ref 0, jm_i v5, jm_i v9] mu (jm_qi fun z7 m6 => (¬ z7 = 0 → (0 ≤ v3 ∧ v3 < 8) ∧ ∀ x11, x11 = (m6.1 3 v3) → jm_V l g (d + 3) iX12_chord 98 [(0, .ref 0), (2, jm_i v2), (3, jm_i v3), (4, jm_i v4), (5, jm_i v5), (6, jm_i v6), (7, jm_i v7), (8, jm_i v8), (9, jm_i v9), (10, jm_i x11)] [] m6 Q) ∧ (z7 = 0 → jm_V l g (d + 3) iX12_chord 65 [(0, .ref 0), (2, jm_i v2), (3, jm_i v3), (4, jm_i v4), (5, jm_i v5), (6, jm_i v6), (7, jm_i v7), (8, jm_i v8), (9, jm_i (v9 + 1))] [] m6 Q)))) : jm_V l g (d + 3) iX12_chord 65 [(0, .ref 0), (2, jm_i v2), (3, jm_i v3), (4, jm_i v4), (5, jm_i v5), (6, jm_i v6), (7, jm_i v7), (8, jm_i v8), (9, jm_i v9)] [] mu Q := by
  refine jm_mrI (fun hm0 => ?_)
  refine jm_iload (pc := 65) 8 dX12_chord_65 rfl ?_
  refine jm_aload_n (pc := 67) 0 dX12_chord_67 rfl ?_
  refine jm_getr (pc := 68) 6 dX12_chord_68 fX12_19 (cR0 hg) rfl ?_
  refine jm_iload_n (pc := 71) 1 dX12_chord_71 rfl ?_
  have hg1 := h.1
  have h := h.2
  refine jm_iald (pc := 72) dX12_chord_72 (cR4 hg) (by decide) hg1.1 hg1.2 ?_
  have hg2 := h.1
  have h := h.2
  refine jm_icmp_gt (pc := 73) 237 dX12_chord_73 rfl hg2 (hm0 _ _) (fun q => ?_) (fun q => ?_)
  · have h := h.1 q
    refine jm_iload (pc := 237) 5 dX12_chord_237 rfl ?_
    have hg3 := h.1
    have h := h.2
    refine jm_if_ne (pc := 239) 245 dX12_chord_239 rfl hg3 (fun q => ?_) (fun q => ?_)
    · have h := h.1 q
      refine jm_iload (pc := 245) 7 dX12_chord_245 rfl ?_
      refine jm_iconst (pc := 247) dX12_chord_247 ?_
      have hg4 := h.1
      have h := h.2
      refine jm_icmp_ne (pc := 248) 255 dX12_chord_248 rfl hg4 ⟨by decide, by decide⟩ (fun q => ?_) (fun q => ?_)
      · have h := h.1 q
        refine jm_iload (pc := 255) 5 dX12_chord_255 rfl ?_
        refine jm_iconst (pc := 257) dX12_chord_257 ?_
        refine jm_icmp_ne (pc := 258) 270 dX12_chord_258 rfl hg3 ⟨by decide, by decide⟩ (fun q => ?_) (fun q => ?_)
        · have h := h.1 q
          refine jm_iload (pc := 270) 5 dX12_chord_270 rfl ?_
          refine jm_iconst (pc := 272) dX12_chord_272 ?_
          refine jm_icmp_ne (pc := 273) 287 dX12_chord_273 rfl hg3 ⟨by decide, by decide⟩ (fun q => ?_) (fun q => ?_)
          · have h := h.1 q
            refine jm_iload (pc := 287) 7 dX12_chord_287 rfl ?_
            refine jm_bipush (pc := 289) dX12_chord_289 (by decide) ?_
            refine jm_irem (pc := 291) hg4 ⟨by decide, by decide⟩ (by decide) dX12_chord_291 ?_
            exact jm_iret (pc := 292) dX12_chord_292 rfl h
          · have h := h.2 q
            refine jm_iload (pc := 276) 7 dX12_chord_276 rfl ?_
            refine jm_bipush (pc := 278) dX12_chord_278 (by decide) ?_
            refine jm_idiv (pc := 280) hg4 ⟨by decide, by decide⟩ (by decide) dX12_chord_280 ?_
            refine jm_bipush (pc := 281) dX12_chord_281 (by decide) ?_
            have hg5 := h.1
            have h := h.2
            refine jm_irem (pc := 283) hg5 ⟨by decide, by decide⟩ (by decide) dX12_chord_283 ?_
            refine jm_goto (pc := 284) 292 dX12_chord_284 rfl ?_
            exact jm_iret (pc := 292) dX12_chord_292 rfl h
        · have h := h.2 q
          refine jm_iload (pc := 261) 7 dX12_chord_261 rfl ?_
          refine jm_sipush (pc := 263) dX12_chord_263 (by decide) ?_
          refine jm_idiv (pc := 266) hg4 ⟨by decide, by decide⟩ (by decide) dX12_chord_266 ?_
          refine jm_goto (pc := 267) 292 dX12_chord_267 rfl ?_
          exact jm_iret (pc := 292) dX12_chord_292 rfl h
      · have h := h.2 q
        refine jm_iconst (pc := 251) dX12_chord_251 ?_
        refine jm_goto (pc := 252) 292 dX12_chord_252 rfl ?_
        exact jm_iret (pc := 292) dX12_chord_292 rfl h
    · have h := h.2 q
      refine jm_iload (pc := 242) 6 dX12_chord_242 rfl ?_
      exact jm_iret (pc := 244) dX12_chord_244 rfl h
  · have h := h.2 q
    refine jm_aload_n (pc := 76) 0 dX12_chord_76 rfl ?_
    refine jm_iload (pc := 77) 4 dX12_chord_77 rfl ?_
    refine jm_iload (pc := 79) 8 dX12_chord_79 rfl ?_
    refine jm_callvi (pc := 81) (As := [_, _]) (st := []) iX12_doSound dX12_chord_81 mX12_440 (cR0 hg) ⟨_, rfl, rfl⟩ rfl rfl (Nat.le_of_ble_eq_true rfl) h (fun z7 m6 hz8 h hm9 => ?_)
    refine jm_if_ne (pc := 84) 90 dX12_chord_84 rfl hz8 (fun q => ?_) (fun q => ?_)
    · have h := h.1 q
      refine jm_aload_n (pc := 90) 0 dX12_chord_90 rfl ?_
      refine jm_getr (pc := 91) 5 dX12_chord_91 fX12_16 (cR0 hg) rfl ?_
      refine jm_iload_n (pc := 94) 2 dX12_chord_94 rfl ?_
      have hg10 := h.1
      have h := h.2
      refine jm_iald (pc := 95) dX12_chord_95 (cR3 hg) (by decide) hg10.1 hg10.2 ?_
      have h := h _ rfl
      refine jm_istore (pc := 96) (lv' := [(10, _), (0, _), (2, _), (3, _), (4, _), (5, _), (6, _), (7, _), (8, _), (9, _)]) dX12_chord_96 (by decide) rfl ?_
      exact jm_sub [1, 2, 3, 4, 5, 6, 7, 8, 9, 0] rfl h
    · have h := h.2 q
      refine jm_goto (pc := 87) 231 dX12_chord_87 rfl ?_
      refine jm_iinc (pc := 231) (lv' := [(9, _), (0, _), (2, _), (3, _), (4, _), (5, _), (6, _), (7, _), (8, _)]) 8 dX12_chord_231 rfl (by decide) rfl ?_
      refine jm_goto (pc := 234) 65 dX12_chord_234 rfl ?_
      exact jm_sub [1, 2, 3, 4, 5, 6, 7, 8, 0] rfl h
theorem eX12_chord {l : Launch} {g : jm_G} {d : Nat} {v1 v2 v3 v4 v5 v6 : Int} (hg : jm_HR g) {mu : jm_M} {Q : Option Value → jm_M → Prop} (h : ∀ m1, m1 = jm_wr mu 0 0 0 → jm_rg v1 ∧ jm_rg v2 ∧ jm_rg v3 ∧ jm_rg v4 ∧ ((0 ≤ v1 ∧ v1 < (m1.1 0 4)) ∧ (0 ≤ v2 ∧ v2 < (m1.1 0 4)) ∧ (0 ≤ v3 ∧ v3 < (m1.1 0 4)) ∧ (0 ≤ v4 ∧ v4 < (m1.1 0 4)) ∧ (¬ v1 = v2 ∧ ¬ v1 = v3 ∧ ¬ v1 = v4 ∧ ¬ v2 = v3 ∧ ¬ v2 = v4 ∧ ¬ v3 = v4) → (0 ≤ v1 ∧ v1 < 8) ∧ jm_rg v5 ∧ ((m1.1 3 v1) ≤ v5 ∧ v5 ≤ (m1.1 4 v1) → jm_rg v6 ∧ (0 ≤ v6 ∧ v6 ≤ 3 → (0 ≤ v2 ∧ v2 < 8) ∧ ∀ x11, x11 = (m1.1 3 v2) → jm_V l g (d + 3) iX12_chord 65 [(0, .ref 0), (2, jm_i v2), (3, jm_i v3), (4, jm_i v4), (5, jm_i v5), (6, jm_i v6), (7, jm_i 0), (8, jm_i (-1)), (9, jm_i x11)] [] m1 Q) ∧ (¬ (0 ≤ v6 ∧ v6 ≤ 3) → Q (some (jm_i (-1))) m1)) ∧ (¬ ((m1.1 3 v1) ≤ v5 ∧ v5 ≤ (m1.1 4 v1)) → Q (some (jm_i (-1))) m1)) ∧ (¬ ((0 ≤ v1 ∧ v1 < (m1.1 0 4)) ∧ (0 ≤ v2 ∧ v2 < (m1.1 0 4)) ∧ (0 ≤ v3 ∧ v3 < (m1.1 0 4)) ∧ (0 ≤ v4 ∧ v4 < (m1.1 0 4)) ∧ (¬ v1 = v2 ∧ ¬ v1 = v3 ∧ ¬ v1 = v4 ∧ ¬ v2 = v3 ∧ ¬ v2 = v4 ∧ ¬ v3 = v4)) → Q (some (jm_i (-1))) m1)) : jm_R l g (d + 3) iX12_chord [.ref 0, jm_i v1, jm_i v2, jm_i v3, jm_i v4, jm_i v5, jm_i v6] mu Q := by
  refine jm_enter [(0, .ref 0), (1, jm_i v1), (2, jm_i v2), (3, jm_i v3), (4, jm_i v4), (5, jm_i v5), (6, jm_i v6)] (by decide) (Nat.le_of_ble_eq_true rfl) rfl ?_
  refine jm_mrI (fun hm0 => ?_)
  refine jm_aload_n (pc := 0) 0 dX12_chord_0 rfl ?_
  refine jm_iconst (pc := 1) dX12_chord_1 ?_
  refine jm_put (pc := 2) 0 dX12_chord_2 fX12_104 ftX12 (fun q h => by cases h; rfl) (jm_nI _) (jm_fI _) (cR0 hg) rfl ⟨by decide, by decide⟩ ?_
  have h := h _ rfl
  refine jm_mrI (fun hm2 => ?_)
  refine jm_aload_n (pc := 5) 0 dX12_chord_5 rfl ?_
  refine jm_iload_n (pc := 6) 1 dX12_chord_6 rfl ?_
  refine jm_iload_n (pc := 7) 2 dX12_chord_7 rfl ?_
  refine jm_iload_n (pc := 8) 3 dX12_chord_8 rfl ?_
  refine jm_iload (pc := 9) 4 dX12_chord_9 rfl ?_
  have hg3 := h.1
  have h := h.2
  have hg4 := h.1
  have h := h.2
  have hg5 := h.1
  have h := h.2
  have hg6 := h.1
  have h := h.2
  refine jm_inlvi (pc := 11) (As := [_, _, _, _]) (st := []) iX12_areWitnesses dX12_chord_11 mX12_489 (cR0 hg) ⟨_, rfl, rfl⟩ rfl rfl (Nat.le_of_ble_eq_true rfl) (pX12_areWitnesses hg hg3 hg4 hg5 hg6 (fun q => jm_kIi ?_) (fun q => jm_kIi ?_))
  · have h := h.1 q
    refine jm_if_eq (pc := 14) 49 dX12_chord_14 rfl ⟨by decide, by decide⟩ (fun q => absurd q (by decide)) (fun q => ?_)
    refine jm_aload_n (pc := 17) 0 dX12_chord_17 rfl ?_
    refine jm_iload (pc := 18) 5 dX12_chord_18 rfl ?_
    refine jm_aload_n (pc := 20) 0 dX12_chord_20 rfl ?_
    refine jm_getr (pc := 21) 5 dX12_chord_21 fX12_16 (cR0 hg) rfl ?_
    refine jm_iload_n (pc := 24) 1 dX12_chord_24 rfl ?_
    have hg7 := h.1
    have h := h.2
    refine jm_iald (pc := 25) dX12_chord_25 (cR3 hg) (by decide) hg7.1 hg7.2 ?_
    refine jm_aload_n (pc := 26) 0 dX12_chord_26 rfl ?_
    refine jm_getr (pc := 27) 6 dX12_chord_27 fX12_19 (cR0 hg) rfl ?_
    refine jm_iload_n (pc := 30) 1 dX12_chord_30 rfl ?_
    refine jm_iald (pc := 31) dX12_chord_31 (cR4 hg) (by decide) hg7.1 hg7.2 ?_
    have hg8 := h.1
    have h := h.2
    refine jm_inlvi (pc := 32) (As := [_, _, _]) (st := []) iX12_isIn dX12_chord_32 mX12_128 (cR0 hg) ⟨_, rfl, rfl⟩ rfl rfl (Nat.le_of_ble_eq_true rfl) (pX12_isIn hg hg8 (hm2 _ _) (hm2 _ _) (fun q => jm_kIi ?_) (fun q => jm_kIi ?_))
    · have h := h.1 q
      refine jm_if_eq (pc := 35) 49 dX12_chord_35 rfl ⟨by decide, by decide⟩ (fun q => absurd q (by decide)) (fun q => ?_)
      refine jm_aload_n (pc := 38) 0 dX12_chord_38 rfl ?_
      refine jm_iload (pc := 39) 6 dX12_chord_39 rfl ?_
      refine jm_iconst (pc := 41) dX12_chord_41 ?_
      refine jm_iconst (pc := 42) dX12_chord_42 ?_
      have hg9 := h.1
      have h := h.2
      refine jm_inlvi (pc := 43) (As := [_, _, _]) (st := []) iX12_isIn dX12_chord_43 mX12_128 (cR0 hg) ⟨_, rfl, rfl⟩ rfl rfl (Nat.le_of_ble_eq_true rfl) (pX12_isIn hg hg9 ⟨by decide, by decide⟩ ⟨by decide, by decide⟩ (fun q => jm_kIi ?_) (fun q => jm_kIi ?_))
      · have h := h.1 q
        refine jm_if_ne (pc := 46) 51 dX12_chord_46 rfl ⟨by decide, by decide⟩ (fun q => ?_) (fun q => absurd q (by decide))
        refine jm_iconst (pc := 51) dX12_chord_51 ?_
        refine jm_istore (pc := 52) (lv' := [(7, _), (0, _), (1, _), (2, _), (3, _), (4, _), (5, _), (6, _)]) dX12_chord_52 (by decide) rfl ?_
        refine jm_iconst (pc := 54) dX12_chord_54 ?_
        refine jm_istore (pc := 55) (lv' := [(8, _), (7, _), (0, _), (1, _), (2, _), (3, _), (4, _), (5, _), (6, _)]) dX12_chord_55 (by decide) rfl ?_
        refine jm_aload_n (pc := 57) 2 dX12_chord_57 rfl ?_
        refine jm_getr (pc := 58) 5 dX12_chord_58 fX12_16 (cR0 hg) rfl ?_
        refine jm_iload_n (pc := 61) 4 dX12_chord_61 rfl ?_
        have hg10 := h.1
        have h := h.2
        refine jm_iald (pc := 62) dX12_chord_62 (cR3 hg) (by decide) hg10.1 hg10.2 ?_
        have h := h _ rfl
        refine jm_istore (pc := 63) (lv' := [(9, _), (8, _), (7, _), (0, _), (1, _), (2, _), (3, _), (4, _), (5, _), (6, _)]) dX12_chord_63 (by decide) rfl ?_
        exact jm_sub [3, 5, 6, 7, 8, 9, 2, 1, 0] rfl h
      · have h := h.2 q
        refine jm_if_ne (pc := 46) 51 dX12_chord_46 rfl ⟨by decide, by decide⟩ (fun q => absurd q (by decide)) (fun q => ?_)
        refine jm_iconst (pc := 49) dX12_chord_49 ?_
        exact jm_iret (pc := 50) dX12_chord_50 rfl h
    · have h := h.2 q
      refine jm_if_eq (pc := 35) 49 dX12_chord_35 rfl ⟨by decide, by decide⟩ (fun q => ?_) (fun q => absurd q (by decide))
      refine jm_iconst (pc := 49) dX12_chord_49 ?_
      exact jm_iret (pc := 50) dX12_chord_50 rfl h
  · have h := h.2 q
    refine jm_if_eq (pc := 14) 49 dX12_chord_14 rfl ⟨by decide, by decide⟩ (fun q => ?_) (fun q => absurd q (by decide))
    refine jm_iconst (pc := 49) dX12_chord_49 ?_
    exact jm_iret (pc := 50) dX12_chord_50 rfl h
theorem dX12_keeps_0 : decode cX12_keeps 0 = .ok (.aload_n 0, 1) := by decide +kernel
theorem dX12_keeps_1 : decode cX12_keeps 1 = .ok (.aload_n 0, 1) := by decide +kernel
theorem dX12_keeps_2 : decode cX12_keeps 2 = .ok (.getfield 492, 3) := by decide +kernel
theorem dX12_keeps_5 : decode cX12_keeps 5 = .ok (.iconst 1, 1) := by decide +kernel
theorem dX12_keeps_6 : decode cX12_keeps 6 = .ok (.iadd, 1) := by decide +kernel
theorem dX12_keeps_7 : decode cX12_keeps 7 = .ok (.putfield 492, 3) := by decide +kernel
theorem dX12_keeps_10 : decode cX12_keeps 10 = .ok (.aload_n 0, 1) := by decide +kernel
theorem dX12_keeps_11 : decode cX12_keeps 11 = .ok (.getfield 495, 3) := by decide +kernel
theorem dX12_keeps_14 : decode cX12_keeps 14 = .ok (.ifCond .ne 15, 3) := by decide +kernel
theorem dX12_keeps_17 : decode cX12_keeps 17 = .ok (.aload_n 0, 1) := by decide +kernel
theorem dX12_keeps_18 : decode cX12_keeps 18 = .ok (.getfield 101, 3) := by decide +kernel
theorem dX12_keeps_21 : decode cX12_keeps 21 = .ok (.aload_n 0, 1) := by decide +kernel
theorem dX12_keeps_22 : decode cX12_keeps 22 = .ok (.getfield 492, 3) := by decide +kernel
theorem dX12_keeps_25 : decode cX12_keeps 25 = .ok (.iconst 1, 1) := by decide +kernel
theorem dX12_keeps_26 : decode cX12_keeps 26 = .ok (.isub, 1) := by decide +kernel
theorem dX12_keeps_27 : decode cX12_keeps 27 = .ok (.iaload, 1) := by decide +kernel
theorem dX12_keeps_28 : decode cX12_keeps 28 = .ok (.ireturn, 1) := by decide +kernel
theorem dX12_keeps_29 : decode cX12_keeps 29 = .ok (.aload_n 0, 1) := by decide +kernel
theorem dX12_keeps_30 : decode cX12_keeps 30 = .ok (.getfield 101, 3) := by decide +kernel
theorem dX12_keeps_33 : decode cX12_keeps 33 = .ok (.aload_n 0, 1) := by decide +kernel
theorem dX12_keeps_34 : decode cX12_keeps 34 = .ok (.getfield 492, 3) := by decide +kernel
theorem dX12_keeps_37 : decode cX12_keeps 37 = .ok (.iconst 1, 1) := by decide +kernel
theorem dX12_keeps_38 : decode cX12_keeps 38 = .ok (.isub, 1) := by decide +kernel
theorem dX12_keeps_39 : decode cX12_keeps 39 = .ok (.iload_n 1, 1) := by decide +kernel
theorem dX12_keeps_40 : decode cX12_keeps 40 = .ok (.iastore, 1) := by decide +kernel
theorem dX12_keeps_41 : decode cX12_keeps 41 = .ok (.iload_n 1, 1) := by decide +kernel
theorem dX12_keeps_42 : decode cX12_keeps 42 = .ok (.ireturn, 1) := by decide +kernel
theorem eX12_keeps {l : Launch} {g : jm_G} {d : Nat} {v1 : Int} (hg : jm_HR g) {mu : jm_M} {Q : Option Value → jm_M → Prop} (h : jm_rg ((mu.1 0 57) + 1) ∧ ∀ m2, m2 = jm_wr mu 0 57 ((mu.1 0 57) + 1) → (¬ (m2.1 0 55) = 0 → (0 ≤ ((m2.1 0 57) - 1) ∧ ((m2.1 0 57) - 1) < 2700) ∧ jm_rg v1 ∧ ∀ m6, m6 = jm_wr m2 30 ((m2.1 0 57) - 1) v1 → Q (some (jm_i v1)) m6) ∧ ((m2.1 0 55) = 0 → (0 ≤ ((m2.1 0 57) - 1) ∧ ((m2.1 0 57) - 1) < 2700) ∧ Q (some (jm_i (m2.1 30 ((m2.1 0 57) - 1)))) m2)) : jm_R l g (d + 1) iX12_keeps [.ref 0, jm_i v1] mu Q := by
  refine jm_enter [(0, .ref 0), (1, jm_i v1)] (by decide) (Nat.le_of_ble_eq_true rfl) rfl ?_
  refine jm_mrI (fun hm0 => ?_)
  refine jm_aload_n (pc := 0) 0 dX12_keeps_0 rfl ?_
  refine jm_aload_n (pc := 1) 0 dX12_keeps_1 rfl ?_
  refine jm_geti (pc := 2) 57 dX12_keeps_2 fX12_492 (cR0 hg) rfl ?_
  refine jm_iconst (pc := 5) dX12_keeps_5 ?_
  refine jm_iadd (pc := 6) dX12_keeps_6 ?_
  have hg1 := h.1
  have h := h.2
  refine jm_put (pc := 7) 57 dX12_keeps_7 fX12_492 ftX12 (fun q h => by cases h; rfl) (jm_nI _) (jm_fI _) (cR0 hg) rfl hg1 ?_
  have h := h _ rfl
  refine jm_mrI (fun hm3 => ?_)
  refine jm_aload_n (pc := 10) 0 dX12_keeps_10 rfl ?_
  refine jm_geti (pc := 11) 55 dX12_keeps_11 fX12_495 (cR0 hg) rfl ?_
  refine jm_if_ne (pc := 14) 29 dX12_keeps_14 rfl (hm3 _ _) (fun q => ?_) (fun q => ?_)
  · have h := h.1 q
    refine jm_aload_n (pc := 29) 0 dX12_keeps_29 rfl ?_
    refine jm_getr (pc := 30) 58 dX12_keeps_30 fX12_101 (cR0 hg) rfl ?_
    refine jm_aload_n (pc := 33) 0 dX12_keeps_33 rfl ?_
    refine jm_geti (pc := 34) 57 dX12_keeps_34 fX12_492 (cR0 hg) rfl ?_
    refine jm_iconst (pc := 37) dX12_keeps_37 ?_
    refine jm_isub (pc := 38) dX12_keeps_38 ?_
    refine jm_iload_n (pc := 39) 1 dX12_keeps_39 rfl ?_
    have hg4 := h.1
    have h := h.2
    have hg5 := h.1
    have h := h.2
    refine jm_iast (pc := 40) dX12_keeps_40 (cR30 hg) (by decide) hg4.1 hg4.2 hg5 ?_
    have h := h _ rfl
    refine jm_mrI (fun hm7 => ?_)
    refine jm_iload_n (pc := 41) 1 dX12_keeps_41 rfl ?_
    exact jm_iret (pc := 42) dX12_keeps_42 rfl h
  · have h := h.2 q
    refine jm_aload_n (pc := 17) 0 dX12_keeps_17 rfl ?_
    refine jm_getr (pc := 18) 58 dX12_keeps_18 fX12_101 (cR0 hg) rfl ?_
    refine jm_aload_n (pc := 21) 0 dX12_keeps_21 rfl ?_
    refine jm_geti (pc := 22) 57 dX12_keeps_22 fX12_492 (cR0 hg) rfl ?_
    refine jm_iconst (pc := 25) dX12_keeps_25 ?_
    refine jm_isub (pc := 26) dX12_keeps_26 ?_
    have hg8 := h.1
    have h := h.2
    refine jm_iald (pc := 27) dX12_keeps_27 (cR30 hg) (by decide) hg8.1 hg8.2 ?_
    exact jm_iret (pc := 28) dX12_keeps_28 rfl h
theorem dX12_keepsLaw_0 : decode cX12_keepsLaw 0 = .ok (.aload_n 0, 1) := by decide +kernel
theorem dX12_keepsLaw_1 : decode cX12_keepsLaw 1 = .ok (.getfield 34, 3) := by decide +kernel
theorem dX12_keepsLaw_4 : decode cX12_keepsLaw 4 = .ok (.iconst 1, 1) := by decide +kernel
theorem dX12_keepsLaw_5 : decode cX12_keepsLaw 5 = .ok (.aload_n 0, 1) := by decide +kernel
theorem dX12_keepsLaw_6 : decode cX12_keepsLaw 6 = .ok (.aload_n 0, 1) := by decide +kernel
theorem dX12_keepsLaw_7 : decode cX12_keepsLaw 7 = .ok (.getfield 34, 3) := by decide +kernel
theorem dX12_keepsLaw_10 : decode cX12_keepsLaw 10 = .ok (.iconst 1, 1) := by decide +kernel
theorem dX12_keepsLaw_11 : decode cX12_keepsLaw 11 = .ok (.iaload, 1) := by decide +kernel
theorem dX12_keepsLaw_12 : decode cX12_keepsLaw 12 = .ok (.invokevirtual 499, 3) := by decide +kernel
theorem dX12_keepsLaw_15 : decode cX12_keepsLaw 15 = .ok (.iastore, 1) := by decide +kernel
theorem dX12_keepsLaw_16 : decode cX12_keepsLaw 16 = .ok (.bipush 16, 2) := by decide +kernel
theorem dX12_keepsLaw_18 : decode cX12_keepsLaw 18 = .ok (.istore_n 1, 1) := by decide +kernel
theorem dX12_keepsLaw_19 : decode cX12_keepsLaw 19 = .ok (.iload_n 1, 1) := by decide +kernel
theorem dX12_keepsLaw_20 : decode cX12_keepsLaw 20 = .ok (.bipush 32, 2) := by decide +kernel
theorem dX12_keepsLaw_22 : decode cX12_keepsLaw 22 = .ok (.if_icmp .ge 73, 3) := by decide +kernel
theorem dX12_keepsLaw_25 : decode cX12_keepsLaw 25 = .ok (.aload_n 0, 1) := by decide +kernel
theorem dX12_keepsLaw_26 : decode cX12_keepsLaw 26 = .ok (.getfield 37, 3) := by decide +kernel
theorem dX12_keepsLaw_29 : decode cX12_keepsLaw 29 = .ok (.iload_n 1, 1) := by decide +kernel
theorem dX12_keepsLaw_30 : decode cX12_keepsLaw 30 = .ok (.aload_n 0, 1) := by decide +kernel
theorem dX12_keepsLaw_31 : decode cX12_keepsLaw 31 = .ok (.aload_n 0, 1) := by decide +kernel
theorem dX12_keepsLaw_32 : decode cX12_keepsLaw 32 = .ok (.getfield 37, 3) := by decide +kernel
theorem dX12_keepsLaw_35 : decode cX12_keepsLaw 35 = .ok (.iload_n 1, 1) := by decide +kernel
theorem dX12_keepsLaw_36 : decode cX12_keepsLaw 36 = .ok (.iaload, 1) := by decide +kernel
theorem dX12_keepsLaw_37 : decode cX12_keepsLaw 37 = .ok (.invokevirtual 499, 3) := by decide +kernel
theorem dX12_keepsLaw_40 : decode cX12_keepsLaw 40 = .ok (.iastore, 1) := by decide +kernel
theorem dX12_keepsLaw_41 : decode cX12_keepsLaw 41 = .ok (.aload_n 0, 1) := by decide +kernel
theorem dX12_keepsLaw_42 : decode cX12_keepsLaw 42 = .ok (.getfield 40, 3) := by decide +kernel
theorem dX12_keepsLaw_45 : decode cX12_keepsLaw 45 = .ok (.iload_n 1, 1) := by decide +kernel
theorem dX12_keepsLaw_46 : decode cX12_keepsLaw 46 = .ok (.aload_n 0, 1) := by decide +kernel
theorem dX12_keepsLaw_47 : decode cX12_keepsLaw 47 = .ok (.aload_n 0, 1) := by decide +kernel
theorem dX12_keepsLaw_48 : decode cX12_keepsLaw 48 = .ok (.getfield 40, 3) := by decide +kernel
theorem dX12_keepsLaw_51 : decode cX12_keepsLaw 51 = .ok (.iload_n 1, 1) := by decide +kernel
theorem dX12_keepsLaw_52 : decode cX12_keepsLaw 52 = .ok (.iaload, 1) := by decide +kernel
theorem dX12_keepsLaw_53 : decode cX12_keepsLaw 53 = .ok (.invokevirtual 499, 3) := by decide +kernel
theorem dX12_keepsLaw_56 : decode cX12_keepsLaw 56 = .ok (.iastore, 1) := by decide +kernel
theorem dX12_keepsLaw_57 : decode cX12_keepsLaw 57 = .ok (.aload_n 0, 1) := by decide +kernel
theorem dX12_keepsLaw_58 : decode cX12_keepsLaw 58 = .ok (.getfield 43, 3) := by decide +kernel
theorem dX12_keepsLaw_61 : decode cX12_keepsLaw 61 = .ok (.iload_n 1, 1) := by decide +kernel
theorem dX12_keepsLaw_62 : decode cX12_keepsLaw 62 = .ok (.aload_n 0, 1) := by decide +kernel
theorem dX12_keepsLaw_63 : decode cX12_keepsLaw 63 = .ok (.aload_n 0, 1) := by decide +kernel
theorem dX12_keepsLaw_64 : decode cX12_keepsLaw 64 = .ok (.getfield 43, 3) := by decide +kernel
theorem dX12_keepsLaw_67 : decode cX12_keepsLaw 67 = .ok (.iload_n 1, 1) := by decide +kernel
theorem dX12_keepsLaw_68 : decode cX12_keepsLaw 68 = .ok (.iaload, 1) := by decide +kernel
theorem dX12_keepsLaw_69 : decode cX12_keepsLaw 69 = .ok (.invokevirtual 499, 3) := by decide +kernel
theorem dX12_keepsLaw_72 : decode cX12_keepsLaw 72 = .ok (.iastore, 1) := by decide +kernel
theorem dX12_keepsLaw_73 : decode cX12_keepsLaw 73 = .ok (.aload_n 0, 1) := by decide +kernel
theorem dX12_keepsLaw_74 : decode cX12_keepsLaw 74 = .ok (.getfield 46, 3) := by decide +kernel
theorem dX12_keepsLaw_77 : decode cX12_keepsLaw 77 = .ok (.iload_n 1, 1) := by decide +kernel
theorem dX12_keepsLaw_78 : decode cX12_keepsLaw 78 = .ok (.aload_n 0, 1) := by decide +kernel
theorem dX12_keepsLaw_79 : decode cX12_keepsLaw 79 = .ok (.aload_n 0, 1) := by decide +kernel
theorem dX12_keepsLaw_80 : decode cX12_keepsLaw 80 = .ok (.getfield 46, 3) := by decide +kernel
theorem dX12_keepsLaw_83 : decode cX12_keepsLaw 83 = .ok (.iload_n 1, 1) := by decide +kernel
theorem dX12_keepsLaw_84 : decode cX12_keepsLaw 84 = .ok (.iaload, 1) := by decide +kernel
theorem dX12_keepsLaw_85 : decode cX12_keepsLaw 85 = .ok (.invokevirtual 499, 3) := by decide +kernel
theorem dX12_keepsLaw_88 : decode cX12_keepsLaw 88 = .ok (.iastore, 1) := by decide +kernel
theorem dX12_keepsLaw_89 : decode cX12_keepsLaw 89 = .ok (.iinc 1 1, 3) := by decide +kernel
theorem dX12_keepsLaw_92 : decode cX12_keepsLaw 92 = .ok (.goto (-73), 3) := by decide +kernel
theorem dX12_keepsLaw_95 : decode cX12_keepsLaw 95 = .ok (.sipush 400, 3) := by decide +kernel
theorem dX12_keepsLaw_98 : decode cX12_keepsLaw 98 = .ok (.istore_n 1, 1) := by decide +kernel
theorem dX12_keepsLaw_99 : decode cX12_keepsLaw 99 = .ok (.iload_n 1, 1) := by decide +kernel
theorem dX12_keepsLaw_100 : decode cX12_keepsLaw 100 = .ok (.sipush 800, 3) := by decide +kernel
theorem dX12_keepsLaw_103 : decode cX12_keepsLaw 103 = .ok (.if_icmp .ge 41, 3) := by decide +kernel
theorem dX12_keepsLaw_106 : decode cX12_keepsLaw 106 = .ok (.aload_n 0, 1) := by decide +kernel
theorem dX12_keepsLaw_107 : decode cX12_keepsLaw 107 = .ok (.getfield 49, 3) := by decide +kernel
theorem dX12_keepsLaw_110 : decode cX12_keepsLaw 110 = .ok (.iload_n 1, 1) := by decide +kernel
theorem dX12_keepsLaw_111 : decode cX12_keepsLaw 111 = .ok (.aload_n 0, 1) := by decide +kernel
theorem dX12_keepsLaw_112 : decode cX12_keepsLaw 112 = .ok (.aload_n 0, 1) := by decide +kernel
theorem dX12_keepsLaw_113 : decode cX12_keepsLaw 113 = .ok (.getfield 49, 3) := by decide +kernel
theorem dX12_keepsLaw_116 : decode cX12_keepsLaw 116 = .ok (.iload_n 1, 1) := by decide +kernel
theorem dX12_keepsLaw_117 : decode cX12_keepsLaw 117 = .ok (.iaload, 1) := by decide +kernel
theorem dX12_keepsLaw_118 : decode cX12_keepsLaw 118 = .ok (.invokevirtual 499, 3) := by decide +kernel
theorem dX12_keepsLaw_121 : decode cX12_keepsLaw 121 = .ok (.iastore, 1) := by decide +kernel
theorem dX12_keepsLaw_122 : decode cX12_keepsLaw 122 = .ok (.aload_n 0, 1) := by decide +kernel
theorem dX12_keepsLaw_123 : decode cX12_keepsLaw 123 = .ok (.getfield 52, 3) := by decide +kernel
theorem dX12_keepsLaw_126 : decode cX12_keepsLaw 126 = .ok (.iload_n 1, 1) := by decide +kernel
theorem dX12_keepsLaw_127 : decode cX12_keepsLaw 127 = .ok (.aload_n 0, 1) := by decide +kernel
theorem dX12_keepsLaw_128 : decode cX12_keepsLaw 128 = .ok (.aload_n 0, 1) := by decide +kernel
theorem dX12_keepsLaw_129 : decode cX12_keepsLaw 129 = .ok (.getfield 52, 3) := by decide +kernel
theorem dX12_keepsLaw_132 : decode cX12_keepsLaw 132 = .ok (.iload_n 1, 1) := by decide +kernel
theorem dX12_keepsLaw_133 : decode cX12_keepsLaw 133 = .ok (.iaload, 1) := by decide +kernel
theorem dX12_keepsLaw_134 : decode cX12_keepsLaw 134 = .ok (.invokevirtual 499, 3) := by decide +kernel
theorem dX12_keepsLaw_137 : decode cX12_keepsLaw 137 = .ok (.iastore, 1) := by decide +kernel
theorem dX12_keepsLaw_138 : decode cX12_keepsLaw 138 = .ok (.iinc 1 1, 3) := by decide +kernel
theorem dX12_keepsLaw_141 : decode cX12_keepsLaw 141 = .ok (.goto (-42), 3) := by decide +kernel
theorem dX12_keepsLaw_144 : decode cX12_keepsLaw 144 = .ok (.return_, 1) := by decide +kernel
theorem bX12_keepsLaw_99 {l : Launch} {g : jm_G} {d : Nat} {v1 : Int} (hg : jm_HR g) {mu : jm_M} {Q : Option Value → jm_M → Prop} (h : jm_rg v1 ∧ (800 ≤ v1 → Q none mu) ∧ (v1 < 800 → (0 ≤ v1 ∧ v1 < 1200) ∧ jm_R l g d iX12_keeps [.ref 0, jm_i (mu.1 14 v1)] mu (jm_qi fun z4 m3 => ∀ m7, m7 = jm_wr m3 14 v1 z4 → jm_R l g d iX12_keeps [.ref 0, jm_i (m7.1 15 v1)] m7 (jm_qi fun z10 m9 => ∀ m13, m13 = jm_wr m9 15 v1 z10 → jm_V l g (d + 1) iX12_keepsLaw 99 [(0, .ref 0), (1, jm_i (v1 + 1))] [] m13 Q)))) : jm_V l g (d + 1) iX12_keepsLaw 99 [(0, .ref 0), (1, jm_i v1)] [] mu Q := by
  refine jm_mrI (fun hm0 => ?_)
  refine jm_iload_n (pc := 99) 1 dX12_keepsLaw_99 rfl ?_
  refine jm_sipush (pc := 100) dX12_keepsLaw_100 (by decide) ?_
  have hg1 := h.1
  have h := h.2
  refine jm_icmp_ge (pc := 103) 144 dX12_keepsLaw_103 rfl hg1 ⟨by decide, by decide⟩ (fun q => ?_) (fun q => ?_)
  · have h := h.1 q
    exact jm_vret (pc := 144) dX12_keepsLaw_144 rfl h
  · have h := h.2 q
    refine jm_aload_n (pc := 106) 0 dX12_keepsLaw_106 rfl ?_
    refine jm_getr (pc := 107) 24 dX12_keepsLaw_107 fX12_49 (cR0 hg) rfl ?_
    refine jm_iload_n (pc := 110) 1 dX12_keepsLaw_110 rfl ?_
    refine jm_aload_n (pc := 111) 0 dX12_keepsLaw_111 rfl ?_
    refine jm_aload_n (pc := 112) 0 dX12_keepsLaw_112 rfl ?_
    refine jm_getr (pc := 113) 24 dX12_keepsLaw_113 fX12_49 (cR0 hg) rfl ?_
    refine jm_iload_n (pc := 116) 1 dX12_keepsLaw_116 rfl ?_
    have hg2 := h.1
    have h := h.2
    refine jm_iald (pc := 117) dX12_keepsLaw_117 (cR14 hg) (by decide) hg2.1 hg2.2 ?_
    refine jm_callvi (pc := 118) (As := [_]) (st := [_, _]) iX12_keeps dX12_keepsLaw_118 mX12_499 (cR0 hg) ⟨_, rfl, rfl⟩ rfl rfl (Nat.le_of_ble_eq_true rfl) h (fun z4 m3 hz5 h hm6 => ?_)
    refine jm_iast (pc := 121) dX12_keepsLaw_121 (cR14 hg) (by decide) hg2.1 hg2.2 hz5 ?_
    have h := h _ rfl
    refine jm_mrI (fun hm8 => ?_)
    refine jm_aload_n (pc := 122) 0 dX12_keepsLaw_122 rfl ?_
    refine jm_getr (pc := 123) 25 dX12_keepsLaw_123 fX12_52 (cR0 hg) rfl ?_
    refine jm_iload_n (pc := 126) 1 dX12_keepsLaw_126 rfl ?_
    refine jm_aload_n (pc := 127) 0 dX12_keepsLaw_127 rfl ?_
    refine jm_aload_n (pc := 128) 0 dX12_keepsLaw_128 rfl ?_
    refine jm_getr (pc := 129) 25 dX12_keepsLaw_129 fX12_52 (cR0 hg) rfl ?_
    refine jm_iload_n (pc := 132) 1 dX12_keepsLaw_132 rfl ?_
    refine jm_iald (pc := 133) dX12_keepsLaw_133 (cR15 hg) (by decide) hg2.1 hg2.2 ?_
    refine jm_callvi (pc := 134) (As := [_]) (st := [_, _]) iX12_keeps dX12_keepsLaw_134 mX12_499 (cR0 hg) ⟨_, rfl, rfl⟩ rfl rfl (Nat.le_of_ble_eq_true rfl) h (fun z10 m9 hz11 h hm12 => ?_)
    refine jm_iast (pc := 137) dX12_keepsLaw_137 (cR15 hg) (by decide) hg2.1 hg2.2 hz11 ?_
    have h := h _ rfl
    refine jm_mrI (fun hm14 => ?_)
    refine jm_iinc (pc := 138) (lv' := [(1, _), (0, _)]) 1 dX12_keepsLaw_138 rfl (by decide) rfl ?_
    refine jm_goto (pc := 141) 99 dX12_keepsLaw_141 rfl ?_
    exact jm_sub [1, 0] rfl h
theorem bX12_keepsLaw_19 {l : Launch} {g : jm_G} {d : Nat} {v1 : Int} (hg : jm_HR g) {mu : jm_M} {Q : Option Value → jm_M → Prop} (h : jm_rg v1 ∧ (32 ≤ v1 → jm_V l g (d + 1) iX12_keepsLaw 99 [(0, .ref 0), (1, jm_i 400)] [] mu Q) ∧ (v1 < 32 → (0 ≤ v1 ∧ v1 < 48) ∧ jm_R l g d iX12_keeps [.ref 0, jm_i (mu.1 10 v1)] mu (jm_qi fun z4 m3 => ∀ m7, m7 = jm_wr m3 10 v1 z4 → jm_R l g d iX12_keeps [.ref 0, jm_i (m7.1 11 v1)] m7 (jm_qi fun z10 m9 => ∀ m13, m13 = jm_wr m9 11 v1 z10 → jm_R l g d iX12_keeps [.ref 0, jm_i (m13.1 12 v1)] m13 (jm_qi fun z16 m15 => ∀ m19, m19 = jm_wr m15 12 v1 z16 → jm_R l g d iX12_keeps [.ref 0, jm_i (m19.1 13 v1)] m19 (jm_qi fun z22 m21 => ∀ m25, m25 = jm_wr m21 13 v1 z22 → jm_V l g (d + 1) iX12_keepsLaw 19 [(0, .ref 0), (1, jm_i (v1 + 1))] [] m25 Q)))))) : jm_V l g (d + 1) iX12_keepsLaw 19 [(0, .ref 0), (1, jm_i v1)] [] mu Q := by
  refine jm_mrI (fun hm0 => ?_)
  refine jm_iload_n (pc := 19) 1 dX12_keepsLaw_19 rfl ?_
  refine jm_bipush (pc := 20) dX12_keepsLaw_20 (by decide) ?_
  have hg1 := h.1
  have h := h.2
  refine jm_icmp_ge (pc := 22) 95 dX12_keepsLaw_22 rfl hg1 ⟨by decide, by decide⟩ (fun q => ?_) (fun q => ?_)
  · have h := h.1 q
    refine jm_sipush (pc := 95) dX12_keepsLaw_95 (by decide) ?_
    refine jm_istore_n (pc := 98) (lv' := [(1, _), (0, _)]) dX12_keepsLaw_98 (by decide) rfl ?_
    exact jm_sub [1, 0] rfl h
  · have h := h.2 q
    refine jm_aload_n (pc := 25) 0 dX12_keepsLaw_25 rfl ?_
    refine jm_getr (pc := 26) 20 dX12_keepsLaw_26 fX12_37 (cR0 hg) rfl ?_
    refine jm_iload_n (pc := 29) 1 dX12_keepsLaw_29 rfl ?_
    refine jm_aload_n (pc := 30) 0 dX12_keepsLaw_30 rfl ?_
    refine jm_aload_n (pc := 31) 0 dX12_keepsLaw_31 rfl ?_
    refine jm_getr (pc := 32) 20 dX12_keepsLaw_32 fX12_37 (cR0 hg) rfl ?_
    refine jm_iload_n (pc := 35) 1 dX12_keepsLaw_35 rfl ?_
    have hg2 := h.1
    have h := h.2
    refine jm_iald (pc := 36) dX12_keepsLaw_36 (cR10 hg) (by decide) hg2.1 hg2.2 ?_
    refine jm_callvi (pc := 37) (As := [_]) (st := [_, _]) iX12_keeps dX12_keepsLaw_37 mX12_499 (cR0 hg) ⟨_, rfl, rfl⟩ rfl rfl (Nat.le_of_ble_eq_true rfl) h (fun z4 m3 hz5 h hm6 => ?_)
    refine jm_iast (pc := 40) dX12_keepsLaw_40 (cR10 hg) (by decide) hg2.1 hg2.2 hz5 ?_
    have h := h _ rfl
    refine jm_mrI (fun hm8 => ?_)
    refine jm_aload_n (pc := 41) 0 dX12_keepsLaw_41 rfl ?_
    refine jm_getr (pc := 42) 21 dX12_keepsLaw_42 fX12_40 (cR0 hg) rfl ?_
    refine jm_iload_n (pc := 45) 1 dX12_keepsLaw_45 rfl ?_
    refine jm_aload_n (pc := 46) 0 dX12_keepsLaw_46 rfl ?_
    refine jm_aload_n (pc := 47) 0 dX12_keepsLaw_47 rfl ?_
    refine jm_getr (pc := 48) 21 dX12_keepsLaw_48 fX12_40 (cR0 hg) rfl ?_
    refine jm_iload_n (pc := 51) 1 dX12_keepsLaw_51 rfl ?_
    refine jm_iald (pc := 52) dX12_keepsLaw_52 (cR11 hg) (by decide) hg2.1 hg2.2 ?_
    refine jm_callvi (pc := 53) (As := [_]) (st := [_, _]) iX12_keeps dX12_keepsLaw_53 mX12_499 (cR0 hg) ⟨_, rfl, rfl⟩ rfl rfl (Nat.le_of_ble_eq_true rfl) h (fun z10 m9 hz11 h hm12 => ?_)
    refine jm_iast (pc := 56) dX12_keepsLaw_56 (cR11 hg) (by decide) hg2.1 hg2.2 hz11 ?_
    have h := h _ rfl
    refine jm_mrI (fun hm14 => ?_)
    refine jm_aload_n (pc := 57) 0 dX12_keepsLaw_57 rfl ?_
    refine jm_getr (pc := 58) 22 dX12_keepsLaw_58 fX12_43 (cR0 hg) rfl ?_
    refine jm_iload_n (pc := 61) 1 dX12_keepsLaw_61 rfl ?_
    refine jm_aload_n (pc := 62) 0 dX12_keepsLaw_62 rfl ?_
    refine jm_aload_n (pc := 63) 0 dX12_keepsLaw_63 rfl ?_
    refine jm_getr (pc := 64) 22 dX12_keepsLaw_64 fX12_43 (cR0 hg) rfl ?_
    refine jm_iload_n (pc := 67) 1 dX12_keepsLaw_67 rfl ?_
    refine jm_iald (pc := 68) dX12_keepsLaw_68 (cR12 hg) (by decide) hg2.1 hg2.2 ?_
    refine jm_callvi (pc := 69) (As := [_]) (st := [_, _]) iX12_keeps dX12_keepsLaw_69 mX12_499 (cR0 hg) ⟨_, rfl, rfl⟩ rfl rfl (Nat.le_of_ble_eq_true rfl) h (fun z16 m15 hz17 h hm18 => ?_)
    refine jm_iast (pc := 72) dX12_keepsLaw_72 (cR12 hg) (by decide) hg2.1 hg2.2 hz17 ?_
    have h := h _ rfl
    refine jm_mrI (fun hm20 => ?_)
    refine jm_aload_n (pc := 73) 0 dX12_keepsLaw_73 rfl ?_
    refine jm_getr (pc := 74) 23 dX12_keepsLaw_74 fX12_46 (cR0 hg) rfl ?_
    refine jm_iload_n (pc := 77) 1 dX12_keepsLaw_77 rfl ?_
    refine jm_aload_n (pc := 78) 0 dX12_keepsLaw_78 rfl ?_
    refine jm_aload_n (pc := 79) 0 dX12_keepsLaw_79 rfl ?_
    refine jm_getr (pc := 80) 23 dX12_keepsLaw_80 fX12_46 (cR0 hg) rfl ?_
    refine jm_iload_n (pc := 83) 1 dX12_keepsLaw_83 rfl ?_
    refine jm_iald (pc := 84) dX12_keepsLaw_84 (cR13 hg) (by decide) hg2.1 hg2.2 ?_
    refine jm_callvi (pc := 85) (As := [_]) (st := [_, _]) iX12_keeps dX12_keepsLaw_85 mX12_499 (cR0 hg) ⟨_, rfl, rfl⟩ rfl rfl (Nat.le_of_ble_eq_true rfl) h (fun z22 m21 hz23 h hm24 => ?_)
    refine jm_iast (pc := 88) dX12_keepsLaw_88 (cR13 hg) (by decide) hg2.1 hg2.2 hz23 ?_
    have h := h _ rfl
    refine jm_mrI (fun hm26 => ?_)
    refine jm_iinc (pc := 89) (lv' := [(1, _), (0, _)]) 1 dX12_keepsLaw_89 rfl (by decide) rfl ?_
    refine jm_goto (pc := 92) 19 dX12_keepsLaw_92 rfl ?_
    exact jm_sub [1, 0] rfl h
theorem eX12_keepsLaw {l : Launch} {g : jm_G} {d : Nat} (hg : jm_HR g) {mu : jm_M} {Q : Option Value → jm_M → Prop} (h : jm_R l g d iX12_keeps [.ref 0, jm_i (mu.1 9 1)] mu (jm_qi fun z2 m1 => ∀ m5, m5 = jm_wr m1 9 1 z2 → jm_V l g (d + 1) iX12_keepsLaw 19 [(0, .ref 0), (1, jm_i 16)] [] m5 Q)) : jm_R l g (d + 1) iX12_keepsLaw [.ref 0] mu Q := by
  refine jm_enter [(0, .ref 0)] (by decide) (Nat.le_of_ble_eq_true rfl) rfl ?_
  refine jm_mrI (fun hm0 => ?_)
  refine jm_aload_n (pc := 0) 0 dX12_keepsLaw_0 rfl ?_
  refine jm_getr (pc := 1) 19 dX12_keepsLaw_1 fX12_34 (cR0 hg) rfl ?_
  refine jm_iconst (pc := 4) dX12_keepsLaw_4 ?_
  refine jm_aload_n (pc := 5) 0 dX12_keepsLaw_5 rfl ?_
  refine jm_aload_n (pc := 6) 0 dX12_keepsLaw_6 rfl ?_
  refine jm_getr (pc := 7) 19 dX12_keepsLaw_7 fX12_34 (cR0 hg) rfl ?_
  refine jm_iconst (pc := 10) dX12_keepsLaw_10 ?_
  refine jm_iald (pc := 11) dX12_keepsLaw_11 (cR9 hg) (by decide) (by decide) (by decide) ?_
  refine jm_callvi (pc := 12) (As := [_]) (st := [_, _]) iX12_keeps dX12_keepsLaw_12 mX12_499 (cR0 hg) ⟨_, rfl, rfl⟩ rfl rfl (Nat.le_of_ble_eq_true rfl) h (fun z2 m1 hz3 h hm4 => ?_)
  refine jm_iast (pc := 15) dX12_keepsLaw_15 (cR9 hg) (by decide) (by decide) (by decide) hz3 ?_
  have h := h _ rfl
  refine jm_mrI (fun hm6 => ?_)
  refine jm_bipush (pc := 16) dX12_keepsLaw_16 (by decide) ?_
  refine jm_istore_n (pc := 18) (lv' := [(1, _), (0, _)]) dX12_keepsLaw_18 (by decide) rfl ?_
  exact jm_sub [1, 0] rfl h
theorem dX12_keepsTold_0 : decode cX12_keepsTold 0 = .ok (.aload_n 0, 1) := by decide +kernel
theorem dX12_keepsTold_1 : decode cX12_keepsTold 1 = .ok (.aload_n 0, 1) := by decide +kernel
theorem dX12_keepsTold_2 : decode cX12_keepsTold 2 = .ok (.aload_n 0, 1) := by decide +kernel
theorem dX12_keepsTold_3 : decode cX12_keepsTold 3 = .ok (.getfield 121, 3) := by decide +kernel
theorem dX12_keepsTold_6 : decode cX12_keepsTold 6 = .ok (.invokevirtual 499, 3) := by decide +kernel
theorem dX12_keepsTold_9 : decode cX12_keepsTold 9 = .ok (.putfield 121, 3) := by decide +kernel
theorem dX12_keepsTold_12 : decode cX12_keepsTold 12 = .ok (.aload_n 0, 1) := by decide +kernel
theorem dX12_keepsTold_13 : decode cX12_keepsTold 13 = .ok (.aload_n 0, 1) := by decide +kernel
theorem dX12_keepsTold_14 : decode cX12_keepsTold 14 = .ok (.aload_n 0, 1) := by decide +kernel
theorem dX12_keepsTold_15 : decode cX12_keepsTold 15 = .ok (.getfield 112, 3) := by decide +kernel
theorem dX12_keepsTold_18 : decode cX12_keepsTold 18 = .ok (.invokevirtual 499, 3) := by decide +kernel
theorem dX12_keepsTold_21 : decode cX12_keepsTold 21 = .ok (.putfield 112, 3) := by decide +kernel
theorem dX12_keepsTold_24 : decode cX12_keepsTold 24 = .ok (.aload_n 0, 1) := by decide +kernel
theorem dX12_keepsTold_25 : decode cX12_keepsTold 25 = .ok (.aload_n 0, 1) := by decide +kernel
theorem dX12_keepsTold_26 : decode cX12_keepsTold 26 = .ok (.aload_n 0, 1) := by decide +kernel
theorem dX12_keepsTold_27 : decode cX12_keepsTold 27 = .ok (.getfield 115, 3) := by decide +kernel
theorem dX12_keepsTold_30 : decode cX12_keepsTold 30 = .ok (.invokevirtual 499, 3) := by decide +kernel
theorem dX12_keepsTold_33 : decode cX12_keepsTold 33 = .ok (.putfield 115, 3) := by decide +kernel
theorem dX12_keepsTold_36 : decode cX12_keepsTold 36 = .ok (.aload_n 0, 1) := by decide +kernel
theorem dX12_keepsTold_37 : decode cX12_keepsTold 37 = .ok (.aload_n 0, 1) := by decide +kernel
theorem dX12_keepsTold_38 : decode cX12_keepsTold 38 = .ok (.aload_n 0, 1) := by decide +kernel
theorem dX12_keepsTold_39 : decode cX12_keepsTold 39 = .ok (.getfield 118, 3) := by decide +kernel
theorem dX12_keepsTold_42 : decode cX12_keepsTold 42 = .ok (.invokevirtual 499, 3) := by decide +kernel
theorem dX12_keepsTold_45 : decode cX12_keepsTold 45 = .ok (.putfield 118, 3) := by decide +kernel
theorem dX12_keepsTold_48 : decode cX12_keepsTold 48 = .ok (.aload_n 0, 1) := by decide +kernel
theorem dX12_keepsTold_49 : decode cX12_keepsTold 49 = .ok (.aload_n 0, 1) := by decide +kernel
theorem dX12_keepsTold_50 : decode cX12_keepsTold 50 = .ok (.aload_n 0, 1) := by decide +kernel
theorem dX12_keepsTold_51 : decode cX12_keepsTold 51 = .ok (.getfield 290, 3) := by decide +kernel
theorem dX12_keepsTold_54 : decode cX12_keepsTold 54 = .ok (.invokevirtual 499, 3) := by decide +kernel
theorem dX12_keepsTold_57 : decode cX12_keepsTold 57 = .ok (.putfield 290, 3) := by decide +kernel
theorem dX12_keepsTold_60 : decode cX12_keepsTold 60 = .ok (.aload_n 0, 1) := by decide +kernel
theorem dX12_keepsTold_61 : decode cX12_keepsTold 61 = .ok (.aload_n 0, 1) := by decide +kernel
theorem dX12_keepsTold_62 : decode cX12_keepsTold 62 = .ok (.aload_n 0, 1) := by decide +kernel
theorem dX12_keepsTold_63 : decode cX12_keepsTold 63 = .ok (.getfield 293, 3) := by decide +kernel
theorem dX12_keepsTold_66 : decode cX12_keepsTold 66 = .ok (.invokevirtual 499, 3) := by decide +kernel
theorem dX12_keepsTold_69 : decode cX12_keepsTold 69 = .ok (.putfield 293, 3) := by decide +kernel
theorem dX12_keepsTold_72 : decode cX12_keepsTold 72 = .ok (.aload_n 0, 1) := by decide +kernel
theorem dX12_keepsTold_73 : decode cX12_keepsTold 73 = .ok (.aload_n 0, 1) := by decide +kernel
theorem dX12_keepsTold_74 : decode cX12_keepsTold 74 = .ok (.aload_n 0, 1) := by decide +kernel
theorem dX12_keepsTold_75 : decode cX12_keepsTold 75 = .ok (.getfield 425, 3) := by decide +kernel
theorem dX12_keepsTold_78 : decode cX12_keepsTold 78 = .ok (.invokevirtual 499, 3) := by decide +kernel
theorem dX12_keepsTold_81 : decode cX12_keepsTold 81 = .ok (.putfield 425, 3) := by decide +kernel
theorem dX12_keepsTold_84 : decode cX12_keepsTold 84 = .ok (.iconst 0, 1) := by decide +kernel
theorem dX12_keepsTold_85 : decode cX12_keepsTold 85 = .ok (.istore_n 1, 1) := by decide +kernel
theorem dX12_keepsTold_86 : decode cX12_keepsTold 86 = .ok (.iload_n 1, 1) := by decide +kernel
theorem dX12_keepsTold_87 : decode cX12_keepsTold 87 = .ok (.bipush 8, 2) := by decide +kernel
theorem dX12_keepsTold_89 : decode cX12_keepsTold 89 = .ok (.if_icmp .ge 57, 3) := by decide +kernel
theorem dX12_keepsTold_92 : decode cX12_keepsTold 92 = .ok (.aload_n 0, 1) := by decide +kernel
theorem dX12_keepsTold_93 : decode cX12_keepsTold 93 = .ok (.getfield 16, 3) := by decide +kernel
theorem dX12_keepsTold_96 : decode cX12_keepsTold 96 = .ok (.iload_n 1, 1) := by decide +kernel
theorem dX12_keepsTold_97 : decode cX12_keepsTold 97 = .ok (.aload_n 0, 1) := by decide +kernel
theorem dX12_keepsTold_98 : decode cX12_keepsTold 98 = .ok (.aload_n 0, 1) := by decide +kernel
theorem dX12_keepsTold_99 : decode cX12_keepsTold 99 = .ok (.getfield 16, 3) := by decide +kernel
theorem dX12_keepsTold_102 : decode cX12_keepsTold 102 = .ok (.iload_n 1, 1) := by decide +kernel
theorem dX12_keepsTold_103 : decode cX12_keepsTold 103 = .ok (.iaload, 1) := by decide +kernel
theorem dX12_keepsTold_104 : decode cX12_keepsTold 104 = .ok (.invokevirtual 499, 3) := by decide +kernel
theorem dX12_keepsTold_107 : decode cX12_keepsTold 107 = .ok (.iastore, 1) := by decide +kernel
theorem dX12_keepsTold_108 : decode cX12_keepsTold 108 = .ok (.aload_n 0, 1) := by decide +kernel
theorem dX12_keepsTold_109 : decode cX12_keepsTold 109 = .ok (.getfield 19, 3) := by decide +kernel
theorem dX12_keepsTold_112 : decode cX12_keepsTold 112 = .ok (.iload_n 1, 1) := by decide +kernel
theorem dX12_keepsTold_113 : decode cX12_keepsTold 113 = .ok (.aload_n 0, 1) := by decide +kernel
theorem dX12_keepsTold_114 : decode cX12_keepsTold 114 = .ok (.aload_n 0, 1) := by decide +kernel
theorem dX12_keepsTold_115 : decode cX12_keepsTold 115 = .ok (.getfield 19, 3) := by decide +kernel
theorem dX12_keepsTold_118 : decode cX12_keepsTold 118 = .ok (.iload_n 1, 1) := by decide +kernel
theorem dX12_keepsTold_119 : decode cX12_keepsTold 119 = .ok (.iaload, 1) := by decide +kernel
theorem dX12_keepsTold_120 : decode cX12_keepsTold 120 = .ok (.invokevirtual 499, 3) := by decide +kernel
theorem dX12_keepsTold_123 : decode cX12_keepsTold 123 = .ok (.iastore, 1) := by decide +kernel
theorem dX12_keepsTold_124 : decode cX12_keepsTold 124 = .ok (.aload_n 0, 1) := by decide +kernel
theorem dX12_keepsTold_125 : decode cX12_keepsTold 125 = .ok (.getfield 22, 3) := by decide +kernel
theorem dX12_keepsTold_128 : decode cX12_keepsTold 128 = .ok (.iload_n 1, 1) := by decide +kernel
theorem dX12_keepsTold_129 : decode cX12_keepsTold 129 = .ok (.aload_n 0, 1) := by decide +kernel
theorem dX12_keepsTold_130 : decode cX12_keepsTold 130 = .ok (.aload_n 0, 1) := by decide +kernel
theorem dX12_keepsTold_131 : decode cX12_keepsTold 131 = .ok (.getfield 22, 3) := by decide +kernel
theorem dX12_keepsTold_134 : decode cX12_keepsTold 134 = .ok (.iload_n 1, 1) := by decide +kernel
theorem dX12_keepsTold_135 : decode cX12_keepsTold 135 = .ok (.iaload, 1) := by decide +kernel
theorem dX12_keepsTold_136 : decode cX12_keepsTold 136 = .ok (.invokevirtual 499, 3) := by decide +kernel
theorem dX12_keepsTold_139 : decode cX12_keepsTold 139 = .ok (.iastore, 1) := by decide +kernel
theorem dX12_keepsTold_140 : decode cX12_keepsTold 140 = .ok (.iinc 1 1, 3) := by decide +kernel
theorem dX12_keepsTold_143 : decode cX12_keepsTold 143 = .ok (.goto (-57), 3) := by decide +kernel
theorem dX12_keepsTold_146 : decode cX12_keepsTold 146 = .ok (.iconst 0, 1) := by decide +kernel
theorem dX12_keepsTold_147 : decode cX12_keepsTold 147 = .ok (.istore_n 1, 1) := by decide +kernel
theorem dX12_keepsTold_148 : decode cX12_keepsTold 148 = .ok (.iload_n 1, 1) := by decide +kernel
theorem dX12_keepsTold_149 : decode cX12_keepsTold 149 = .ok (.bipush 48, 2) := by decide +kernel
theorem dX12_keepsTold_151 : decode cX12_keepsTold 151 = .ok (.if_icmp .ge 25, 3) := by decide +kernel
theorem dX12_keepsTold_154 : decode cX12_keepsTold 154 = .ok (.aload_n 0, 1) := by decide +kernel
theorem dX12_keepsTold_155 : decode cX12_keepsTold 155 = .ok (.getfield 25, 3) := by decide +kernel
theorem dX12_keepsTold_158 : decode cX12_keepsTold 158 = .ok (.iload_n 1, 1) := by decide +kernel
theorem dX12_keepsTold_159 : decode cX12_keepsTold 159 = .ok (.aload_n 0, 1) := by decide +kernel
theorem dX12_keepsTold_160 : decode cX12_keepsTold 160 = .ok (.aload_n 0, 1) := by decide +kernel
theorem dX12_keepsTold_161 : decode cX12_keepsTold 161 = .ok (.getfield 25, 3) := by decide +kernel
theorem dX12_keepsTold_164 : decode cX12_keepsTold 164 = .ok (.iload_n 1, 1) := by decide +kernel
theorem dX12_keepsTold_165 : decode cX12_keepsTold 165 = .ok (.iaload, 1) := by decide +kernel
theorem dX12_keepsTold_166 : decode cX12_keepsTold 166 = .ok (.invokevirtual 499, 3) := by decide +kernel
theorem dX12_keepsTold_169 : decode cX12_keepsTold 169 = .ok (.iastore, 1) := by decide +kernel
theorem dX12_keepsTold_170 : decode cX12_keepsTold 170 = .ok (.iinc 1 1, 3) := by decide +kernel
theorem dX12_keepsTold_173 : decode cX12_keepsTold 173 = .ok (.goto (-25), 3) := by decide +kernel
theorem dX12_keepsTold_176 : decode cX12_keepsTold 176 = .ok (.iconst 0, 1) := by decide +kernel
theorem dX12_keepsTold_177 : decode cX12_keepsTold 177 = .ok (.istore_n 1, 1) := by decide +kernel
theorem dX12_keepsTold_178 : decode cX12_keepsTold 178 = .ok (.iload_n 1, 1) := by decide +kernel
theorem dX12_keepsTold_179 : decode cX12_keepsTold 179 = .ok (.bipush 12, 2) := by decide +kernel
theorem dX12_keepsTold_181 : decode cX12_keepsTold 181 = .ok (.if_icmp .ge 25, 3) := by decide +kernel
theorem dX12_keepsTold_184 : decode cX12_keepsTold 184 = .ok (.aload_n 0, 1) := by decide +kernel
theorem dX12_keepsTold_185 : decode cX12_keepsTold 185 = .ok (.getfield 95, 3) := by decide +kernel
theorem dX12_keepsTold_188 : decode cX12_keepsTold 188 = .ok (.iload_n 1, 1) := by decide +kernel
theorem dX12_keepsTold_189 : decode cX12_keepsTold 189 = .ok (.aload_n 0, 1) := by decide +kernel
theorem dX12_keepsTold_190 : decode cX12_keepsTold 190 = .ok (.aload_n 0, 1) := by decide +kernel
theorem dX12_keepsTold_191 : decode cX12_keepsTold 191 = .ok (.getfield 95, 3) := by decide +kernel
theorem dX12_keepsTold_194 : decode cX12_keepsTold 194 = .ok (.iload_n 1, 1) := by decide +kernel
theorem dX12_keepsTold_195 : decode cX12_keepsTold 195 = .ok (.iaload, 1) := by decide +kernel
theorem dX12_keepsTold_196 : decode cX12_keepsTold 196 = .ok (.invokevirtual 499, 3) := by decide +kernel
theorem dX12_keepsTold_199 : decode cX12_keepsTold 199 = .ok (.iastore, 1) := by decide +kernel
theorem dX12_keepsTold_200 : decode cX12_keepsTold 200 = .ok (.iinc 1 1, 3) := by decide +kernel
theorem dX12_keepsTold_203 : decode cX12_keepsTold 203 = .ok (.goto (-25), 3) := by decide +kernel
theorem dX12_keepsTold_206 : decode cX12_keepsTold 206 = .ok (.iconst 0, 1) := by decide +kernel
theorem dX12_keepsTold_207 : decode cX12_keepsTold 207 = .ok (.istore_n 1, 1) := by decide +kernel
theorem dX12_keepsTold_208 : decode cX12_keepsTold 208 = .ok (.iload_n 1, 1) := by decide +kernel
theorem dX12_keepsTold_209 : decode cX12_keepsTold 209 = .ok (.sipush 192, 3) := by decide +kernel
theorem dX12_keepsTold_212 : decode cX12_keepsTold 212 = .ok (.if_icmp .ge 25, 3) := by decide +kernel
theorem dX12_keepsTold_215 : decode cX12_keepsTold 215 = .ok (.aload_n 0, 1) := by decide +kernel
theorem dX12_keepsTold_216 : decode cX12_keepsTold 216 = .ok (.getfield 62, 3) := by decide +kernel
theorem dX12_keepsTold_219 : decode cX12_keepsTold 219 = .ok (.iload_n 1, 1) := by decide +kernel
theorem dX12_keepsTold_220 : decode cX12_keepsTold 220 = .ok (.aload_n 0, 1) := by decide +kernel
theorem dX12_keepsTold_221 : decode cX12_keepsTold 221 = .ok (.aload_n 0, 1) := by decide +kernel
theorem dX12_keepsTold_222 : decode cX12_keepsTold 222 = .ok (.getfield 62, 3) := by decide +kernel
theorem dX12_keepsTold_225 : decode cX12_keepsTold 225 = .ok (.iload_n 1, 1) := by decide +kernel
theorem dX12_keepsTold_226 : decode cX12_keepsTold 226 = .ok (.iaload, 1) := by decide +kernel
theorem dX12_keepsTold_227 : decode cX12_keepsTold 227 = .ok (.invokevirtual 499, 3) := by decide +kernel
theorem dX12_keepsTold_230 : decode cX12_keepsTold 230 = .ok (.iastore, 1) := by decide +kernel
theorem dX12_keepsTold_231 : decode cX12_keepsTold 231 = .ok (.iinc 1 1, 3) := by decide +kernel
theorem dX12_keepsTold_234 : decode cX12_keepsTold 234 = .ok (.goto (-26), 3) := by decide +kernel
theorem dX12_keepsTold_237 : decode cX12_keepsTold 237 = .ok (.iconst 0, 1) := by decide +kernel
theorem dX12_keepsTold_238 : decode cX12_keepsTold 238 = .ok (.istore_n 1, 1) := by decide +kernel
theorem dX12_keepsTold_239 : decode cX12_keepsTold 239 = .ok (.iload_n 1, 1) := by decide +kernel
theorem dX12_keepsTold_240 : decode cX12_keepsTold 240 = .ok (.sipush 240, 3) := by decide +kernel
theorem dX12_keepsTold_243 : decode cX12_keepsTold 243 = .ok (.if_icmp .ge 25, 3) := by decide +kernel
theorem dX12_keepsTold_246 : decode cX12_keepsTold 246 = .ok (.aload_n 0, 1) := by decide +kernel
theorem dX12_keepsTold_247 : decode cX12_keepsTold 247 = .ok (.getfield 68, 3) := by decide +kernel
theorem dX12_keepsTold_250 : decode cX12_keepsTold 250 = .ok (.iload_n 1, 1) := by decide +kernel
theorem dX12_keepsTold_251 : decode cX12_keepsTold 251 = .ok (.aload_n 0, 1) := by decide +kernel
theorem dX12_keepsTold_252 : decode cX12_keepsTold 252 = .ok (.aload_n 0, 1) := by decide +kernel
theorem dX12_keepsTold_253 : decode cX12_keepsTold 253 = .ok (.getfield 68, 3) := by decide +kernel
theorem dX12_keepsTold_256 : decode cX12_keepsTold 256 = .ok (.iload_n 1, 1) := by decide +kernel
theorem dX12_keepsTold_257 : decode cX12_keepsTold 257 = .ok (.iaload, 1) := by decide +kernel
theorem dX12_keepsTold_258 : decode cX12_keepsTold 258 = .ok (.invokevirtual 499, 3) := by decide +kernel
theorem dX12_keepsTold_261 : decode cX12_keepsTold 261 = .ok (.iastore, 1) := by decide +kernel
theorem dX12_keepsTold_262 : decode cX12_keepsTold 262 = .ok (.iinc 1 1, 3) := by decide +kernel
theorem dX12_keepsTold_265 : decode cX12_keepsTold 265 = .ok (.goto (-26), 3) := by decide +kernel
theorem dX12_keepsTold_268 : decode cX12_keepsTold 268 = .ok (.return_, 1) := by decide +kernel
theorem bX12_keepsTold_239 {l : Launch} {g : jm_G} {d : Nat} {v1 : Int} (hg : jm_HR g) {mu : jm_M} {Q : Option Value → jm_M → Prop} (h : jm_rg v1 ∧ (240 ≤ v1 → Q none mu) ∧ (v1 < 240 → (0 ≤ v1 ∧ v1 < 480) ∧ jm_R l g d iX12_keeps [.ref 0, jm_i (mu.1 19 v1)] mu (jm_qi fun z4 m3 => ∀ m7, m7 = jm_wr m3 19 v1 z4 → jm_V l g (d + 1) iX12_keepsTold 239 [(0, .ref 0), (1, jm_i (v1 + 1))] [] m7 Q))) : jm_V l g (d + 1) iX12_keepsTold 239 [(0, .ref 0), (1, jm_i v1)] [] mu Q := by
  refine jm_mrI (fun hm0 => ?_)
  refine jm_iload_n (pc := 239) 1 dX12_keepsTold_239 rfl ?_
  refine jm_sipush (pc := 240) dX12_keepsTold_240 (by decide) ?_
  have hg1 := h.1
  have h := h.2
  refine jm_icmp_ge (pc := 243) 268 dX12_keepsTold_243 rfl hg1 ⟨by decide, by decide⟩ (fun q => ?_) (fun q => ?_)
  · have h := h.1 q
    exact jm_vret (pc := 268) dX12_keepsTold_268 rfl h
  · have h := h.2 q
    refine jm_aload_n (pc := 246) 0 dX12_keepsTold_246 rfl ?_
    refine jm_getr (pc := 247) 40 dX12_keepsTold_247 fX12_68 (cR0 hg) rfl ?_
    refine jm_iload_n (pc := 250) 1 dX12_keepsTold_250 rfl ?_
    refine jm_aload_n (pc := 251) 0 dX12_keepsTold_251 rfl ?_
    refine jm_aload_n (pc := 252) 0 dX12_keepsTold_252 rfl ?_
    refine jm_getr (pc := 253) 40 dX12_keepsTold_253 fX12_68 (cR0 hg) rfl ?_
    refine jm_iload_n (pc := 256) 1 dX12_keepsTold_256 rfl ?_
    have hg2 := h.1
    have h := h.2
    refine jm_iald (pc := 257) dX12_keepsTold_257 (cR19 hg) (by decide) hg2.1 hg2.2 ?_
    refine jm_callvi (pc := 258) (As := [_]) (st := [_, _]) iX12_keeps dX12_keepsTold_258 mX12_499 (cR0 hg) ⟨_, rfl, rfl⟩ rfl rfl (Nat.le_of_ble_eq_true rfl) h (fun z4 m3 hz5 h hm6 => ?_)
    refine jm_iast (pc := 261) dX12_keepsTold_261 (cR19 hg) (by decide) hg2.1 hg2.2 hz5 ?_
    have h := h _ rfl
    refine jm_mrI (fun hm8 => ?_)
    refine jm_iinc (pc := 262) (lv' := [(1, _), (0, _)]) 1 dX12_keepsTold_262 rfl (by decide) rfl ?_
    refine jm_goto (pc := 265) 239 dX12_keepsTold_265 rfl ?_
    exact jm_sub [1, 0] rfl h
theorem bX12_keepsTold_208 {l : Launch} {g : jm_G} {d : Nat} {v1 : Int} (hg : jm_HR g) {mu : jm_M} {Q : Option Value → jm_M → Prop} (h : jm_rg v1 ∧ (192 ≤ v1 → jm_V l g (d + 1) iX12_keepsTold 239 [(0, .ref 0), (1, jm_i 0)] [] mu Q) ∧ (v1 < 192 → (0 ≤ v1 ∧ v1 < 384) ∧ jm_R l g d iX12_keeps [.ref 0, jm_i (mu.1 17 v1)] mu (jm_qi fun z4 m3 => ∀ m7, m7 = jm_wr m3 17 v1 z4 → jm_V l g (d + 1) iX12_keepsTold 208 [(0, .ref 0), (1, jm_i (v1 + 1))] [] m7 Q))) : jm_V l g (d + 1) iX12_keepsTold 208 [(0, .ref 0), (1, jm_i v1)] [] mu Q := by
  refine jm_mrI (fun hm0 => ?_)
  refine jm_iload_n (pc := 208) 1 dX12_keepsTold_208 rfl ?_
  refine jm_sipush (pc := 209) dX12_keepsTold_209 (by decide) ?_
  have hg1 := h.1
  have h := h.2
  refine jm_icmp_ge (pc := 212) 237 dX12_keepsTold_212 rfl hg1 ⟨by decide, by decide⟩ (fun q => ?_) (fun q => ?_)
  · have h := h.1 q
    refine jm_iconst (pc := 237) dX12_keepsTold_237 ?_
    refine jm_istore_n (pc := 238) (lv' := [(1, _), (0, _)]) dX12_keepsTold_238 (by decide) rfl ?_
    exact jm_sub [1, 0] rfl h
  · have h := h.2 q
    refine jm_aload_n (pc := 215) 0 dX12_keepsTold_215 rfl ?_
    refine jm_getr (pc := 216) 36 dX12_keepsTold_216 fX12_62 (cR0 hg) rfl ?_
    refine jm_iload_n (pc := 219) 1 dX12_keepsTold_219 rfl ?_
    refine jm_aload_n (pc := 220) 0 dX12_keepsTold_220 rfl ?_
    refine jm_aload_n (pc := 221) 0 dX12_keepsTold_221 rfl ?_
    refine jm_getr (pc := 222) 36 dX12_keepsTold_222 fX12_62 (cR0 hg) rfl ?_
    refine jm_iload_n (pc := 225) 1 dX12_keepsTold_225 rfl ?_
    have hg2 := h.1
    have h := h.2
    refine jm_iald (pc := 226) dX12_keepsTold_226 (cR17 hg) (by decide) hg2.1 hg2.2 ?_
    refine jm_callvi (pc := 227) (As := [_]) (st := [_, _]) iX12_keeps dX12_keepsTold_227 mX12_499 (cR0 hg) ⟨_, rfl, rfl⟩ rfl rfl (Nat.le_of_ble_eq_true rfl) h (fun z4 m3 hz5 h hm6 => ?_)
    refine jm_iast (pc := 230) dX12_keepsTold_230 (cR17 hg) (by decide) hg2.1 hg2.2 hz5 ?_
    have h := h _ rfl
    refine jm_mrI (fun hm8 => ?_)
    refine jm_iinc (pc := 231) (lv' := [(1, _), (0, _)]) 1 dX12_keepsTold_231 rfl (by decide) rfl ?_
    refine jm_goto (pc := 234) 208 dX12_keepsTold_234 rfl ?_
    exact jm_sub [1, 0] rfl h
theorem bX12_keepsTold_178 {l : Launch} {g : jm_G} {d : Nat} {v1 : Int} (hg : jm_HR g) {mu : jm_M} {Q : Option Value → jm_M → Prop} (h : jm_rg v1 ∧ (12 ≤ v1 → jm_V l g (d + 1) iX12_keepsTold 208 [(0, .ref 0), (1, jm_i 0)] [] mu Q) ∧ (v1 < 12 → (0 ≤ v1 ∧ v1 < 12) ∧ jm_R l g d iX12_keeps [.ref 0, jm_i (mu.1 28 v1)] mu (jm_qi fun z4 m3 => ∀ m7, m7 = jm_wr m3 28 v1 z4 → jm_V l g (d + 1) iX12_keepsTold 178 [(0, .ref 0), (1, jm_i (v1 + 1))] [] m7 Q))) : jm_V l g (d + 1) iX12_keepsTold 178 [(0, .ref 0), (1, jm_i v1)] [] mu Q := by
  refine jm_mrI (fun hm0 => ?_)
  refine jm_iload_n (pc := 178) 1 dX12_keepsTold_178 rfl ?_
  refine jm_bipush (pc := 179) dX12_keepsTold_179 (by decide) ?_
  have hg1 := h.1
  have h := h.2
  refine jm_icmp_ge (pc := 181) 206 dX12_keepsTold_181 rfl hg1 ⟨by decide, by decide⟩ (fun q => ?_) (fun q => ?_)
  · have h := h.1 q
    refine jm_iconst (pc := 206) dX12_keepsTold_206 ?_
    refine jm_istore_n (pc := 207) (lv' := [(1, _), (0, _)]) dX12_keepsTold_207 (by decide) rfl ?_
    exact jm_sub [1, 0] rfl h
  · have h := h.2 q
    refine jm_aload_n (pc := 184) 0 dX12_keepsTold_184 rfl ?_
    refine jm_getr (pc := 185) 53 dX12_keepsTold_185 fX12_95 (cR0 hg) rfl ?_
    refine jm_iload_n (pc := 188) 1 dX12_keepsTold_188 rfl ?_
    refine jm_aload_n (pc := 189) 0 dX12_keepsTold_189 rfl ?_
    refine jm_aload_n (pc := 190) 0 dX12_keepsTold_190 rfl ?_
    refine jm_getr (pc := 191) 53 dX12_keepsTold_191 fX12_95 (cR0 hg) rfl ?_
    refine jm_iload_n (pc := 194) 1 dX12_keepsTold_194 rfl ?_
    have hg2 := h.1
    have h := h.2
    refine jm_iald (pc := 195) dX12_keepsTold_195 (cR28 hg) (by decide) hg2.1 hg2.2 ?_
    refine jm_callvi (pc := 196) (As := [_]) (st := [_, _]) iX12_keeps dX12_keepsTold_196 mX12_499 (cR0 hg) ⟨_, rfl, rfl⟩ rfl rfl (Nat.le_of_ble_eq_true rfl) h (fun z4 m3 hz5 h hm6 => ?_)
    refine jm_iast (pc := 199) dX12_keepsTold_199 (cR28 hg) (by decide) hg2.1 hg2.2 hz5 ?_
    have h := h _ rfl
    refine jm_mrI (fun hm8 => ?_)
    refine jm_iinc (pc := 200) (lv' := [(1, _), (0, _)]) 1 dX12_keepsTold_200 rfl (by decide) rfl ?_
    refine jm_goto (pc := 203) 178 dX12_keepsTold_203 rfl ?_
    exact jm_sub [1, 0] rfl h
theorem bX12_keepsTold_148 {l : Launch} {g : jm_G} {d : Nat} {v1 : Int} (hg : jm_HR g) {mu : jm_M} {Q : Option Value → jm_M → Prop} (h : jm_rg v1 ∧ (48 ≤ v1 → jm_V l g (d + 1) iX12_keepsTold 178 [(0, .ref 0), (1, jm_i 0)] [] mu Q) ∧ (v1 < 48 → (0 ≤ v1 ∧ v1 < 48) ∧ jm_R l g d iX12_keeps [.ref 0, jm_i (mu.1 6 v1)] mu (jm_qi fun z4 m3 => ∀ m7, m7 = jm_wr m3 6 v1 z4 → jm_V l g (d + 1) iX12_keepsTold 148 [(0, .ref 0), (1, jm_i (v1 + 1))] [] m7 Q))) : jm_V l g (d + 1) iX12_keepsTold 148 [(0, .ref 0), (1, jm_i v1)] [] mu Q := by
  refine jm_mrI (fun hm0 => ?_)
  refine jm_iload_n (pc := 148) 1 dX12_keepsTold_148 rfl ?_
  refine jm_bipush (pc := 149) dX12_keepsTold_149 (by decide) ?_
  have hg1 := h.1
  have h := h.2
  refine jm_icmp_ge (pc := 151) 176 dX12_keepsTold_151 rfl hg1 ⟨by decide, by decide⟩ (fun q => ?_) (fun q => ?_)
  · have h := h.1 q
    refine jm_iconst (pc := 176) dX12_keepsTold_176 ?_
    refine jm_istore_n (pc := 177) (lv' := [(1, _), (0, _)]) dX12_keepsTold_177 (by decide) rfl ?_
    exact jm_sub [1, 0] rfl h
  · have h := h.2 q
    refine jm_aload_n (pc := 154) 0 dX12_keepsTold_154 rfl ?_
    refine jm_getr (pc := 155) 8 dX12_keepsTold_155 fX12_25 (cR0 hg) rfl ?_
    refine jm_iload_n (pc := 158) 1 dX12_keepsTold_158 rfl ?_
    refine jm_aload_n (pc := 159) 0 dX12_keepsTold_159 rfl ?_
    refine jm_aload_n (pc := 160) 0 dX12_keepsTold_160 rfl ?_
    refine jm_getr (pc := 161) 8 dX12_keepsTold_161 fX12_25 (cR0 hg) rfl ?_
    refine jm_iload_n (pc := 164) 1 dX12_keepsTold_164 rfl ?_
    have hg2 := h.1
    have h := h.2
    refine jm_iald (pc := 165) dX12_keepsTold_165 (cR6 hg) (by decide) hg2.1 hg2.2 ?_
    refine jm_callvi (pc := 166) (As := [_]) (st := [_, _]) iX12_keeps dX12_keepsTold_166 mX12_499 (cR0 hg) ⟨_, rfl, rfl⟩ rfl rfl (Nat.le_of_ble_eq_true rfl) h (fun z4 m3 hz5 h hm6 => ?_)
    refine jm_iast (pc := 169) dX12_keepsTold_169 (cR6 hg) (by decide) hg2.1 hg2.2 hz5 ?_
    have h := h _ rfl
    refine jm_mrI (fun hm8 => ?_)
    refine jm_iinc (pc := 170) (lv' := [(1, _), (0, _)]) 1 dX12_keepsTold_170 rfl (by decide) rfl ?_
    refine jm_goto (pc := 173) 148 dX12_keepsTold_173 rfl ?_
    exact jm_sub [1, 0] rfl h
theorem bX12_keepsTold_86 {l : Launch} {g : jm_G} {d : Nat} {v1 : Int} (hg : jm_HR g) {mu : jm_M} {Q : Option Value → jm_M → Prop} (h : jm_rg v1 ∧ (8 ≤ v1 → jm_V l g (d + 1) iX12_keepsTold 148 [(0, .ref 0), (1, jm_i 0)] [] mu Q) ∧ (v1 < 8 → (0 ≤ v1 ∧ v1 < 8) ∧ jm_R l g d iX12_keeps [.ref 0, jm_i (mu.1 3 v1)] mu (jm_qi fun z4 m3 => ∀ m7, m7 = jm_wr m3 3 v1 z4 → jm_R l g d iX12_keeps [.ref 0, jm_i (m7.1 4 v1)] m7 (jm_qi fun z10 m9 => ∀ m13, m13 = jm_wr m9 4 v1 z10 → jm_R l g d iX12_keeps [.ref 0, jm_i (m13.1 5 v1)] m13 (jm_qi fun z16 m15 => ∀ m19, m19 = jm_wr m15 5 v1 z16 → jm_V l g (d + 1) iX12_keepsTold 86 [(0, .ref 0), (1, jm_i (v1 + 1))] [] m19 Q))))) : jm_V l g (d + 1) iX12_keepsTold 86 [(0, .ref 0), (1, jm_i v1)] [] mu Q := by
  refine jm_mrI (fun hm0 => ?_)
  refine jm_iload_n (pc := 86) 1 dX12_keepsTold_86 rfl ?_
  refine jm_bipush (pc := 87) dX12_keepsTold_87 (by decide) ?_
  have hg1 := h.1
  have h := h.2
  refine jm_icmp_ge (pc := 89) 146 dX12_keepsTold_89 rfl hg1 ⟨by decide, by decide⟩ (fun q => ?_) (fun q => ?_)
  · have h := h.1 q
    refine jm_iconst (pc := 146) dX12_keepsTold_146 ?_
    refine jm_istore_n (pc := 147) (lv' := [(1, _), (0, _)]) dX12_keepsTold_147 (by decide) rfl ?_
    exact jm_sub [1, 0] rfl h
  · have h := h.2 q
    refine jm_aload_n (pc := 92) 0 dX12_keepsTold_92 rfl ?_
    refine jm_getr (pc := 93) 5 dX12_keepsTold_93 fX12_16 (cR0 hg) rfl ?_
    refine jm_iload_n (pc := 96) 1 dX12_keepsTold_96 rfl ?_
    refine jm_aload_n (pc := 97) 0 dX12_keepsTold_97 rfl ?_
    refine jm_aload_n (pc := 98) 0 dX12_keepsTold_98 rfl ?_
    refine jm_getr (pc := 99) 5 dX12_keepsTold_99 fX12_16 (cR0 hg) rfl ?_
    refine jm_iload_n (pc := 102) 1 dX12_keepsTold_102 rfl ?_
    have hg2 := h.1
    have h := h.2
    refine jm_iald (pc := 103) dX12_keepsTold_103 (cR3 hg) (by decide) hg2.1 hg2.2 ?_
    refine jm_callvi (pc := 104) (As := [_]) (st := [_, _]) iX12_keeps dX12_keepsTold_104 mX12_499 (cR0 hg) ⟨_, rfl, rfl⟩ rfl rfl (Nat.le_of_ble_eq_true rfl) h (fun z4 m3 hz5 h hm6 => ?_)
    refine jm_iast (pc := 107) dX12_keepsTold_107 (cR3 hg) (by decide) hg2.1 hg2.2 hz5 ?_
    have h := h _ rfl
    refine jm_mrI (fun hm8 => ?_)
    refine jm_aload_n (pc := 108) 0 dX12_keepsTold_108 rfl ?_
    refine jm_getr (pc := 109) 6 dX12_keepsTold_109 fX12_19 (cR0 hg) rfl ?_
    refine jm_iload_n (pc := 112) 1 dX12_keepsTold_112 rfl ?_
    refine jm_aload_n (pc := 113) 0 dX12_keepsTold_113 rfl ?_
    refine jm_aload_n (pc := 114) 0 dX12_keepsTold_114 rfl ?_
    refine jm_getr (pc := 115) 6 dX12_keepsTold_115 fX12_19 (cR0 hg) rfl ?_
    refine jm_iload_n (pc := 118) 1 dX12_keepsTold_118 rfl ?_
    refine jm_iald (pc := 119) dX12_keepsTold_119 (cR4 hg) (by decide) hg2.1 hg2.2 ?_
    refine jm_callvi (pc := 120) (As := [_]) (st := [_, _]) iX12_keeps dX12_keepsTold_120 mX12_499 (cR0 hg) ⟨_, rfl, rfl⟩ rfl rfl (Nat.le_of_ble_eq_true rfl) h (fun z10 m9 hz11 h hm12 => ?_)
    refine jm_iast (pc := 123) dX12_keepsTold_123 (cR4 hg) (by decide) hg2.1 hg2.2 hz11 ?_
    have h := h _ rfl
    refine jm_mrI (fun hm14 => ?_)
    refine jm_aload_n (pc := 124) 0 dX12_keepsTold_124 rfl ?_
    refine jm_getr (pc := 125) 7 dX12_keepsTold_125 fX12_22 (cR0 hg) rfl ?_
    refine jm_iload_n (pc := 128) 1 dX12_keepsTold_128 rfl ?_
    refine jm_aload_n (pc := 129) 0 dX12_keepsTold_129 rfl ?_
    refine jm_aload_n (pc := 130) 0 dX12_keepsTold_130 rfl ?_
    refine jm_getr (pc := 131) 7 dX12_keepsTold_131 fX12_22 (cR0 hg) rfl ?_
    refine jm_iload_n (pc := 134) 1 dX12_keepsTold_134 rfl ?_
    refine jm_iald (pc := 135) dX12_keepsTold_135 (cR5 hg) (by decide) hg2.1 hg2.2 ?_
    refine jm_callvi (pc := 136) (As := [_]) (st := [_, _]) iX12_keeps dX12_keepsTold_136 mX12_499 (cR0 hg) ⟨_, rfl, rfl⟩ rfl rfl (Nat.le_of_ble_eq_true rfl) h (fun z16 m15 hz17 h hm18 => ?_)
    refine jm_iast (pc := 139) dX12_keepsTold_139 (cR5 hg) (by decide) hg2.1 hg2.2 hz17 ?_
    have h := h _ rfl
    refine jm_mrI (fun hm20 => ?_)
    refine jm_iinc (pc := 140) (lv' := [(1, _), (0, _)]) 1 dX12_keepsTold_140 rfl (by decide) rfl ?_
    refine jm_goto (pc := 143) 86 dX12_keepsTold_143 rfl ?_
    exact jm_sub [1, 0] rfl h
theorem eX12_keepsTold {l : Launch} {g : jm_G} {d : Nat} (hg : jm_HR g) {mu : jm_M} {Q : Option Value → jm_M → Prop} (h : jm_R l g d iX12_keeps [.ref 0, jm_i (mu.1 0 4)] mu (jm_qi fun z2 m1 => ∀ m5, m5 = jm_wr m1 0 4 z2 → jm_R l g d iX12_keeps [.ref 0, jm_i (m5.1 0 9)] m5 (jm_qi fun z8 m7 => ∀ m11, m11 = jm_wr m7 0 9 z8 → jm_R l g d iX12_keeps [.ref 0, jm_i (m11.1 0 10)] m11 (jm_qi fun z14 m13 => ∀ m17, m17 = jm_wr m13 0 10 z14 → jm_R l g d iX12_keeps [.ref 0, jm_i (m17.1 0 11)] m17 (jm_qi fun z20 m19 => ∀ m23, m23 = jm_wr m19 0 11 z20 → jm_R l g d iX12_keeps [.ref 0, jm_i (m23.1 0 35)] m23 (jm_qi fun z26 m25 => ∀ m29, m29 = jm_wr m25 0 35 z26 → jm_R l g d iX12_keeps [.ref 0, jm_i (m29.1 0 39)] m29 (jm_qi fun z32 m31 => ∀ m35, m35 = jm_wr m31 0 39 z32 → jm_R l g d iX12_keeps [.ref 0, jm_i (m35.1 0 52)] m35 (jm_qi fun z38 m37 => ∀ m41, m41 = jm_wr m37 0 52 z38 → jm_V l g (d + 1) iX12_keepsTold 86 [(0, .ref 0), (1, jm_i 0)] [] m41 Q)))))))) : jm_R l g (d + 1) iX12_keepsTold [.ref 0] mu Q := by
  refine jm_enter [(0, .ref 0)] (by decide) (Nat.le_of_ble_eq_true rfl) rfl ?_
  refine jm_mrI (fun hm0 => ?_)
  refine jm_aload_n (pc := 0) 0 dX12_keepsTold_0 rfl ?_
  refine jm_aload_n (pc := 1) 0 dX12_keepsTold_1 rfl ?_
  refine jm_aload_n (pc := 2) 0 dX12_keepsTold_2 rfl ?_
  refine jm_geti (pc := 3) 4 dX12_keepsTold_3 fX12_121 (cR0 hg) rfl ?_
  refine jm_callvi (pc := 6) (As := [_]) (st := [_]) iX12_keeps dX12_keepsTold_6 mX12_499 (cR0 hg) ⟨_, rfl, rfl⟩ rfl rfl (Nat.le_of_ble_eq_true rfl) h (fun z2 m1 hz3 h hm4 => ?_)
  refine jm_put (pc := 9) 4 dX12_keepsTold_9 fX12_121 ftX12 (fun q h => by cases h; rfl) (jm_nI _) (jm_fI _) (cR0 hg) rfl hz3 ?_
  have h := h _ rfl
  refine jm_mrI (fun hm6 => ?_)
  refine jm_aload_n (pc := 12) 0 dX12_keepsTold_12 rfl ?_
  refine jm_aload_n (pc := 13) 0 dX12_keepsTold_13 rfl ?_
  refine jm_aload_n (pc := 14) 0 dX12_keepsTold_14 rfl ?_
  refine jm_geti (pc := 15) 9 dX12_keepsTold_15 fX12_112 (cR0 hg) rfl ?_
  refine jm_callvi (pc := 18) (As := [_]) (st := [_]) iX12_keeps dX12_keepsTold_18 mX12_499 (cR0 hg) ⟨_, rfl, rfl⟩ rfl rfl (Nat.le_of_ble_eq_true rfl) h (fun z8 m7 hz9 h hm10 => ?_)
  refine jm_put (pc := 21) 9 dX12_keepsTold_21 fX12_112 ftX12 (fun q h => by cases h; rfl) (jm_nI _) (jm_fI _) (cR0 hg) rfl hz9 ?_
  have h := h _ rfl
  refine jm_mrI (fun hm12 => ?_)
  refine jm_aload_n (pc := 24) 0 dX12_keepsTold_24 rfl ?_
  refine jm_aload_n (pc := 25) 0 dX12_keepsTold_25 rfl ?_
  refine jm_aload_n (pc := 26) 0 dX12_keepsTold_26 rfl ?_
  refine jm_geti (pc := 27) 10 dX12_keepsTold_27 fX12_115 (cR0 hg) rfl ?_
  refine jm_callvi (pc := 30) (As := [_]) (st := [_]) iX12_keeps dX12_keepsTold_30 mX12_499 (cR0 hg) ⟨_, rfl, rfl⟩ rfl rfl (Nat.le_of_ble_eq_true rfl) h (fun z14 m13 hz15 h hm16 => ?_)
  refine jm_put (pc := 33) 10 dX12_keepsTold_33 fX12_115 ftX12 (fun q h => by cases h; rfl) (jm_nI _) (jm_fI _) (cR0 hg) rfl hz15 ?_
  have h := h _ rfl
  refine jm_mrI (fun hm18 => ?_)
  refine jm_aload_n (pc := 36) 0 dX12_keepsTold_36 rfl ?_
  refine jm_aload_n (pc := 37) 0 dX12_keepsTold_37 rfl ?_
  refine jm_aload_n (pc := 38) 0 dX12_keepsTold_38 rfl ?_
  refine jm_geti (pc := 39) 11 dX12_keepsTold_39 fX12_118 (cR0 hg) rfl ?_
  refine jm_callvi (pc := 42) (As := [_]) (st := [_]) iX12_keeps dX12_keepsTold_42 mX12_499 (cR0 hg) ⟨_, rfl, rfl⟩ rfl rfl (Nat.le_of_ble_eq_true rfl) h (fun z20 m19 hz21 h hm22 => ?_)
  refine jm_put (pc := 45) 11 dX12_keepsTold_45 fX12_118 ftX12 (fun q h => by cases h; rfl) (jm_nI _) (jm_fI _) (cR0 hg) rfl hz21 ?_
  have h := h _ rfl
  refine jm_mrI (fun hm24 => ?_)
  refine jm_aload_n (pc := 48) 0 dX12_keepsTold_48 rfl ?_
  refine jm_aload_n (pc := 49) 0 dX12_keepsTold_49 rfl ?_
  refine jm_aload_n (pc := 50) 0 dX12_keepsTold_50 rfl ?_
  refine jm_geti (pc := 51) 35 dX12_keepsTold_51 fX12_290 (cR0 hg) rfl ?_
  refine jm_callvi (pc := 54) (As := [_]) (st := [_]) iX12_keeps dX12_keepsTold_54 mX12_499 (cR0 hg) ⟨_, rfl, rfl⟩ rfl rfl (Nat.le_of_ble_eq_true rfl) h (fun z26 m25 hz27 h hm28 => ?_)
  refine jm_put (pc := 57) 35 dX12_keepsTold_57 fX12_290 ftX12 (fun q h => by cases h; rfl) (jm_nI _) (jm_fI _) (cR0 hg) rfl hz27 ?_
  have h := h _ rfl
  refine jm_mrI (fun hm30 => ?_)
  refine jm_aload_n (pc := 60) 0 dX12_keepsTold_60 rfl ?_
  refine jm_aload_n (pc := 61) 0 dX12_keepsTold_61 rfl ?_
  refine jm_aload_n (pc := 62) 0 dX12_keepsTold_62 rfl ?_
  refine jm_geti (pc := 63) 39 dX12_keepsTold_63 fX12_293 (cR0 hg) rfl ?_
  refine jm_callvi (pc := 66) (As := [_]) (st := [_]) iX12_keeps dX12_keepsTold_66 mX12_499 (cR0 hg) ⟨_, rfl, rfl⟩ rfl rfl (Nat.le_of_ble_eq_true rfl) h (fun z32 m31 hz33 h hm34 => ?_)
  refine jm_put (pc := 69) 39 dX12_keepsTold_69 fX12_293 ftX12 (fun q h => by cases h; rfl) (jm_nI _) (jm_fI _) (cR0 hg) rfl hz33 ?_
  have h := h _ rfl
  refine jm_mrI (fun hm36 => ?_)
  refine jm_aload_n (pc := 72) 0 dX12_keepsTold_72 rfl ?_
  refine jm_aload_n (pc := 73) 0 dX12_keepsTold_73 rfl ?_
  refine jm_aload_n (pc := 74) 0 dX12_keepsTold_74 rfl ?_
  refine jm_geti (pc := 75) 52 dX12_keepsTold_75 fX12_425 (cR0 hg) rfl ?_
  refine jm_callvi (pc := 78) (As := [_]) (st := [_]) iX12_keeps dX12_keepsTold_78 mX12_499 (cR0 hg) ⟨_, rfl, rfl⟩ rfl rfl (Nat.le_of_ble_eq_true rfl) h (fun z38 m37 hz39 h hm40 => ?_)
  refine jm_put (pc := 81) 52 dX12_keepsTold_81 fX12_425 ftX12 (fun q h => by cases h; rfl) (jm_nI _) (jm_fI _) (cR0 hg) rfl hz39 ?_
  have h := h _ rfl
  refine jm_mrI (fun hm42 => ?_)
  refine jm_iconst (pc := 84) dX12_keepsTold_84 ?_
  refine jm_istore_n (pc := 85) (lv' := [(1, _), (0, _)]) dX12_keepsTold_85 (by decide) rfl ?_
  exact jm_sub [1, 0] rfl h
theorem dX12_image_0 : decode cX12_image 0 = .ok (.aload_n 0, 1) := by decide +kernel
theorem dX12_image_1 : decode cX12_image 1 = .ok (.iconst 0, 1) := by decide +kernel
theorem dX12_image_2 : decode cX12_image 2 = .ok (.putfield 104, 3) := by decide +kernel
theorem dX12_image_5 : decode cX12_image 5 = .ok (.iload_n 1, 1) := by decide +kernel
theorem dX12_image_6 : decode cX12_image 6 = .ok (.ifCond .ne 12, 3) := by decide +kernel
theorem dX12_image_9 : decode cX12_image 9 = .ok (.aload_n 0, 1) := by decide +kernel
theorem dX12_image_10 : decode cX12_image 10 = .ok (.getfield 502, 3) := by decide +kernel
theorem dX12_image_13 : decode cX12_image 13 = .ok (.ifCond .ne 5, 3) := by decide +kernel
theorem dX12_image_16 : decode cX12_image 16 = .ok (.iconst 0, 1) := by decide +kernel
theorem dX12_image_17 : decode cX12_image 17 = .ok (.ireturn, 1) := by decide +kernel
theorem dX12_image_18 : decode cX12_image 18 = .ok (.aload_n 0, 1) := by decide +kernel
theorem dX12_image_19 : decode cX12_image 19 = .ok (.iload_n 1, 1) := by decide +kernel
theorem dX12_image_20 : decode cX12_image 20 = .ok (.putfield 495, 3) := by decide +kernel
theorem dX12_image_23 : decode cX12_image 23 = .ok (.aload_n 0, 1) := by decide +kernel
theorem dX12_image_24 : decode cX12_image 24 = .ok (.iconst 1, 1) := by decide +kernel
theorem dX12_image_25 : decode cX12_image 25 = .ok (.putfield 502, 3) := by decide +kernel
theorem dX12_image_28 : decode cX12_image 28 = .ok (.aload_n 0, 1) := by decide +kernel
theorem dX12_image_29 : decode cX12_image 29 = .ok (.iconst 0, 1) := by decide +kernel
theorem dX12_image_30 : decode cX12_image 30 = .ok (.putfield 492, 3) := by decide +kernel
theorem dX12_image_33 : decode cX12_image 33 = .ok (.iconst 0, 1) := by decide +kernel
theorem dX12_image_34 : decode cX12_image 34 = .ok (.istore_n 2, 1) := by decide +kernel
theorem dX12_image_35 : decode cX12_image 35 = .ok (.iload_n 2, 1) := by decide +kernel
theorem dX12_image_36 : decode cX12_image 36 = .ok (.bipush 22, 2) := by decide +kernel
theorem dX12_image_38 : decode cX12_image 38 = .ok (.if_icmp .ge 25, 3) := by decide +kernel
theorem dX12_image_41 : decode cX12_image 41 = .ok (.aload_n 0, 1) := by decide +kernel
theorem dX12_image_42 : decode cX12_image 42 = .ok (.getfield 7, 3) := by decide +kernel
theorem dX12_image_45 : decode cX12_image 45 = .ok (.iload_n 2, 1) := by decide +kernel
theorem dX12_image_46 : decode cX12_image 46 = .ok (.aload_n 0, 1) := by decide +kernel
theorem dX12_image_47 : decode cX12_image 47 = .ok (.aload_n 0, 1) := by decide +kernel
theorem dX12_image_48 : decode cX12_image 48 = .ok (.getfield 7, 3) := by decide +kernel
theorem dX12_image_51 : decode cX12_image 51 = .ok (.iload_n 2, 1) := by decide +kernel
theorem dX12_image_52 : decode cX12_image 52 = .ok (.iaload, 1) := by decide +kernel
theorem dX12_image_53 : decode cX12_image 53 = .ok (.invokevirtual 499, 3) := by decide +kernel
theorem dX12_image_56 : decode cX12_image 56 = .ok (.iastore, 1) := by decide +kernel
theorem dX12_image_57 : decode cX12_image 57 = .ok (.iinc 2 1, 3) := by decide +kernel
theorem dX12_image_60 : decode cX12_image 60 = .ok (.goto (-25), 3) := by decide +kernel
theorem dX12_image_63 : decode cX12_image 63 = .ok (.aload_n 0, 1) := by decide +kernel
theorem dX12_image_64 : decode cX12_image 64 = .ok (.invokevirtual 505, 3) := by decide +kernel
theorem dX12_image_67 : decode cX12_image 67 = .ok (.iconst 0, 1) := by decide +kernel
theorem dX12_image_68 : decode cX12_image 68 = .ok (.istore_n 2, 1) := by decide +kernel
theorem dX12_image_69 : decode cX12_image 69 = .ok (.iload_n 2, 1) := by decide +kernel
theorem dX12_image_70 : decode cX12_image 70 = .ok (.bipush 120, 2) := by decide +kernel
theorem dX12_image_72 : decode cX12_image 72 = .ok (.if_icmp .ge 25, 3) := by decide +kernel
theorem dX12_image_75 : decode cX12_image 75 = .ok (.aload_n 0, 1) := by decide +kernel
theorem dX12_image_76 : decode cX12_image 76 = .ok (.getfield 83, 3) := by decide +kernel
theorem dX12_image_79 : decode cX12_image 79 = .ok (.iload_n 2, 1) := by decide +kernel
theorem dX12_image_80 : decode cX12_image 80 = .ok (.aload_n 0, 1) := by decide +kernel
theorem dX12_image_81 : decode cX12_image 81 = .ok (.aload_n 0, 1) := by decide +kernel
theorem dX12_image_82 : decode cX12_image 82 = .ok (.getfield 83, 3) := by decide +kernel
theorem dX12_image_85 : decode cX12_image 85 = .ok (.iload_n 2, 1) := by decide +kernel
theorem dX12_image_86 : decode cX12_image 86 = .ok (.iaload, 1) := by decide +kernel
theorem dX12_image_87 : decode cX12_image 87 = .ok (.invokevirtual 499, 3) := by decide +kernel
theorem dX12_image_90 : decode cX12_image 90 = .ok (.iastore, 1) := by decide +kernel
theorem dX12_image_91 : decode cX12_image 91 = .ok (.iinc 2 1, 3) := by decide +kernel
theorem dX12_image_94 : decode cX12_image 94 = .ok (.goto (-25), 3) := by decide +kernel
theorem dX12_image_97 : decode cX12_image 97 = .ok (.iconst 0, 1) := by decide +kernel
theorem dX12_image_98 : decode cX12_image 98 = .ok (.istore_n 2, 1) := by decide +kernel
theorem dX12_image_99 : decode cX12_image 99 = .ok (.iload_n 2, 1) := by decide +kernel
theorem dX12_image_100 : decode cX12_image 100 = .ok (.sipush 200, 3) := by decide +kernel
theorem dX12_image_103 : decode cX12_image 103 = .ok (.if_icmp .ge 25, 3) := by decide +kernel
theorem dX12_image_106 : decode cX12_image 106 = .ok (.aload_n 0, 1) := by decide +kernel
theorem dX12_image_107 : decode cX12_image 107 = .ok (.getfield 86, 3) := by decide +kernel
theorem dX12_image_110 : decode cX12_image 110 = .ok (.iload_n 2, 1) := by decide +kernel
theorem dX12_image_111 : decode cX12_image 111 = .ok (.aload_n 0, 1) := by decide +kernel
theorem dX12_image_112 : decode cX12_image 112 = .ok (.aload_n 0, 1) := by decide +kernel
theorem dX12_image_113 : decode cX12_image 113 = .ok (.getfield 86, 3) := by decide +kernel
theorem dX12_image_116 : decode cX12_image 116 = .ok (.iload_n 2, 1) := by decide +kernel
theorem dX12_image_117 : decode cX12_image 117 = .ok (.iaload, 1) := by decide +kernel
theorem dX12_image_118 : decode cX12_image 118 = .ok (.invokevirtual 499, 3) := by decide +kernel
theorem dX12_image_121 : decode cX12_image 121 = .ok (.iastore, 1) := by decide +kernel
theorem dX12_image_122 : decode cX12_image 122 = .ok (.iinc 2 1, 3) := by decide +kernel
theorem dX12_image_125 : decode cX12_image 125 = .ok (.goto (-26), 3) := by decide +kernel
theorem dX12_image_128 : decode cX12_image 128 = .ok (.iconst 0, 1) := by decide +kernel
theorem dX12_image_129 : decode cX12_image 129 = .ok (.istore_n 2, 1) := by decide +kernel
theorem dX12_image_130 : decode cX12_image 130 = .ok (.iload_n 2, 1) := by decide +kernel
theorem dX12_image_131 : decode cX12_image 131 = .ok (.sipush 600, 3) := by decide +kernel
theorem dX12_image_134 : decode cX12_image 134 = .ok (.if_icmp .ge 25, 3) := by decide +kernel
theorem dX12_image_137 : decode cX12_image 137 = .ok (.aload_n 0, 1) := by decide +kernel
theorem dX12_image_138 : decode cX12_image 138 = .ok (.getfield 89, 3) := by decide +kernel
theorem dX12_image_141 : decode cX12_image 141 = .ok (.iload_n 2, 1) := by decide +kernel
theorem dX12_image_142 : decode cX12_image 142 = .ok (.aload_n 0, 1) := by decide +kernel
theorem dX12_image_143 : decode cX12_image 143 = .ok (.aload_n 0, 1) := by decide +kernel
theorem dX12_image_144 : decode cX12_image 144 = .ok (.getfield 89, 3) := by decide +kernel
theorem dX12_image_147 : decode cX12_image 147 = .ok (.iload_n 2, 1) := by decide +kernel
theorem dX12_image_148 : decode cX12_image 148 = .ok (.iaload, 1) := by decide +kernel
theorem dX12_image_149 : decode cX12_image 149 = .ok (.invokevirtual 499, 3) := by decide +kernel
theorem dX12_image_152 : decode cX12_image 152 = .ok (.iastore, 1) := by decide +kernel
theorem dX12_image_153 : decode cX12_image 153 = .ok (.iinc 2 1, 3) := by decide +kernel
theorem dX12_image_156 : decode cX12_image 156 = .ok (.goto (-26), 3) := by decide +kernel
theorem dX12_image_159 : decode cX12_image 159 = .ok (.aload_n 0, 1) := by decide +kernel
theorem dX12_image_160 : decode cX12_image 160 = .ok (.invokevirtual 508, 3) := by decide +kernel
theorem dX12_image_163 : decode cX12_image 163 = .ok (.iload_n 1, 1) := by decide +kernel
theorem dX12_image_164 : decode cX12_image 164 = .ok (.ifCond .ne 8, 3) := by decide +kernel
theorem dX12_image_167 : decode cX12_image 167 = .ok (.aload_n 0, 1) := by decide +kernel
theorem dX12_image_168 : decode cX12_image 168 = .ok (.iconst 0, 1) := by decide +kernel
theorem dX12_image_169 : decode cX12_image 169 = .ok (.putfield 107, 3) := by decide +kernel
theorem dX12_image_172 : decode cX12_image 172 = .ok (.iconst 1, 1) := by decide +kernel
theorem dX12_image_173 : decode cX12_image 173 = .ok (.ireturn, 1) := by decide +kernel
theorem bX12_image_130 {l : Launch} {g : jm_G} {d : Nat} {v1 v2 : Int} (hg : jm_HR g) {mu : jm_M} {Q : Option Value → jm_M → Prop} (h : jm_rg v2 ∧ (600 ≤ v2 → jm_R l g d iX12_keepsLaw [.ref 0] mu (jm_qv fun m2 => jm_rg v1 ∧ (¬ v1 = 0 → Q (some (jm_i 1)) m2) ∧ (v1 = 0 → ∀ m7, m7 = jm_wr m2 0 3 0 → Q (some (jm_i 1)) m7))) ∧ (v2 < 600 → (0 ≤ v2 ∧ v2 < 600) ∧ jm_R l g d iX12_keeps [.ref 0, jm_i (mu.1 26 v2)] mu (jm_qi fun z11 m10 => ∀ m14, m14 = jm_wr m10 26 v2 z11 → jm_V l g (d + 1) iX12_image 130 [(0, .ref 0), (1, jm_i v1), (2, jm_i (v2 + 1))] [] m14 Q))) : jm_V l g (d + 1) iX12_image 130 [(0, .ref 0), (1, jm_i v1), (2, jm_i v2)] [] mu Q := by
  refine jm_mrI (fun hm0 => ?_)
  refine jm_iload_n (pc := 130) 2 dX12_image_130 rfl ?_
  refine jm_sipush (pc := 131) dX12_image_131 (by decide) ?_
  have hg1 := h.1
  have h := h.2
  refine jm_icmp_ge (pc := 134) 159 dX12_image_134 rfl hg1 ⟨by decide, by decide⟩ (fun q => ?_) (fun q => ?_)
  · have h := h.1 q
    refine jm_aload_n (pc := 159) 0 dX12_image_159 rfl ?_
    refine jm_callvv (pc := 160) (As := []) (st := []) iX12_keepsLaw dX12_image_160 mX12_508 (cR0 hg) ⟨_, rfl, rfl⟩ rfl rfl (Nat.le_of_ble_eq_true rfl) h (fun m2 h hm5 => ?_)
    refine jm_iload_n (pc := 163) 1 dX12_image_163 rfl ?_
    have hg6 := h.1
    have h := h.2
    refine jm_if_ne (pc := 164) 172 dX12_image_164 rfl hg6 (fun q => ?_) (fun q => ?_)
    · have h := h.1 q
      refine jm_iconst (pc := 172) dX12_image_172 ?_
      exact jm_zret (pc := 173) dX12_image_173 rfl (Or.inr rfl) h
    · have h := h.2 q
      refine jm_aload_n (pc := 167) 0 dX12_image_167 rfl ?_
      refine jm_iconst (pc := 168) dX12_image_168 ?_
      refine jm_put (pc := 169) 3 dX12_image_169 fX12_107 ftX12 (fun q h => by cases h; rfl) (jm_nI _) (jm_fI _) (cR0 hg) rfl ⟨by decide, by decide⟩ ?_
      have h := h _ rfl
      refine jm_mrI (fun hm8 => ?_)
      refine jm_iconst (pc := 172) dX12_image_172 ?_
      exact jm_zret (pc := 173) dX12_image_173 rfl (Or.inr rfl) h
  · have h := h.2 q
    refine jm_aload_n (pc := 137) 0 dX12_image_137 rfl ?_
    refine jm_getr (pc := 138) 47 dX12_image_138 fX12_89 (cR0 hg) rfl ?_
    refine jm_iload_n (pc := 141) 2 dX12_image_141 rfl ?_
    refine jm_aload_n (pc := 142) 0 dX12_image_142 rfl ?_
    refine jm_aload_n (pc := 143) 0 dX12_image_143 rfl ?_
    refine jm_getr (pc := 144) 47 dX12_image_144 fX12_89 (cR0 hg) rfl ?_
    refine jm_iload_n (pc := 147) 2 dX12_image_147 rfl ?_
    have hg9 := h.1
    have h := h.2
    refine jm_iald (pc := 148) dX12_image_148 (cR26 hg) (by decide) hg9.1 hg9.2 ?_
    refine jm_callvi (pc := 149) (As := [_]) (st := [_, _]) iX12_keeps dX12_image_149 mX12_499 (cR0 hg) ⟨_, rfl, rfl⟩ rfl rfl (Nat.le_of_ble_eq_true rfl) h (fun z11 m10 hz12 h hm13 => ?_)
    refine jm_iast (pc := 152) dX12_image_152 (cR26 hg) (by decide) hg9.1 hg9.2 hz12 ?_
    have h := h _ rfl
    refine jm_mrI (fun hm15 => ?_)
    refine jm_iinc (pc := 153) (lv' := [(2, _), (0, _), (1, _)]) 2 dX12_image_153 rfl (by decide) rfl ?_
    refine jm_goto (pc := 156) 130 dX12_image_156 rfl ?_
    exact jm_sub [1, 2, 0] rfl h
theorem bX12_image_99 {l : Launch} {g : jm_G} {d : Nat} {v1 v2 : Int} (hg : jm_HR g) {mu : jm_M} {Q : Option Value → jm_M → Prop} (h : jm_rg v2 ∧ (200 ≤ v2 → jm_V l g (d + 1) iX12_image 130 [(0, .ref 0), (1, jm_i v1), (2, jm_i 0)] [] mu Q) ∧ (v2 < 200 → (0 ≤ v2 ∧ v2 < 200) ∧ jm_R l g d iX12_keeps [.ref 0, jm_i (mu.1 25 v2)] mu (jm_qi fun z4 m3 => ∀ m7, m7 = jm_wr m3 25 v2 z4 → jm_V l g (d + 1) iX12_image 99 [(0, .ref 0), (1, jm_i v1), (2, jm_i (v2 + 1))] [] m7 Q))) : jm_V l g (d + 1) iX12_image 99 [(0, .ref 0), (1, jm_i v1), (2, jm_i v2)] [] mu Q := by
  refine jm_mrI (fun hm0 => ?_)
  refine jm_iload_n (pc := 99) 2 dX12_image_99 rfl ?_
  refine jm_sipush (pc := 100) dX12_image_100 (by decide) ?_
  have hg1 := h.1
  have h := h.2
  refine jm_icmp_ge (pc := 103) 128 dX12_image_103 rfl hg1 ⟨by decide, by decide⟩ (fun q => ?_) (fun q => ?_)
  · have h := h.1 q
    refine jm_iconst (pc := 128) dX12_image_128 ?_
    refine jm_istore_n (pc := 129) (lv' := [(2, _), (0, _), (1, _)]) dX12_image_129 (by decide) rfl ?_
    exact jm_sub [1, 2, 0] rfl h
  · have h := h.2 q
    refine jm_aload_n (pc := 106) 0 dX12_image_106 rfl ?_
    refine jm_getr (pc := 107) 46 dX12_image_107 fX12_86 (cR0 hg) rfl ?_
    refine jm_iload_n (pc := 110) 2 dX12_image_110 rfl ?_
    refine jm_aload_n (pc := 111) 0 dX12_image_111 rfl ?_
    refine jm_aload_n (pc := 112) 0 dX12_image_112 rfl ?_
    refine jm_getr (pc := 113) 46 dX12_image_113 fX12_86 (cR0 hg) rfl ?_
    refine jm_iload_n (pc := 116) 2 dX12_image_116 rfl ?_
    have hg2 := h.1
    have h := h.2
    refine jm_iald (pc := 117) dX12_image_117 (cR25 hg) (by decide) hg2.1 hg2.2 ?_
    refine jm_callvi (pc := 118) (As := [_]) (st := [_, _]) iX12_keeps dX12_image_118 mX12_499 (cR0 hg) ⟨_, rfl, rfl⟩ rfl rfl (Nat.le_of_ble_eq_true rfl) h (fun z4 m3 hz5 h hm6 => ?_)
    refine jm_iast (pc := 121) dX12_image_121 (cR25 hg) (by decide) hg2.1 hg2.2 hz5 ?_
    have h := h _ rfl
    refine jm_mrI (fun hm8 => ?_)
    refine jm_iinc (pc := 122) (lv' := [(2, _), (0, _), (1, _)]) 2 dX12_image_122 rfl (by decide) rfl ?_
    refine jm_goto (pc := 125) 99 dX12_image_125 rfl ?_
    exact jm_sub [1, 2, 0] rfl h
theorem bX12_image_69 {l : Launch} {g : jm_G} {d : Nat} {v1 v2 : Int} (hg : jm_HR g) {mu : jm_M} {Q : Option Value → jm_M → Prop} (h : jm_rg v2 ∧ (120 ≤ v2 → jm_V l g (d + 1) iX12_image 99 [(0, .ref 0), (1, jm_i v1), (2, jm_i 0)] [] mu Q) ∧ (v2 < 120 → (0 ≤ v2 ∧ v2 < 120) ∧ jm_R l g d iX12_keeps [.ref 0, jm_i (mu.1 24 v2)] mu (jm_qi fun z4 m3 => ∀ m7, m7 = jm_wr m3 24 v2 z4 → jm_V l g (d + 1) iX12_image 69 [(0, .ref 0), (1, jm_i v1), (2, jm_i (v2 + 1))] [] m7 Q))) : jm_V l g (d + 1) iX12_image 69 [(0, .ref 0), (1, jm_i v1), (2, jm_i v2)] [] mu Q := by
  refine jm_mrI (fun hm0 => ?_)
  refine jm_iload_n (pc := 69) 2 dX12_image_69 rfl ?_
  refine jm_bipush (pc := 70) dX12_image_70 (by decide) ?_
  have hg1 := h.1
  have h := h.2
  refine jm_icmp_ge (pc := 72) 97 dX12_image_72 rfl hg1 ⟨by decide, by decide⟩ (fun q => ?_) (fun q => ?_)
  · have h := h.1 q
    refine jm_iconst (pc := 97) dX12_image_97 ?_
    refine jm_istore_n (pc := 98) (lv' := [(2, _), (0, _), (1, _)]) dX12_image_98 (by decide) rfl ?_
    exact jm_sub [1, 2, 0] rfl h
  · have h := h.2 q
    refine jm_aload_n (pc := 75) 0 dX12_image_75 rfl ?_
    refine jm_getr (pc := 76) 45 dX12_image_76 fX12_83 (cR0 hg) rfl ?_
    refine jm_iload_n (pc := 79) 2 dX12_image_79 rfl ?_
    refine jm_aload_n (pc := 80) 0 dX12_image_80 rfl ?_
    refine jm_aload_n (pc := 81) 0 dX12_image_81 rfl ?_
    refine jm_getr (pc := 82) 45 dX12_image_82 fX12_83 (cR0 hg) rfl ?_
    refine jm_iload_n (pc := 85) 2 dX12_image_85 rfl ?_
    have hg2 := h.1
    have h := h.2
    refine jm_iald (pc := 86) dX12_image_86 (cR24 hg) (by decide) hg2.1 hg2.2 ?_
    refine jm_callvi (pc := 87) (As := [_]) (st := [_, _]) iX12_keeps dX12_image_87 mX12_499 (cR0 hg) ⟨_, rfl, rfl⟩ rfl rfl (Nat.le_of_ble_eq_true rfl) h (fun z4 m3 hz5 h hm6 => ?_)
    refine jm_iast (pc := 90) dX12_image_90 (cR24 hg) (by decide) hg2.1 hg2.2 hz5 ?_
    have h := h _ rfl
    refine jm_mrI (fun hm8 => ?_)
    refine jm_iinc (pc := 91) (lv' := [(2, _), (0, _), (1, _)]) 2 dX12_image_91 rfl (by decide) rfl ?_
    refine jm_goto (pc := 94) 69 dX12_image_94 rfl ?_
    exact jm_sub [1, 2, 0] rfl h
theorem bX12_image_35 {l : Launch} {g : jm_G} {d : Nat} {v1 v2 : Int} (hg : jm_HR g) {mu : jm_M} {Q : Option Value → jm_M → Prop} (h : jm_rg v2 ∧ (22 ≤ v2 → jm_R l g d iX12_keepsTold [.ref 0] mu (jm_qv fun m2 => jm_V l g (d + 1) iX12_image 69 [(0, .ref 0), (1, jm_i v1), (2, jm_i 0)] [] m2 Q)) ∧ (v2 < 22 → (0 ≤ v2 ∧ v2 < 22) ∧ jm_R l g d iX12_keeps [.ref 0, jm_i (mu.1 1 v2)] mu (jm_qi fun z8 m7 => ∀ m11, m11 = jm_wr m7 1 v2 z8 → jm_V l g (d + 1) iX12_image 35 [(0, .ref 0), (1, jm_i v1), (2, jm_i (v2 + 1))] [] m11 Q))) : jm_V l g (d + 1) iX12_image 35 [(0, .ref 0), (1, jm_i v1), (2, jm_i v2)] [] mu Q := by
  refine jm_mrI (fun hm0 => ?_)
  refine jm_iload_n (pc := 35) 2 dX12_image_35 rfl ?_
  refine jm_bipush (pc := 36) dX12_image_36 (by decide) ?_
  have hg1 := h.1
  have h := h.2
  refine jm_icmp_ge (pc := 38) 63 dX12_image_38 rfl hg1 ⟨by decide, by decide⟩ (fun q => ?_) (fun q => ?_)
  · have h := h.1 q
    refine jm_aload_n (pc := 63) 0 dX12_image_63 rfl ?_
    refine jm_callvv (pc := 64) (As := []) (st := []) iX12_keepsTold dX12_image_64 mX12_505 (cR0 hg) ⟨_, rfl, rfl⟩ rfl rfl (Nat.le_of_ble_eq_true rfl) h (fun m2 h hm5 => ?_)
    refine jm_iconst (pc := 67) dX12_image_67 ?_
    refine jm_istore_n (pc := 68) (lv' := [(2, _), (0, _), (1, _)]) dX12_image_68 (by decide) rfl ?_
    exact jm_sub [1, 2, 0] rfl h
  · have h := h.2 q
    refine jm_aload_n (pc := 41) 0 dX12_image_41 rfl ?_
    refine jm_getr (pc := 42) 1 dX12_image_42 fX12_7 (cR0 hg) rfl ?_
    refine jm_iload_n (pc := 45) 2 dX12_image_45 rfl ?_
    refine jm_aload_n (pc := 46) 0 dX12_image_46 rfl ?_
    refine jm_aload_n (pc := 47) 0 dX12_image_47 rfl ?_
    refine jm_getr (pc := 48) 1 dX12_image_48 fX12_7 (cR0 hg) rfl ?_
    refine jm_iload_n (pc := 51) 2 dX12_image_51 rfl ?_
    have hg6 := h.1
    have h := h.2
    refine jm_iald (pc := 52) dX12_image_52 (cR1 hg) (by decide) hg6.1 hg6.2 ?_
    refine jm_callvi (pc := 53) (As := [_]) (st := [_, _]) iX12_keeps dX12_image_53 mX12_499 (cR0 hg) ⟨_, rfl, rfl⟩ rfl rfl (Nat.le_of_ble_eq_true rfl) h (fun z8 m7 hz9 h hm10 => ?_)
    refine jm_iast (pc := 56) dX12_image_56 (cR1 hg) (by decide) hg6.1 hg6.2 hz9 ?_
    have h := h _ rfl
    refine jm_mrI (fun hm12 => ?_)
    refine jm_iinc (pc := 57) (lv' := [(2, _), (0, _), (1, _)]) 2 dX12_image_57 rfl (by decide) rfl ?_
    refine jm_goto (pc := 60) 35 dX12_image_60 rfl ?_
    exact jm_sub [1, 2, 0] rfl h
theorem bX12_image_18 {l : Launch} {g : jm_G} {d : Nat} {v1 : Int} (hg : jm_HR g) {mu : jm_M} {Q : Option Value → jm_M → Prop} (h : (v1 = 0 ∨ v1 = 1) ∧ jm_rg v1 ∧ ∀ m3, m3 = jm_wr mu 0 55 v1 → ∀ m5, m5 = jm_wr m3 0 56 1 → ∀ m7, m7 = jm_wr m5 0 57 0 → jm_V l g (d + 1) iX12_image 35 [(0, .ref 0), (1, jm_i v1), (2, jm_i 0)] [] m7 Q) : jm_V l g (d + 1) iX12_image 18 [(0, .ref 0), (1, jm_i v1)] [] mu Q := by
  refine jm_mrI (fun hm0 => ?_)
  refine jm_aload_n (pc := 18) 0 dX12_image_18 rfl ?_
  refine jm_iload_n (pc := 19) 1 dX12_image_19 rfl ?_
  have hg1 := h.1
  have h := h.2
  have hg2 := h.1
  have h := h.2
  refine jm_put (pc := 20) 55 dX12_image_20 fX12_495 ftX12 (fun q h => by cases h; rfl) (jm_b01 (hg1)).1 (jm_b01 (hg1)).2 (cR0 hg) rfl hg2 ?_
  have h := h _ rfl
  refine jm_mrI (fun hm4 => ?_)
  refine jm_aload_n (pc := 23) 0 dX12_image_23 rfl ?_
  refine jm_iconst (pc := 24) dX12_image_24 ?_
  refine jm_put (pc := 25) 56 dX12_image_25 fX12_502 ftX12 (fun q h => by cases h; rfl) (jm_b01 (Or.inr rfl)).1 (jm_b01 (Or.inr rfl)).2 (cR0 hg) rfl ⟨by decide, by decide⟩ ?_
  have h := h _ rfl
  refine jm_mrI (fun hm6 => ?_)
  refine jm_aload_n (pc := 28) 0 dX12_image_28 rfl ?_
  refine jm_iconst (pc := 29) dX12_image_29 ?_
  refine jm_put (pc := 30) 57 dX12_image_30 fX12_492 ftX12 (fun q h => by cases h; rfl) (jm_nI _) (jm_fI _) (cR0 hg) rfl ⟨by decide, by decide⟩ ?_
  have h := h _ rfl
  refine jm_mrI (fun hm8 => ?_)
  refine jm_iconst (pc := 33) dX12_image_33 ?_
  refine jm_istore_n (pc := 34) (lv' := [(2, _), (0, _), (1, _)]) dX12_image_34 (by decide) rfl ?_
  exact jm_sub [1, 2, 0] rfl h
theorem eX12_image {l : Launch} {g : jm_G} {d : Nat} {v1 : Int} (hg : jm_HR g) {mu : jm_M} {Q : Option Value → jm_M → Prop} (h : ∀ m1, m1 = jm_wr mu 0 0 0 → jm_rg v1 ∧ (¬ v1 = 0 → jm_V l g (d + 1) iX12_image 18 [(0, .ref 0), (1, jm_i v1)] [] m1 Q) ∧ (v1 = 0 → (¬ (m1.1 0 56) = 0 → jm_V l g (d + 1) iX12_image 18 [(0, .ref 0), (1, jm_i v1)] [] m1 Q) ∧ ((m1.1 0 56) = 0 → Q (some (jm_i 0)) m1))) : jm_R l g (d + 1) iX12_image [.ref 0, jm_i v1] mu Q := by
  refine jm_enter [(0, .ref 0), (1, jm_i v1)] (by decide) (Nat.le_of_ble_eq_true rfl) rfl ?_
  refine jm_mrI (fun hm0 => ?_)
  refine jm_aload_n (pc := 0) 0 dX12_image_0 rfl ?_
  refine jm_iconst (pc := 1) dX12_image_1 ?_
  refine jm_put (pc := 2) 0 dX12_image_2 fX12_104 ftX12 (fun q h => by cases h; rfl) (jm_nI _) (jm_fI _) (cR0 hg) rfl ⟨by decide, by decide⟩ ?_
  have h := h _ rfl
  refine jm_mrI (fun hm2 => ?_)
  refine jm_iload_n (pc := 5) 1 dX12_image_5 rfl ?_
  have hg3 := h.1
  have h := h.2
  refine jm_if_ne (pc := 6) 18 dX12_image_6 rfl hg3 (fun q => ?_) (fun q => ?_)
  · have h := h.1 q
    exact jm_sub [0, 1] rfl h
  · have h := h.2 q
    refine jm_aload_n (pc := 9) 0 dX12_image_9 rfl ?_
    refine jm_geti (pc := 10) 56 dX12_image_10 fX12_502 (cR0 hg) rfl ?_
    refine jm_if_ne (pc := 13) 18 dX12_image_13 rfl (hm2 _ _) (fun q => ?_) (fun q => ?_)
    · have h := h.1 q
      exact jm_sub [0, 1] rfl h
    · have h := h.2 q
      refine jm_iconst (pc := 16) dX12_image_16 ?_
      exact jm_zret (pc := 17) dX12_image_17 rfl (Or.inl rfl) h
theorem dX12_look_0 : decode cX12_look 0 = .ok (.aload_n 0, 1) := by decide +kernel
theorem dX12_look_1 : decode cX12_look 1 = .ok (.iconst 0, 1) := by decide +kernel
theorem dX12_look_2 : decode cX12_look 2 = .ok (.putfield 104, 3) := by decide +kernel
theorem dX12_look_5 : decode cX12_look 5 = .ok (.iload_n 1, 1) := by decide +kernel
theorem dX12_look_6 : decode cX12_look 6 = .ok (.ifCond .ne 8, 3) := by decide +kernel
theorem dX12_look_9 : decode cX12_look 9 = .ok (.aload_n 0, 1) := by decide +kernel
theorem dX12_look_10 : decode cX12_look 10 = .ok (.getfield 121, 3) := by decide +kernel
theorem dX12_look_13 : decode cX12_look 13 = .ok (.ireturn, 1) := by decide +kernel
theorem dX12_look_14 : decode cX12_look 14 = .ok (.iload_n 1, 1) := by decide +kernel
theorem dX12_look_15 : decode cX12_look 15 = .ok (.iconst 1, 1) := by decide +kernel
theorem dX12_look_16 : decode cX12_look 16 = .ok (.if_icmp .ne 10, 3) := by decide +kernel
theorem dX12_look_19 : decode cX12_look 19 = .ok (.aload_n 0, 1) := by decide +kernel
theorem dX12_look_20 : decode cX12_look 20 = .ok (.getfield 7, 3) := by decide +kernel
theorem dX12_look_23 : decode cX12_look 23 = .ok (.iconst 0, 1) := by decide +kernel
theorem dX12_look_24 : decode cX12_look 24 = .ok (.iaload, 1) := by decide +kernel
theorem dX12_look_25 : decode cX12_look 25 = .ok (.ireturn, 1) := by decide +kernel
theorem dX12_look_26 : decode cX12_look 26 = .ok (.iload_n 1, 1) := by decide +kernel
theorem dX12_look_27 : decode cX12_look 27 = .ok (.iconst 2, 1) := by decide +kernel
theorem dX12_look_28 : decode cX12_look 28 = .ok (.if_icmp .ne 10, 3) := by decide +kernel
theorem dX12_look_31 : decode cX12_look 31 = .ok (.aload_n 0, 1) := by decide +kernel
theorem dX12_look_32 : decode cX12_look 32 = .ok (.getfield 7, 3) := by decide +kernel
theorem dX12_look_35 : decode cX12_look 35 = .ok (.iconst 4, 1) := by decide +kernel
theorem dX12_look_36 : decode cX12_look 36 = .ok (.iaload, 1) := by decide +kernel
theorem dX12_look_37 : decode cX12_look 37 = .ok (.ireturn, 1) := by decide +kernel
theorem dX12_look_38 : decode cX12_look 38 = .ok (.iload_n 1, 1) := by decide +kernel
theorem dX12_look_39 : decode cX12_look 39 = .ok (.iconst 3, 1) := by decide +kernel
theorem dX12_look_40 : decode cX12_look 40 = .ok (.if_icmp .ne 10, 3) := by decide +kernel
theorem dX12_look_43 : decode cX12_look 43 = .ok (.aload_n 0, 1) := by decide +kernel
theorem dX12_look_44 : decode cX12_look 44 = .ok (.getfield 7, 3) := by decide +kernel
theorem dX12_look_47 : decode cX12_look 47 = .ok (.iconst 3, 1) := by decide +kernel
theorem dX12_look_48 : decode cX12_look 48 = .ok (.iaload, 1) := by decide +kernel
theorem dX12_look_49 : decode cX12_look 49 = .ok (.ireturn, 1) := by decide +kernel
theorem dX12_look_50 : decode cX12_look 50 = .ok (.iload_n 1, 1) := by decide +kernel
theorem dX12_look_51 : decode cX12_look 51 = .ok (.iconst 4, 1) := by decide +kernel
theorem dX12_look_52 : decode cX12_look 52 = .ok (.if_icmp .ne 10, 3) := by decide +kernel
theorem dX12_look_55 : decode cX12_look 55 = .ok (.aload_n 0, 1) := by decide +kernel
theorem dX12_look_56 : decode cX12_look 56 = .ok (.getfield 7, 3) := by decide +kernel
theorem dX12_look_59 : decode cX12_look 59 = .ok (.iconst 2, 1) := by decide +kernel
theorem dX12_look_60 : decode cX12_look 60 = .ok (.iaload, 1) := by decide +kernel
theorem dX12_look_61 : decode cX12_look 61 = .ok (.ireturn, 1) := by decide +kernel
theorem dX12_look_62 : decode cX12_look 62 = .ok (.iload_n 1, 1) := by decide +kernel
theorem dX12_look_63 : decode cX12_look 63 = .ok (.iconst 5, 1) := by decide +kernel
theorem dX12_look_64 : decode cX12_look 64 = .ok (.if_icmp .ne 10, 3) := by decide +kernel
theorem dX12_look_67 : decode cX12_look 67 = .ok (.aload_n 0, 1) := by decide +kernel
theorem dX12_look_68 : decode cX12_look 68 = .ok (.getfield 7, 3) := by decide +kernel
theorem dX12_look_71 : decode cX12_look 71 = .ok (.iconst 1, 1) := by decide +kernel
theorem dX12_look_72 : decode cX12_look 72 = .ok (.iaload, 1) := by decide +kernel
theorem dX12_look_73 : decode cX12_look 73 = .ok (.ireturn, 1) := by decide +kernel
theorem dX12_look_74 : decode cX12_look 74 = .ok (.iload_n 1, 1) := by decide +kernel
theorem dX12_look_75 : decode cX12_look 75 = .ok (.bipush 6, 2) := by decide +kernel
theorem dX12_look_77 : decode cX12_look 77 = .ok (.if_icmp .ne 8, 3) := by decide +kernel
theorem dX12_look_80 : decode cX12_look 80 = .ok (.aload_n 0, 1) := by decide +kernel
theorem dX12_look_81 : decode cX12_look 81 = .ok (.getfield 290, 3) := by decide +kernel
theorem dX12_look_84 : decode cX12_look 84 = .ok (.ireturn, 1) := by decide +kernel
theorem dX12_look_85 : decode cX12_look 85 = .ok (.iload_n 1, 1) := by decide +kernel
theorem dX12_look_86 : decode cX12_look 86 = .ok (.bipush 7, 2) := by decide +kernel
theorem dX12_look_88 : decode cX12_look 88 = .ok (.if_icmp .ne 10, 3) := by decide +kernel
theorem dX12_look_91 : decode cX12_look 91 = .ok (.aload_n 0, 1) := by decide +kernel
theorem dX12_look_92 : decode cX12_look 92 = .ok (.getfield 34, 3) := by decide +kernel
theorem dX12_look_95 : decode cX12_look 95 = .ok (.iconst 1, 1) := by decide +kernel
theorem dX12_look_96 : decode cX12_look 96 = .ok (.iaload, 1) := by decide +kernel
theorem dX12_look_97 : decode cX12_look 97 = .ok (.ireturn, 1) := by decide +kernel
theorem dX12_look_98 : decode cX12_look 98 = .ok (.iload_n 1, 1) := by decide +kernel
theorem dX12_look_99 : decode cX12_look 99 = .ok (.bipush 8, 2) := by decide +kernel
theorem dX12_look_101 : decode cX12_look 101 = .ok (.if_icmp .ne 8, 3) := by decide +kernel
theorem dX12_look_104 : decode cX12_look 104 = .ok (.aload_n 0, 1) := by decide +kernel
theorem dX12_look_105 : decode cX12_look 105 = .ok (.getfield 293, 3) := by decide +kernel
theorem dX12_look_108 : decode cX12_look 108 = .ok (.ireturn, 1) := by decide +kernel
theorem dX12_look_109 : decode cX12_look 109 = .ok (.iload_n 1, 1) := by decide +kernel
theorem dX12_look_110 : decode cX12_look 110 = .ok (.bipush 9, 2) := by decide +kernel
theorem dX12_look_112 : decode cX12_look 112 = .ok (.if_icmp .ne 8, 3) := by decide +kernel
theorem dX12_look_115 : decode cX12_look 115 = .ok (.aload_n 0, 1) := by decide +kernel
theorem dX12_look_116 : decode cX12_look 116 = .ok (.getfield 425, 3) := by decide +kernel
theorem dX12_look_119 : decode cX12_look 119 = .ok (.ireturn, 1) := by decide +kernel
theorem dX12_look_120 : decode cX12_look 120 = .ok (.iload_n 1, 1) := by decide +kernel
theorem dX12_look_121 : decode cX12_look 121 = .ok (.bipush 10, 2) := by decide +kernel
theorem dX12_look_123 : decode cX12_look 123 = .ok (.if_icmp .ne 8, 3) := by decide +kernel
theorem dX12_look_126 : decode cX12_look 126 = .ok (.aload_n 0, 1) := by decide +kernel
theorem dX12_look_127 : decode cX12_look 127 = .ok (.getfield 107, 3) := by decide +kernel
theorem dX12_look_130 : decode cX12_look 130 = .ok (.ireturn, 1) := by decide +kernel
theorem dX12_look_131 : decode cX12_look 131 = .ok (.iload_n 1, 1) := by decide +kernel
theorem dX12_look_132 : decode cX12_look 132 = .ok (.bipush 11, 2) := by decide +kernel
theorem dX12_look_134 : decode cX12_look 134 = .ok (.if_icmp .ne 8, 3) := by decide +kernel
theorem dX12_look_137 : decode cX12_look 137 = .ok (.aload_n 0, 1) := by decide +kernel
theorem dX12_look_138 : decode cX12_look 138 = .ok (.invokevirtual 434, 3) := by decide +kernel
theorem dX12_look_141 : decode cX12_look 141 = .ok (.ireturn, 1) := by decide +kernel
theorem dX12_look_142 : decode cX12_look 142 = .ok (.iload_n 1, 1) := by decide +kernel
theorem dX12_look_143 : decode cX12_look 143 = .ok (.bipush 12, 2) := by decide +kernel
theorem dX12_look_145 : decode cX12_look 145 = .ok (.if_icmp .ne 10, 3) := by decide +kernel
theorem dX12_look_148 : decode cX12_look 148 = .ok (.aload_n 0, 1) := by decide +kernel
theorem dX12_look_149 : decode cX12_look 149 = .ok (.invokevirtual 456, 3) := by decide +kernel
theorem dX12_look_152 : decode cX12_look 152 = .ok (.goto 17, 3) := by decide +kernel
theorem dX12_look_155 : decode cX12_look 155 = .ok (.iload_n 1, 1) := by decide +kernel
theorem dX12_look_156 : decode cX12_look 156 = .ok (.bipush 13, 2) := by decide +kernel
theorem dX12_look_158 : decode cX12_look 158 = .ok (.if_icmp .ne 10, 3) := by decide +kernel
theorem dX12_look_161 : decode cX12_look 161 = .ok (.aload_n 0, 1) := by decide +kernel
theorem dX12_look_162 : decode cX12_look 162 = .ok (.invokevirtual 450, 3) := by decide +kernel
theorem dX12_look_165 : decode cX12_look 165 = .ok (.goto 4, 3) := by decide +kernel
theorem dX12_look_168 : decode cX12_look 168 = .ok (.iconst (-1), 1) := by decide +kernel
theorem dX12_look_169 : decode cX12_look 169 = .ok (.ireturn, 1) := by decide +kernel
theorem eX12_look {l : Launch} {g : jm_G} {d : Nat} {v1 : Int} (hg : jm_HR g) {mu : jm_M} {Q : Option Value → jm_M → Prop} (h : ∀ m1, m1 = jm_wr mu 0 0 0 → jm_rg v1 ∧ (¬ v1 = 0 → (¬ v1 = 1 → (¬ v1 = 2 → (¬ v1 = 3 → (¬ v1 = 4 → (¬ v1 = 5 → (¬ v1 = 6 → (¬ v1 = 7 → (¬ v1 = 8 → (¬ v1 = 9 → (¬ v1 = 10 → (¬ v1 = 11 → (¬ v1 = 12 → (¬ v1 = 13 → Q (some (jm_i (-1))) m1) ∧ (v1 = 13 → Q (some (jm_i ((m1.1 0 11) + 1))) m1)) ∧ (v1 = 12 → Q (some (jm_i ((m1.1 0 10) + 10))) m1)) ∧ (v1 = 11 → Q (some (jm_i (jm_xor 953 (m1.1 0 9)))) m1)) ∧ (v1 = 10 → Q (some (jm_i (m1.1 0 3))) m1)) ∧ (v1 = 9 → Q (some (jm_i (m1.1 0 52))) m1)) ∧ (v1 = 8 → Q (some (jm_i (m1.1 0 39))) m1)) ∧ (v1 = 7 → Q (some (jm_i (m1.1 9 1))) m1)) ∧ (v1 = 6 → Q (some (jm_i (m1.1 0 35))) m1)) ∧ (v1 = 5 → Q (some (jm_i (m1.1 1 1))) m1)) ∧ (v1 = 4 → Q (some (jm_i (m1.1 1 2))) m1)) ∧ (v1 = 3 → Q (some (jm_i (m1.1 1 3))) m1)) ∧ (v1 = 2 → Q (some (jm_i (m1.1 1 4))) m1)) ∧ (v1 = 1 → Q (some (jm_i (m1.1 1 0))) m1)) ∧ (v1 = 0 → Q (some (jm_i (m1.1 0 4))) m1)) : jm_R l g (d + 2) iX12_look [.ref 0, jm_i v1] mu Q := by
  refine jm_enter [(0, .ref 0), (1, jm_i v1)] (by decide) (Nat.le_of_ble_eq_true rfl) rfl ?_
  refine jm_mrI (fun hm0 => ?_)
  refine jm_aload_n (pc := 0) 0 dX12_look_0 rfl ?_
  refine jm_iconst (pc := 1) dX12_look_1 ?_
  refine jm_put (pc := 2) 0 dX12_look_2 fX12_104 ftX12 (fun q h => by cases h; rfl) (jm_nI _) (jm_fI _) (cR0 hg) rfl ⟨by decide, by decide⟩ ?_
  have h := h _ rfl
  refine jm_mrI (fun hm2 => ?_)
  refine jm_iload_n (pc := 5) 1 dX12_look_5 rfl ?_
  have hg3 := h.1
  have h := h.2
  refine jm_if_ne (pc := 6) 14 dX12_look_6 rfl hg3 (fun q => ?_) (fun q => ?_)
  · have h := h.1 q
    refine jm_iload_n (pc := 14) 1 dX12_look_14 rfl ?_
    refine jm_iconst (pc := 15) dX12_look_15 ?_
    refine jm_icmp_ne (pc := 16) 26 dX12_look_16 rfl hg3 ⟨by decide, by decide⟩ (fun q => ?_) (fun q => ?_)
    · have h := h.1 q
      refine jm_iload_n (pc := 26) 1 dX12_look_26 rfl ?_
      refine jm_iconst (pc := 27) dX12_look_27 ?_
      refine jm_icmp_ne (pc := 28) 38 dX12_look_28 rfl hg3 ⟨by decide, by decide⟩ (fun q => ?_) (fun q => ?_)
      · have h := h.1 q
        refine jm_iload_n (pc := 38) 1 dX12_look_38 rfl ?_
        refine jm_iconst (pc := 39) dX12_look_39 ?_
        refine jm_icmp_ne (pc := 40) 50 dX12_look_40 rfl hg3 ⟨by decide, by decide⟩ (fun q => ?_) (fun q => ?_)
        · have h := h.1 q
          refine jm_iload_n (pc := 50) 1 dX12_look_50 rfl ?_
          refine jm_iconst (pc := 51) dX12_look_51 ?_
          refine jm_icmp_ne (pc := 52) 62 dX12_look_52 rfl hg3 ⟨by decide, by decide⟩ (fun q => ?_) (fun q => ?_)
          · have h := h.1 q
            refine jm_iload_n (pc := 62) 1 dX12_look_62 rfl ?_
            refine jm_iconst (pc := 63) dX12_look_63 ?_
            refine jm_icmp_ne (pc := 64) 74 dX12_look_64 rfl hg3 ⟨by decide, by decide⟩ (fun q => ?_) (fun q => ?_)
            · have h := h.1 q
              refine jm_iload_n (pc := 74) 1 dX12_look_74 rfl ?_
              refine jm_bipush (pc := 75) dX12_look_75 (by decide) ?_
              refine jm_icmp_ne (pc := 77) 85 dX12_look_77 rfl hg3 ⟨by decide, by decide⟩ (fun q => ?_) (fun q => ?_)
              · have h := h.1 q
                refine jm_iload_n (pc := 85) 1 dX12_look_85 rfl ?_
                refine jm_bipush (pc := 86) dX12_look_86 (by decide) ?_
                refine jm_icmp_ne (pc := 88) 98 dX12_look_88 rfl hg3 ⟨by decide, by decide⟩ (fun q => ?_) (fun q => ?_)
                · have h := h.1 q
                  refine jm_iload_n (pc := 98) 1 dX12_look_98 rfl ?_
                  refine jm_bipush (pc := 99) dX12_look_99 (by decide) ?_
                  refine jm_icmp_ne (pc := 101) 109 dX12_look_101 rfl hg3 ⟨by decide, by decide⟩ (fun q => ?_) (fun q => ?_)
                  · have h := h.1 q
                    refine jm_iload_n (pc := 109) 1 dX12_look_109 rfl ?_
                    refine jm_bipush (pc := 110) dX12_look_110 (by decide) ?_
                    refine jm_icmp_ne (pc := 112) 120 dX12_look_112 rfl hg3 ⟨by decide, by decide⟩ (fun q => ?_) (fun q => ?_)
                    · have h := h.1 q
                      refine jm_iload_n (pc := 120) 1 dX12_look_120 rfl ?_
                      refine jm_bipush (pc := 121) dX12_look_121 (by decide) ?_
                      refine jm_icmp_ne (pc := 123) 131 dX12_look_123 rfl hg3 ⟨by decide, by decide⟩ (fun q => ?_) (fun q => ?_)
                      · have h := h.1 q
                        refine jm_iload_n (pc := 131) 1 dX12_look_131 rfl ?_
                        refine jm_bipush (pc := 132) dX12_look_132 (by decide) ?_
                        refine jm_icmp_ne (pc := 134) 142 dX12_look_134 rfl hg3 ⟨by decide, by decide⟩ (fun q => ?_) (fun q => ?_)
                        · have h := h.1 q
                          refine jm_iload_n (pc := 142) 1 dX12_look_142 rfl ?_
                          refine jm_bipush (pc := 143) dX12_look_143 (by decide) ?_
                          refine jm_icmp_ne (pc := 145) 155 dX12_look_145 rfl hg3 ⟨by decide, by decide⟩ (fun q => ?_) (fun q => ?_)
                          · have h := h.1 q
                            refine jm_iload_n (pc := 155) 1 dX12_look_155 rfl ?_
                            refine jm_bipush (pc := 156) dX12_look_156 (by decide) ?_
                            refine jm_icmp_ne (pc := 158) 168 dX12_look_158 rfl hg3 ⟨by decide, by decide⟩ (fun q => ?_) (fun q => ?_)
                            · have h := h.1 q
                              refine jm_iconst (pc := 168) dX12_look_168 ?_
                              exact jm_iret (pc := 169) dX12_look_169 rfl h
                            · have h := h.2 q
                              refine jm_aload_n (pc := 161) 0 dX12_look_161 rfl ?_
                              refine jm_inlvi (pc := 162) (As := []) (st := []) iX12_flatsNow dX12_look_162 mX12_450 (cR0 hg) ⟨_, rfl, rfl⟩ rfl rfl (Nat.le_of_ble_eq_true rfl) (pX12_flatsNow hg  (jm_kIi ?_))
                              refine jm_goto (pc := 165) 169 dX12_look_165 rfl ?_
                              exact jm_iret (pc := 169) dX12_look_169 rfl h
                          · have h := h.2 q
                            refine jm_aload_n (pc := 148) 0 dX12_look_148 rfl ?_
                            refine jm_inlvi (pc := 149) (As := []) (st := []) iX12_needNow dX12_look_149 mX12_456 (cR0 hg) ⟨_, rfl, rfl⟩ rfl rfl (Nat.le_of_ble_eq_true rfl) (pX12_needNow hg  (jm_kIi ?_))
                            refine jm_goto (pc := 152) 169 dX12_look_152 rfl ?_
                            exact jm_iret (pc := 169) dX12_look_169 rfl h
                        · have h := h.2 q
                          refine jm_aload_n (pc := 137) 0 dX12_look_137 rfl ?_
                          refine jm_inlvi (pc := 138) (As := []) (st := []) iX12_soundNow dX12_look_138 mX12_434 (cR0 hg) ⟨_, rfl, rfl⟩ rfl rfl (Nat.le_of_ble_eq_true rfl) (pX12_soundNow hg  (jm_kIi ?_))
                          exact jm_iret (pc := 141) dX12_look_141 rfl h
                      · have h := h.2 q
                        refine jm_aload_n (pc := 126) 0 dX12_look_126 rfl ?_
                        refine jm_geti (pc := 127) 3 dX12_look_127 fX12_107 (cR0 hg) rfl ?_
                        exact jm_iret (pc := 130) dX12_look_130 rfl h
                    · have h := h.2 q
                      refine jm_aload_n (pc := 115) 0 dX12_look_115 rfl ?_
                      refine jm_geti (pc := 116) 52 dX12_look_116 fX12_425 (cR0 hg) rfl ?_
                      exact jm_iret (pc := 119) dX12_look_119 rfl h
                  · have h := h.2 q
                    refine jm_aload_n (pc := 104) 0 dX12_look_104 rfl ?_
                    refine jm_geti (pc := 105) 39 dX12_look_105 fX12_293 (cR0 hg) rfl ?_
                    exact jm_iret (pc := 108) dX12_look_108 rfl h
                · have h := h.2 q
                  refine jm_aload_n (pc := 91) 0 dX12_look_91 rfl ?_
                  refine jm_getr (pc := 92) 19 dX12_look_92 fX12_34 (cR0 hg) rfl ?_
                  refine jm_iconst (pc := 95) dX12_look_95 ?_
                  refine jm_iald (pc := 96) dX12_look_96 (cR9 hg) (by decide) (by decide) (by decide) ?_
                  exact jm_iret (pc := 97) dX12_look_97 rfl h
              · have h := h.2 q
                refine jm_aload_n (pc := 80) 0 dX12_look_80 rfl ?_
                refine jm_geti (pc := 81) 35 dX12_look_81 fX12_290 (cR0 hg) rfl ?_
                exact jm_iret (pc := 84) dX12_look_84 rfl h
            · have h := h.2 q
              refine jm_aload_n (pc := 67) 0 dX12_look_67 rfl ?_
              refine jm_getr (pc := 68) 1 dX12_look_68 fX12_7 (cR0 hg) rfl ?_
              refine jm_iconst (pc := 71) dX12_look_71 ?_
              refine jm_iald (pc := 72) dX12_look_72 (cR1 hg) (by decide) (by decide) (by decide) ?_
              exact jm_iret (pc := 73) dX12_look_73 rfl h
          · have h := h.2 q
            refine jm_aload_n (pc := 55) 0 dX12_look_55 rfl ?_
            refine jm_getr (pc := 56) 1 dX12_look_56 fX12_7 (cR0 hg) rfl ?_
            refine jm_iconst (pc := 59) dX12_look_59 ?_
            refine jm_iald (pc := 60) dX12_look_60 (cR1 hg) (by decide) (by decide) (by decide) ?_
            exact jm_iret (pc := 61) dX12_look_61 rfl h
        · have h := h.2 q
          refine jm_aload_n (pc := 43) 0 dX12_look_43 rfl ?_
          refine jm_getr (pc := 44) 1 dX12_look_44 fX12_7 (cR0 hg) rfl ?_
          refine jm_iconst (pc := 47) dX12_look_47 ?_
          refine jm_iald (pc := 48) dX12_look_48 (cR1 hg) (by decide) (by decide) (by decide) ?_
          exact jm_iret (pc := 49) dX12_look_49 rfl h
      · have h := h.2 q
        refine jm_aload_n (pc := 31) 0 dX12_look_31 rfl ?_
        refine jm_getr (pc := 32) 1 dX12_look_32 fX12_7 (cR0 hg) rfl ?_
        refine jm_iconst (pc := 35) dX12_look_35 ?_
        refine jm_iald (pc := 36) dX12_look_36 (cR1 hg) (by decide) (by decide) (by decide) ?_
        exact jm_iret (pc := 37) dX12_look_37 rfl h
    · have h := h.2 q
      refine jm_aload_n (pc := 19) 0 dX12_look_19 rfl ?_
      refine jm_getr (pc := 20) 1 dX12_look_20 fX12_7 (cR0 hg) rfl ?_
      refine jm_iconst (pc := 23) dX12_look_23 ?_
      refine jm_iald (pc := 24) dX12_look_24 (cR1 hg) (by decide) (by decide) (by decide) ?_
      exact jm_iret (pc := 25) dX12_look_25 rfl h
  · have h := h.2 q
    refine jm_aload_n (pc := 9) 0 dX12_look_9 rfl ?_
    refine jm_geti (pc := 10) 4 dX12_look_10 fX12_121 (cR0 hg) rfl ?_
    exact jm_iret (pc := 13) dX12_look_13 rfl h
