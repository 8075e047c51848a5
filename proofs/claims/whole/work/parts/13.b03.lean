theorem dX3_worth_0 : decode cX3_worth 0 = .ok (.iconst 0, 1) := by decide +kernel
theorem dX3_worth_1 : decode cX3_worth 1 = .ok (.istore 4, 2) := by decide +kernel
theorem dX3_worth_3 : decode cX3_worth 3 = .ok (.iload_n 1, 1) := by decide +kernel
theorem dX3_worth_4 : decode cX3_worth 4 = .ok (.istore 5, 2) := by decide +kernel
theorem dX3_worth_6 : decode cX3_worth 6 = .ok (.iload 5, 2) := by decide +kernel
theorem dX3_worth_8 : decode cX3_worth 8 = .ok (.iload_n 2, 1) := by decide +kernel
theorem dX3_worth_9 : decode cX3_worth 9 = .ok (.if_icmp .ge 219, 3) := by decide +kernel
theorem dX3_worth_12 : decode cX3_worth 12 = .ok (.iload 5, 2) := by decide +kernel
theorem dX3_worth_14 : decode cX3_worth 14 = .ok (.sipush 400, 3) := by decide +kernel
theorem dX3_worth_17 : decode cX3_worth 17 = .ok (.if_icmp .ge 211, 3) := by decide +kernel
theorem dX3_worth_20 : decode cX3_worth 20 = .ok (.aload_n 0, 1) := by decide +kernel
theorem dX3_worth_21 : decode cX3_worth 21 = .ok (.getfield 18, 3) := by decide +kernel
theorem dX3_worth_24 : decode cX3_worth 24 = .ok (.iload 5, 2) := by decide +kernel
theorem dX3_worth_26 : decode cX3_worth 26 = .ok (.iaload, 1) := by decide +kernel
theorem dX3_worth_27 : decode cX3_worth 27 = .ok (.bipush 14, 2) := by decide +kernel
theorem dX3_worth_29 : decode cX3_worth 29 = .ok (.ishr, 1) := by decide +kernel
theorem dX3_worth_30 : decode cX3_worth 30 = .ok (.istore 6, 2) := by decide +kernel
theorem dX3_worth_32 : decode cX3_worth 32 = .ok (.aload_n 0, 1) := by decide +kernel
theorem dX3_worth_33 : decode cX3_worth 33 = .ok (.getfield 18, 3) := by decide +kernel
theorem dX3_worth_36 : decode cX3_worth 36 = .ok (.iload 5, 2) := by decide +kernel
theorem dX3_worth_38 : decode cX3_worth 38 = .ok (.iaload, 1) := by decide +kernel
theorem dX3_worth_39 : decode cX3_worth 39 = .ok (.sipush 16383, 3) := by decide +kernel
theorem dX3_worth_42 : decode cX3_worth 42 = .ok (.iand, 1) := by decide +kernel
theorem dX3_worth_43 : decode cX3_worth 43 = .ok (.istore 7, 2) := by decide +kernel
theorem dX3_worth_45 : decode cX3_worth 45 = .ok (.iload 6, 2) := by decide +kernel
theorem dX3_worth_47 : decode cX3_worth 47 = .ok (.ifCond .ne 25, 3) := by decide +kernel
theorem dX3_worth_50 : decode cX3_worth 50 = .ok (.iload 4, 2) := by decide +kernel
theorem dX3_worth_52 : decode cX3_worth 52 = .ok (.bipush 64, 2) := by decide +kernel
theorem dX3_worth_54 : decode cX3_worth 54 = .ok (.if_icmp .ge 18, 3) := by decide +kernel
theorem dX3_worth_57 : decode cX3_worth 57 = .ok (.aload_n 0, 1) := by decide +kernel
theorem dX3_worth_58 : decode cX3_worth 58 = .ok (.getfield 34, 3) := by decide +kernel
theorem dX3_worth_61 : decode cX3_worth 61 = .ok (.iload 4, 2) := by decide +kernel
theorem dX3_worth_63 : decode cX3_worth 63 = .ok (.iload 7, 2) := by decide +kernel
theorem dX3_worth_65 : decode cX3_worth 65 = .ok (.iastore, 1) := by decide +kernel
theorem dX3_worth_66 : decode cX3_worth 66 = .ok (.iinc 4 1, 3) := by decide +kernel
theorem dX3_worth_69 : decode cX3_worth 69 = .ok (.goto 153, 3) := by decide +kernel
theorem dX3_worth_72 : decode cX3_worth 72 = .ok (.iload 6, 2) := by decide +kernel
theorem dX3_worth_74 : decode cX3_worth 74 = .ok (.iconst 1, 1) := by decide +kernel
theorem dX3_worth_75 : decode cX3_worth 75 = .ok (.if_icmp .ne 34, 3) := by decide +kernel
theorem dX3_worth_78 : decode cX3_worth 78 = .ok (.iload 4, 2) := by decide +kernel
theorem dX3_worth_80 : decode cX3_worth 80 = .ok (.bipush 64, 2) := by decide +kernel
theorem dX3_worth_82 : decode cX3_worth 82 = .ok (.if_icmp .ge 27, 3) := by decide +kernel
theorem dX3_worth_85 : decode cX3_worth 85 = .ok (.iload 7, 2) := by decide +kernel
theorem dX3_worth_87 : decode cX3_worth 87 = .ok (.aload_n 3, 1) := by decide +kernel
theorem dX3_worth_88 : decode cX3_worth 88 = .ok (.arraylength, 1) := by decide +kernel
theorem dX3_worth_89 : decode cX3_worth 89 = .ok (.if_icmp .ge 20, 3) := by decide +kernel
theorem dX3_worth_92 : decode cX3_worth 92 = .ok (.aload_n 0, 1) := by decide +kernel
theorem dX3_worth_93 : decode cX3_worth 93 = .ok (.getfield 34, 3) := by decide +kernel
theorem dX3_worth_96 : decode cX3_worth 96 = .ok (.iload 4, 2) := by decide +kernel
theorem dX3_worth_98 : decode cX3_worth 98 = .ok (.aload_n 3, 1) := by decide +kernel
theorem dX3_worth_99 : decode cX3_worth 99 = .ok (.iload 7, 2) := by decide +kernel
theorem dX3_worth_101 : decode cX3_worth 101 = .ok (.iaload, 1) := by decide +kernel
theorem dX3_worth_102 : decode cX3_worth 102 = .ok (.iastore, 1) := by decide +kernel
theorem dX3_worth_103 : decode cX3_worth 103 = .ok (.iinc 4 1, 3) := by decide +kernel
theorem dX3_worth_106 : decode cX3_worth 106 = .ok (.goto 116, 3) := by decide +kernel
theorem dX3_worth_109 : decode cX3_worth 109 = .ok (.iload 6, 2) := by decide +kernel
theorem dX3_worth_111 : decode cX3_worth 111 = .ok (.iconst 2, 1) := by decide +kernel
theorem dX3_worth_112 : decode cX3_worth 112 = .ok (.if_icmp .ne 37, 3) := by decide +kernel
theorem dX3_worth_115 : decode cX3_worth 115 = .ok (.iload 4, 2) := by decide +kernel
theorem dX3_worth_117 : decode cX3_worth 117 = .ok (.ifCond .le 32, 3) := by decide +kernel
theorem dX3_worth_120 : decode cX3_worth 120 = .ok (.iload 7, 2) := by decide +kernel
theorem dX3_worth_122 : decode cX3_worth 122 = .ok (.ifCond .le 27, 3) := by decide +kernel
theorem dX3_worth_125 : decode cX3_worth 125 = .ok (.aload_n 0, 1) := by decide +kernel
theorem dX3_worth_126 : decode cX3_worth 126 = .ok (.getfield 34, 3) := by decide +kernel
theorem dX3_worth_129 : decode cX3_worth 129 = .ok (.iload 4, 2) := by decide +kernel
theorem dX3_worth_131 : decode cX3_worth 131 = .ok (.iconst 1, 1) := by decide +kernel
theorem dX3_worth_132 : decode cX3_worth 132 = .ok (.isub, 1) := by decide +kernel
theorem dX3_worth_133 : decode cX3_worth 133 = .ok (.aload_n 0, 1) := by decide +kernel
theorem dX3_worth_134 : decode cX3_worth 134 = .ok (.getfield 34, 3) := by decide +kernel
theorem dX3_worth_137 : decode cX3_worth 137 = .ok (.iload 4, 2) := by decide +kernel
theorem dX3_worth_139 : decode cX3_worth 139 = .ok (.iconst 1, 1) := by decide +kernel
theorem dX3_worth_140 : decode cX3_worth 140 = .ok (.isub, 1) := by decide +kernel
theorem dX3_worth_141 : decode cX3_worth 141 = .ok (.iaload, 1) := by decide +kernel
theorem dX3_worth_142 : decode cX3_worth 142 = .ok (.iload 7, 2) := by decide +kernel
theorem dX3_worth_144 : decode cX3_worth 144 = .ok (.idiv, 1) := by decide +kernel
theorem dX3_worth_145 : decode cX3_worth 145 = .ok (.iastore, 1) := by decide +kernel
theorem dX3_worth_146 : decode cX3_worth 146 = .ok (.goto 76, 3) := by decide +kernel
theorem dX3_worth_149 : decode cX3_worth 149 = .ok (.iload 6, 2) := by decide +kernel
theorem dX3_worth_151 : decode cX3_worth 151 = .ok (.iconst 3, 1) := by decide +kernel
theorem dX3_worth_152 : decode cX3_worth 152 = .ok (.if_icmp .ne 31, 3) := by decide +kernel
theorem dX3_worth_155 : decode cX3_worth 155 = .ok (.iload 4, 2) := by decide +kernel
theorem dX3_worth_157 : decode cX3_worth 157 = .ok (.ifCond .le 26, 3) := by decide +kernel
theorem dX3_worth_160 : decode cX3_worth 160 = .ok (.aload_n 0, 1) := by decide +kernel
theorem dX3_worth_161 : decode cX3_worth 161 = .ok (.getfield 34, 3) := by decide +kernel
theorem dX3_worth_164 : decode cX3_worth 164 = .ok (.iload 4, 2) := by decide +kernel
theorem dX3_worth_166 : decode cX3_worth 166 = .ok (.iconst 1, 1) := by decide +kernel
theorem dX3_worth_167 : decode cX3_worth 167 = .ok (.isub, 1) := by decide +kernel
theorem dX3_worth_168 : decode cX3_worth 168 = .ok (.iconst 1, 1) := by decide +kernel
theorem dX3_worth_169 : decode cX3_worth 169 = .ok (.aload_n 0, 1) := by decide +kernel
theorem dX3_worth_170 : decode cX3_worth 170 = .ok (.getfield 34, 3) := by decide +kernel
theorem dX3_worth_173 : decode cX3_worth 173 = .ok (.iload 4, 2) := by decide +kernel
theorem dX3_worth_175 : decode cX3_worth 175 = .ok (.iconst 1, 1) := by decide +kernel
theorem dX3_worth_176 : decode cX3_worth 176 = .ok (.isub, 1) := by decide +kernel
theorem dX3_worth_177 : decode cX3_worth 177 = .ok (.iaload, 1) := by decide +kernel
theorem dX3_worth_178 : decode cX3_worth 178 = .ok (.isub, 1) := by decide +kernel
theorem dX3_worth_179 : decode cX3_worth 179 = .ok (.iastore, 1) := by decide +kernel
theorem dX3_worth_180 : decode cX3_worth 180 = .ok (.goto 42, 3) := by decide +kernel
theorem dX3_worth_183 : decode cX3_worth 183 = .ok (.iload 4, 2) := by decide +kernel
theorem dX3_worth_185 : decode cX3_worth 185 = .ok (.iconst 1, 1) := by decide +kernel
theorem dX3_worth_186 : decode cX3_worth 186 = .ok (.if_icmp .le 36, 3) := by decide +kernel
theorem dX3_worth_189 : decode cX3_worth 189 = .ok (.iinc 4 (-1), 3) := by decide +kernel
theorem dX3_worth_192 : decode cX3_worth 192 = .ok (.aload_n 0, 1) := by decide +kernel
theorem dX3_worth_193 : decode cX3_worth 193 = .ok (.getfield 34, 3) := by decide +kernel
theorem dX3_worth_196 : decode cX3_worth 196 = .ok (.iload 4, 2) := by decide +kernel
theorem dX3_worth_198 : decode cX3_worth 198 = .ok (.iconst 1, 1) := by decide +kernel
theorem dX3_worth_199 : decode cX3_worth 199 = .ok (.isub, 1) := by decide +kernel
theorem dX3_worth_200 : decode cX3_worth 200 = .ok (.iload 6, 2) := by decide +kernel
theorem dX3_worth_202 : decode cX3_worth 202 = .ok (.aload_n 0, 1) := by decide +kernel
theorem dX3_worth_203 : decode cX3_worth 203 = .ok (.getfield 34, 3) := by decide +kernel
theorem dX3_worth_206 : decode cX3_worth 206 = .ok (.iload 4, 2) := by decide +kernel
theorem dX3_worth_208 : decode cX3_worth 208 = .ok (.iconst 1, 1) := by decide +kernel
theorem dX3_worth_209 : decode cX3_worth 209 = .ok (.isub, 1) := by decide +kernel
theorem dX3_worth_210 : decode cX3_worth 210 = .ok (.iaload, 1) := by decide +kernel
theorem dX3_worth_211 : decode cX3_worth 211 = .ok (.aload_n 0, 1) := by decide +kernel
theorem dX3_worth_212 : decode cX3_worth 212 = .ok (.getfield 34, 3) := by decide +kernel
theorem dX3_worth_215 : decode cX3_worth 215 = .ok (.iload 4, 2) := by decide +kernel
theorem dX3_worth_217 : decode cX3_worth 217 = .ok (.iaload, 1) := by decide +kernel
theorem dX3_worth_218 : decode cX3_worth 218 = .ok (.invokestatic 47, 3) := by decide +kernel
theorem dX3_worth_221 : decode cX3_worth 221 = .ok (.iastore, 1) := by decide +kernel
theorem dX3_worth_222 : decode cX3_worth 222 = .ok (.iinc 5 1, 3) := by decide +kernel
theorem dX3_worth_225 : decode cX3_worth 225 = .ok (.goto (-219), 3) := by decide +kernel
theorem dX3_worth_228 : decode cX3_worth 228 = .ok (.aload_n 0, 1) := by decide +kernel
theorem dX3_worth_229 : decode cX3_worth 229 = .ok (.getfield 34, 3) := by decide +kernel
theorem dX3_worth_232 : decode cX3_worth 232 = .ok (.iconst 0, 1) := by decide +kernel
theorem dX3_worth_233 : decode cX3_worth 233 = .ok (.iaload, 1) := by decide +kernel
theorem dX3_worth_234 : decode cX3_worth 234 = .ok (.ireturn, 1) := by decide +kernel
theorem bX3_worth_183 {l : Launch} {g : jm_G} {d : Nat} {v2 v4 v5 v6 : Int} (hg : jm_HC g) {mu : jm_M} {Q : Option Value → jm_M → Prop} (h : jm_rg v4 ∧ (v4 ≤ 1 → jm_V l g (d + 1) iX3_worth 6 [(0, .ref 15), (2, jm_i v2), (3, .ref 36), (4, jm_i v4), (5, jm_i (v5 + 1))] [] mu Q) ∧ (1 < v4 → (0 ≤ ((v4 + (-1)) - 1) ∧ ((v4 + (-1)) - 1) < 64) ∧ (0 ≤ (v4 + (-1)) ∧ (v4 + (-1)) < 64) ∧ jm_R l g d iX3_joined [jm_i v6, jm_i (mu.1 21 ((v4 + (-1)) - 1)), jm_i (mu.1 21 (v4 + (-1)))] mu (jm_qi fun z5 m4 => ∀ m8, m8 = jm_wr m4 21 ((v4 + (-1)) - 1) z5 → jm_V l g (d + 1) iX3_worth 6 [(0, .ref 15), (2, jm_i v2), (3, .ref 36), (4, jm_i (v4 + (-1))), (5, jm_i (v5 + 1))] [] m8 Q))) : jm_V l g (d + 1) iX3_worth 183 [(0, .ref 15), (2, jm_i v2), (3, .ref 36), (4, jm_i v4), (5, jm_i v5), (6, jm_i v6)] [] mu Q := by
  refine jm_mrI (fun hm0 => ?_)
  refine jm_iload (pc := 183) 3 dX3_worth_183 rfl ?_
  refine jm_iconst (pc := 185) dX3_worth_185 ?_
  have hg1 := h.1
  have h := h.2
  refine jm_icmp_le (pc := 186) 222 dX3_worth_186 rfl hg1 ⟨by decide, by decide⟩ (fun q => ?_) (fun q => ?_)
  · have h := h.1 q
    refine jm_iinc (pc := 222) (lv' := [(5, _), (0, _), (2, _), (3, _), (4, _), (6, _)]) 4 dX3_worth_222 rfl (by decide) rfl ?_
    refine jm_goto (pc := 225) 6 dX3_worth_225 rfl ?_
    exact jm_sub [1, 2, 3, 4, 0] rfl h
  · have h := h.2 q
    refine jm_iinc (pc := 189) (lv' := [(4, _), (0, _), (2, _), (3, _), (5, _), (6, _)]) 3 dX3_worth_189 rfl (by decide) rfl ?_
    refine jm_aload_n (pc := 192) 1 dX3_worth_192 rfl ?_
    refine jm_getr (pc := 193) 7 dX3_worth_193 fX3_34 (cC15 hg) rfl ?_
    refine jm_iload (pc := 196) 0 dX3_worth_196 rfl ?_
    refine jm_iconst (pc := 198) dX3_worth_198 ?_
    refine jm_isub (pc := 199) dX3_worth_199 ?_
    refine jm_iload (pc := 200) 5 dX3_worth_200 rfl ?_
    refine jm_aload_n (pc := 202) 1 dX3_worth_202 rfl ?_
    refine jm_getr (pc := 203) 7 dX3_worth_203 fX3_34 (cC15 hg) rfl ?_
    refine jm_iload (pc := 206) 0 dX3_worth_206 rfl ?_
    refine jm_iconst (pc := 208) dX3_worth_208 ?_
    refine jm_isub (pc := 209) dX3_worth_209 ?_
    have hg2 := h.1
    have h := h.2
    refine jm_iald (pc := 210) dX3_worth_210 (cC21 hg) (by decide) hg2.1 hg2.2 ?_
    refine jm_aload_n (pc := 211) 1 dX3_worth_211 rfl ?_
    refine jm_getr (pc := 212) 7 dX3_worth_212 fX3_34 (cC15 hg) rfl ?_
    refine jm_iload (pc := 215) 0 dX3_worth_215 rfl ?_
    have hg3 := h.1
    have h := h.2
    refine jm_iald (pc := 217) dX3_worth_217 (cC21 hg) (by decide) hg3.1 hg3.2 ?_
    refine jm_callsi (pc := 218) (As := [_, _, _]) (st := [_, _]) iX3_joined dX3_worth_218 mX3_47 rfl rfl (Nat.le_of_ble_eq_true rfl) h (fun z5 m4 hz6 h hm7 => ?_)
    refine jm_iast (pc := 221) dX3_worth_221 (cC21 hg) (by decide) hg2.1 hg2.2 hz6 ?_
    have h := h _ rfl
    refine jm_mrI (fun hm9 => ?_)
    refine jm_iinc (pc := 222) (lv' := [(5, _), (4, _), (0, _), (2, _), (3, _), (6, _)]) 4 dX3_worth_222 rfl (by decide) rfl ?_
    refine jm_goto (pc := 225) 6 dX3_worth_225 rfl ?_
    exact jm_sub [2, 3, 4, 1, 0] rfl h
theorem bX3_worth_149 {l : Launch} {g : jm_G} {d : Nat} {v2 v4 v5 v6 : Int} (hg : jm_HC g) {mu : jm_M} {Q : Option Value → jm_M → Prop} (h : jm_rg v6 ∧ (¬ v6 = 3 → jm_V l g (d + 1) iX3_worth 183 [(0, .ref 15), (2, jm_i v2), (3, .ref 36), (4, jm_i v4), (5, jm_i v5), (6, jm_i v6)] [] mu Q) ∧ (v6 = 3 → jm_rg v4 ∧ (v4 ≤ 0 → jm_V l g (d + 1) iX3_worth 183 [(0, .ref 15), (2, jm_i v2), (3, .ref 36), (4, jm_i v4), (5, jm_i v5), (6, jm_i v6)] [] mu Q) ∧ (0 < v4 → (0 ≤ (v4 - 1) ∧ (v4 - 1) < 64) ∧ jm_rg (1 - (mu.1 21 (v4 - 1))) ∧ ∀ m5, m5 = jm_wr mu 21 (v4 - 1) (1 - (mu.1 21 (v4 - 1))) → jm_V l g (d + 1) iX3_worth 6 [(0, .ref 15), (2, jm_i v2), (3, .ref 36), (4, jm_i v4), (5, jm_i (v5 + 1))] [] m5 Q))) : jm_V l g (d + 1) iX3_worth 149 [(0, .ref 15), (2, jm_i v2), (3, .ref 36), (4, jm_i v4), (5, jm_i v5), (6, jm_i v6)] [] mu Q := by
  refine jm_mrI (fun hm0 => ?_)
  refine jm_iload (pc := 149) 5 dX3_worth_149 rfl ?_
  refine jm_iconst (pc := 151) dX3_worth_151 ?_
  have hg1 := h.1
  have h := h.2
  refine jm_icmp_ne (pc := 152) 183 dX3_worth_152 rfl hg1 ⟨by decide, by decide⟩ (fun q => ?_) (fun q => ?_)
  · have h := h.1 q
    exact jm_sub [0, 1, 2, 3, 4, 5] rfl h
  · have h := h.2 q
    refine jm_iload (pc := 155) 3 dX3_worth_155 rfl ?_
    have hg2 := h.1
    have h := h.2
    refine jm_if_le (pc := 157) 183 dX3_worth_157 rfl hg2 (fun q => ?_) (fun q => ?_)
    · have h := h.1 q
      exact jm_sub [0, 1, 2, 3, 4, 5] rfl h
    · have h := h.2 q
      refine jm_aload_n (pc := 160) 0 dX3_worth_160 rfl ?_
      refine jm_getr (pc := 161) 7 dX3_worth_161 fX3_34 (cC15 hg) rfl ?_
      refine jm_iload (pc := 164) 3 dX3_worth_164 rfl ?_
      refine jm_iconst (pc := 166) dX3_worth_166 ?_
      refine jm_isub (pc := 167) dX3_worth_167 ?_
      refine jm_iconst (pc := 168) dX3_worth_168 ?_
      refine jm_aload_n (pc := 169) 0 dX3_worth_169 rfl ?_
      refine jm_getr (pc := 170) 7 dX3_worth_170 fX3_34 (cC15 hg) rfl ?_
      refine jm_iload (pc := 173) 3 dX3_worth_173 rfl ?_
      refine jm_iconst (pc := 175) dX3_worth_175 ?_
      refine jm_isub (pc := 176) dX3_worth_176 ?_
      have hg3 := h.1
      have h := h.2
      refine jm_iald (pc := 177) dX3_worth_177 (cC21 hg) (by decide) hg3.1 hg3.2 ?_
      refine jm_isub (pc := 178) dX3_worth_178 ?_
      have hg4 := h.1
      have h := h.2
      refine jm_iast (pc := 179) dX3_worth_179 (cC21 hg) (by decide) hg3.1 hg3.2 hg4 ?_
      have h := h _ rfl
      refine jm_mrI (fun hm6 => ?_)
      refine jm_goto (pc := 180) 222 dX3_worth_180 rfl ?_
      refine jm_iinc (pc := 222) (lv' := [(5, _), (0, _), (2, _), (3, _), (4, _), (6, _)]) 4 dX3_worth_222 rfl (by decide) rfl ?_
      refine jm_goto (pc := 225) 6 dX3_worth_225 rfl ?_
      exact jm_sub [1, 2, 3, 4, 0] rfl h
theorem bX3_worth_109 {l : Launch} {g : jm_G} {d : Nat} {v2 v4 v5 v6 v7 : Int} (hg : jm_HC g) {mu : jm_M} {Q : Option Value → jm_M → Prop} (h : jm_rg v6 ∧ (¬ v6 = 2 → jm_V l g (d + 1) iX3_worth 149 [(0, .ref 15), (2, jm_i v2), (3, .ref 36), (4, jm_i v4), (5, jm_i v5), (6, jm_i v6)] [] mu Q) ∧ (v6 = 2 → jm_rg v4 ∧ (v4 ≤ 0 → jm_V l g (d + 1) iX3_worth 149 [(0, .ref 15), (2, jm_i v2), (3, .ref 36), (4, jm_i v4), (5, jm_i v5), (6, jm_i v6)] [] mu Q) ∧ (0 < v4 → jm_rg v7 ∧ (v7 ≤ 0 → jm_V l g (d + 1) iX3_worth 149 [(0, .ref 15), (2, jm_i v2), (3, .ref 36), (4, jm_i v4), (5, jm_i v5), (6, jm_i v6)] [] mu Q) ∧ (0 < v7 → (0 ≤ (v4 - 1) ∧ (v4 - 1) < 64) ∧ ¬ v7 = 0 ∧ jm_rg (Int.tdiv (mu.1 21 (v4 - 1)) v7) ∧ ∀ m7, m7 = jm_wr mu 21 (v4 - 1) (Int.tdiv (mu.1 21 (v4 - 1)) v7) → jm_V l g (d + 1) iX3_worth 6 [(0, .ref 15), (2, jm_i v2), (3, .ref 36), (4, jm_i v4), (5, jm_i (v5 + 1))] [] m7 Q)))) : jm_V l g (d + 1) iX3_worth 109 [(0, .ref 15), (2, jm_i v2), (3, .ref 36), (4, jm_i v4), (5, jm_i v5), (6, jm_i v6), (7, jm_i v7)] [] mu Q := by
  refine jm_mrI (fun hm0 => ?_)
  refine jm_iload (pc := 109) 5 dX3_worth_109 rfl ?_
  refine jm_iconst (pc := 111) dX3_worth_111 ?_
  have hg1 := h.1
  have h := h.2
  refine jm_icmp_ne (pc := 112) 149 dX3_worth_112 rfl hg1 ⟨by decide, by decide⟩ (fun q => ?_) (fun q => ?_)
  · have h := h.1 q
    exact jm_sub [0, 1, 2, 3, 4, 5] rfl h
  · have h := h.2 q
    refine jm_iload (pc := 115) 3 dX3_worth_115 rfl ?_
    have hg2 := h.1
    have h := h.2
    refine jm_if_le (pc := 117) 149 dX3_worth_117 rfl hg2 (fun q => ?_) (fun q => ?_)
    · have h := h.1 q
      exact jm_sub [0, 1, 2, 3, 4, 5] rfl h
    · have h := h.2 q
      refine jm_iload (pc := 120) 6 dX3_worth_120 rfl ?_
      have hg3 := h.1
      have h := h.2
      refine jm_if_le (pc := 122) 149 dX3_worth_122 rfl hg3 (fun q => ?_) (fun q => ?_)
      · have h := h.1 q
        exact jm_sub [0, 1, 2, 3, 4, 5] rfl h
      · have h := h.2 q
        refine jm_aload_n (pc := 125) 0 dX3_worth_125 rfl ?_
        refine jm_getr (pc := 126) 7 dX3_worth_126 fX3_34 (cC15 hg) rfl ?_
        refine jm_iload (pc := 129) 3 dX3_worth_129 rfl ?_
        refine jm_iconst (pc := 131) dX3_worth_131 ?_
        refine jm_isub (pc := 132) dX3_worth_132 ?_
        refine jm_aload_n (pc := 133) 0 dX3_worth_133 rfl ?_
        refine jm_getr (pc := 134) 7 dX3_worth_134 fX3_34 (cC15 hg) rfl ?_
        refine jm_iload (pc := 137) 3 dX3_worth_137 rfl ?_
        refine jm_iconst (pc := 139) dX3_worth_139 ?_
        refine jm_isub (pc := 140) dX3_worth_140 ?_
        have hg4 := h.1
        have h := h.2
        refine jm_iald (pc := 141) dX3_worth_141 (cC21 hg) (by decide) hg4.1 hg4.2 ?_
        refine jm_iload (pc := 142) 6 dX3_worth_142 rfl ?_
        have hg5 := h.1
        have h := h.2
        refine jm_idiv (pc := 144) (hm0 _ _) hg3 hg5 dX3_worth_144 ?_
        have hg6 := h.1
        have h := h.2
        refine jm_iast (pc := 145) dX3_worth_145 (cC21 hg) (by decide) hg4.1 hg4.2 hg6 ?_
        have h := h _ rfl
        refine jm_mrI (fun hm8 => ?_)
        refine jm_goto (pc := 146) 222 dX3_worth_146 rfl ?_
        refine jm_iinc (pc := 222) (lv' := [(5, _), (0, _), (2, _), (3, _), (4, _), (6, _), (7, _)]) 4 dX3_worth_222 rfl (by decide) rfl ?_
        refine jm_goto (pc := 225) 6 dX3_worth_225 rfl ?_
        exact jm_sub [1, 2, 3, 4, 0] rfl h
theorem bX3_worth_72 {l : Launch} {g : jm_G} {d : Nat} {v2 v4 v5 v6 v7 : Int} (hg : jm_HC g) {mu : jm_M} {Q : Option Value → jm_M → Prop} (h : jm_rg v6 ∧ (¬ v6 = 1 → jm_V l g (d + 1) iX3_worth 109 [(0, .ref 15), (2, jm_i v2), (3, .ref 36), (4, jm_i v4), (5, jm_i v5), (6, jm_i v6), (7, jm_i v7)] [] mu Q) ∧ (v6 = 1 → jm_rg v4 ∧ (64 ≤ v4 → jm_V l g (d + 1) iX3_worth 109 [(0, .ref 15), (2, jm_i v2), (3, .ref 36), (4, jm_i v4), (5, jm_i v5), (6, jm_i v6), (7, jm_i v7)] [] mu Q) ∧ (v4 < 64 → jm_rg v7 ∧ (11 ≤ v7 → jm_V l g (d + 1) iX3_worth 109 [(0, .ref 15), (2, jm_i v2), (3, .ref 36), (4, jm_i v4), (5, jm_i v5), (6, jm_i v6), (7, jm_i v7)] [] mu Q) ∧ (v7 < 11 → (0 ≤ v7 ∧ v7 < 11) ∧ (0 ≤ v4 ∧ v4 < 64) ∧ ∀ m6, m6 = jm_wr mu 21 v4 (mu.1 36 v7) → jm_V l g (d + 1) iX3_worth 6 [(0, .ref 15), (2, jm_i v2), (3, .ref 36), (4, jm_i (v4 + 1)), (5, jm_i (v5 + 1))] [] m6 Q)))) : jm_V l g (d + 1) iX3_worth 72 [(0, .ref 15), (2, jm_i v2), (3, .ref 36), (4, jm_i v4), (5, jm_i v5), (6, jm_i v6), (7, jm_i v7)] [] mu Q := by
  refine jm_mrI (fun hm0 => ?_)
  refine jm_iload (pc := 72) 5 dX3_worth_72 rfl ?_
  refine jm_iconst (pc := 74) dX3_worth_74 ?_
  have hg1 := h.1
  have h := h.2
  refine jm_icmp_ne (pc := 75) 109 dX3_worth_75 rfl hg1 ⟨by decide, by decide⟩ (fun q => ?_) (fun q => ?_)
  · have h := h.1 q
    exact jm_sub [0, 1, 2, 3, 4, 5, 6] rfl h
  · have h := h.2 q
    refine jm_iload (pc := 78) 3 dX3_worth_78 rfl ?_
    refine jm_bipush (pc := 80) dX3_worth_80 (by decide) ?_
    have hg2 := h.1
    have h := h.2
    refine jm_icmp_ge (pc := 82) 109 dX3_worth_82 rfl hg2 ⟨by decide, by decide⟩ (fun q => ?_) (fun q => ?_)
    · have h := h.1 q
      exact jm_sub [0, 1, 2, 3, 4, 5, 6] rfl h
    · have h := h.2 q
      refine jm_iload (pc := 85) 6 dX3_worth_85 rfl ?_
      refine jm_aload_n (pc := 87) 2 dX3_worth_87 rfl ?_
      refine jm_alen (pc := 88) dX3_worth_88 (cC36 hg) ?_
      have hg3 := h.1
      have h := h.2
      refine jm_icmp_ge (pc := 89) 109 dX3_worth_89 rfl hg3 ⟨by decide, by decide⟩ (fun q => ?_) (fun q => ?_)
      · have h := h.1 q
        exact jm_sub [0, 1, 2, 3, 4, 5, 6] rfl h
      · have h := h.2 q
        refine jm_aload_n (pc := 92) 0 dX3_worth_92 rfl ?_
        refine jm_getr (pc := 93) 7 dX3_worth_93 fX3_34 (cC15 hg) rfl ?_
        refine jm_iload (pc := 96) 3 dX3_worth_96 rfl ?_
        refine jm_aload_n (pc := 98) 2 dX3_worth_98 rfl ?_
        refine jm_iload (pc := 99) 6 dX3_worth_99 rfl ?_
        have hg4 := h.1
        have h := h.2
        refine jm_iald (pc := 101) dX3_worth_101 (cC36 hg) (by decide) hg4.1 hg4.2 ?_
        have hg5 := h.1
        have h := h.2
        refine jm_iast (pc := 102) dX3_worth_102 (cC21 hg) (by decide) hg5.1 hg5.2 (hm0 _ _) ?_
        have h := h _ rfl
        refine jm_mrI (fun hm7 => ?_)
        refine jm_iinc (pc := 103) (lv' := [(4, _), (0, _), (2, _), (3, _), (5, _), (6, _), (7, _)]) 3 dX3_worth_103 rfl (by decide) rfl ?_
        refine jm_goto (pc := 106) 222 dX3_worth_106 rfl ?_
        refine jm_iinc (pc := 222) (lv' := [(5, _), (4, _), (0, _), (2, _), (3, _), (6, _), (7, _)]) 4 dX3_worth_222 rfl (by decide) rfl ?_
        refine jm_goto (pc := 225) 6 dX3_worth_225 rfl ?_
        exact jm_sub [2, 3, 4, 1, 0] rfl h
theorem bX3_worth_6 {l : Launch} {g : jm_G} {d : Nat} {v2 v4 v5 : Int} (hg : jm_HC g) {mu : jm_M} {Q : Option Value → jm_M → Prop} (h : jm_rg v5 ∧ jm_rg v2 ∧ (v2 ≤ v5 → Q (some (jm_i (mu.1 21 0))) mu) ∧ (v5 < v2 → (400 ≤ v5 → Q (some (jm_i (mu.1 21 0))) mu) ∧ (v5 < 400 → (0 ≤ v5 ∧ v5 < 400) ∧ ∀ x4, x4 = (jm_shr (mu.1 16 v5) 14) → ∀ x5, x5 = (jm_and (mu.1 16 v5) 16383) → (¬ x4 = 0 → jm_V l g (d + 1) iX3_worth 72 [(0, .ref 15), (2, jm_i v2), (3, .ref 36), (4, jm_i v4), (5, jm_i v5), (6, jm_i x4), (7, jm_i x5)] [] mu Q) ∧ (x4 = 0 → jm_rg v4 ∧ (64 ≤ v4 → jm_V l g (d + 1) iX3_worth 72 [(0, .ref 15), (2, jm_i v2), (3, .ref 36), (4, jm_i v4), (5, jm_i v5), (6, jm_i x4), (7, jm_i x5)] [] mu Q) ∧ (v4 < 64 → (0 ≤ v4 ∧ v4 < 64) ∧ ∀ m8, m8 = jm_wr mu 21 v4 x5 → jm_V l g (d + 1) iX3_worth 6 [(0, .ref 15), (2, jm_i v2), (3, .ref 36), (4, jm_i (v4 + 1)), (5, jm_i (v5 + 1))] [] m8 Q))))) : jm_V l g (d + 1) iX3_worth 6 [(0, .ref 15), (2, jm_i v2), (3, .ref 36), (4, jm_i v4), (5, jm_i v5)] [] mu Q := by
  refine jm_mrI (fun hm0 => ?_)
  refine jm_iload (pc := 6) 4 dX3_worth_6 rfl ?_
  refine jm_iload_n (pc := 8) 1 dX3_worth_8 rfl ?_
  have hg1 := h.1
  have h := h.2
  have hg2 := h.1
  have h := h.2
  refine jm_icmp_ge (pc := 9) 228 dX3_worth_9 rfl hg1 hg2 (fun q => ?_) (fun q => ?_)
  · have h := h.1 q
    refine jm_aload_n (pc := 228) 0 dX3_worth_228 rfl ?_
    refine jm_getr (pc := 229) 7 dX3_worth_229 fX3_34 (cC15 hg) rfl ?_
    refine jm_iconst (pc := 232) dX3_worth_232 ?_
    refine jm_iald (pc := 233) dX3_worth_233 (cC21 hg) (by decide) (by decide) (by decide) ?_
    exact jm_iret (pc := 234) dX3_worth_234 rfl h
  · have h := h.2 q
    refine jm_iload (pc := 12) 4 dX3_worth_12 rfl ?_
    refine jm_sipush (pc := 14) dX3_worth_14 (by decide) ?_
    refine jm_icmp_ge (pc := 17) 228 dX3_worth_17 rfl hg1 ⟨by decide, by decide⟩ (fun q => ?_) (fun q => ?_)
    · have h := h.1 q
      refine jm_aload_n (pc := 228) 0 dX3_worth_228 rfl ?_
      refine jm_getr (pc := 229) 7 dX3_worth_229 fX3_34 (cC15 hg) rfl ?_
      refine jm_iconst (pc := 232) dX3_worth_232 ?_
      refine jm_iald (pc := 233) dX3_worth_233 (cC21 hg) (by decide) (by decide) (by decide) ?_
      exact jm_iret (pc := 234) dX3_worth_234 rfl h
    · have h := h.2 q
      refine jm_aload_n (pc := 20) 0 dX3_worth_20 rfl ?_
      refine jm_getr (pc := 21) 2 dX3_worth_21 fX3_18 (cC15 hg) rfl ?_
      refine jm_iload (pc := 24) 4 dX3_worth_24 rfl ?_
      have hg3 := h.1
      have h := h.2
      refine jm_iald (pc := 26) dX3_worth_26 (cC16 hg) (by decide) hg3.1 hg3.2 ?_
      refine jm_bipush (pc := 27) dX3_worth_27 (by decide) ?_
      refine jm_ishr (pc := 29) dX3_worth_29 ?_
      have h := h _ rfl
      refine jm_istore (pc := 30) (lv' := [(6, _), (0, _), (2, _), (3, _), (4, _), (5, _)]) dX3_worth_30 (by decide) rfl ?_
      refine jm_aload_n (pc := 32) 1 dX3_worth_32 rfl ?_
      refine jm_getr (pc := 33) 2 dX3_worth_33 fX3_18 (cC15 hg) rfl ?_
      refine jm_iload (pc := 36) 5 dX3_worth_36 rfl ?_
      refine jm_iald (pc := 38) dX3_worth_38 (cC16 hg) (by decide) hg3.1 hg3.2 ?_
      refine jm_sipush (pc := 39) dX3_worth_39 (by decide) ?_
      refine jm_iand (pc := 42) dX3_worth_42 ?_
      have h := h _ rfl
      refine jm_istore (pc := 43) (lv' := [(7, _), (6, _), (0, _), (2, _), (3, _), (4, _), (5, _)]) dX3_worth_43 (by decide) rfl ?_
      refine jm_iload (pc := 45) 1 dX3_worth_45 rfl ?_
      refine jm_if_ne (pc := 47) 72 dX3_worth_47 rfl (jm_rgT _) (fun q => ?_) (fun q => ?_)
      · have h := h.1 q
        exact jm_sub [2, 3, 4, 5, 6, 1, 0] rfl h
      · have h := h.2 q
        refine jm_iload (pc := 50) 5 dX3_worth_50 rfl ?_
        refine jm_bipush (pc := 52) dX3_worth_52 (by decide) ?_
        have hg6 := h.1
        have h := h.2
        refine jm_icmp_ge (pc := 54) 72 dX3_worth_54 rfl hg6 ⟨by decide, by decide⟩ (fun q => ?_) (fun q => ?_)
        · have h := h.1 q
          exact jm_sub [2, 3, 4, 5, 6, 1, 0] rfl h
        · have h := h.2 q
          refine jm_aload_n (pc := 57) 2 dX3_worth_57 rfl ?_
          refine jm_getr (pc := 58) 7 dX3_worth_58 fX3_34 (cC15 hg) rfl ?_
          refine jm_iload (pc := 61) 5 dX3_worth_61 rfl ?_
          refine jm_iload (pc := 63) 0 dX3_worth_63 rfl ?_
          have hg7 := h.1
          have h := h.2
          refine jm_iast (pc := 65) dX3_worth_65 (cC21 hg) (by decide) hg7.1 hg7.2 (jm_rgT _) ?_
          have h := h _ rfl
          refine jm_mrI (fun hm9 => ?_)
          refine jm_iinc (pc := 66) (lv' := [(4, _), (7, _), (6, _), (0, _), (2, _), (3, _), (5, _)]) 5 dX3_worth_66 rfl (by decide) rfl ?_
          refine jm_goto (pc := 69) 222 dX3_worth_69 rfl ?_
          refine jm_iinc (pc := 222) (lv' := [(5, _), (4, _), (7, _), (6, _), (0, _), (2, _), (3, _)]) 6 dX3_worth_222 rfl (by decide) rfl ?_
          refine jm_goto (pc := 225) 6 dX3_worth_225 rfl ?_
          exact jm_sub [4, 5, 6, 1, 0] rfl h
theorem eX3_worth {l : Launch} {g : jm_G} {d : Nat} {v1 v2 : Int} (hg : jm_HC g) {mu : jm_M} {Q : Option Value → jm_M → Prop} (h : jm_V l g (d + 1) iX3_worth 6 [(0, .ref 15), (2, jm_i v2), (3, .ref 36), (4, jm_i 0), (5, jm_i v1)] [] mu Q) : jm_R l g (d + 1) iX3_worth [.ref 15, jm_i v1, jm_i v2, .ref 36] mu Q := by
  refine jm_enter [(0, .ref 15), (1, jm_i v1), (2, jm_i v2), (3, .ref 36)] (by decide) (Nat.le_of_ble_eq_true rfl) rfl ?_
  refine jm_mrI (fun hm0 => ?_)
  refine jm_iconst (pc := 0) dX3_worth_0 ?_
  refine jm_istore (pc := 1) (lv' := [(4, _), (0, _), (1, _), (2, _), (3, _)]) dX3_worth_1 (by decide) rfl ?_
  refine jm_iload_n (pc := 3) 2 dX3_worth_3 rfl ?_
  refine jm_istore (pc := 4) (lv' := [(5, _), (4, _), (0, _), (1, _), (2, _), (3, _)]) dX3_worth_4 (by decide) rfl ?_
  exact jm_sub [2, 4, 5, 1, 0] rfl h
theorem dX3_tell_0 : decode cX3_tell 0 = .ok (.iconst 0, 1) := by decide +kernel
theorem dX3_tell_1 : decode cX3_tell 1 = .ok (.istore 4, 2) := by decide +kernel
theorem dX3_tell_3 : decode cX3_tell 3 = .ok (.iload 4, 2) := by decide +kernel
theorem dX3_tell_5 : decode cX3_tell 5 = .ok (.aload_n 0, 1) := by decide +kernel
theorem dX3_tell_6 : decode cX3_tell 6 = .ok (.getfield 9, 3) := by decide +kernel
theorem dX3_tell_9 : decode cX3_tell 9 = .ok (.if_icmp .ge 98, 3) := by decide +kernel
theorem dX3_tell_12 : decode cX3_tell 12 = .ok (.iload 4, 2) := by decide +kernel
theorem dX3_tell_14 : decode cX3_tell 14 = .ok (.bipush 16, 2) := by decide +kernel
theorem dX3_tell_16 : decode cX3_tell 16 = .ok (.if_icmp .ge 91, 3) := by decide +kernel
theorem dX3_tell_19 : decode cX3_tell 19 = .ok (.aload_n 0, 1) := by decide +kernel
theorem dX3_tell_20 : decode cX3_tell 20 = .ok (.getfield 28, 3) := by decide +kernel
theorem dX3_tell_23 : decode cX3_tell 23 = .ok (.iload 4, 2) := by decide +kernel
theorem dX3_tell_25 : decode cX3_tell 25 = .ok (.iaload, 1) := by decide +kernel
theorem dX3_tell_26 : decode cX3_tell 26 = .ok (.aload_n 0, 1) := by decide +kernel
theorem dX3_tell_27 : decode cX3_tell 27 = .ok (.getfield 31, 3) := by decide +kernel
theorem dX3_tell_30 : decode cX3_tell 30 = .ok (.iload 4, 2) := by decide +kernel
theorem dX3_tell_32 : decode cX3_tell 32 = .ok (.iaload, 1) := by decide +kernel
theorem dX3_tell_33 : decode cX3_tell 33 = .ok (.if_icmp .ne 7, 3) := by decide +kernel
theorem dX3_tell_36 : decode cX3_tell 36 = .ok (.iconst 1, 1) := by decide +kernel
theorem dX3_tell_37 : decode cX3_tell 37 = .ok (.goto 4, 3) := by decide +kernel
theorem dX3_tell_40 : decode cX3_tell 40 = .ok (.iconst 0, 1) := by decide +kernel
theorem dX3_tell_41 : decode cX3_tell 41 = .ok (.istore 5, 2) := by decide +kernel
theorem dX3_tell_43 : decode cX3_tell 43 = .ok (.aload_n 0, 1) := by decide +kernel
theorem dX3_tell_44 : decode cX3_tell 44 = .ok (.getfield 22, 3) := by decide +kernel
theorem dX3_tell_47 : decode cX3_tell 47 = .ok (.iload 4, 2) := by decide +kernel
theorem dX3_tell_49 : decode cX3_tell 49 = .ok (.iaload, 1) := by decide +kernel
theorem dX3_tell_50 : decode cX3_tell 50 = .ok (.iload_n 1, 1) := by decide +kernel
theorem dX3_tell_51 : decode cX3_tell 51 = .ok (.if_icmp .ne 50, 3) := by decide +kernel
theorem dX3_tell_54 : decode cX3_tell 54 = .ok (.iload 5, 2) := by decide +kernel
theorem dX3_tell_56 : decode cX3_tell 56 = .ok (.ifCond .ne 25, 3) := by decide +kernel
theorem dX3_tell_59 : decode cX3_tell 59 = .ok (.aload_n 0, 1) := by decide +kernel
theorem dX3_tell_60 : decode cX3_tell 60 = .ok (.aload_n 0, 1) := by decide +kernel
theorem dX3_tell_61 : decode cX3_tell 61 = .ok (.getfield 28, 3) := by decide +kernel
theorem dX3_tell_64 : decode cX3_tell 64 = .ok (.iload 4, 2) := by decide +kernel
theorem dX3_tell_66 : decode cX3_tell 66 = .ok (.iaload, 1) := by decide +kernel
theorem dX3_tell_67 : decode cX3_tell 67 = .ok (.aload_n 0, 1) := by decide +kernel
theorem dX3_tell_68 : decode cX3_tell 68 = .ok (.getfield 31, 3) := by decide +kernel
theorem dX3_tell_71 : decode cX3_tell 71 = .ok (.iload 4, 2) := by decide +kernel
theorem dX3_tell_73 : decode cX3_tell 73 = .ok (.iaload, 1) := by decide +kernel
theorem dX3_tell_74 : decode cX3_tell 74 = .ok (.aload_n 2, 1) := by decide +kernel
theorem dX3_tell_75 : decode cX3_tell 75 = .ok (.invokevirtual 43, 3) := by decide +kernel
theorem dX3_tell_78 : decode cX3_tell 78 = .ok (.ifCond .eq 23, 3) := by decide +kernel
theorem dX3_tell_81 : decode cX3_tell 81 = .ok (.aload_n 0, 1) := by decide +kernel
theorem dX3_tell_82 : decode cX3_tell 82 = .ok (.aload_n 0, 1) := by decide +kernel
theorem dX3_tell_83 : decode cX3_tell 83 = .ok (.getfield 25, 3) := by decide +kernel
theorem dX3_tell_86 : decode cX3_tell 86 = .ok (.iload 4, 2) := by decide +kernel
theorem dX3_tell_88 : decode cX3_tell 88 = .ok (.iaload, 1) := by decide +kernel
theorem dX3_tell_89 : decode cX3_tell 89 = .ok (.aload_n 0, 1) := by decide +kernel
theorem dX3_tell_90 : decode cX3_tell 90 = .ok (.getfield 28, 3) := by decide +kernel
theorem dX3_tell_93 : decode cX3_tell 93 = .ok (.iload 4, 2) := by decide +kernel
theorem dX3_tell_95 : decode cX3_tell 95 = .ok (.iaload, 1) := by decide +kernel
theorem dX3_tell_96 : decode cX3_tell 96 = .ok (.aload_n 2, 1) := by decide +kernel
theorem dX3_tell_97 : decode cX3_tell 97 = .ok (.invokevirtual 43, 3) := by decide +kernel
theorem dX3_tell_100 : decode cX3_tell 100 = .ok (.ireturn, 1) := by decide +kernel
theorem dX3_tell_101 : decode cX3_tell 101 = .ok (.iinc 4 1, 3) := by decide +kernel
theorem dX3_tell_104 : decode cX3_tell 104 = .ok (.goto (-101), 3) := by decide +kernel
theorem dX3_tell_107 : decode cX3_tell 107 = .ok (.iload_n 3, 1) := by decide +kernel
theorem dX3_tell_108 : decode cX3_tell 108 = .ok (.ireturn, 1) := by decide +kernel
theorem bX3_tell_81 {l : Launch} {g : jm_G} {d : Nat} {v4 : Int} (hg : jm_HC g) {mu : jm_M} {Q : Option Value → jm_M → Prop} (h : (0 ≤ v4 ∧ v4 < 16) ∧ jm_R l g d iX3_worth [.ref 15, jm_i (mu.1 18 v4), jm_i (mu.1 19 v4), .ref 36] mu (jm_qi fun z3 m2 => Q (some (jm_i z3)) m2)) : jm_V l g (d + 1) iX3_tell 81 [(0, .ref 15), (2, .ref 36), (4, jm_i v4)] [] mu Q := by
  refine jm_mrI (fun hm0 => ?_)
  refine jm_aload_n (pc := 81) 0 dX3_tell_81 rfl ?_
  refine jm_aload_n (pc := 82) 0 dX3_tell_82 rfl ?_
  refine jm_getr (pc := 83) 4 dX3_tell_83 fX3_25 (cC15 hg) rfl ?_
  refine jm_iload (pc := 86) 2 dX3_tell_86 rfl ?_
  have hg1 := h.1
  have h := h.2
  refine jm_iald (pc := 88) dX3_tell_88 (cC18 hg) (by decide) hg1.1 hg1.2 ?_
  refine jm_aload_n (pc := 89) 0 dX3_tell_89 rfl ?_
  refine jm_getr (pc := 90) 5 dX3_tell_90 fX3_28 (cC15 hg) rfl ?_
  refine jm_iload (pc := 93) 2 dX3_tell_93 rfl ?_
  refine jm_iald (pc := 95) dX3_tell_95 (cC19 hg) (by decide) hg1.1 hg1.2 ?_
  refine jm_aload_n (pc := 96) 1 dX3_tell_96 rfl ?_
  refine jm_callvi (pc := 97) (As := [_, _, _]) (st := []) iX3_worth dX3_tell_97 mX3_43 (cC15 hg) ⟨_, rfl, rfl⟩ rfl rfl (Nat.le_of_ble_eq_true rfl) h (fun z3 m2 hz4 h hm5 => ?_)
  exact jm_iret (pc := 100) dX3_tell_100 rfl h
theorem bX3_tell_41 {l : Launch} {g : jm_G} {d : Nat} {v1 v3 v4 s0 : Int} (hg : jm_HC g) {mu : jm_M} {Q : Option Value → jm_M → Prop} (h : (0 ≤ v4 ∧ v4 < 16) ∧ jm_rg v1 ∧ (¬ (mu.1 17 v4) = v1 → jm_V l g (d + 1) iX3_tell 3 [(0, .ref 15), (1, jm_i v1), (2, .ref 36), (3, jm_i v3), (4, jm_i (v4 + 1))] [] mu Q) ∧ ((mu.1 17 v4) = v1 → jm_rg s0 ∧ (¬ s0 = 0 → jm_V l g (d + 1) iX3_tell 81 [(0, .ref 15), (2, .ref 36), (4, jm_i v4)] [] mu Q) ∧ (s0 = 0 → jm_R l g d iX3_worth [.ref 15, jm_i (mu.1 19 v4), jm_i (mu.1 20 v4), .ref 36] mu (jm_qi fun z5 m4 => (z5 = 0 → jm_V l g (d + 1) iX3_tell 3 [(0, .ref 15), (1, jm_i v1), (2, .ref 36), (3, jm_i v3), (4, jm_i (v4 + 1))] [] m4 Q) ∧ (¬ z5 = 0 → jm_V l g (d + 1) iX3_tell 81 [(0, .ref 15), (2, .ref 36), (4, jm_i v4)] [] m4 Q))))) : jm_V l g (d + 1) iX3_tell 41 [(0, .ref 15), (1, jm_i v1), (2, .ref 36), (3, jm_i v3), (4, jm_i v4)] [jm_i s0] mu Q := by
  refine jm_mrI (fun hm0 => ?_)
  refine jm_istore (pc := 41) (lv' := [(5, _), (0, _), (1, _), (2, _), (3, _), (4, _)]) dX3_tell_41 (by decide) rfl ?_
  refine jm_aload_n (pc := 43) 1 dX3_tell_43 rfl ?_
  refine jm_getr (pc := 44) 3 dX3_tell_44 fX3_22 (cC15 hg) rfl ?_
  refine jm_iload (pc := 47) 5 dX3_tell_47 rfl ?_
  have hg1 := h.1
  have h := h.2
  refine jm_iald (pc := 49) dX3_tell_49 (cC17 hg) (by decide) hg1.1 hg1.2 ?_
  refine jm_iload_n (pc := 50) 2 dX3_tell_50 rfl ?_
  have hg2 := h.1
  have h := h.2
  refine jm_icmp_ne (pc := 51) 101 dX3_tell_51 rfl (hm0 _ _) hg2 (fun q => ?_) (fun q => ?_)
  · have h := h.1 q
    refine jm_iinc (pc := 101) (lv' := [(4, _), (5, _), (0, _), (1, _), (2, _), (3, _)]) 5 dX3_tell_101 rfl (by decide) rfl ?_
    refine jm_goto (pc := 104) 3 dX3_tell_104 rfl ?_
    exact jm_sub [2, 3, 4, 5, 0] rfl h
  · have h := h.2 q
    refine jm_iload (pc := 54) 0 dX3_tell_54 rfl ?_
    have hg3 := h.1
    have h := h.2
    refine jm_if_ne (pc := 56) 81 dX3_tell_56 rfl hg3 (fun q => ?_) (fun q => ?_)
    · have h := h.1 q
      exact jm_sub [1, 3, 5] rfl h
    · have h := h.2 q
      refine jm_aload_n (pc := 59) 1 dX3_tell_59 rfl ?_
      refine jm_aload_n (pc := 60) 1 dX3_tell_60 rfl ?_
      refine jm_getr (pc := 61) 5 dX3_tell_61 fX3_28 (cC15 hg) rfl ?_
      refine jm_iload (pc := 64) 5 dX3_tell_64 rfl ?_
      refine jm_iald (pc := 66) dX3_tell_66 (cC19 hg) (by decide) hg1.1 hg1.2 ?_
      refine jm_aload_n (pc := 67) 1 dX3_tell_67 rfl ?_
      refine jm_getr (pc := 68) 6 dX3_tell_68 fX3_31 (cC15 hg) rfl ?_
      refine jm_iload (pc := 71) 5 dX3_tell_71 rfl ?_
      refine jm_iald (pc := 73) dX3_tell_73 (cC20 hg) (by decide) hg1.1 hg1.2 ?_
      refine jm_aload_n (pc := 74) 3 dX3_tell_74 rfl ?_
      refine jm_callvi (pc := 75) (As := [_, _, _]) (st := []) iX3_worth dX3_tell_75 mX3_43 (cC15 hg) ⟨_, rfl, rfl⟩ rfl rfl (Nat.le_of_ble_eq_true rfl) h (fun z5 m4 hz6 h hm7 => ?_)
      refine jm_if_eq (pc := 78) 101 dX3_tell_78 rfl hz6 (fun q => ?_) (fun q => ?_)
      · have h := h.1 q
        refine jm_iinc (pc := 101) (lv' := [(4, _), (5, _), (0, _), (1, _), (2, _), (3, _)]) 5 dX3_tell_101 rfl (by decide) rfl ?_
        refine jm_goto (pc := 104) 3 dX3_tell_104 rfl ?_
        exact jm_sub [2, 3, 4, 5, 0] rfl h
      · have h := h.2 q
        exact jm_sub [1, 3, 5] rfl h
theorem bX3_tell_3 {l : Launch} {g : jm_G} {d : Nat} {v1 v3 v4 : Int} (hg : jm_HC g) {mu : jm_M} {Q : Option Value → jm_M → Prop} (h : jm_rg v4 ∧ ((mu.1 15 0) ≤ v4 → Q (some (jm_i v3)) mu) ∧ (v4 < (mu.1 15 0) → (16 ≤ v4 → Q (some (jm_i v3)) mu) ∧ (v4 < 16 → (0 ≤ v4 ∧ v4 < 16) ∧ (¬ (mu.1 19 v4) = (mu.1 20 v4) → jm_V l g (d + 1) iX3_tell 41 [(0, .ref 15), (1, jm_i v1), (2, .ref 36), (3, jm_i v3), (4, jm_i v4)] [jm_i 0] mu Q) ∧ ((mu.1 19 v4) = (mu.1 20 v4) → jm_V l g (d + 1) iX3_tell 41 [(0, .ref 15), (1, jm_i v1), (2, .ref 36), (3, jm_i v3), (4, jm_i v4)] [jm_i 1] mu Q)))) : jm_V l g (d + 1) iX3_tell 3 [(0, .ref 15), (1, jm_i v1), (2, .ref 36), (3, jm_i v3), (4, jm_i v4)] [] mu Q := by
  refine jm_mrI (fun hm0 => ?_)
  refine jm_iload (pc := 3) 4 dX3_tell_3 rfl ?_
  refine jm_aload_n (pc := 5) 0 dX3_tell_5 rfl ?_
  refine jm_geti (pc := 6) 0 dX3_tell_6 fX3_9 (cC15 hg) rfl ?_
  have hg1 := h.1
  have h := h.2
  refine jm_icmp_ge (pc := 9) 107 dX3_tell_9 rfl hg1 (hm0 _ _) (fun q => ?_) (fun q => ?_)
  · have h := h.1 q
    refine jm_iload_n (pc := 107) 3 dX3_tell_107 rfl ?_
    exact jm_iret (pc := 108) dX3_tell_108 rfl h
  · have h := h.2 q
    refine jm_iload (pc := 12) 4 dX3_tell_12 rfl ?_
    refine jm_bipush (pc := 14) dX3_tell_14 (by decide) ?_
    refine jm_icmp_ge (pc := 16) 107 dX3_tell_16 rfl hg1 ⟨by decide, by decide⟩ (fun q => ?_) (fun q => ?_)
    · have h := h.1 q
      refine jm_iload_n (pc := 107) 3 dX3_tell_107 rfl ?_
      exact jm_iret (pc := 108) dX3_tell_108 rfl h
    · have h := h.2 q
      refine jm_aload_n (pc := 19) 0 dX3_tell_19 rfl ?_
      refine jm_getr (pc := 20) 5 dX3_tell_20 fX3_28 (cC15 hg) rfl ?_
      refine jm_iload (pc := 23) 4 dX3_tell_23 rfl ?_
      have hg2 := h.1
      have h := h.2
      refine jm_iald (pc := 25) dX3_tell_25 (cC19 hg) (by decide) hg2.1 hg2.2 ?_
      refine jm_aload_n (pc := 26) 0 dX3_tell_26 rfl ?_
      refine jm_getr (pc := 27) 6 dX3_tell_27 fX3_31 (cC15 hg) rfl ?_
      refine jm_iload (pc := 30) 4 dX3_tell_30 rfl ?_
      refine jm_iald (pc := 32) dX3_tell_32 (cC20 hg) (by decide) hg2.1 hg2.2 ?_
      refine jm_icmp_ne (pc := 33) 40 dX3_tell_33 rfl (hm0 _ _) (hm0 _ _) (fun q => ?_) (fun q => ?_)
      · have h := h.1 q
        refine jm_iconst (pc := 40) dX3_tell_40 ?_
        exact jm_sub [0, 1, 2, 3, 4] rfl h
      · have h := h.2 q
        refine jm_iconst (pc := 36) dX3_tell_36 ?_
        refine jm_goto (pc := 37) 41 dX3_tell_37 rfl ?_
        exact jm_sub [0, 1, 2, 3, 4] rfl h
theorem eX3_tell {l : Launch} {g : jm_G} {d : Nat} {v1 v3 : Int} (hg : jm_HC g) {mu : jm_M} {Q : Option Value → jm_M → Prop} (h : jm_V l g (d + 1) iX3_tell 3 [(0, .ref 15), (1, jm_i v1), (2, .ref 36), (3, jm_i v3), (4, jm_i 0)] [] mu Q) : jm_R l g (d + 1) iX3_tell [.ref 15, jm_i v1, .ref 36, jm_i v3] mu Q := by
  refine jm_enter [(0, .ref 15), (1, jm_i v1), (2, .ref 36), (3, jm_i v3)] (by decide) (Nat.le_of_ble_eq_true rfl) rfl ?_
  refine jm_mrI (fun hm0 => ?_)
  refine jm_iconst (pc := 0) dX3_tell_0 ?_
  refine jm_istore (pc := 1) (lv' := [(4, _), (0, _), (1, _), (2, _), (3, _)]) dX3_tell_1 (by decide) rfl ?_
  exact jm_sub [1, 2, 3, 4, 0] rfl h
theorem dX0_shakeOf_0 : decode cX0_shakeOf 0 = .ok (.aload_n 0, 1) := by decide +kernel
theorem dX0_shakeOf_1 : decode cX0_shakeOf 1 = .ok (.iload_n 1, 1) := by decide +kernel
theorem dX0_shakeOf_2 : decode cX0_shakeOf 2 = .ok (.iload_n 2, 1) := by decide +kernel
theorem dX0_shakeOf_3 : decode cX0_shakeOf 3 = .ok (.invokevirtual 66, 3) := by decide +kernel
theorem dX0_shakeOf_6 : decode cX0_shakeOf 6 = .ok (.aload_n 0, 1) := by decide +kernel
theorem dX0_shakeOf_7 : decode cX0_shakeOf 7 = .ok (.getfield 15, 3) := by decide +kernel
theorem dX0_shakeOf_10 : decode cX0_shakeOf 10 = .ok (.getfield 70, 3) := by decide +kernel
theorem dX0_shakeOf_13 : decode cX0_shakeOf 13 = .ok (.iconst 1, 1) := by decide +kernel
theorem dX0_shakeOf_14 : decode cX0_shakeOf 14 = .ok (.aload_n 0, 1) := by decide +kernel
theorem dX0_shakeOf_15 : decode cX0_shakeOf 15 = .ok (.getfield 11, 3) := by decide +kernel
theorem dX0_shakeOf_18 : decode cX0_shakeOf 18 = .ok (.iconst 5, 1) := by decide +kernel
theorem dX0_shakeOf_19 : decode cX0_shakeOf 19 = .ok (.invokevirtual 76, 3) := by decide +kernel
theorem dX0_shakeOf_22 : decode cX0_shakeOf 22 = .ok (.bipush 99, 2) := by decide +kernel
theorem dX0_shakeOf_24 : decode cX0_shakeOf 24 = .ok (.invokestatic 80, 3) := by decide +kernel
theorem dX0_shakeOf_27 : decode cX0_shakeOf 27 = .ok (.ireturn, 1) := by decide +kernel
theorem eX0_shakeOf {l : Launch} {g : jm_G} {d : Nat} {v1 v2 : Int} (hg : jm_HC g) {mu : jm_M} {Q : Option Value → jm_M → Prop} (h : jm_R l g (d + 1) iX0_setTerms [.ref 35, jm_i v1, jm_i v2] mu (jm_qv fun m1 => jm_R l g (d + 1) iX3_tell [.ref 15, jm_i 1, .ref 36, jm_i 5] m1 (jm_qi fun z6 m5 => Q (some (jm_i (max 0 (min 99 z6)))) m5))) : jm_R l g (d + 2) iX0_shakeOf [.ref 35, jm_i v1, jm_i v2] mu Q := by
  refine jm_enter [(0, .ref 35), (1, jm_i v1), (2, jm_i v2)] (by decide) (Nat.le_of_ble_eq_true rfl) rfl ?_
  refine jm_mrI (fun hm0 => ?_)
  refine jm_aload_n (pc := 0) 0 dX0_shakeOf_0 rfl ?_
  refine jm_iload_n (pc := 1) 1 dX0_shakeOf_1 rfl ?_
  refine jm_iload_n (pc := 2) 2 dX0_shakeOf_2 rfl ?_
  refine jm_callvv (pc := 3) (As := [_, _]) (st := []) iX0_setTerms dX0_shakeOf_3 mX0_66 (cC35 hg) ⟨_, rfl, rfl⟩ rfl rfl (Nat.le_of_ble_eq_true rfl) h (fun m1 h hm4 => ?_)
  refine jm_aload_n (pc := 6) 0 dX0_shakeOf_6 rfl ?_
  refine jm_getr (pc := 7) 0 dX0_shakeOf_7 fX0_15 (cC35 hg) rfl ?_
  refine jm_getr (pc := 10) 11 dX0_shakeOf_10 fX0_70 (cC6 hg) rfl ?_
  refine jm_iconst (pc := 13) dX0_shakeOf_13 ?_
  refine jm_aload_n (pc := 14) 0 dX0_shakeOf_14 rfl ?_
  refine jm_getr (pc := 15) 2 dX0_shakeOf_15 fX0_11 (cC35 hg) rfl ?_
  refine jm_iconst (pc := 18) dX0_shakeOf_18 ?_
  refine jm_callvi (pc := 19) (As := [_, _, _]) (st := []) iX3_tell dX0_shakeOf_19 mX0_76 (cC15 hg) ⟨_, rfl, rfl⟩ rfl rfl (Nat.le_of_ble_eq_true rfl) h (fun z6 m5 hz7 h hm8 => ?_)
  refine jm_bipush (pc := 22) dX0_shakeOf_22 (by decide) ?_
  refine jm_inlni (pc := 24) (As := [_, _]) (st := []) iX11_held dX0_shakeOf_24 (mX0_80 hg) rfl rfl (Nat.le_of_ble_eq_true rfl) (pX11_held hg ⟨by decide, by decide⟩ hz7 (jm_kIi ?_))
  exact jm_iret (pc := 27) dX0_shakeOf_27 rfl h
theorem dX1_addTestimony_0 : decode cX1_addTestimony 0 = .ok (.aload_n 0, 1) := by decide +kernel
theorem dX1_addTestimony_1 : decode cX1_addTestimony 1 = .ok (.getfield 25, 3) := by decide +kernel
theorem dX1_addTestimony_4 : decode cX1_addTestimony 4 = .ok (.bipush 20, 2) := by decide +kernel
theorem dX1_addTestimony_6 : decode cX1_addTestimony 6 = .ok (.if_icmp .lt 4, 3) := by decide +kernel
theorem dX1_addTestimony_9 : decode cX1_addTestimony 9 = .ok (.return_, 1) := by decide +kernel
theorem dX1_addTestimony_10 : decode cX1_addTestimony 10 = .ok (.aload_n 0, 1) := by decide +kernel
theorem dX1_addTestimony_11 : decode cX1_addTestimony 11 = .ok (.getfield 25, 3) := by decide +kernel
theorem dX1_addTestimony_14 : decode cX1_addTestimony 14 = .ok (.bipush 7, 2) := by decide +kernel
theorem dX1_addTestimony_16 : decode cX1_addTestimony 16 = .ok (.imul, 1) := by decide +kernel
theorem dX1_addTestimony_17 : decode cX1_addTestimony 17 = .ok (.istore 5, 2) := by decide +kernel
theorem dX1_addTestimony_19 : decode cX1_addTestimony 19 = .ok (.aload_n 0, 1) := by decide +kernel
theorem dX1_addTestimony_20 : decode cX1_addTestimony 20 = .ok (.getfield 28, 3) := by decide +kernel
theorem dX1_addTestimony_23 : decode cX1_addTestimony 23 = .ok (.iload 5, 2) := by decide +kernel
theorem dX1_addTestimony_25 : decode cX1_addTestimony 25 = .ok (.iconst 0, 1) := by decide +kernel
theorem dX1_addTestimony_26 : decode cX1_addTestimony 26 = .ok (.iadd, 1) := by decide +kernel
theorem dX1_addTestimony_27 : decode cX1_addTestimony 27 = .ok (.iload_n 1, 1) := by decide +kernel
theorem dX1_addTestimony_28 : decode cX1_addTestimony 28 = .ok (.iastore, 1) := by decide +kernel
theorem dX1_addTestimony_29 : decode cX1_addTestimony 29 = .ok (.aload_n 0, 1) := by decide +kernel
theorem dX1_addTestimony_30 : decode cX1_addTestimony 30 = .ok (.getfield 28, 3) := by decide +kernel
theorem dX1_addTestimony_33 : decode cX1_addTestimony 33 = .ok (.iload 5, 2) := by decide +kernel
theorem dX1_addTestimony_35 : decode cX1_addTestimony 35 = .ok (.iconst 1, 1) := by decide +kernel
theorem dX1_addTestimony_36 : decode cX1_addTestimony 36 = .ok (.iadd, 1) := by decide +kernel
theorem dX1_addTestimony_37 : decode cX1_addTestimony 37 = .ok (.iload_n 2, 1) := by decide +kernel
theorem dX1_addTestimony_38 : decode cX1_addTestimony 38 = .ok (.iconst 4, 1) := by decide +kernel
theorem dX1_addTestimony_39 : decode cX1_addTestimony 39 = .ok (.idiv, 1) := by decide +kernel
theorem dX1_addTestimony_40 : decode cX1_addTestimony 40 = .ok (.iastore, 1) := by decide +kernel
theorem dX1_addTestimony_41 : decode cX1_addTestimony 41 = .ok (.aload_n 0, 1) := by decide +kernel
theorem dX1_addTestimony_42 : decode cX1_addTestimony 42 = .ok (.getfield 28, 3) := by decide +kernel
theorem dX1_addTestimony_45 : decode cX1_addTestimony 45 = .ok (.iload 5, 2) := by decide +kernel
theorem dX1_addTestimony_47 : decode cX1_addTestimony 47 = .ok (.iconst 2, 1) := by decide +kernel
theorem dX1_addTestimony_48 : decode cX1_addTestimony 48 = .ok (.iadd, 1) := by decide +kernel
theorem dX1_addTestimony_49 : decode cX1_addTestimony 49 = .ok (.iload_n 2, 1) := by decide +kernel
theorem dX1_addTestimony_50 : decode cX1_addTestimony 50 = .ok (.iconst 4, 1) := by decide +kernel
theorem dX1_addTestimony_51 : decode cX1_addTestimony 51 = .ok (.irem, 1) := by decide +kernel
theorem dX1_addTestimony_52 : decode cX1_addTestimony 52 = .ok (.iastore, 1) := by decide +kernel
theorem dX1_addTestimony_53 : decode cX1_addTestimony 53 = .ok (.aload_n 0, 1) := by decide +kernel
theorem dX1_addTestimony_54 : decode cX1_addTestimony 54 = .ok (.getfield 28, 3) := by decide +kernel
theorem dX1_addTestimony_57 : decode cX1_addTestimony 57 = .ok (.iload 5, 2) := by decide +kernel
theorem dX1_addTestimony_59 : decode cX1_addTestimony 59 = .ok (.iconst 3, 1) := by decide +kernel
theorem dX1_addTestimony_60 : decode cX1_addTestimony 60 = .ok (.iadd, 1) := by decide +kernel
theorem dX1_addTestimony_61 : decode cX1_addTestimony 61 = .ok (.iload_n 3, 1) := by decide +kernel
theorem dX1_addTestimony_62 : decode cX1_addTestimony 62 = .ok (.iastore, 1) := by decide +kernel
theorem dX1_addTestimony_63 : decode cX1_addTestimony 63 = .ok (.aload_n 0, 1) := by decide +kernel
theorem dX1_addTestimony_64 : decode cX1_addTestimony 64 = .ok (.getfield 28, 3) := by decide +kernel
theorem dX1_addTestimony_67 : decode cX1_addTestimony 67 = .ok (.iload 5, 2) := by decide +kernel
theorem dX1_addTestimony_69 : decode cX1_addTestimony 69 = .ok (.iconst 4, 1) := by decide +kernel
theorem dX1_addTestimony_70 : decode cX1_addTestimony 70 = .ok (.iadd, 1) := by decide +kernel
theorem dX1_addTestimony_71 : decode cX1_addTestimony 71 = .ok (.iload 4, 2) := by decide +kernel
theorem dX1_addTestimony_73 : decode cX1_addTestimony 73 = .ok (.iastore, 1) := by decide +kernel
theorem dX1_addTestimony_74 : decode cX1_addTestimony 74 = .ok (.aload_n 0, 1) := by decide +kernel
theorem dX1_addTestimony_75 : decode cX1_addTestimony 75 = .ok (.getfield 28, 3) := by decide +kernel
theorem dX1_addTestimony_78 : decode cX1_addTestimony 78 = .ok (.iload 5, 2) := by decide +kernel
theorem dX1_addTestimony_80 : decode cX1_addTestimony 80 = .ok (.iconst 5, 1) := by decide +kernel
theorem dX1_addTestimony_81 : decode cX1_addTestimony 81 = .ok (.iadd, 1) := by decide +kernel
theorem dX1_addTestimony_82 : decode cX1_addTestimony 82 = .ok (.aload_n 0, 1) := by decide +kernel
theorem dX1_addTestimony_83 : decode cX1_addTestimony 83 = .ok (.getfield 31, 3) := by decide +kernel
theorem dX1_addTestimony_86 : decode cX1_addTestimony 86 = .ok (.iload 4, 2) := by decide +kernel
theorem dX1_addTestimony_88 : decode cX1_addTestimony 88 = .ok (.isub, 1) := by decide +kernel
theorem dX1_addTestimony_89 : decode cX1_addTestimony 89 = .ok (.iastore, 1) := by decide +kernel
theorem dX1_addTestimony_90 : decode cX1_addTestimony 90 = .ok (.aload_n 0, 1) := by decide +kernel
theorem dX1_addTestimony_91 : decode cX1_addTestimony 91 = .ok (.getfield 28, 3) := by decide +kernel
theorem dX1_addTestimony_94 : decode cX1_addTestimony 94 = .ok (.iload 5, 2) := by decide +kernel
theorem dX1_addTestimony_96 : decode cX1_addTestimony 96 = .ok (.bipush 6, 2) := by decide +kernel
theorem dX1_addTestimony_98 : decode cX1_addTestimony 98 = .ok (.iadd, 1) := by decide +kernel
theorem dX1_addTestimony_99 : decode cX1_addTestimony 99 = .ok (.iconst 0, 1) := by decide +kernel
theorem dX1_addTestimony_100 : decode cX1_addTestimony 100 = .ok (.iastore, 1) := by decide +kernel
theorem dX1_addTestimony_101 : decode cX1_addTestimony 101 = .ok (.aload_n 0, 1) := by decide +kernel
theorem dX1_addTestimony_102 : decode cX1_addTestimony 102 = .ok (.dup, 1) := by decide +kernel
theorem dX1_addTestimony_103 : decode cX1_addTestimony 103 = .ok (.getfield 25, 3) := by decide +kernel
theorem dX1_addTestimony_106 : decode cX1_addTestimony 106 = .ok (.iconst 1, 1) := by decide +kernel
theorem dX1_addTestimony_107 : decode cX1_addTestimony 107 = .ok (.iadd, 1) := by decide +kernel
theorem dX1_addTestimony_108 : decode cX1_addTestimony 108 = .ok (.putfield 25, 3) := by decide +kernel
theorem dX1_addTestimony_111 : decode cX1_addTestimony 111 = .ok (.return_, 1) := by decide +kernel
theorem eX1_addTestimony {l : Launch} {g : jm_G} {d : Nat} {v1 v2 v3 v4 : Int} (hg : jm_HC g) {mu : jm_M} {Q : Option Value → jm_M → Prop} (h : ((mu.1 29 4) < 20 → ∀ x1, x1 = ((mu.1 29 4) * 7) → (0 ≤ (x1 + 0) ∧ (x1 + 0) < 140) ∧ jm_rg v1 ∧ ∀ m4, m4 = jm_wr mu 32 (x1 + 0) v1 → jm_rg v2 ∧ (0 ≤ (x1 + 1) ∧ (x1 + 1) < 140) ∧ jm_rg (Int.tdiv v2 4) ∧ ∀ m9, m9 = jm_wr m4 32 (x1 + 1) (Int.tdiv v2 4) → (0 ≤ (x1 + 2) ∧ (x1 + 2) < 140) ∧ jm_rg (Int.tmod v2 4) ∧ ∀ m13, m13 = jm_wr m9 32 (x1 + 2) (Int.tmod v2 4) → (0 ≤ (x1 + 3) ∧ (x1 + 3) < 140) ∧ jm_rg v3 ∧ ∀ m17, m17 = jm_wr m13 32 (x1 + 3) v3 → (0 ≤ (x1 + 4) ∧ (x1 + 4) < 140) ∧ jm_rg v4 ∧ ∀ m21, m21 = jm_wr m17 32 (x1 + 4) v4 → (0 ≤ (x1 + 5) ∧ (x1 + 5) < 140) ∧ jm_rg ((m21.1 29 6) - v4) ∧ ∀ m25, m25 = jm_wr m21 32 (x1 + 5) ((m21.1 29 6) - v4) → (0 ≤ (x1 + 6) ∧ (x1 + 6) < 140) ∧ ∀ m28, m28 = jm_wr m25 32 (x1 + 6) 0 → jm_rg ((m28.1 29 4) + 1) ∧ ∀ m31, m31 = jm_wr m28 29 4 ((m28.1 29 4) + 1) → Q none m31) ∧ (20 ≤ (mu.1 29 4) → Q none mu)) : jm_R l g (d + 1) iX1_addTestimony [.ref 29, jm_i v1, jm_i v2, jm_i v3, jm_i v4] mu Q := by
  refine jm_enter [(0, .ref 29), (1, jm_i v1), (2, jm_i v2), (3, jm_i v3), (4, jm_i v4)] (by decide) (Nat.le_of_ble_eq_true rfl) rfl ?_
  refine jm_mrI (fun hm0 => ?_)
  refine jm_aload_n (pc := 0) 0 dX1_addTestimony_0 rfl ?_
  refine jm_geti (pc := 1) 4 dX1_addTestimony_1 fX1_25 (cC29 hg) rfl ?_
  refine jm_bipush (pc := 4) dX1_addTestimony_4 (by decide) ?_
  refine jm_icmp_lt (pc := 6) 10 dX1_addTestimony_6 rfl (hm0 _ _) ⟨by decide, by decide⟩ (fun q => ?_) (fun q => ?_)
  · have h := h.1 q
    refine jm_aload_n (pc := 10) 0 dX1_addTestimony_10 rfl ?_
    refine jm_geti (pc := 11) 4 dX1_addTestimony_11 fX1_25 (cC29 hg) rfl ?_
    refine jm_bipush (pc := 14) dX1_addTestimony_14 (by decide) ?_
    refine jm_imul (pc := 16) dX1_addTestimony_16 ?_
    have h := h _ rfl
    refine jm_istore (pc := 17) (lv' := [(5, _), (0, _), (1, _), (2, _), (3, _), (4, _)]) dX1_addTestimony_17 (by decide) rfl ?_
    refine jm_aload_n (pc := 19) 1 dX1_addTestimony_19 rfl ?_
    refine jm_getr (pc := 20) 5 dX1_addTestimony_20 fX1_28 (cC29 hg) rfl ?_
    refine jm_iload (pc := 23) 0 dX1_addTestimony_23 rfl ?_
    refine jm_iconst (pc := 25) dX1_addTestimony_25 ?_
    refine jm_iadd (pc := 26) dX1_addTestimony_26 ?_
    refine jm_iload_n (pc := 27) 2 dX1_addTestimony_27 rfl ?_
    have hg2 := h.1
    have h := h.2
    have hg3 := h.1
    have h := h.2
    refine jm_iast (pc := 28) dX1_addTestimony_28 (cC32 hg) (by decide) hg2.1 hg2.2 hg3 ?_
    have h := h _ rfl
    refine jm_mrI (fun hm5 => ?_)
    refine jm_aload_n (pc := 29) 1 dX1_addTestimony_29 rfl ?_
    refine jm_getr (pc := 30) 5 dX1_addTestimony_30 fX1_28 (cC29 hg) rfl ?_
    refine jm_iload (pc := 33) 0 dX1_addTestimony_33 rfl ?_
    refine jm_iconst (pc := 35) dX1_addTestimony_35 ?_
    refine jm_iadd (pc := 36) dX1_addTestimony_36 ?_
    refine jm_iload_n (pc := 37) 3 dX1_addTestimony_37 rfl ?_
    refine jm_iconst (pc := 38) dX1_addTestimony_38 ?_
    have hg6 := h.1
    have h := h.2
    refine jm_idiv (pc := 39) hg6 ⟨by decide, by decide⟩ (by decide) dX1_addTestimony_39 ?_
    have hg7 := h.1
    have h := h.2
    have hg8 := h.1
    have h := h.2
    refine jm_iast (pc := 40) dX1_addTestimony_40 (cC32 hg) (by decide) hg7.1 hg7.2 hg8 ?_
    have h := h _ rfl
    refine jm_mrI (fun hm10 => ?_)
    refine jm_aload_n (pc := 41) 1 dX1_addTestimony_41 rfl ?_
    refine jm_getr (pc := 42) 5 dX1_addTestimony_42 fX1_28 (cC29 hg) rfl ?_
    refine jm_iload (pc := 45) 0 dX1_addTestimony_45 rfl ?_
    refine jm_iconst (pc := 47) dX1_addTestimony_47 ?_
    refine jm_iadd (pc := 48) dX1_addTestimony_48 ?_
    refine jm_iload_n (pc := 49) 3 dX1_addTestimony_49 rfl ?_
    refine jm_iconst (pc := 50) dX1_addTestimony_50 ?_
    refine jm_irem (pc := 51) hg6 ⟨by decide, by decide⟩ (by decide) dX1_addTestimony_51 ?_
    have hg11 := h.1
    have h := h.2
    have hg12 := h.1
    have h := h.2
    refine jm_iast (pc := 52) dX1_addTestimony_52 (cC32 hg) (by decide) hg11.1 hg11.2 hg12 ?_
    have h := h _ rfl
    refine jm_mrI (fun hm14 => ?_)
    refine jm_aload_n (pc := 53) 1 dX1_addTestimony_53 rfl ?_
    refine jm_getr (pc := 54) 5 dX1_addTestimony_54 fX1_28 (cC29 hg) rfl ?_
    refine jm_iload (pc := 57) 0 dX1_addTestimony_57 rfl ?_
    refine jm_iconst (pc := 59) dX1_addTestimony_59 ?_
    refine jm_iadd (pc := 60) dX1_addTestimony_60 ?_
    refine jm_iload_n (pc := 61) 4 dX1_addTestimony_61 rfl ?_
    have hg15 := h.1
    have h := h.2
    have hg16 := h.1
    have h := h.2
    refine jm_iast (pc := 62) dX1_addTestimony_62 (cC32 hg) (by decide) hg15.1 hg15.2 hg16 ?_
    have h := h _ rfl
    refine jm_mrI (fun hm18 => ?_)
    refine jm_aload_n (pc := 63) 1 dX1_addTestimony_63 rfl ?_
    refine jm_getr (pc := 64) 5 dX1_addTestimony_64 fX1_28 (cC29 hg) rfl ?_
    refine jm_iload (pc := 67) 0 dX1_addTestimony_67 rfl ?_
    refine jm_iconst (pc := 69) dX1_addTestimony_69 ?_
    refine jm_iadd (pc := 70) dX1_addTestimony_70 ?_
    refine jm_iload (pc := 71) 5 dX1_addTestimony_71 rfl ?_
    have hg19 := h.1
    have h := h.2
    have hg20 := h.1
    have h := h.2
    refine jm_iast (pc := 73) dX1_addTestimony_73 (cC32 hg) (by decide) hg19.1 hg19.2 hg20 ?_
    have h := h _ rfl
    refine jm_mrI (fun hm22 => ?_)
    refine jm_aload_n (pc := 74) 1 dX1_addTestimony_74 rfl ?_
    refine jm_getr (pc := 75) 5 dX1_addTestimony_75 fX1_28 (cC29 hg) rfl ?_
    refine jm_iload (pc := 78) 0 dX1_addTestimony_78 rfl ?_
    refine jm_iconst (pc := 80) dX1_addTestimony_80 ?_
    refine jm_iadd (pc := 81) dX1_addTestimony_81 ?_
    refine jm_aload_n (pc := 82) 1 dX1_addTestimony_82 rfl ?_
    refine jm_geti (pc := 83) 6 dX1_addTestimony_83 fX1_31 (cC29 hg) rfl ?_
    refine jm_iload (pc := 86) 5 dX1_addTestimony_86 rfl ?_
    refine jm_isub (pc := 88) dX1_addTestimony_88 ?_
    have hg23 := h.1
    have h := h.2
    have hg24 := h.1
    have h := h.2
    refine jm_iast (pc := 89) dX1_addTestimony_89 (cC32 hg) (by decide) hg23.1 hg23.2 hg24 ?_
    have h := h _ rfl
    refine jm_mrI (fun hm26 => ?_)
    refine jm_aload_n (pc := 90) 1 dX1_addTestimony_90 rfl ?_
    refine jm_getr (pc := 91) 5 dX1_addTestimony_91 fX1_28 (cC29 hg) rfl ?_
    refine jm_iload (pc := 94) 0 dX1_addTestimony_94 rfl ?_
    refine jm_bipush (pc := 96) dX1_addTestimony_96 (by decide) ?_
    refine jm_iadd (pc := 98) dX1_addTestimony_98 ?_
    refine jm_iconst (pc := 99) dX1_addTestimony_99 ?_
    have hg27 := h.1
    have h := h.2
    refine jm_iast (pc := 100) dX1_addTestimony_100 (cC32 hg) (by decide) hg27.1 hg27.2 ⟨by decide, by decide⟩ ?_
    have h := h _ rfl
    refine jm_mrI (fun hm29 => ?_)
    refine jm_aload_n (pc := 101) 1 dX1_addTestimony_101 rfl ?_
    refine jm_dup (pc := 102) _ dX1_addTestimony_102 rfl ?_
    refine jm_geti (pc := 103) 4 dX1_addTestimony_103 fX1_25 (cC29 hg) rfl ?_
    refine jm_iconst (pc := 106) dX1_addTestimony_106 ?_
    refine jm_iadd (pc := 107) dX1_addTestimony_107 ?_
    have hg30 := h.1
    have h := h.2
    refine jm_put (pc := 108) 4 dX1_addTestimony_108 fX1_25 ftX1 (fun q h => by cases h; rfl) (jm_nI _) (jm_fI _) (cC29 hg) rfl hg30 ?_
    have h := h _ rfl
    refine jm_mrI (fun hm32 => ?_)
    exact jm_vret (pc := 111) dX1_addTestimony_111 rfl h
  · have h := h.2 q
    exact jm_vret (pc := 9) dX1_addTestimony_9 rfl h
theorem dX1_write_0 : decode cX1_write 0 = .ok (.aload_n 0, 1) := by decide +kernel
theorem dX1_write_1 : decode cX1_write 1 = .ok (.getfield 37, 3) := by decide +kernel
theorem dX1_write_4 : decode cX1_write 4 = .ok (.bipush 120, 2) := by decide +kernel
theorem dX1_write_6 : decode cX1_write 6 = .ok (.if_icmp .lt 4, 3) := by decide +kernel
theorem dX1_write_9 : decode cX1_write 9 = .ok (.return_, 1) := by decide +kernel
theorem dX1_write_10 : decode cX1_write 10 = .ok (.aload_n 0, 1) := by decide +kernel
theorem dX1_write_11 : decode cX1_write 11 = .ok (.getfield 37, 3) := by decide +kernel
theorem dX1_write_14 : decode cX1_write 14 = .ok (.iconst 5, 1) := by decide +kernel
theorem dX1_write_15 : decode cX1_write 15 = .ok (.imul, 1) := by decide +kernel
theorem dX1_write_16 : decode cX1_write 16 = .ok (.istore 5, 2) := by decide +kernel
theorem dX1_write_18 : decode cX1_write 18 = .ok (.aload_n 0, 1) := by decide +kernel
theorem dX1_write_19 : decode cX1_write 19 = .ok (.getfield 40, 3) := by decide +kernel
theorem dX1_write_22 : decode cX1_write 22 = .ok (.iload 5, 2) := by decide +kernel
theorem dX1_write_24 : decode cX1_write 24 = .ok (.aload_n 0, 1) := by decide +kernel
theorem dX1_write_25 : decode cX1_write 25 = .ok (.getfield 15, 3) := by decide +kernel
theorem dX1_write_28 : decode cX1_write 28 = .ok (.iastore, 1) := by decide +kernel
theorem dX1_write_29 : decode cX1_write 29 = .ok (.aload_n 0, 1) := by decide +kernel
theorem dX1_write_30 : decode cX1_write 30 = .ok (.getfield 40, 3) := by decide +kernel
theorem dX1_write_33 : decode cX1_write 33 = .ok (.iload 5, 2) := by decide +kernel
theorem dX1_write_35 : decode cX1_write 35 = .ok (.iconst 1, 1) := by decide +kernel
theorem dX1_write_36 : decode cX1_write 36 = .ok (.iadd, 1) := by decide +kernel
theorem dX1_write_37 : decode cX1_write 37 = .ok (.iload_n 1, 1) := by decide +kernel
theorem dX1_write_38 : decode cX1_write 38 = .ok (.iastore, 1) := by decide +kernel
theorem dX1_write_39 : decode cX1_write 39 = .ok (.aload_n 0, 1) := by decide +kernel
theorem dX1_write_40 : decode cX1_write 40 = .ok (.getfield 40, 3) := by decide +kernel
theorem dX1_write_43 : decode cX1_write 43 = .ok (.iload 5, 2) := by decide +kernel
theorem dX1_write_45 : decode cX1_write 45 = .ok (.iconst 2, 1) := by decide +kernel
theorem dX1_write_46 : decode cX1_write 46 = .ok (.iadd, 1) := by decide +kernel
theorem dX1_write_47 : decode cX1_write 47 = .ok (.iload_n 2, 1) := by decide +kernel
theorem dX1_write_48 : decode cX1_write 48 = .ok (.iastore, 1) := by decide +kernel
theorem dX1_write_49 : decode cX1_write 49 = .ok (.aload_n 0, 1) := by decide +kernel
theorem dX1_write_50 : decode cX1_write 50 = .ok (.getfield 40, 3) := by decide +kernel
theorem dX1_write_53 : decode cX1_write 53 = .ok (.iload 5, 2) := by decide +kernel
theorem dX1_write_55 : decode cX1_write 55 = .ok (.iconst 3, 1) := by decide +kernel
theorem dX1_write_56 : decode cX1_write 56 = .ok (.iadd, 1) := by decide +kernel
theorem dX1_write_57 : decode cX1_write 57 = .ok (.iload_n 3, 1) := by decide +kernel
theorem dX1_write_58 : decode cX1_write 58 = .ok (.iastore, 1) := by decide +kernel
theorem dX1_write_59 : decode cX1_write 59 = .ok (.aload_n 0, 1) := by decide +kernel
theorem dX1_write_60 : decode cX1_write 60 = .ok (.getfield 40, 3) := by decide +kernel
theorem dX1_write_63 : decode cX1_write 63 = .ok (.iload 5, 2) := by decide +kernel
theorem dX1_write_65 : decode cX1_write 65 = .ok (.iconst 4, 1) := by decide +kernel
theorem dX1_write_66 : decode cX1_write 66 = .ok (.iadd, 1) := by decide +kernel
theorem dX1_write_67 : decode cX1_write 67 = .ok (.iload 4, 2) := by decide +kernel
theorem dX1_write_69 : decode cX1_write 69 = .ok (.iastore, 1) := by decide +kernel
theorem dX1_write_70 : decode cX1_write 70 = .ok (.aload_n 0, 1) := by decide +kernel
theorem dX1_write_71 : decode cX1_write 71 = .ok (.dup, 1) := by decide +kernel
theorem dX1_write_72 : decode cX1_write 72 = .ok (.getfield 37, 3) := by decide +kernel
theorem dX1_write_75 : decode cX1_write 75 = .ok (.iconst 1, 1) := by decide +kernel
theorem dX1_write_76 : decode cX1_write 76 = .ok (.iadd, 1) := by decide +kernel
theorem dX1_write_77 : decode cX1_write 77 = .ok (.putfield 37, 3) := by decide +kernel
theorem dX1_write_80 : decode cX1_write 80 = .ok (.return_, 1) := by decide +kernel
theorem eX1_write {l : Launch} {g : jm_G} {d : Nat} {v1 v2 v3 v4 : Int} (hg : jm_HC g) {mu : jm_M} {Q : Option Value → jm_M → Prop} (h : ((mu.1 29 8) < 120 → ∀ x1, x1 = ((mu.1 29 8) * 5) → (0 ≤ x1 ∧ x1 < 600) ∧ ∀ m3, m3 = jm_wr mu 34 x1 (mu.1 29 1) → (0 ≤ (x1 + 1) ∧ (x1 + 1) < 600) ∧ jm_rg v1 ∧ ∀ m7, m7 = jm_wr m3 34 (x1 + 1) v1 → (0 ≤ (x1 + 2) ∧ (x1 + 2) < 600) ∧ jm_rg v2 ∧ ∀ m11, m11 = jm_wr m7 34 (x1 + 2) v2 → (0 ≤ (x1 + 3) ∧ (x1 + 3) < 600) ∧ jm_rg v3 ∧ ∀ m15, m15 = jm_wr m11 34 (x1 + 3) v3 → (0 ≤ (x1 + 4) ∧ (x1 + 4) < 600) ∧ jm_rg v4 ∧ ∀ m19, m19 = jm_wr m15 34 (x1 + 4) v4 → jm_rg ((m19.1 29 8) + 1) ∧ ∀ m22, m22 = jm_wr m19 29 8 ((m19.1 29 8) + 1) → Q none m22) ∧ (120 ≤ (mu.1 29 8) → Q none mu)) : jm_R l g (d + 1) iX1_write [.ref 29, jm_i v1, jm_i v2, jm_i v3, jm_i v4] mu Q := by
  refine jm_enter [(0, .ref 29), (1, jm_i v1), (2, jm_i v2), (3, jm_i v3), (4, jm_i v4)] (by decide) (Nat.le_of_ble_eq_true rfl) rfl ?_
  refine jm_mrI (fun hm0 => ?_)
  refine jm_aload_n (pc := 0) 0 dX1_write_0 rfl ?_
  refine jm_geti (pc := 1) 8 dX1_write_1 fX1_37 (cC29 hg) rfl ?_
  refine jm_bipush (pc := 4) dX1_write_4 (by decide) ?_
  refine jm_icmp_lt (pc := 6) 10 dX1_write_6 rfl (hm0 _ _) ⟨by decide, by decide⟩ (fun q => ?_) (fun q => ?_)
  · have h := h.1 q
    refine jm_aload_n (pc := 10) 0 dX1_write_10 rfl ?_
    refine jm_geti (pc := 11) 8 dX1_write_11 fX1_37 (cC29 hg) rfl ?_
    refine jm_iconst (pc := 14) dX1_write_14 ?_
    refine jm_imul (pc := 15) dX1_write_15 ?_
    have h := h _ rfl
    refine jm_istore (pc := 16) (lv' := [(5, _), (0, _), (1, _), (2, _), (3, _), (4, _)]) dX1_write_16 (by decide) rfl ?_
    refine jm_aload_n (pc := 18) 1 dX1_write_18 rfl ?_
    refine jm_getr (pc := 19) 9 dX1_write_19 fX1_40 (cC29 hg) rfl ?_
    refine jm_iload (pc := 22) 0 dX1_write_22 rfl ?_
    refine jm_aload_n (pc := 24) 1 dX1_write_24 rfl ?_
    refine jm_geti (pc := 25) 1 dX1_write_25 fX1_15 (cC29 hg) rfl ?_
    have hg2 := h.1
    have h := h.2
    refine jm_iast (pc := 28) dX1_write_28 (cC34 hg) (by decide) hg2.1 hg2.2 (hm0 _ _) ?_
    have h := h _ rfl
    refine jm_mrI (fun hm4 => ?_)
    refine jm_aload_n (pc := 29) 1 dX1_write_29 rfl ?_
    refine jm_getr (pc := 30) 9 dX1_write_30 fX1_40 (cC29 hg) rfl ?_
    refine jm_iload (pc := 33) 0 dX1_write_33 rfl ?_
    refine jm_iconst (pc := 35) dX1_write_35 ?_
    refine jm_iadd (pc := 36) dX1_write_36 ?_
    refine jm_iload_n (pc := 37) 2 dX1_write_37 rfl ?_
    have hg5 := h.1
    have h := h.2
    have hg6 := h.1
    have h := h.2
    refine jm_iast (pc := 38) dX1_write_38 (cC34 hg) (by decide) hg5.1 hg5.2 hg6 ?_
    have h := h _ rfl
    refine jm_mrI (fun hm8 => ?_)
    refine jm_aload_n (pc := 39) 1 dX1_write_39 rfl ?_
    refine jm_getr (pc := 40) 9 dX1_write_40 fX1_40 (cC29 hg) rfl ?_
    refine jm_iload (pc := 43) 0 dX1_write_43 rfl ?_
    refine jm_iconst (pc := 45) dX1_write_45 ?_
    refine jm_iadd (pc := 46) dX1_write_46 ?_
    refine jm_iload_n (pc := 47) 3 dX1_write_47 rfl ?_
    have hg9 := h.1
    have h := h.2
    have hg10 := h.1
    have h := h.2
    refine jm_iast (pc := 48) dX1_write_48 (cC34 hg) (by decide) hg9.1 hg9.2 hg10 ?_
    have h := h _ rfl
    refine jm_mrI (fun hm12 => ?_)
    refine jm_aload_n (pc := 49) 1 dX1_write_49 rfl ?_
    refine jm_getr (pc := 50) 9 dX1_write_50 fX1_40 (cC29 hg) rfl ?_
    refine jm_iload (pc := 53) 0 dX1_write_53 rfl ?_
    refine jm_iconst (pc := 55) dX1_write_55 ?_
    refine jm_iadd (pc := 56) dX1_write_56 ?_
    refine jm_iload_n (pc := 57) 4 dX1_write_57 rfl ?_
    have hg13 := h.1
    have h := h.2
    have hg14 := h.1
    have h := h.2
    refine jm_iast (pc := 58) dX1_write_58 (cC34 hg) (by decide) hg13.1 hg13.2 hg14 ?_
    have h := h _ rfl
    refine jm_mrI (fun hm16 => ?_)
    refine jm_aload_n (pc := 59) 1 dX1_write_59 rfl ?_
    refine jm_getr (pc := 60) 9 dX1_write_60 fX1_40 (cC29 hg) rfl ?_
    refine jm_iload (pc := 63) 0 dX1_write_63 rfl ?_
    refine jm_iconst (pc := 65) dX1_write_65 ?_
    refine jm_iadd (pc := 66) dX1_write_66 ?_
    refine jm_iload (pc := 67) 5 dX1_write_67 rfl ?_
    have hg17 := h.1
    have h := h.2
    have hg18 := h.1
    have h := h.2
    refine jm_iast (pc := 69) dX1_write_69 (cC34 hg) (by decide) hg17.1 hg17.2 hg18 ?_
    have h := h _ rfl
    refine jm_mrI (fun hm20 => ?_)
    refine jm_aload_n (pc := 70) 1 dX1_write_70 rfl ?_
    refine jm_dup (pc := 71) _ dX1_write_71 rfl ?_
    refine jm_geti (pc := 72) 8 dX1_write_72 fX1_37 (cC29 hg) rfl ?_
    refine jm_iconst (pc := 75) dX1_write_75 ?_
    refine jm_iadd (pc := 76) dX1_write_76 ?_
    have hg21 := h.1
    have h := h.2
    refine jm_put (pc := 77) 8 dX1_write_77 fX1_37 ftX1 (fun q h => by cases h; rfl) (jm_nI _) (jm_fI _) (cC29 hg) rfl hg21 ?_
    have h := h _ rfl
    refine jm_mrI (fun hm23 => ?_)
    exact jm_vret (pc := 80) dX1_write_80 rfl h
  · have h := h.2 q
    exact jm_vret (pc := 9) dX1_write_9 rfl h
theorem dX2_loseNerve_0 : decode cX2_loseNerve 0 = .ok (.aload_n 0, 1) := by decide +kernel
theorem dX2_loseNerve_1 : decode cX2_loseNerve 1 = .ok (.getfield 26, 3) := by decide +kernel
theorem dX2_loseNerve_4 : decode cX2_loseNerve 4 = .ok (.getfield 96, 3) := by decide +kernel
theorem dX2_loseNerve_7 : decode cX2_loseNerve 7 = .ok (.iload_n 1, 1) := by decide +kernel
theorem dX2_loseNerve_8 : decode cX2_loseNerve 8 = .ok (.iconst 0, 1) := by decide +kernel
theorem dX2_loseNerve_9 : decode cX2_loseNerve 9 = .ok (.aload_n 0, 1) := by decide +kernel
theorem dX2_loseNerve_10 : decode cX2_loseNerve 10 = .ok (.getfield 26, 3) := by decide +kernel
theorem dX2_loseNerve_13 : decode cX2_loseNerve 13 = .ok (.getfield 96, 3) := by decide +kernel
theorem dX2_loseNerve_16 : decode cX2_loseNerve 16 = .ok (.iload_n 1, 1) := by decide +kernel
theorem dX2_loseNerve_17 : decode cX2_loseNerve 17 = .ok (.iaload, 1) := by decide +kernel
theorem dX2_loseNerve_18 : decode cX2_loseNerve 18 = .ok (.iload_n 2, 1) := by decide +kernel
theorem dX2_loseNerve_19 : decode cX2_loseNerve 19 = .ok (.isub, 1) := by decide +kernel
theorem dX2_loseNerve_20 : decode cX2_loseNerve 20 = .ok (.invokestatic 99, 3) := by decide +kernel
theorem dX2_loseNerve_23 : decode cX2_loseNerve 23 = .ok (.iastore, 1) := by decide +kernel
theorem dX2_loseNerve_24 : decode cX2_loseNerve 24 = .ok (.return_, 1) := by decide +kernel
theorem eX2_loseNerve {l : Launch} {g : jm_G} {d : Nat} {v1 v2 : Int} (hg : jm_HC g) {mu : jm_M} {Q : Option Value → jm_M → Prop} (h : (0 ≤ v1 ∧ v1 < 8) ∧ jm_rg ((mu.1 30 v1) - v2) ∧ ∀ m3, m3 = jm_wr mu 30 v1 (max 0 ((mu.1 30 v1) - v2)) → Q none m3) : jm_R l g (d + 1) iX2_loseNerve [.ref 37, jm_i v1, jm_i v2] mu Q := by
  refine jm_enter [(0, .ref 37), (1, jm_i v1), (2, jm_i v2)] (by decide) (Nat.le_of_ble_eq_true rfl) rfl ?_
  refine jm_mrI (fun hm0 => ?_)
  refine jm_aload_n (pc := 0) 0 dX2_loseNerve_0 rfl ?_
  refine jm_getr (pc := 1) 2 dX2_loseNerve_1 fX2_26 (cC37 hg) rfl ?_
  refine jm_getr (pc := 4) 2 dX2_loseNerve_4 fX2_96 (cC29 hg) rfl ?_
  refine jm_iload_n (pc := 7) 1 dX2_loseNerve_7 rfl ?_
  refine jm_iconst (pc := 8) dX2_loseNerve_8 ?_
  refine jm_aload_n (pc := 9) 0 dX2_loseNerve_9 rfl ?_
  refine jm_getr (pc := 10) 2 dX2_loseNerve_10 fX2_26 (cC37 hg) rfl ?_
  refine jm_getr (pc := 13) 2 dX2_loseNerve_13 fX2_96 (cC29 hg) rfl ?_
  refine jm_iload_n (pc := 16) 1 dX2_loseNerve_16 rfl ?_
  have hg1 := h.1
  have h := h.2
  refine jm_iald (pc := 17) dX2_loseNerve_17 (cC30 hg) (by decide) hg1.1 hg1.2 ?_
  refine jm_iload_n (pc := 18) 2 dX2_loseNerve_18 rfl ?_
  refine jm_isub (pc := 19) dX2_loseNerve_19 ?_
  have hg2 := h.1
  have h := h.2
  refine jm_mmax (pc := 20) dX2_loseNerve_20 mX2_99 ⟨by decide, by decide⟩ hg2 (Nat.le_of_ble_eq_true rfl) ?_
  refine jm_iast (pc := 23) dX2_loseNerve_23 (cC30 hg) (by decide) hg1.1 hg1.2 (jm_rgM ⟨by decide, by decide⟩ hg2) ?_
  have h := h _ rfl
  refine jm_mrI (fun hm4 => ?_)
  exact jm_vret (pc := 24) dX2_loseNerve_24 rfl h
theorem pX2_loseNerve {l : Launch} {g : jm_G} {d : Nat} {v1 v2 : Int} (hg : jm_HC g) {mu : jm_M} {Q : Option Value → jm_M → Prop} (o0 : 0 ≤ v1 ∧ v1 < 8) (o1 : jm_rg ((mu.1 30 v1) - v2)) (h : Q none (jm_wr mu 30 v1 (max 0 ((mu.1 30 v1) - v2)))) : jm_R l g (d + 1) iX2_loseNerve [.ref 37, jm_i v1, jm_i v2] mu Q := by
  refine eX2_loseNerve hg ?_
  refine ⟨o0, ?_⟩
  refine ⟨o1, ?_⟩
  intro x hx
  subst hx
  exact h
theorem dX0_slipOf_0 : decode cX0_slipOf 0 = .ok (.aload_n 0, 1) := by decide +kernel
theorem dX0_slipOf_1 : decode cX0_slipOf 1 = .ok (.iload_n 1, 1) := by decide +kernel
theorem dX0_slipOf_2 : decode cX0_slipOf 2 = .ok (.iload_n 2, 1) := by decide +kernel
theorem dX0_slipOf_3 : decode cX0_slipOf 3 = .ok (.invokevirtual 66, 3) := by decide +kernel
theorem dX0_slipOf_6 : decode cX0_slipOf 6 = .ok (.aload_n 0, 1) := by decide +kernel
theorem dX0_slipOf_7 : decode cX0_slipOf 7 = .ok (.getfield 11, 3) := by decide +kernel
theorem dX0_slipOf_10 : decode cX0_slipOf 10 = .ok (.iconst 3, 1) := by decide +kernel
theorem dX0_slipOf_11 : decode cX0_slipOf 11 = .ok (.iload_n 3, 1) := by decide +kernel
theorem dX0_slipOf_12 : decode cX0_slipOf 12 = .ok (.iastore, 1) := by decide +kernel
theorem dX0_slipOf_13 : decode cX0_slipOf 13 = .ok (.aload_n 0, 1) := by decide +kernel
theorem dX0_slipOf_14 : decode cX0_slipOf 14 = .ok (.getfield 11, 3) := by decide +kernel
theorem dX0_slipOf_17 : decode cX0_slipOf 17 = .ok (.iconst 4, 1) := by decide +kernel
theorem dX0_slipOf_18 : decode cX0_slipOf 18 = .ok (.iload 4, 2) := by decide +kernel
theorem dX0_slipOf_20 : decode cX0_slipOf 20 = .ok (.iastore, 1) := by decide +kernel
theorem dX0_slipOf_21 : decode cX0_slipOf 21 = .ok (.aload_n 0, 1) := by decide +kernel
theorem dX0_slipOf_22 : decode cX0_slipOf 22 = .ok (.getfield 11, 3) := by decide +kernel
theorem dX0_slipOf_25 : decode cX0_slipOf 25 = .ok (.iconst 5, 1) := by decide +kernel
theorem dX0_slipOf_26 : decode cX0_slipOf 26 = .ok (.aload_n 0, 1) := by decide +kernel
theorem dX0_slipOf_27 : decode cX0_slipOf 27 = .ok (.getfield 15, 3) := by decide +kernel
theorem dX0_slipOf_30 : decode cX0_slipOf 30 = .ok (.getfield 45, 3) := by decide +kernel
theorem dX0_slipOf_33 : decode cX0_slipOf 33 = .ok (.iload_n 1, 1) := by decide +kernel
theorem dX0_slipOf_34 : decode cX0_slipOf 34 = .ok (.iaload, 1) := by decide +kernel
theorem dX0_slipOf_35 : decode cX0_slipOf 35 = .ok (.iload 4, 2) := by decide +kernel
theorem dX0_slipOf_37 : decode cX0_slipOf 37 = .ok (.isub, 1) := by decide +kernel
theorem dX0_slipOf_38 : decode cX0_slipOf 38 = .ok (.iastore, 1) := by decide +kernel
theorem dX0_slipOf_39 : decode cX0_slipOf 39 = .ok (.aload_n 0, 1) := by decide +kernel
theorem dX0_slipOf_40 : decode cX0_slipOf 40 = .ok (.getfield 15, 3) := by decide +kernel
theorem dX0_slipOf_43 : decode cX0_slipOf 43 = .ok (.getfield 70, 3) := by decide +kernel
theorem dX0_slipOf_46 : decode cX0_slipOf 46 = .ok (.iconst 0, 1) := by decide +kernel
theorem dX0_slipOf_47 : decode cX0_slipOf 47 = .ok (.aload_n 0, 1) := by decide +kernel
theorem dX0_slipOf_48 : decode cX0_slipOf 48 = .ok (.getfield 11, 3) := by decide +kernel
theorem dX0_slipOf_51 : decode cX0_slipOf 51 = .ok (.bipush 99, 2) := by decide +kernel
theorem dX0_slipOf_53 : decode cX0_slipOf 53 = .ok (.aload_n 0, 1) := by decide +kernel
theorem dX0_slipOf_54 : decode cX0_slipOf 54 = .ok (.getfield 11, 3) := by decide +kernel
theorem dX0_slipOf_57 : decode cX0_slipOf 57 = .ok (.iconst 0, 1) := by decide +kernel
theorem dX0_slipOf_58 : decode cX0_slipOf 58 = .ok (.iaload, 1) := by decide +kernel
theorem dX0_slipOf_59 : decode cX0_slipOf 59 = .ok (.isub, 1) := by decide +kernel
theorem dX0_slipOf_60 : decode cX0_slipOf 60 = .ok (.invokevirtual 76, 3) := by decide +kernel
theorem dX0_slipOf_63 : decode cX0_slipOf 63 = .ok (.sipush 1000, 3) := by decide +kernel
theorem dX0_slipOf_66 : decode cX0_slipOf 66 = .ok (.invokestatic 80, 3) := by decide +kernel
theorem dX0_slipOf_69 : decode cX0_slipOf 69 = .ok (.ireturn, 1) := by decide +kernel
theorem eX0_slipOf {l : Launch} {g : jm_G} {d : Nat} {v1 v2 v3 v4 : Int} (hg : jm_HC g) {mu : jm_M} {Q : Option Value → jm_M → Prop} (h : jm_R l g (d + 1) iX0_setTerms [.ref 35, jm_i v1, jm_i v2] mu (jm_qv fun m1 => jm_rg v3 ∧ ∀ m6, m6 = jm_wr m1 36 3 v3 → jm_rg v4 ∧ ∀ m9, m9 = jm_wr m6 36 4 v4 → (0 ≤ v1 ∧ v1 < 8) ∧ jm_rg ((m9.1 8 v1) - v4) ∧ ∀ m13, m13 = jm_wr m9 36 5 ((m9.1 8 v1) - v4) → jm_R l g (d + 1) iX3_tell [.ref 15, jm_i 0, .ref 36, jm_i (99 - (m13.1 36 0))] m13 (jm_qi fun z16 m15 => Q (some (jm_i (max 0 (min 1000 z16)))) m15))) : jm_R l g (d + 2) iX0_slipOf [.ref 35, jm_i v1, jm_i v2, jm_i v3, jm_i v4] mu Q := by
  refine jm_enter [(0, .ref 35), (1, jm_i v1), (2, jm_i v2), (3, jm_i v3), (4, jm_i v4)] (by decide) (Nat.le_of_ble_eq_true rfl) rfl ?_
  refine jm_mrI (fun hm0 => ?_)
  refine jm_aload_n (pc := 0) 0 dX0_slipOf_0 rfl ?_
  refine jm_iload_n (pc := 1) 1 dX0_slipOf_1 rfl ?_
  refine jm_iload_n (pc := 2) 2 dX0_slipOf_2 rfl ?_
  refine jm_callvv (pc := 3) (As := [_, _]) (st := []) iX0_setTerms dX0_slipOf_3 mX0_66 (cC35 hg) ⟨_, rfl, rfl⟩ rfl rfl (Nat.le_of_ble_eq_true rfl) h (fun m1 h hm4 => ?_)
  refine jm_aload_n (pc := 6) 0 dX0_slipOf_6 rfl ?_
  refine jm_getr (pc := 7) 2 dX0_slipOf_7 fX0_11 (cC35 hg) rfl ?_
  refine jm_iconst (pc := 10) dX0_slipOf_10 ?_
  refine jm_iload_n (pc := 11) 3 dX0_slipOf_11 rfl ?_
  have hg5 := h.1
  have h := h.2
  refine jm_iast (pc := 12) dX0_slipOf_12 (cC36 hg) (by decide) (by decide) (by decide) hg5 ?_
  have h := h _ rfl
  refine jm_mrI (fun hm7 => ?_)
  refine jm_aload_n (pc := 13) 0 dX0_slipOf_13 rfl ?_
  refine jm_getr (pc := 14) 2 dX0_slipOf_14 fX0_11 (cC35 hg) rfl ?_
  refine jm_iconst (pc := 17) dX0_slipOf_17 ?_
  refine jm_iload (pc := 18) 4 dX0_slipOf_18 rfl ?_
  have hg8 := h.1
  have h := h.2
  refine jm_iast (pc := 20) dX0_slipOf_20 (cC36 hg) (by decide) (by decide) (by decide) hg8 ?_
  have h := h _ rfl
  refine jm_mrI (fun hm10 => ?_)
  refine jm_aload_n (pc := 21) 0 dX0_slipOf_21 rfl ?_
  refine jm_getr (pc := 22) 2 dX0_slipOf_22 fX0_11 (cC35 hg) rfl ?_
  refine jm_iconst (pc := 25) dX0_slipOf_25 ?_
  refine jm_aload_n (pc := 26) 0 dX0_slipOf_26 rfl ?_
  refine jm_getr (pc := 27) 0 dX0_slipOf_27 fX0_15 (cC35 hg) rfl ?_
  refine jm_getr (pc := 30) 2 dX0_slipOf_30 fX0_45 (cC6 hg) rfl ?_
  refine jm_iload_n (pc := 33) 1 dX0_slipOf_33 rfl ?_
  have hg11 := h.1
  have h := h.2
  refine jm_iald (pc := 34) dX0_slipOf_34 (cC8 hg) (by decide) hg11.1 hg11.2 ?_
  refine jm_iload (pc := 35) 4 dX0_slipOf_35 rfl ?_
  refine jm_isub (pc := 37) dX0_slipOf_37 ?_
  have hg12 := h.1
  have h := h.2
  refine jm_iast (pc := 38) dX0_slipOf_38 (cC36 hg) (by decide) (by decide) (by decide) hg12 ?_
  have h := h _ rfl
  refine jm_mrI (fun hm14 => ?_)
  refine jm_aload_n (pc := 39) 0 dX0_slipOf_39 rfl ?_
  refine jm_getr (pc := 40) 0 dX0_slipOf_40 fX0_15 (cC35 hg) rfl ?_
  refine jm_getr (pc := 43) 11 dX0_slipOf_43 fX0_70 (cC6 hg) rfl ?_
  refine jm_iconst (pc := 46) dX0_slipOf_46 ?_
  refine jm_aload_n (pc := 47) 0 dX0_slipOf_47 rfl ?_
  refine jm_getr (pc := 48) 2 dX0_slipOf_48 fX0_11 (cC35 hg) rfl ?_
  refine jm_bipush (pc := 51) dX0_slipOf_51 (by decide) ?_
  refine jm_aload_n (pc := 53) 0 dX0_slipOf_53 rfl ?_
  refine jm_getr (pc := 54) 2 dX0_slipOf_54 fX0_11 (cC35 hg) rfl ?_
  refine jm_iconst (pc := 57) dX0_slipOf_57 ?_
  refine jm_iald (pc := 58) dX0_slipOf_58 (cC36 hg) (by decide) (by decide) (by decide) ?_
  refine jm_isub (pc := 59) dX0_slipOf_59 ?_
  refine jm_callvi (pc := 60) (As := [_, _, _]) (st := []) iX3_tell dX0_slipOf_60 mX0_76 (cC15 hg) ⟨_, rfl, rfl⟩ rfl rfl (Nat.le_of_ble_eq_true rfl) h (fun z16 m15 hz17 h hm18 => ?_)
  refine jm_sipush (pc := 63) dX0_slipOf_63 (by decide) ?_
  refine jm_inlni (pc := 66) (As := [_, _]) (st := []) iX11_held dX0_slipOf_66 (mX0_80 hg) rfl rfl (Nat.le_of_ble_eq_true rfl) (pX11_held hg ⟨by decide, by decide⟩ hz17 (jm_kIi ?_))
  exact jm_iret (pc := 69) dX0_slipOf_69 rfl h
theorem dX1_addBar_0 : decode cX1_addBar 0 = .ok (.aload_n 0, 1) := by decide +kernel
theorem dX1_addBar_1 : decode cX1_addBar 1 = .ok (.getfield 31, 3) := by decide +kernel
theorem dX1_addBar_4 : decode cX1_addBar 4 = .ok (.sipush 200, 3) := by decide +kernel
theorem dX1_addBar_7 : decode cX1_addBar 7 = .ok (.if_icmp .ge 23, 3) := by decide +kernel
theorem dX1_addBar_10 : decode cX1_addBar 10 = .ok (.aload_n 0, 1) := by decide +kernel
theorem dX1_addBar_11 : decode cX1_addBar 11 = .ok (.getfield 34, 3) := by decide +kernel
theorem dX1_addBar_14 : decode cX1_addBar 14 = .ok (.aload_n 0, 1) := by decide +kernel
theorem dX1_addBar_15 : decode cX1_addBar 15 = .ok (.getfield 31, 3) := by decide +kernel
theorem dX1_addBar_18 : decode cX1_addBar 18 = .ok (.iload_n 1, 1) := by decide +kernel
theorem dX1_addBar_19 : decode cX1_addBar 19 = .ok (.iastore, 1) := by decide +kernel
theorem dX1_addBar_20 : decode cX1_addBar 20 = .ok (.aload_n 0, 1) := by decide +kernel
theorem dX1_addBar_21 : decode cX1_addBar 21 = .ok (.dup, 1) := by decide +kernel
theorem dX1_addBar_22 : decode cX1_addBar 22 = .ok (.getfield 31, 3) := by decide +kernel
theorem dX1_addBar_25 : decode cX1_addBar 25 = .ok (.iconst 1, 1) := by decide +kernel
theorem dX1_addBar_26 : decode cX1_addBar 26 = .ok (.iadd, 1) := by decide +kernel
theorem dX1_addBar_27 : decode cX1_addBar 27 = .ok (.putfield 31, 3) := by decide +kernel
theorem dX1_addBar_30 : decode cX1_addBar 30 = .ok (.return_, 1) := by decide +kernel
theorem eX1_addBar {l : Launch} {g : jm_G} {d : Nat} {v1 : Int} (hg : jm_HC g) {mu : jm_M} {Q : Option Value → jm_M → Prop} (h : (200 ≤ (mu.1 29 6) → Q none mu) ∧ ((mu.1 29 6) < 200 → (0 ≤ (mu.1 29 6) ∧ (mu.1 29 6) < 200) ∧ jm_rg v1 ∧ ∀ m3, m3 = jm_wr mu 33 (mu.1 29 6) v1 → jm_rg ((m3.1 29 6) + 1) ∧ ∀ m6, m6 = jm_wr m3 29 6 ((m3.1 29 6) + 1) → Q none m6)) : jm_R l g (d + 1) iX1_addBar [.ref 29, jm_i v1] mu Q := by
  refine jm_enter [(0, .ref 29), (1, jm_i v1)] (by decide) (Nat.le_of_ble_eq_true rfl) rfl ?_
  refine jm_mrI (fun hm0 => ?_)
  refine jm_aload_n (pc := 0) 0 dX1_addBar_0 rfl ?_
  refine jm_geti (pc := 1) 6 dX1_addBar_1 fX1_31 (cC29 hg) rfl ?_
  refine jm_sipush (pc := 4) dX1_addBar_4 (by decide) ?_
  refine jm_icmp_ge (pc := 7) 30 dX1_addBar_7 rfl (hm0 _ _) ⟨by decide, by decide⟩ (fun q => ?_) (fun q => ?_)
  · have h := h.1 q
    exact jm_vret (pc := 30) dX1_addBar_30 rfl h
  · have h := h.2 q
    refine jm_aload_n (pc := 10) 0 dX1_addBar_10 rfl ?_
    refine jm_getr (pc := 11) 7 dX1_addBar_11 fX1_34 (cC29 hg) rfl ?_
    refine jm_aload_n (pc := 14) 0 dX1_addBar_14 rfl ?_
    refine jm_geti (pc := 15) 6 dX1_addBar_15 fX1_31 (cC29 hg) rfl ?_
    refine jm_iload_n (pc := 18) 1 dX1_addBar_18 rfl ?_
    have hg1 := h.1
    have h := h.2
    have hg2 := h.1
    have h := h.2
    refine jm_iast (pc := 19) dX1_addBar_19 (cC33 hg) (by decide) hg1.1 hg1.2 hg2 ?_
    have h := h _ rfl
    refine jm_mrI (fun hm4 => ?_)
    refine jm_aload_n (pc := 20) 0 dX1_addBar_20 rfl ?_
    refine jm_dup (pc := 21) _ dX1_addBar_21 rfl ?_
    refine jm_geti (pc := 22) 6 dX1_addBar_22 fX1_31 (cC29 hg) rfl ?_
    refine jm_iconst (pc := 25) dX1_addBar_25 ?_
    refine jm_iadd (pc := 26) dX1_addBar_26 ?_
    have hg5 := h.1
    have h := h.2
    refine jm_put (pc := 27) 6 dX1_addBar_27 fX1_31 ftX1 (fun q h => by cases h; rfl) (jm_nI _) (jm_fI _) (cC29 hg) rfl hg5 ?_
    have h := h _ rfl
    refine jm_mrI (fun hm7 => ?_)
    exact jm_vret (pc := 30) dX1_addBar_30 rfl h
theorem dX1_draw_0 : decode cX1_draw 0 = .ok (.aload_n 0, 1) := by decide +kernel
theorem dX1_draw_1 : decode cX1_draw 1 = .ok (.aload_n 0, 1) := by decide +kernel
theorem dX1_draw_2 : decode cX1_draw 2 = .ok (.getfield 9, 3) := by decide +kernel
theorem dX1_draw_5 : decode cX1_draw 5 = .ok (.ldc 49, 2) := by decide +kernel
theorem dX1_draw_7 : decode cX1_draw 7 = .ok (.imul, 1) := by decide +kernel
theorem dX1_draw_8 : decode cX1_draw 8 = .ok (.ldc 50, 2) := by decide +kernel
theorem dX1_draw_10 : decode cX1_draw 10 = .ok (.iadd, 1) := by decide +kernel
theorem dX1_draw_11 : decode cX1_draw 11 = .ok (.putfield 9, 3) := by decide +kernel
theorem dX1_draw_14 : decode cX1_draw 14 = .ok (.iload_n 1, 1) := by decide +kernel
theorem dX1_draw_15 : decode cX1_draw 15 = .ok (.ifCond .le 15, 3) := by decide +kernel
theorem dX1_draw_18 : decode cX1_draw 18 = .ok (.aload_n 0, 1) := by decide +kernel
theorem dX1_draw_19 : decode cX1_draw 19 = .ok (.getfield 9, 3) := by decide +kernel
theorem dX1_draw_22 : decode cX1_draw 22 = .ok (.bipush 8, 2) := by decide +kernel
theorem dX1_draw_24 : decode cX1_draw 24 = .ok (.iushr, 1) := by decide +kernel
theorem dX1_draw_25 : decode cX1_draw 25 = .ok (.iload_n 1, 1) := by decide +kernel
theorem dX1_draw_26 : decode cX1_draw 26 = .ok (.irem, 1) := by decide +kernel
theorem dX1_draw_27 : decode cX1_draw 27 = .ok (.goto 4, 3) := by decide +kernel
theorem dX1_draw_30 : decode cX1_draw 30 = .ok (.iconst 0, 1) := by decide +kernel
theorem dX1_draw_31 : decode cX1_draw 31 = .ok (.ireturn, 1) := by decide +kernel
theorem eX1_draw {l : Launch} {g : jm_G} {d : Nat} {v1 : Int} (hg : jm_HC g) {mu : jm_M} {Q : Option Value → jm_M → Prop} (h : ∀ m1, m1 = jm_wr mu 29 0 (jm_nm (((mu.1 29 0) * 1664525) + 1013904223)) → jm_rg v1 ∧ (v1 ≤ 0 → Q (some (jm_i 0)) m1) ∧ (0 < v1 → ¬ v1 = 0 ∧ Q (some (jm_i (Int.tmod (jm_ushr (m1.1 29 0) 8) v1))) m1)) : jm_R l g (d + 1) iX1_draw [.ref 29, jm_i v1] mu Q := by
  refine jm_enter [(0, .ref 29), (1, jm_i v1)] (by decide) (Nat.le_of_ble_eq_true rfl) rfl ?_
  refine jm_mrI (fun hm0 => ?_)
  refine jm_aload_n (pc := 0) 0 dX1_draw_0 rfl ?_
  refine jm_aload_n (pc := 1) 0 dX1_draw_1 rfl ?_
  refine jm_geti (pc := 2) 0 dX1_draw_2 fX1_9 (cC29 hg) rfl ?_
  refine jm_ldc (pc := 5) 1664525 dX1_draw_5 kX1_49 (by decide) ?_
  refine jm_imul (pc := 7) dX1_draw_7 ?_
  refine jm_ldc (pc := 8) 1013904223 dX1_draw_8 kX1_50 (by decide) ?_
  refine jm_iadd (pc := 10) dX1_draw_10 ?_
  refine jm_n0 ?_
  refine jm_put (pc := 11) 0 dX1_draw_11 fX1_9 ftX1 (fun q h => by cases h; rfl) (jm_nI _) (jm_fI _) (cC29 hg) rfl (jm_rgT _) ?_
  have h := h _ rfl
  refine jm_mrI (fun hm2 => ?_)
  refine jm_iload_n (pc := 14) 1 dX1_draw_14 rfl ?_
  have hg3 := h.1
  have h := h.2
  refine jm_if_le (pc := 15) 30 dX1_draw_15 rfl hg3 (fun q => ?_) (fun q => ?_)
  · have h := h.1 q
    refine jm_iconst (pc := 30) dX1_draw_30 ?_
    exact jm_iret (pc := 31) dX1_draw_31 rfl h
  · have h := h.2 q
    refine jm_aload_n (pc := 18) 0 dX1_draw_18 rfl ?_
    refine jm_geti (pc := 19) 0 dX1_draw_19 fX1_9 (cC29 hg) rfl ?_
    refine jm_bipush (pc := 22) dX1_draw_22 (by decide) ?_
    refine jm_iushr (pc := 24) dX1_draw_24 ?_
    refine jm_iload_n (pc := 25) 1 dX1_draw_25 rfl ?_
    have hg4 := h.1
    have h := h.2
    refine jm_irem (pc := 26) (jm_rgT _) hg3 hg4 dX1_draw_26 ?_
    refine jm_goto (pc := 27) 31 dX1_draw_27 rfl ?_
    exact jm_iret (pc := 31) dX1_draw_31 rfl h
theorem dX2_singNotes_0 : decode cX2_singNotes 0 = .ok (.iconst 0, 1) := by decide +kernel
theorem dX2_singNotes_1 : decode cX2_singNotes 1 = .ok (.istore 4, 2) := by decide +kernel
theorem dX2_singNotes_3 : decode cX2_singNotes 3 = .ok (.iconst 0, 1) := by decide +kernel
theorem dX2_singNotes_4 : decode cX2_singNotes 4 = .ok (.istore 5, 2) := by decide +kernel
theorem dX2_singNotes_6 : decode cX2_singNotes 6 = .ok (.iload_n 3, 1) := by decide +kernel
theorem dX2_singNotes_7 : decode cX2_singNotes 7 = .ok (.iconst 1, 1) := by decide +kernel
theorem dX2_singNotes_8 : decode cX2_singNotes 8 = .ok (.iadd, 1) := by decide +kernel
theorem dX2_singNotes_9 : decode cX2_singNotes 9 = .ok (.istore 6, 2) := by decide +kernel
theorem dX2_singNotes_11 : decode cX2_singNotes 11 = .ok (.iconst 0, 1) := by decide +kernel
theorem dX2_singNotes_12 : decode cX2_singNotes 12 = .ok (.istore 7, 2) := by decide +kernel
theorem dX2_singNotes_14 : decode cX2_singNotes 14 = .ok (.iload 7, 2) := by decide +kernel
theorem dX2_singNotes_16 : decode cX2_singNotes 16 = .ok (.aload_n 0, 1) := by decide +kernel
theorem dX2_singNotes_17 : decode cX2_singNotes 17 = .ok (.getfield 21, 3) := by decide +kernel
theorem dX2_singNotes_20 : decode cX2_singNotes 20 = .ok (.getfield 44, 3) := by decide +kernel
theorem dX2_singNotes_23 : decode cX2_singNotes 23 = .ok (.getfield 50, 3) := by decide +kernel
theorem dX2_singNotes_26 : decode cX2_singNotes 26 = .ok (.iload_n 2, 1) := by decide +kernel
theorem dX2_singNotes_27 : decode cX2_singNotes 27 = .ok (.iaload, 1) := by decide +kernel
theorem dX2_singNotes_28 : decode cX2_singNotes 28 = .ok (.if_icmp .ge 124, 3) := by decide +kernel
theorem dX2_singNotes_31 : decode cX2_singNotes 31 = .ok (.iload 5, 2) := by decide +kernel
theorem dX2_singNotes_33 : decode cX2_singNotes 33 = .ok (.aload_n 0, 1) := by decide +kernel
theorem dX2_singNotes_34 : decode cX2_singNotes 34 = .ok (.getfield 21, 3) := by decide +kernel
theorem dX2_singNotes_37 : decode cX2_singNotes 37 = .ok (.getfield 56, 3) := by decide +kernel
theorem dX2_singNotes_40 : decode cX2_singNotes 40 = .ok (.iload_n 1, 1) := by decide +kernel
theorem dX2_singNotes_41 : decode cX2_singNotes 41 = .ok (.iaload, 1) := by decide +kernel
theorem dX2_singNotes_42 : decode cX2_singNotes 42 = .ok (.if_icmp .ne 14, 3) := by decide +kernel
theorem dX2_singNotes_45 : decode cX2_singNotes 45 = .ok (.aload_n 0, 1) := by decide +kernel
theorem dX2_singNotes_46 : decode cX2_singNotes 46 = .ok (.getfield 26, 3) := by decide +kernel
theorem dX2_singNotes_49 : decode cX2_singNotes 49 = .ok (.iconst 0, 1) := by decide +kernel
theorem dX2_singNotes_50 : decode cX2_singNotes 50 = .ok (.invokevirtual 81, 3) := by decide +kernel
theorem dX2_singNotes_53 : decode cX2_singNotes 53 = .ok (.iconst 0, 1) := by decide +kernel
theorem dX2_singNotes_54 : decode cX2_singNotes 54 = .ok (.istore 5, 2) := by decide +kernel
theorem dX2_singNotes_56 : decode cX2_singNotes 56 = .ok (.aload_n 0, 1) := by decide +kernel
theorem dX2_singNotes_57 : decode cX2_singNotes 57 = .ok (.getfield 26, 3) := by decide +kernel
theorem dX2_singNotes_60 : decode cX2_singNotes 60 = .ok (.sipush 1000, 3) := by decide +kernel
theorem dX2_singNotes_63 : decode cX2_singNotes 63 = .ok (.invokevirtual 85, 3) := by decide +kernel
theorem dX2_singNotes_66 : decode cX2_singNotes 66 = .ok (.aload_n 0, 1) := by decide +kernel
theorem dX2_singNotes_67 : decode cX2_singNotes 67 = .ok (.getfield 9, 3) := by decide +kernel
theorem dX2_singNotes_70 : decode cX2_singNotes 70 = .ok (.iload_n 1, 1) := by decide +kernel
theorem dX2_singNotes_71 : decode cX2_singNotes 71 = .ok (.iload_n 2, 1) := by decide +kernel
theorem dX2_singNotes_72 : decode cX2_singNotes 72 = .ok (.iload 7, 2) := by decide +kernel
theorem dX2_singNotes_74 : decode cX2_singNotes 74 = .ok (.iload 6, 2) := by decide +kernel
theorem dX2_singNotes_76 : decode cX2_singNotes 76 = .ok (.invokevirtual 89, 3) := by decide +kernel
theorem dX2_singNotes_79 : decode cX2_singNotes 79 = .ok (.if_icmp .ge 7, 3) := by decide +kernel
theorem dX2_singNotes_82 : decode cX2_singNotes 82 = .ok (.iconst 1, 1) := by decide +kernel
theorem dX2_singNotes_83 : decode cX2_singNotes 83 = .ok (.goto 4, 3) := by decide +kernel
theorem dX2_singNotes_86 : decode cX2_singNotes 86 = .ok (.iconst 0, 1) := by decide +kernel
theorem dX2_singNotes_87 : decode cX2_singNotes 87 = .ok (.istore 8, 2) := by decide +kernel
theorem dX2_singNotes_89 : decode cX2_singNotes 89 = .ok (.aload_n 0, 1) := by decide +kernel
theorem dX2_singNotes_90 : decode cX2_singNotes 90 = .ok (.getfield 26, 3) := by decide +kernel
theorem dX2_singNotes_93 : decode cX2_singNotes 93 = .ok (.iload 8, 2) := by decide +kernel
theorem dX2_singNotes_95 : decode cX2_singNotes 95 = .ok (.ifCond .eq 10, 3) := by decide +kernel
theorem dX2_singNotes_98 : decode cX2_singNotes 98 = .ok (.iload 6, 2) := by decide +kernel
theorem dX2_singNotes_100 : decode cX2_singNotes 100 = .ok (.iconst 1, 1) := by decide +kernel
theorem dX2_singNotes_101 : decode cX2_singNotes 101 = .ok (.isub, 1) := by decide +kernel
theorem dX2_singNotes_102 : decode cX2_singNotes 102 = .ok (.goto 5, 3) := by decide +kernel
theorem dX2_singNotes_105 : decode cX2_singNotes 105 = .ok (.iload 6, 2) := by decide +kernel
theorem dX2_singNotes_107 : decode cX2_singNotes 107 = .ok (.invokevirtual 81, 3) := by decide +kernel
theorem dX2_singNotes_110 : decode cX2_singNotes 110 = .ok (.iload 4, 2) := by decide +kernel
theorem dX2_singNotes_112 : decode cX2_singNotes 112 = .ok (.iload 8, 2) := by decide +kernel
theorem dX2_singNotes_114 : decode cX2_singNotes 114 = .ok (.ifCond .eq 7, 3) := by decide +kernel
theorem dX2_singNotes_117 : decode cX2_singNotes 117 = .ok (.iconst 1, 1) := by decide +kernel
theorem dX2_singNotes_118 : decode cX2_singNotes 118 = .ok (.goto 4, 3) := by decide +kernel
theorem dX2_singNotes_121 : decode cX2_singNotes 121 = .ok (.iconst 0, 1) := by decide +kernel
theorem dX2_singNotes_122 : decode cX2_singNotes 122 = .ok (.iadd, 1) := by decide +kernel
theorem dX2_singNotes_123 : decode cX2_singNotes 123 = .ok (.istore 4, 2) := by decide +kernel
theorem dX2_singNotes_125 : decode cX2_singNotes 125 = .ok (.iinc 5 1, 3) := by decide +kernel
theorem dX2_singNotes_128 : decode cX2_singNotes 128 = .ok (.iload 6, 2) := by decide +kernel
theorem dX2_singNotes_130 : decode cX2_singNotes 130 = .ok (.aload_n 0, 1) := by decide +kernel
theorem dX2_singNotes_131 : decode cX2_singNotes 131 = .ok (.getfield 21, 3) := by decide +kernel
theorem dX2_singNotes_134 : decode cX2_singNotes 134 = .ok (.getfield 44, 3) := by decide +kernel
theorem dX2_singNotes_137 : decode cX2_singNotes 137 = .ok (.iload_n 2, 1) := by decide +kernel
theorem dX2_singNotes_138 : decode cX2_singNotes 138 = .ok (.iload 7, 2) := by decide +kernel
theorem dX2_singNotes_140 : decode cX2_singNotes 140 = .ok (.invokevirtual 93, 3) := by decide +kernel
theorem dX2_singNotes_143 : decode cX2_singNotes 143 = .ok (.iadd, 1) := by decide +kernel
theorem dX2_singNotes_144 : decode cX2_singNotes 144 = .ok (.istore 6, 2) := by decide +kernel
theorem dX2_singNotes_146 : decode cX2_singNotes 146 = .ok (.iinc 7 1, 3) := by decide +kernel
theorem dX2_singNotes_149 : decode cX2_singNotes 149 = .ok (.goto (-135), 3) := by decide +kernel
theorem dX2_singNotes_152 : decode cX2_singNotes 152 = .ok (.iload 4, 2) := by decide +kernel
theorem dX2_singNotes_154 : decode cX2_singNotes 154 = .ok (.ireturn, 1) := by decide +kernel
theorem bX2_singNotes_122 {l : Launch} {g : jm_G} {d : Nat} {v1 v2 v5 v6 v7 s0 s1 : Int} (hg : jm_HC g) {mu : jm_M} {Q : Option Value → jm_M → Prop} (h : ∀ x1, x1 = (s1 + s0) → jm_R l g d iX5_stepOf [.ref 12, jm_i v2, jm_i v7] mu (jm_qi fun z3 m2 => ∀ x6, x6 = (v6 + z3) → jm_V l g (d + 1) iX2_singNotes 14 [(0, .ref 37), (1, jm_i v1), (2, jm_i v2), (4, jm_i x1), (5, jm_i (v5 + 1)), (6, jm_i x6), (7, jm_i (v7 + 1))] [] m2 Q)) : jm_V l g (d + 1) iX2_singNotes 122 [(0, .ref 37), (1, jm_i v1), (2, jm_i v2), (5, jm_i v5), (6, jm_i v6), (7, jm_i v7)] [jm_i s0, jm_i s1] mu Q := by
  refine jm_mrI (fun hm0 => ?_)
  refine jm_iadd (pc := 122) dX2_singNotes_122 ?_
  have h := h _ rfl
  refine jm_istore (pc := 123) (lv' := [(4, _), (0, _), (1, _), (2, _), (5, _), (6, _), (7, _)]) dX2_singNotes_123 (by decide) rfl ?_
  refine jm_iinc (pc := 125) (lv' := [(5, _), (4, _), (0, _), (1, _), (2, _), (6, _), (7, _)]) 4 dX2_singNotes_125 rfl (by decide) rfl ?_
  refine jm_iload (pc := 128) 5 dX2_singNotes_128 rfl ?_
  refine jm_aload_n (pc := 130) 2 dX2_singNotes_130 rfl ?_
  refine jm_getr (pc := 131) 1 dX2_singNotes_131 fX2_21 (cC37 hg) rfl ?_
  refine jm_getr (pc := 134) 10 dX2_singNotes_134 fX2_44 (cC6 hg) rfl ?_
  refine jm_iload_n (pc := 137) 4 dX2_singNotes_137 rfl ?_
  refine jm_iload (pc := 138) 6 dX2_singNotes_138 rfl ?_
  refine jm_callvi (pc := 140) (As := [_, _]) (st := [_]) iX5_stepOf dX2_singNotes_140 mX2_93 (cC12 hg) ⟨_, rfl, rfl⟩ rfl rfl (Nat.le_of_ble_eq_true rfl) h (fun z3 m2 hz4 h hm5 => ?_)
  refine jm_iadd (pc := 143) dX2_singNotes_143 ?_
  have h := h _ rfl
  refine jm_istore (pc := 144) (lv' := [(6, _), (5, _), (4, _), (0, _), (1, _), (2, _), (7, _)]) dX2_singNotes_144 (by decide) rfl ?_
  refine jm_iinc (pc := 146) (lv' := [(7, _), (6, _), (5, _), (4, _), (0, _), (1, _), (2, _)]) 6 dX2_singNotes_146 rfl (by decide) rfl ?_
  refine jm_goto (pc := 149) 14 dX2_singNotes_149 rfl ?_
  exact jm_sub [4, 5, 6, 3, 2, 1, 0] rfl h
theorem bX2_singNotes_107 {l : Launch} {g : jm_G} {d : Nat} {v1 v2 v4 v5 v6 v7 v8 s0 : Int} (hg : jm_HC g) {mu : jm_M} {Q : Option Value → jm_M → Prop} (h : jm_R l g d iX1_addBar [.ref 29, jm_i s0] mu (jm_qv fun m1 => jm_rg v8 ∧ (v8 = 0 → jm_V l g (d + 1) iX2_singNotes 122 [(0, .ref 37), (1, jm_i v1), (2, jm_i v2), (5, jm_i v5), (6, jm_i v6), (7, jm_i v7)] [jm_i 0, jm_i v4] m1 Q) ∧ (¬ v8 = 0 → jm_V l g (d + 1) iX2_singNotes 122 [(0, .ref 37), (1, jm_i v1), (2, jm_i v2), (5, jm_i v5), (6, jm_i v6), (7, jm_i v7)] [jm_i 1, jm_i v4] m1 Q))) : jm_V l g (d + 1) iX2_singNotes 107 [(0, .ref 37), (1, jm_i v1), (2, jm_i v2), (4, jm_i v4), (5, jm_i v5), (6, jm_i v6), (7, jm_i v7), (8, jm_i v8)] [jm_i s0, .ref 29] mu Q := by
  refine jm_mrI (fun hm0 => ?_)
  refine jm_callvv (pc := 107) (As := [_]) (st := []) iX1_addBar dX2_singNotes_107 mX2_81 (cC29 hg) ⟨_, rfl, rfl⟩ rfl rfl (Nat.le_of_ble_eq_true rfl) h (fun m1 h hm4 => ?_)
  refine jm_iload (pc := 110) 3 dX2_singNotes_110 rfl ?_
  refine jm_iload (pc := 112) 7 dX2_singNotes_112 rfl ?_
  have hg5 := h.1
  have h := h.2
  refine jm_if_eq (pc := 114) 121 dX2_singNotes_114 rfl hg5 (fun q => ?_) (fun q => ?_)
  · have h := h.1 q
    refine jm_iconst (pc := 121) dX2_singNotes_121 ?_
    exact jm_sub [0, 1, 2, 4, 5, 6] rfl h
  · have h := h.2 q
    refine jm_iconst (pc := 117) dX2_singNotes_117 ?_
    refine jm_goto (pc := 118) 122 dX2_singNotes_118 rfl ?_
    exact jm_sub [0, 1, 2, 4, 5, 6] rfl h
theorem bX2_singNotes_87 {l : Launch} {g : jm_G} {d : Nat} {v1 v2 v4 v5 v6 v7 s0 : Int} (hg : jm_HC g) {mu : jm_M} {Q : Option Value → jm_M → Prop} (h : jm_rg s0 ∧ (s0 = 0 → jm_V l g (d + 1) iX2_singNotes 107 [(0, .ref 37), (1, jm_i v1), (2, jm_i v2), (4, jm_i v4), (5, jm_i v5), (6, jm_i v6), (7, jm_i v7), (8, jm_i s0)] [jm_i v6, .ref 29] mu Q) ∧ (¬ s0 = 0 → jm_V l g (d + 1) iX2_singNotes 107 [(0, .ref 37), (1, jm_i v1), (2, jm_i v2), (4, jm_i v4), (5, jm_i v5), (6, jm_i v6), (7, jm_i v7), (8, jm_i s0)] [jm_i (v6 - 1), .ref 29] mu Q)) : jm_V l g (d + 1) iX2_singNotes 87 [(0, .ref 37), (1, jm_i v1), (2, jm_i v2), (4, jm_i v4), (5, jm_i v5), (6, jm_i v6), (7, jm_i v7)] [jm_i s0] mu Q := by
  refine jm_mrI (fun hm0 => ?_)
  refine jm_istore (pc := 87) (lv' := [(8, _), (0, _), (1, _), (2, _), (4, _), (5, _), (6, _), (7, _)]) dX2_singNotes_87 (by decide) rfl ?_
  refine jm_aload_n (pc := 89) 1 dX2_singNotes_89 rfl ?_
  refine jm_getr (pc := 90) 2 dX2_singNotes_90 fX2_26 (cC37 hg) rfl ?_
  refine jm_iload (pc := 93) 0 dX2_singNotes_93 rfl ?_
  have hg1 := h.1
  have h := h.2
  refine jm_if_eq (pc := 95) 105 dX2_singNotes_95 rfl hg1 (fun q => ?_) (fun q => ?_)
  · have h := h.1 q
    refine jm_iload (pc := 105) 6 dX2_singNotes_105 rfl ?_
    exact jm_sub [1, 2, 3, 4, 5, 6, 7, 0] rfl h
  · have h := h.2 q
    refine jm_iload (pc := 98) 6 dX2_singNotes_98 rfl ?_
    refine jm_iconst (pc := 100) dX2_singNotes_100 ?_
    refine jm_isub (pc := 101) dX2_singNotes_101 ?_
    refine jm_goto (pc := 102) 107 dX2_singNotes_102 rfl ?_
    exact jm_sub [1, 2, 3, 4, 5, 6, 7, 0] rfl h
theorem bX2_singNotes_56 {l : Launch} {g : jm_G} {d : Nat} {v1 v2 v4 v5 v6 v7 : Int} (hg : jm_HC g) {mu : jm_M} {Q : Option Value → jm_M → Prop} (h : jm_R l g d iX1_draw [.ref 29, jm_i 1000] mu (jm_qi fun z2 m1 => jm_R l g d iX0_slipOf [.ref 35, jm_i v1, jm_i v2, jm_i v7, jm_i v6] m1 (jm_qi fun z6 m5 => (z6 ≤ z2 → jm_V l g (d + 1) iX2_singNotes 87 [(0, .ref 37), (1, jm_i v1), (2, jm_i v2), (4, jm_i v4), (5, jm_i v5), (6, jm_i v6), (7, jm_i v7)] [jm_i 0] m5 Q) ∧ (z2 < z6 → jm_V l g (d + 1) iX2_singNotes 87 [(0, .ref 37), (1, jm_i v1), (2, jm_i v2), (4, jm_i v4), (5, jm_i v5), (6, jm_i v6), (7, jm_i v7)] [jm_i 1] m5 Q)))) : jm_V l g (d + 1) iX2_singNotes 56 [(0, .ref 37), (1, jm_i v1), (2, jm_i v2), (4, jm_i v4), (5, jm_i v5), (6, jm_i v6), (7, jm_i v7)] [] mu Q := by
  refine jm_mrI (fun hm0 => ?_)
  refine jm_aload_n (pc := 56) 0 dX2_singNotes_56 rfl ?_
  refine jm_getr (pc := 57) 2 dX2_singNotes_57 fX2_26 (cC37 hg) rfl ?_
  refine jm_sipush (pc := 60) dX2_singNotes_60 (by decide) ?_
  refine jm_callvi (pc := 63) (As := [_]) (st := []) iX1_draw dX2_singNotes_63 mX2_85 (cC29 hg) ⟨_, rfl, rfl⟩ rfl rfl (Nat.le_of_ble_eq_true rfl) h (fun z2 m1 hz3 h hm4 => ?_)
  refine jm_aload_n (pc := 66) 0 dX2_singNotes_66 rfl ?_
  refine jm_getr (pc := 67) 0 dX2_singNotes_67 fX2_9 (cC37 hg) rfl ?_
  refine jm_iload_n (pc := 70) 1 dX2_singNotes_70 rfl ?_
  refine jm_iload_n (pc := 71) 2 dX2_singNotes_71 rfl ?_
  refine jm_iload (pc := 72) 6 dX2_singNotes_72 rfl ?_
  refine jm_iload (pc := 74) 5 dX2_singNotes_74 rfl ?_
  refine jm_callvi (pc := 76) (As := [_, _, _, _]) (st := [_]) iX0_slipOf dX2_singNotes_76 mX2_89 (cC35 hg) ⟨_, rfl, rfl⟩ rfl rfl (Nat.le_of_ble_eq_true rfl) h (fun z6 m5 hz7 h hm8 => ?_)
  refine jm_icmp_ge (pc := 79) 86 dX2_singNotes_79 rfl hz3 hz7 (fun q => ?_) (fun q => ?_)
  · have h := h.1 q
    refine jm_iconst (pc := 86) dX2_singNotes_86 ?_
    exact jm_sub [0, 1, 2, 3, 4, 5, 6] rfl h
  · have h := h.2 q
    refine jm_iconst (pc := 82) dX2_singNotes_82 ?_
    refine jm_goto (pc := 83) 87 dX2_singNotes_83 rfl ?_
    exact jm_sub [0, 1, 2, 3, 4, 5, 6] rfl h
theorem bX2_singNotes_14 {l : Launch} {g : jm_G} {d : Nat} {v1 v2 v4 v5 v6 v7 : Int} (hg : jm_HC g) {mu : jm_M} {Q : Option Value → jm_M → Prop} (h : (0 ≤ v2 ∧ v2 < 24) ∧ jm_rg v7 ∧ ((mu.1 13 v2) ≤ v7 → Q (some (jm_i v4)) mu) ∧ (v7 < (mu.1 13 v2) → (0 ≤ v1 ∧ v1 < 8) ∧ jm_rg v5 ∧ (¬ v5 = (mu.1 9 v1) → jm_V l g (d + 1) iX2_singNotes 56 [(0, .ref 37), (1, jm_i v1), (2, jm_i v2), (4, jm_i v4), (5, jm_i v5), (6, jm_i v6), (7, jm_i v7)] [] mu Q) ∧ (v5 = (mu.1 9 v1) → jm_R l g d iX1_addBar [.ref 29, jm_i 0] mu (jm_qv fun m5 => jm_V l g (d + 1) iX2_singNotes 56 [(0, .ref 37), (1, jm_i v1), (2, jm_i v2), (4, jm_i v4), (5, jm_i 0), (6, jm_i v6), (7, jm_i v7)] [] m5 Q)))) : jm_V l g (d + 1) iX2_singNotes 14 [(0, .ref 37), (1, jm_i v1), (2, jm_i v2), (4, jm_i v4), (5, jm_i v5), (6, jm_i v6), (7, jm_i v7)] [] mu Q := by
  refine jm_mrI (fun hm0 => ?_)
  refine jm_iload (pc := 14) 6 dX2_singNotes_14 rfl ?_
  refine jm_aload_n (pc := 16) 0 dX2_singNotes_16 rfl ?_
  refine jm_getr (pc := 17) 1 dX2_singNotes_17 fX2_21 (cC37 hg) rfl ?_
  refine jm_getr (pc := 20) 10 dX2_singNotes_20 fX2_44 (cC6 hg) rfl ?_
  refine jm_getr (pc := 23) 1 dX2_singNotes_23 fX2_50 (cC12 hg) rfl ?_
  refine jm_iload_n (pc := 26) 2 dX2_singNotes_26 rfl ?_
  have hg1 := h.1
  have h := h.2
  refine jm_iald (pc := 27) dX2_singNotes_27 (cC13 hg) (by decide) hg1.1 hg1.2 ?_
  have hg2 := h.1
  have h := h.2
  refine jm_icmp_ge (pc := 28) 152 dX2_singNotes_28 rfl hg2 (hm0 _ _) (fun q => ?_) (fun q => ?_)
  · have h := h.1 q
    refine jm_iload (pc := 152) 3 dX2_singNotes_152 rfl ?_
    exact jm_iret (pc := 154) dX2_singNotes_154 rfl h
  · have h := h.2 q
    refine jm_iload (pc := 31) 4 dX2_singNotes_31 rfl ?_
    refine jm_aload_n (pc := 33) 0 dX2_singNotes_33 rfl ?_
    refine jm_getr (pc := 34) 1 dX2_singNotes_34 fX2_21 (cC37 hg) rfl ?_
    refine jm_getr (pc := 37) 3 dX2_singNotes_37 fX2_56 (cC6 hg) rfl ?_
    refine jm_iload_n (pc := 40) 1 dX2_singNotes_40 rfl ?_
    have hg3 := h.1
    have h := h.2
    refine jm_iald (pc := 41) dX2_singNotes_41 (cC9 hg) (by decide) hg3.1 hg3.2 ?_
    have hg4 := h.1
    have h := h.2
    refine jm_icmp_ne (pc := 42) 56 dX2_singNotes_42 rfl hg4 (hm0 _ _) (fun q => ?_) (fun q => ?_)
    · have h := h.1 q
      exact jm_sub [0, 1, 2, 3, 4, 5, 6] rfl h
    · have h := h.2 q
      refine jm_aload_n (pc := 45) 0 dX2_singNotes_45 rfl ?_
      refine jm_getr (pc := 46) 2 dX2_singNotes_46 fX2_26 (cC37 hg) rfl ?_
      refine jm_iconst (pc := 49) dX2_singNotes_49 ?_
      refine jm_callvv (pc := 50) (As := [_]) (st := []) iX1_addBar dX2_singNotes_50 mX2_81 (cC29 hg) ⟨_, rfl, rfl⟩ rfl rfl (Nat.le_of_ble_eq_true rfl) h (fun m5 h hm8 => ?_)
      refine jm_iconst (pc := 53) dX2_singNotes_53 ?_
      refine jm_istore (pc := 54) (lv' := [(5, _), (0, _), (1, _), (2, _), (4, _), (6, _), (7, _)]) dX2_singNotes_54 (by decide) rfl ?_
      exact jm_sub [1, 2, 3, 4, 0, 5, 6] rfl h
theorem eX2_singNotes {l : Launch} {g : jm_G} {d : Nat} {v1 v2 v3 : Int} (hg : jm_HC g) {mu : jm_M} {Q : Option Value → jm_M → Prop} (h : ∀ x1, x1 = (v3 + 1) → jm_V l g (d + 1) iX2_singNotes 14 [(0, .ref 37), (1, jm_i v1), (2, jm_i v2), (4, jm_i 0), (5, jm_i 0), (6, jm_i x1), (7, jm_i 0)] [] mu Q) : jm_R l g (d + 1) iX2_singNotes [.ref 37, jm_i v1, jm_i v2, jm_i v3] mu Q := by
  refine jm_enter [(0, .ref 37), (1, jm_i v1), (2, jm_i v2), (3, jm_i v3)] (by decide) (Nat.le_of_ble_eq_true rfl) rfl ?_
  refine jm_mrI (fun hm0 => ?_)
  refine jm_iconst (pc := 0) dX2_singNotes_0 ?_
  refine jm_istore (pc := 1) (lv' := [(4, _), (0, _), (1, _), (2, _), (3, _)]) dX2_singNotes_1 (by decide) rfl ?_
  refine jm_iconst (pc := 3) dX2_singNotes_3 ?_
  refine jm_istore (pc := 4) (lv' := [(5, _), (4, _), (0, _), (1, _), (2, _), (3, _)]) dX2_singNotes_4 (by decide) rfl ?_
  refine jm_iload_n (pc := 6) 5 dX2_singNotes_6 rfl ?_
  refine jm_iconst (pc := 7) dX2_singNotes_7 ?_
  refine jm_iadd (pc := 8) dX2_singNotes_8 ?_
  have h := h _ rfl
  refine jm_istore (pc := 9) (lv' := [(6, _), (5, _), (4, _), (0, _), (1, _), (2, _), (3, _)]) dX2_singNotes_9 (by decide) rfl ?_
  refine jm_iconst (pc := 11) dX2_singNotes_11 ?_
  refine jm_istore (pc := 12) (lv' := [(7, _), (6, _), (5, _), (4, _), (0, _), (1, _), (2, _), (3, _)]) dX2_singNotes_12 (by decide) rfl ?_
  exact jm_sub [4, 5, 6, 3, 2, 1, 0] rfl h
theorem dX2_sing_0 : decode cX2_sing 0 = .ok (.aload_n 0, 1) := by decide +kernel
theorem dX2_sing_1 : decode cX2_sing 1 = .ok (.getfield 9, 3) := by decide +kernel
theorem dX2_sing_4 : decode cX2_sing 4 = .ok (.iload_n 1, 1) := by decide +kernel
theorem dX2_sing_5 : decode cX2_sing 5 = .ok (.iload_n 2, 1) := by decide +kernel
theorem dX2_sing_6 : decode cX2_sing 6 = .ok (.invokevirtual 27, 3) := by decide +kernel
theorem dX2_sing_9 : decode cX2_sing 9 = .ok (.istore 4, 2) := by decide +kernel
theorem dX2_sing_11 : decode cX2_sing 11 = .ok (.iload 4, 2) := by decide +kernel
theorem dX2_sing_13 : decode cX2_sing 13 = .ok (.iconst (-1), 1) := by decide +kernel
theorem dX2_sing_14 : decode cX2_sing 14 = .ok (.if_icmp .ne 5, 3) := by decide +kernel
theorem dX2_sing_17 : decode cX2_sing 17 = .ok (.iconst (-1), 1) := by decide +kernel
theorem dX2_sing_18 : decode cX2_sing 18 = .ok (.ireturn, 1) := by decide +kernel
theorem dX2_sing_19 : decode cX2_sing 19 = .ok (.aload_n 0, 1) := by decide +kernel
theorem dX2_sing_20 : decode cX2_sing 20 = .ok (.getfield 26, 3) := by decide +kernel
theorem dX2_sing_23 : decode cX2_sing 23 = .ok (.getfield 59, 3) := by decide +kernel
theorem dX2_sing_26 : decode cX2_sing 26 = .ok (.istore 5, 2) := by decide +kernel
theorem dX2_sing_28 : decode cX2_sing 28 = .ok (.aload_n 0, 1) := by decide +kernel
theorem dX2_sing_29 : decode cX2_sing 29 = .ok (.iload_n 1, 1) := by decide +kernel
theorem dX2_sing_30 : decode cX2_sing 30 = .ok (.iload 4, 2) := by decide +kernel
theorem dX2_sing_32 : decode cX2_sing 32 = .ok (.iload_n 3, 1) := by decide +kernel
theorem dX2_sing_33 : decode cX2_sing 33 = .ok (.invokevirtual 63, 3) := by decide +kernel
theorem dX2_sing_36 : decode cX2_sing 36 = .ok (.istore 6, 2) := by decide +kernel
theorem dX2_sing_38 : decode cX2_sing 38 = .ok (.aload_n 0, 1) := by decide +kernel
theorem dX2_sing_39 : decode cX2_sing 39 = .ok (.iload_n 1, 1) := by decide +kernel
theorem dX2_sing_40 : decode cX2_sing 40 = .ok (.aload_n 0, 1) := by decide +kernel
theorem dX2_sing_41 : decode cX2_sing 41 = .ok (.getfield 9, 3) := by decide +kernel
theorem dX2_sing_44 : decode cX2_sing 44 = .ok (.iload_n 1, 1) := by decide +kernel
theorem dX2_sing_45 : decode cX2_sing 45 = .ok (.iload 4, 2) := by decide +kernel
theorem dX2_sing_47 : decode cX2_sing 47 = .ok (.invokevirtual 67, 3) := by decide +kernel
theorem dX2_sing_50 : decode cX2_sing 50 = .ok (.invokevirtual 70, 3) := by decide +kernel
theorem dX2_sing_53 : decode cX2_sing 53 = .ok (.aload_n 0, 1) := by decide +kernel
theorem dX2_sing_54 : decode cX2_sing 54 = .ok (.getfield 26, 3) := by decide +kernel
theorem dX2_sing_57 : decode cX2_sing 57 = .ok (.iload_n 1, 1) := by decide +kernel
theorem dX2_sing_58 : decode cX2_sing 58 = .ok (.iload 4, 2) := by decide +kernel
theorem dX2_sing_60 : decode cX2_sing 60 = .ok (.iload 6, 2) := by decide +kernel
theorem dX2_sing_62 : decode cX2_sing 62 = .ok (.iload 5, 2) := by decide +kernel
theorem dX2_sing_64 : decode cX2_sing 64 = .ok (.invokevirtual 74, 3) := by decide +kernel
theorem dX2_sing_67 : decode cX2_sing 67 = .ok (.aload_n 0, 1) := by decide +kernel
theorem dX2_sing_68 : decode cX2_sing 68 = .ok (.getfield 26, 3) := by decide +kernel
theorem dX2_sing_71 : decode cX2_sing 71 = .ok (.iconst 0, 1) := by decide +kernel
theorem dX2_sing_72 : decode cX2_sing 72 = .ok (.iload_n 1, 1) := by decide +kernel
theorem dX2_sing_73 : decode cX2_sing 73 = .ok (.iload_n 2, 1) := by decide +kernel
theorem dX2_sing_74 : decode cX2_sing 74 = .ok (.iload 6, 2) := by decide +kernel
theorem dX2_sing_76 : decode cX2_sing 76 = .ok (.invokevirtual 78, 3) := by decide +kernel
theorem dX2_sing_79 : decode cX2_sing 79 = .ok (.iload 6, 2) := by decide +kernel
theorem dX2_sing_81 : decode cX2_sing 81 = .ok (.ireturn, 1) := by decide +kernel
theorem eX2_sing {l : Launch} {g : jm_G} {d : Nat} {v1 v2 v3 : Int} (hg : jm_HC g) {mu : jm_M} {Q : Option Value → jm_M → Prop} (h : jm_R l g (d + 1) iX0_motiveOf [.ref 35, jm_i v1, jm_i v2] mu (jm_qi fun z2 m1 => (¬ z2 = (-1) → ∀ x5, x5 = (m1.1 29 6) → jm_R l g (d + 1) iX2_singNotes [.ref 37, jm_i v1, jm_i z2, jm_i v3] m1 (jm_qi fun z7 m6 => jm_R l g (d + 1) iX0_shakeOf [.ref 35, jm_i v1, jm_i z2] m6 (jm_qi fun z11 m10 => (0 ≤ v1 ∧ v1 < 8) ∧ (jm_rg ((m10.1 30 v1) - z11)) ∧ ∀ m16, m16 = (jm_wr m10 30 v1 (max 0 ((m10.1 30 v1) - z11))) → jm_R l g (d + 1) iX1_addTestimony [.ref 29, jm_i v1, jm_i z2, jm_i z7, jm_i x5] m16 (jm_qv fun m18 => jm_R l g (d + 1) iX1_write [.ref 29, jm_i 0, jm_i v1, jm_i v2, jm_i z7] m18 (jm_qv fun m22 => Q (some (jm_i z7)) m22))))) ∧ (z2 = (-1) → Q (some (jm_i (-1))) m1))) : jm_R l g (d + 2) iX2_sing [.ref 37, jm_i v1, jm_i v2, jm_i v3] mu Q := by
  refine jm_enter [(0, .ref 37), (1, jm_i v1), (2, jm_i v2), (3, jm_i v3)] (by decide) (Nat.le_of_ble_eq_true rfl) rfl ?_
  refine jm_mrI (fun hm0 => ?_)
  refine jm_aload_n (pc := 0) 0 dX2_sing_0 rfl ?_
  refine jm_getr (pc := 1) 0 dX2_sing_1 fX2_9 (cC37 hg) rfl ?_
  refine jm_iload_n (pc := 4) 1 dX2_sing_4 rfl ?_
  refine jm_iload_n (pc := 5) 2 dX2_sing_5 rfl ?_
  refine jm_callvi (pc := 6) (As := [_, _]) (st := []) iX0_motiveOf dX2_sing_6 mX2_27 (cC35 hg) ⟨_, rfl, rfl⟩ rfl rfl (Nat.le_of_ble_eq_true rfl) h (fun z2 m1 hz3 h hm4 => ?_)
  refine jm_istore (pc := 9) (lv' := [(4, _), (0, _), (1, _), (2, _), (3, _)]) dX2_sing_9 (by decide) rfl ?_
  refine jm_iload (pc := 11) 0 dX2_sing_11 rfl ?_
  refine jm_iconst (pc := 13) dX2_sing_13 ?_
  refine jm_icmp_ne (pc := 14) 19 dX2_sing_14 rfl hz3 ⟨by decide, by decide⟩ (fun q => ?_) (fun q => ?_)
  · have h := h.1 q
    refine jm_aload_n (pc := 19) 1 dX2_sing_19 rfl ?_
    refine jm_getr (pc := 20) 2 dX2_sing_20 fX2_26 (cC37 hg) rfl ?_
    refine jm_geti (pc := 23) 6 dX2_sing_23 fX2_59 (cC29 hg) rfl ?_
    have h := h _ rfl
    refine jm_istore (pc := 26) (lv' := [(5, _), (4, _), (0, _), (1, _), (2, _), (3, _)]) dX2_sing_26 (by decide) rfl ?_
    refine jm_aload_n (pc := 28) 2 dX2_sing_28 rfl ?_
    refine jm_iload_n (pc := 29) 3 dX2_sing_29 rfl ?_
    refine jm_iload (pc := 30) 1 dX2_sing_30 rfl ?_
    refine jm_iload_n (pc := 32) 5 dX2_sing_32 rfl ?_
    refine jm_callvi (pc := 33) (As := [_, _, _]) (st := []) iX2_singNotes dX2_sing_33 mX2_63 (cC37 hg) ⟨_, rfl, rfl⟩ rfl rfl (Nat.le_of_ble_eq_true rfl) h (fun z7 m6 hz8 h hm9 => ?_)
    refine jm_istore (pc := 36) (lv' := [(6, _), (5, _), (4, _), (0, _), (1, _), (2, _), (3, _)]) dX2_sing_36 (by decide) rfl ?_
    refine jm_aload_n (pc := 38) 3 dX2_sing_38 rfl ?_
    refine jm_iload_n (pc := 39) 4 dX2_sing_39 rfl ?_
    refine jm_aload_n (pc := 40) 3 dX2_sing_40 rfl ?_
    refine jm_getr (pc := 41) 0 dX2_sing_41 fX2_9 (cC37 hg) rfl ?_
    refine jm_iload_n (pc := 44) 4 dX2_sing_44 rfl ?_
    refine jm_iload (pc := 45) 2 dX2_sing_45 rfl ?_
    refine jm_callvi (pc := 47) (As := [_, _]) (st := [_, _]) iX0_shakeOf dX2_sing_47 mX2_67 (cC35 hg) ⟨_, rfl, rfl⟩ rfl rfl (Nat.le_of_ble_eq_true rfl) h (fun z11 m10 hz12 h hm13 => ?_)
    have hg14 := h.1
    have h := h.2
    have hg15 := h.1
    have h := h.2
    refine jm_inlvv (pc := 50) (As := [_, _]) (st := []) iX2_loseNerve dX2_sing_50 mX2_70 (cC37 hg) ⟨_, rfl, rfl⟩ rfl rfl (Nat.le_of_ble_eq_true rfl) (pX2_loseNerve hg hg14 hg15 (jm_kVi ?_))
    have h := h _ rfl
    refine jm_mrI (fun hm17 => ?_)
    refine jm_aload_n (pc := 53) 3 dX2_sing_53 rfl ?_
    refine jm_getr (pc := 54) 2 dX2_sing_54 fX2_26 (cC37 hg) rfl ?_
    refine jm_iload_n (pc := 57) 4 dX2_sing_57 rfl ?_
    refine jm_iload (pc := 58) 2 dX2_sing_58 rfl ?_
    refine jm_iload (pc := 60) 0 dX2_sing_60 rfl ?_
    refine jm_iload (pc := 62) 1 dX2_sing_62 rfl ?_
    refine jm_callvv (pc := 64) (As := [_, _, _, _]) (st := []) iX1_addTestimony dX2_sing_64 mX2_74 (cC29 hg) ⟨_, rfl, rfl⟩ rfl rfl (Nat.le_of_ble_eq_true rfl) h (fun m18 h hm21 => ?_)
    refine jm_aload_n (pc := 67) 3 dX2_sing_67 rfl ?_
    refine jm_getr (pc := 68) 2 dX2_sing_68 fX2_26 (cC37 hg) rfl ?_
    refine jm_iconst (pc := 71) dX2_sing_71 ?_
    refine jm_iload_n (pc := 72) 4 dX2_sing_72 rfl ?_
    refine jm_iload_n (pc := 73) 5 dX2_sing_73 rfl ?_
    refine jm_iload (pc := 74) 0 dX2_sing_74 rfl ?_
    refine jm_callvv (pc := 76) (As := [_, _, _, _]) (st := []) iX1_write dX2_sing_76 mX2_78 (cC29 hg) ⟨_, rfl, rfl⟩ rfl rfl (Nat.le_of_ble_eq_true rfl) h (fun m22 h hm25 => ?_)
    refine jm_iload (pc := 79) 0 dX2_sing_79 rfl ?_
    exact jm_iret (pc := 81) dX2_sing_81 rfl h
  · have h := h.2 q
    refine jm_iconst (pc := 17) dX2_sing_17 ?_
    exact jm_iret (pc := 18) dX2_sing_18 rfl h
theorem dX11_call_0 : decode cX11_call 0 = .ok (.aload_n 0, 1) := by decide +kernel
theorem dX11_call_1 : decode cX11_call 1 = .ok (.getfield 44, 3) := by decide +kernel
theorem dX11_call_4 : decode cX11_call 4 = .ok (.iload_n 1, 1) := by decide +kernel
theorem dX11_call_5 : decode cX11_call 5 = .ok (.iload_n 2, 1) := by decide +kernel
theorem dX11_call_6 : decode cX11_call 6 = .ok (.iload_n 3, 1) := by decide +kernel
theorem dX11_call_7 : decode cX11_call 7 = .ok (.invokevirtual 200, 3) := by decide +kernel
theorem dX11_call_10 : decode cX11_call 10 = .ok (.ifCond .ne 5, 3) := by decide +kernel
theorem dX11_call_13 : decode cX11_call 13 = .ok (.iconst (-1), 1) := by decide +kernel
theorem dX11_call_14 : decode cX11_call 14 = .ok (.ireturn, 1) := by decide +kernel
theorem dX11_call_15 : decode cX11_call 15 = .ok (.aload_n 0, 1) := by decide +kernel
theorem dX11_call_16 : decode cX11_call 16 = .ok (.invokevirtual 203, 3) := by decide +kernel
theorem dX11_call_19 : decode cX11_call 19 = .ok (.aload_n 0, 1) := by decide +kernel
theorem dX11_call_20 : decode cX11_call 20 = .ok (.getfield 44, 3) := by decide +kernel
theorem dX11_call_23 : decode cX11_call 23 = .ok (.iload_n 1, 1) := by decide +kernel
theorem dX11_call_24 : decode cX11_call 24 = .ok (.iload_n 2, 1) := by decide +kernel
theorem dX11_call_25 : decode cX11_call 25 = .ok (.iload_n 3, 1) := by decide +kernel
theorem dX11_call_26 : decode cX11_call 26 = .ok (.invokevirtual 206, 3) := by decide +kernel
theorem dX11_call_29 : decode cX11_call 29 = .ok (.ireturn, 1) := by decide +kernel
theorem eX11_call {l : Launch} {g : jm_G} {d : Nat} {v1 v2 v3 : Int} (hg : jm_HC g) {mu : jm_M} {Q : Option Value → jm_M → Prop} (h : jm_R l g d iX2_canBeCalled [.ref 37, jm_i v1, jm_i v2, jm_i v3] mu (jm_qi fun z2 m1 => (¬ z2 = 0 → jm_R l g d iX11_keepCourt [.ref 0] m1 (jm_qv fun m5 => jm_R l g d iX2_sing [.ref 37, jm_i v1, jm_i v2, jm_i v3] m5 (jm_qi fun z10 m9 => Q (some (jm_i z10)) m9))) ∧ (z2 = 0 → Q (some (jm_i (-1))) m1))) : jm_R l g (d + 1) iX11_call [.ref 0, jm_i v1, jm_i v2, jm_i v3] mu Q := by
  refine jm_enter [(0, .ref 0), (1, jm_i v1), (2, jm_i v2), (3, jm_i v3)] (by decide) (Nat.le_of_ble_eq_true rfl) rfl ?_
  refine jm_mrI (fun hm0 => ?_)
  refine jm_aload_n (pc := 0) 0 dX11_call_0 rfl ?_
  refine jm_getr (pc := 1) 4 dX11_call_1 fX11_44 (cC0 hg) rfl ?_
  refine jm_iload_n (pc := 4) 1 dX11_call_4 rfl ?_
  refine jm_iload_n (pc := 5) 2 dX11_call_5 rfl ?_
  refine jm_iload_n (pc := 6) 3 dX11_call_6 rfl ?_
  refine jm_callvi (pc := 7) (As := [_, _, _]) (st := []) iX2_canBeCalled dX11_call_7 mX11_200 (cC37 hg) ⟨_, rfl, rfl⟩ rfl rfl (Nat.le_of_ble_eq_true rfl) h (fun z2 m1 hz3 h hm4 => ?_)
  refine jm_if_ne (pc := 10) 15 dX11_call_10 rfl hz3 (fun q => ?_) (fun q => ?_)
  · have h := h.1 q
    refine jm_aload_n (pc := 15) 0 dX11_call_15 rfl ?_
    refine jm_callvv (pc := 16) (As := []) (st := []) iX11_keepCourt dX11_call_16 mX11_203 (cC0 hg) ⟨_, rfl, rfl⟩ rfl rfl (Nat.le_of_ble_eq_true rfl) h (fun m5 h hm8 => ?_)
    refine jm_aload_n (pc := 19) 0 dX11_call_19 rfl ?_
    refine jm_getr (pc := 20) 4 dX11_call_20 fX11_44 (cC0 hg) rfl ?_
    refine jm_iload_n (pc := 23) 1 dX11_call_23 rfl ?_
    refine jm_iload_n (pc := 24) 2 dX11_call_24 rfl ?_
    refine jm_iload_n (pc := 25) 3 dX11_call_25 rfl ?_
    refine jm_callvi (pc := 26) (As := [_, _, _]) (st := []) iX2_sing dX11_call_26 mX11_206 (cC37 hg) ⟨_, rfl, rfl⟩ rfl rfl (Nat.le_of_ble_eq_true rfl) h (fun z10 m9 hz11 h hm12 => ?_)
    exact jm_iret (pc := 29) dX11_call_29 rfl h
  · have h := h.2 q
    refine jm_iconst (pc := 13) dX11_call_13 ?_
    exact jm_iret (pc := 14) dX11_call_14 rfl h
theorem dX2_crossExamine_0 : decode cX2_crossExamine 0 = .ok (.aload_n 0, 1) := by decide +kernel
theorem dX2_crossExamine_1 : decode cX2_crossExamine 1 = .ok (.iload_n 1, 1) := by decide +kernel
theorem dX2_crossExamine_2 : decode cX2_crossExamine 2 = .ok (.aload_n 0, 1) := by decide +kernel
theorem dX2_crossExamine_3 : decode cX2_crossExamine 3 = .ok (.getfield 9, 3) := by decide +kernel
theorem dX2_crossExamine_6 : decode cX2_crossExamine 6 = .ok (.iload_n 1, 1) := by decide +kernel
theorem dX2_crossExamine_7 : decode cX2_crossExamine 7 = .ok (.iconst 0, 1) := by decide +kernel
theorem dX2_crossExamine_8 : decode cX2_crossExamine 8 = .ok (.invokevirtual 67, 3) := by decide +kernel
theorem dX2_crossExamine_11 : decode cX2_crossExamine 11 = .ok (.bipush 10, 2) := by decide +kernel
theorem dX2_crossExamine_13 : decode cX2_crossExamine 13 = .ok (.iadd, 1) := by decide +kernel
theorem dX2_crossExamine_14 : decode cX2_crossExamine 14 = .ok (.invokevirtual 70, 3) := by decide +kernel
theorem dX2_crossExamine_17 : decode cX2_crossExamine 17 = .ok (.aload_n 0, 1) := by decide +kernel
theorem dX2_crossExamine_18 : decode cX2_crossExamine 18 = .ok (.getfield 26, 3) := by decide +kernel
theorem dX2_crossExamine_21 : decode cX2_crossExamine 21 = .ok (.iconst 1, 1) := by decide +kernel
theorem dX2_crossExamine_22 : decode cX2_crossExamine 22 = .ok (.iload_n 1, 1) := by decide +kernel
theorem dX2_crossExamine_23 : decode cX2_crossExamine 23 = .ok (.iconst (-1), 1) := by decide +kernel
theorem dX2_crossExamine_24 : decode cX2_crossExamine 24 = .ok (.iconst 0, 1) := by decide +kernel
theorem dX2_crossExamine_25 : decode cX2_crossExamine 25 = .ok (.invokevirtual 78, 3) := by decide +kernel
theorem dX2_crossExamine_28 : decode cX2_crossExamine 28 = .ok (.return_, 1) := by decide +kernel
theorem eX2_crossExamine {l : Launch} {g : jm_G} {d : Nat} {v1 : Int} (hg : jm_HC g) {mu : jm_M} {Q : Option Value → jm_M → Prop} (h : jm_R l g (d + 1) iX0_shakeOf [.ref 35, jm_i v1, jm_i 0] mu (jm_qi fun z2 m1 => (0 ≤ v1 ∧ v1 < 8) ∧ (jm_rg ((m1.1 30 v1) - (z2 + 10))) ∧ ∀ m7, m7 = (jm_wr m1 30 v1 (max 0 ((m1.1 30 v1) - (z2 + 10)))) → jm_R l g (d + 1) iX1_write [.ref 29, jm_i 1, jm_i v1, jm_i (-1), jm_i 0] m7 (jm_qv fun m9 => Q none m9))) : jm_R l g (d + 2) iX2_crossExamine [.ref 37, jm_i v1] mu Q := by
  refine jm_enter [(0, .ref 37), (1, jm_i v1)] (by decide) (Nat.le_of_ble_eq_true rfl) rfl ?_
  refine jm_mrI (fun hm0 => ?_)
  refine jm_aload_n (pc := 0) 0 dX2_crossExamine_0 rfl ?_
  refine jm_iload_n (pc := 1) 1 dX2_crossExamine_1 rfl ?_
  refine jm_aload_n (pc := 2) 0 dX2_crossExamine_2 rfl ?_
  refine jm_getr (pc := 3) 0 dX2_crossExamine_3 fX2_9 (cC37 hg) rfl ?_
  refine jm_iload_n (pc := 6) 1 dX2_crossExamine_6 rfl ?_
  refine jm_iconst (pc := 7) dX2_crossExamine_7 ?_
  refine jm_callvi (pc := 8) (As := [_, _]) (st := [_, _]) iX0_shakeOf dX2_crossExamine_8 mX2_67 (cC35 hg) ⟨_, rfl, rfl⟩ rfl rfl (Nat.le_of_ble_eq_true rfl) h (fun z2 m1 hz3 h hm4 => ?_)
  refine jm_bipush (pc := 11) dX2_crossExamine_11 (by decide) ?_
  refine jm_iadd (pc := 13) dX2_crossExamine_13 ?_
  have hg5 := h.1
  have h := h.2
  have hg6 := h.1
  have h := h.2
  refine jm_inlvv (pc := 14) (As := [_, _]) (st := []) iX2_loseNerve dX2_crossExamine_14 mX2_70 (cC37 hg) ⟨_, rfl, rfl⟩ rfl rfl (Nat.le_of_ble_eq_true rfl) (pX2_loseNerve hg hg5 hg6 (jm_kVi ?_))
  have h := h _ rfl
  refine jm_mrI (fun hm8 => ?_)
  refine jm_aload_n (pc := 17) 0 dX2_crossExamine_17 rfl ?_
  refine jm_getr (pc := 18) 2 dX2_crossExamine_18 fX2_26 (cC37 hg) rfl ?_
  refine jm_iconst (pc := 21) dX2_crossExamine_21 ?_
  refine jm_iload_n (pc := 22) 1 dX2_crossExamine_22 rfl ?_
  refine jm_iconst (pc := 23) dX2_crossExamine_23 ?_
  refine jm_iconst (pc := 24) dX2_crossExamine_24 ?_
  refine jm_callvv (pc := 25) (As := [_, _, _, _]) (st := []) iX1_write dX2_crossExamine_25 mX2_78 (cC29 hg) ⟨_, rfl, rfl⟩ rfl rfl (Nat.le_of_ble_eq_true rfl) h (fun m9 h hm12 => ?_)
  exact jm_vret (pc := 28) dX2_crossExamine_28 rfl h
theorem dX11_cross_0 : decode cX11_cross 0 = .ok (.aload_n 0, 1) := by decide +kernel
theorem dX11_cross_1 : decode cX11_cross 1 = .ok (.getfield 19, 3) := by decide +kernel
theorem dX11_cross_4 : decode cX11_cross 4 = .ok (.iload_n 1, 1) := by decide +kernel
theorem dX11_cross_5 : decode cX11_cross 5 = .ok (.invokevirtual 141, 3) := by decide +kernel
theorem dX11_cross_8 : decode cX11_cross 8 = .ok (.ifCond .ne 5, 3) := by decide +kernel
theorem dX11_cross_11 : decode cX11_cross 11 = .ok (.iconst (-1), 1) := by decide +kernel
theorem dX11_cross_12 : decode cX11_cross 12 = .ok (.ireturn, 1) := by decide +kernel
theorem dX11_cross_13 : decode cX11_cross 13 = .ok (.aload_n 0, 1) := by decide +kernel
theorem dX11_cross_14 : decode cX11_cross 14 = .ok (.invokevirtual 203, 3) := by decide +kernel
theorem dX11_cross_17 : decode cX11_cross 17 = .ok (.aload_n 0, 1) := by decide +kernel
theorem dX11_cross_18 : decode cX11_cross 18 = .ok (.getfield 44, 3) := by decide +kernel
theorem dX11_cross_21 : decode cX11_cross 21 = .ok (.iload_n 1, 1) := by decide +kernel
theorem dX11_cross_22 : decode cX11_cross 22 = .ok (.invokevirtual 209, 3) := by decide +kernel
theorem dX11_cross_25 : decode cX11_cross 25 = .ok (.aload_n 0, 1) := by decide +kernel
theorem dX11_cross_26 : decode cX11_cross 26 = .ok (.getfield 26, 3) := by decide +kernel
theorem dX11_cross_29 : decode cX11_cross 29 = .ok (.getfield 134, 3) := by decide +kernel
theorem dX11_cross_32 : decode cX11_cross 32 = .ok (.iload_n 1, 1) := by decide +kernel
theorem dX11_cross_33 : decode cX11_cross 33 = .ok (.iaload, 1) := by decide +kernel
theorem dX11_cross_34 : decode cX11_cross 34 = .ok (.ireturn, 1) := by decide +kernel
theorem eX11_cross {l : Launch} {g : jm_G} {d : Nat} {v1 : Int} (hg : jm_HC g) {mu : jm_M} {Q : Option Value → jm_M → Prop} (h : jm_rg v1 ∧ (0 ≤ v1 ∧ v1 < (mu.1 6 0) → jm_R l g (d + 1) iX11_keepCourt [.ref 0] mu (jm_qv fun m2 => jm_R l g (d + 1) iX2_crossExamine [.ref 37, jm_i v1] m2 (jm_qv fun m6 => (0 ≤ v1 ∧ v1 < 8) ∧ Q (some (jm_i (m6.1 30 v1))) m6))) ∧ (¬ (0 ≤ v1 ∧ v1 < (mu.1 6 0)) → Q (some (jm_i (-1))) mu)) : jm_R l g (d + 2) iX11_cross [.ref 0, jm_i v1] mu Q := by
  refine jm_enter [(0, .ref 0), (1, jm_i v1)] (by decide) (Nat.le_of_ble_eq_true rfl) rfl ?_
  refine jm_mrI (fun hm0 => ?_)
  refine jm_aload_n (pc := 0) 0 dX11_cross_0 rfl ?_
  refine jm_getr (pc := 1) 1 dX11_cross_1 fX11_19 (cC0 hg) rfl ?_
  refine jm_iload_n (pc := 4) 1 dX11_cross_4 rfl ?_
  have hg1 := h.1
  have h := h.2
  refine jm_inlvi (pc := 5) (As := [_]) (st := []) iX8_isWitness dX11_cross_5 mX11_141 (cC6 hg) ⟨_, rfl, rfl⟩ rfl rfl (Nat.le_of_ble_eq_true rfl) (pX8_isWitness hg hg1 (fun q => jm_kIi ?_) (fun q => jm_kIi ?_))
  · have h := h.1 q
    refine jm_if_ne (pc := 8) 13 dX11_cross_8 rfl ⟨by decide, by decide⟩ (fun q => ?_) (fun q => absurd q (by decide))
    refine jm_aload_n (pc := 13) 0 dX11_cross_13 rfl ?_
    refine jm_callvv (pc := 14) (As := []) (st := []) iX11_keepCourt dX11_cross_14 mX11_203 (cC0 hg) ⟨_, rfl, rfl⟩ rfl rfl (Nat.le_of_ble_eq_true rfl) h (fun m2 h hm5 => ?_)
    refine jm_aload_n (pc := 17) 0 dX11_cross_17 rfl ?_
    refine jm_getr (pc := 18) 4 dX11_cross_18 fX11_44 (cC0 hg) rfl ?_
    refine jm_iload_n (pc := 21) 1 dX11_cross_21 rfl ?_
    refine jm_callvv (pc := 22) (As := [_]) (st := []) iX2_crossExamine dX11_cross_22 mX11_209 (cC37 hg) ⟨_, rfl, rfl⟩ rfl rfl (Nat.le_of_ble_eq_true rfl) h (fun m6 h hm9 => ?_)
    refine jm_aload_n (pc := 25) 0 dX11_cross_25 rfl ?_
    refine jm_getr (pc := 26) 2 dX11_cross_26 fX11_26 (cC0 hg) rfl ?_
    refine jm_getr (pc := 29) 2 dX11_cross_29 fX11_134 (cC29 hg) rfl ?_
    refine jm_iload_n (pc := 32) 1 dX11_cross_32 rfl ?_
    have hg10 := h.1
    have h := h.2
    refine jm_iald (pc := 33) dX11_cross_33 (cC30 hg) (by decide) hg10.1 hg10.2 ?_
    exact jm_iret (pc := 34) dX11_cross_34 rfl h
  · have h := h.2 q
    refine jm_if_ne (pc := 8) 13 dX11_cross_8 rfl ⟨by decide, by decide⟩ (fun q => absurd q (by decide)) (fun q => ?_)
    refine jm_iconst (pc := 11) dX11_cross_11 ?_
    exact jm_iret (pc := 12) dX11_cross_12 rfl h
theorem dX1_isTestimony_0 : decode cX1_isTestimony 0 = .ok (.iload_n 1, 1) := by decide +kernel
theorem dX1_isTestimony_1 : decode cX1_isTestimony 1 = .ok (.ifCond .lt 15, 3) := by decide +kernel
theorem dX1_isTestimony_4 : decode cX1_isTestimony 4 = .ok (.iload_n 1, 1) := by decide +kernel
theorem dX1_isTestimony_5 : decode cX1_isTestimony 5 = .ok (.aload_n 0, 1) := by decide +kernel
theorem dX1_isTestimony_6 : decode cX1_isTestimony 6 = .ok (.getfield 25, 3) := by decide +kernel
theorem dX1_isTestimony_9 : decode cX1_isTestimony 9 = .ok (.if_icmp .ge 7, 3) := by decide +kernel
theorem dX1_isTestimony_12 : decode cX1_isTestimony 12 = .ok (.iconst 1, 1) := by decide +kernel
theorem dX1_isTestimony_13 : decode cX1_isTestimony 13 = .ok (.goto 4, 3) := by decide +kernel
theorem dX1_isTestimony_16 : decode cX1_isTestimony 16 = .ok (.iconst 0, 1) := by decide +kernel
theorem dX1_isTestimony_17 : decode cX1_isTestimony 17 = .ok (.ireturn, 1) := by decide +kernel
theorem eX1_isTestimony {l : Launch} {g : jm_G} {d : Nat} {v1 : Int} (hg : jm_HC g) {mu : jm_M} {Q : Option Value → jm_M → Prop} (h : jm_rg v1 ∧ (v1 < 0 → Q (some (jm_i 0)) mu) ∧ (0 ≤ v1 → ((mu.1 29 4) ≤ v1 → Q (some (jm_i 0)) mu) ∧ (v1 < (mu.1 29 4) → Q (some (jm_i 1)) mu))) : jm_R l g (d + 1) iX1_isTestimony [.ref 29, jm_i v1] mu Q := by
  refine jm_enter [(0, .ref 29), (1, jm_i v1)] (by decide) (Nat.le_of_ble_eq_true rfl) rfl ?_
  refine jm_mrI (fun hm0 => ?_)
  refine jm_iload_n (pc := 0) 1 dX1_isTestimony_0 rfl ?_
  have hg1 := h.1
  have h := h.2
  refine jm_if_lt (pc := 1) 16 dX1_isTestimony_1 rfl hg1 (fun q => ?_) (fun q => ?_)
  · have h := h.1 q
    refine jm_iconst (pc := 16) dX1_isTestimony_16 ?_
    exact jm_zret (pc := 17) dX1_isTestimony_17 rfl (Or.inl rfl) h
  · have h := h.2 q
    refine jm_iload_n (pc := 4) 1 dX1_isTestimony_4 rfl ?_
    refine jm_aload_n (pc := 5) 0 dX1_isTestimony_5 rfl ?_
    refine jm_geti (pc := 6) 4 dX1_isTestimony_6 fX1_25 (cC29 hg) rfl ?_
    refine jm_icmp_ge (pc := 9) 16 dX1_isTestimony_9 rfl hg1 (hm0 _ _) (fun q => ?_) (fun q => ?_)
    · have h := h.1 q
      refine jm_iconst (pc := 16) dX1_isTestimony_16 ?_
      exact jm_zret (pc := 17) dX1_isTestimony_17 rfl (Or.inl rfl) h
    · have h := h.2 q
      refine jm_iconst (pc := 12) dX1_isTestimony_12 ?_
      refine jm_goto (pc := 13) 17 dX1_isTestimony_13 rfl ?_
      exact jm_zret (pc := 17) dX1_isTestimony_17 rfl (Or.inr rfl) h
theorem pX1_isTestimony {l : Launch} {g : jm_G} {d : Nat} {v1 : Int} (hg : jm_HC g) {mu : jm_M} {Q : Option Value → jm_M → Prop} (o0 : jm_rg v1) (h1 : 0 ≤ v1 ∧ v1 < (mu.1 29 4) → Q (some (jm_i 1)) mu) (h0 : ¬ (0 ≤ v1 ∧ v1 < (mu.1 29 4)) → Q (some (jm_i 0)) mu) : jm_R l g (d + 1) iX1_isTestimony [.ref 29, jm_i v1] mu Q := by
  refine eX1_isTestimony hg ?_
  refine ⟨o0, ?_⟩
  refine ⟨fun q0 => ?_, fun q0 => ?_⟩
  · exact h0 (by omega)
  · refine ⟨fun q1 => ?_, fun q1 => ?_⟩
    · exact h0 (by omega)
    · exact h1 (⟨q0, q1⟩)
theorem dX1_strikeOut_0 : decode cX1_strikeOut 0 = .ok (.aload_n 0, 1) := by decide +kernel
theorem dX1_strikeOut_1 : decode cX1_strikeOut 1 = .ok (.getfield 28, 3) := by decide +kernel
theorem dX1_strikeOut_4 : decode cX1_strikeOut 4 = .ok (.iload_n 1, 1) := by decide +kernel
theorem dX1_strikeOut_5 : decode cX1_strikeOut 5 = .ok (.bipush 7, 2) := by decide +kernel
theorem dX1_strikeOut_7 : decode cX1_strikeOut 7 = .ok (.imul, 1) := by decide +kernel
theorem dX1_strikeOut_8 : decode cX1_strikeOut 8 = .ok (.bipush 6, 2) := by decide +kernel
theorem dX1_strikeOut_10 : decode cX1_strikeOut 10 = .ok (.iadd, 1) := by decide +kernel
theorem dX1_strikeOut_11 : decode cX1_strikeOut 11 = .ok (.iconst 1, 1) := by decide +kernel
theorem dX1_strikeOut_12 : decode cX1_strikeOut 12 = .ok (.iastore, 1) := by decide +kernel
theorem dX1_strikeOut_13 : decode cX1_strikeOut 13 = .ok (.aload_n 0, 1) := by decide +kernel
theorem dX1_strikeOut_14 : decode cX1_strikeOut 14 = .ok (.iconst 2, 1) := by decide +kernel
theorem dX1_strikeOut_15 : decode cX1_strikeOut 15 = .ok (.iload_n 1, 1) := by decide +kernel
theorem dX1_strikeOut_16 : decode cX1_strikeOut 16 = .ok (.iconst (-1), 1) := by decide +kernel
theorem dX1_strikeOut_17 : decode cX1_strikeOut 17 = .ok (.iconst 0, 1) := by decide +kernel
theorem dX1_strikeOut_18 : decode cX1_strikeOut 18 = .ok (.invokevirtual 63, 3) := by decide +kernel
theorem dX1_strikeOut_21 : decode cX1_strikeOut 21 = .ok (.return_, 1) := by decide +kernel
theorem eX1_strikeOut {l : Launch} {g : jm_G} {d : Nat} {v1 : Int} (hg : jm_HC g) {mu : jm_M} {Q : Option Value → jm_M → Prop} (h : (0 ≤ ((v1 * 7) + 6) ∧ ((v1 * 7) + 6) < 140) ∧ ∀ m2, m2 = jm_wr mu 32 ((v1 * 7) + 6) 1 → jm_R l g d iX1_write [.ref 29, jm_i 2, jm_i v1, jm_i (-1), jm_i 0] m2 (jm_qv fun m4 => Q none m4)) : jm_R l g (d + 1) iX1_strikeOut [.ref 29, jm_i v1] mu Q := by
  refine jm_enter [(0, .ref 29), (1, jm_i v1)] (by decide) (Nat.le_of_ble_eq_true rfl) rfl ?_
  refine jm_mrI (fun hm0 => ?_)
  refine jm_aload_n (pc := 0) 0 dX1_strikeOut_0 rfl ?_
  refine jm_getr (pc := 1) 5 dX1_strikeOut_1 fX1_28 (cC29 hg) rfl ?_
  refine jm_iload_n (pc := 4) 1 dX1_strikeOut_4 rfl ?_
  refine jm_bipush (pc := 5) dX1_strikeOut_5 (by decide) ?_
  refine jm_imul (pc := 7) dX1_strikeOut_7 ?_
  refine jm_bipush (pc := 8) dX1_strikeOut_8 (by decide) ?_
  refine jm_iadd (pc := 10) dX1_strikeOut_10 ?_
  refine jm_iconst (pc := 11) dX1_strikeOut_11 ?_
  have hg1 := h.1
  have h := h.2
  refine jm_iast (pc := 12) dX1_strikeOut_12 (cC32 hg) (by decide) hg1.1 hg1.2 ⟨by decide, by decide⟩ ?_
  have h := h _ rfl
  refine jm_mrI (fun hm3 => ?_)
  refine jm_aload_n (pc := 13) 0 dX1_strikeOut_13 rfl ?_
  refine jm_iconst (pc := 14) dX1_strikeOut_14 ?_
  refine jm_iload_n (pc := 15) 1 dX1_strikeOut_15 rfl ?_
  refine jm_iconst (pc := 16) dX1_strikeOut_16 ?_
  refine jm_iconst (pc := 17) dX1_strikeOut_17 ?_
  refine jm_callvv (pc := 18) (As := [_, _, _, _]) (st := []) iX1_write dX1_strikeOut_18 mX1_63 (cC29 hg) ⟨_, rfl, rfl⟩ rfl rfl (Nat.le_of_ble_eq_true rfl) h (fun m4 h hm7 => ?_)
  exact jm_vret (pc := 21) dX1_strikeOut_21 rfl h
theorem dX11_strike_0 : decode cX11_strike 0 = .ok (.aload_n 0, 1) := by decide +kernel
theorem dX11_strike_1 : decode cX11_strike 1 = .ok (.getfield 26, 3) := by decide +kernel
theorem dX11_strike_4 : decode cX11_strike 4 = .ok (.iload_n 1, 1) := by decide +kernel
theorem dX11_strike_5 : decode cX11_strike 5 = .ok (.invokevirtual 212, 3) := by decide +kernel
theorem dX11_strike_8 : decode cX11_strike 8 = .ok (.ifCond .eq 16, 3) := by decide +kernel
theorem dX11_strike_11 : decode cX11_strike 11 = .ok (.aload_n 0, 1) := by decide +kernel
theorem dX11_strike_12 : decode cX11_strike 12 = .ok (.getfield 26, 3) := by decide +kernel
theorem dX11_strike_15 : decode cX11_strike 15 = .ok (.iload_n 1, 1) := by decide +kernel
theorem dX11_strike_16 : decode cX11_strike 16 = .ok (.bipush 6, 2) := by decide +kernel
theorem dX11_strike_18 : decode cX11_strike 18 = .ok (.invokevirtual 215, 3) := by decide +kernel
theorem dX11_strike_21 : decode cX11_strike 21 = .ok (.ifCond .eq 5, 3) := by decide +kernel
theorem dX11_strike_24 : decode cX11_strike 24 = .ok (.iconst 0, 1) := by decide +kernel
theorem dX11_strike_25 : decode cX11_strike 25 = .ok (.ireturn, 1) := by decide +kernel
theorem dX11_strike_26 : decode cX11_strike 26 = .ok (.aload_n 0, 1) := by decide +kernel
theorem dX11_strike_27 : decode cX11_strike 27 = .ok (.invokevirtual 203, 3) := by decide +kernel
theorem dX11_strike_30 : decode cX11_strike 30 = .ok (.aload_n 0, 1) := by decide +kernel
theorem dX11_strike_31 : decode cX11_strike 31 = .ok (.getfield 26, 3) := by decide +kernel
theorem dX11_strike_34 : decode cX11_strike 34 = .ok (.iload_n 1, 1) := by decide +kernel
theorem dX11_strike_35 : decode cX11_strike 35 = .ok (.invokevirtual 219, 3) := by decide +kernel
theorem dX11_strike_38 : decode cX11_strike 38 = .ok (.iconst 1, 1) := by decide +kernel
theorem dX11_strike_39 : decode cX11_strike 39 = .ok (.ireturn, 1) := by decide +kernel
theorem eX11_strike {l : Launch} {g : jm_G} {d : Nat} {v1 : Int} (hg : jm_HC g) {mu : jm_M} {Q : Option Value → jm_M → Prop} (h : jm_rg v1 ∧ (0 ≤ v1 ∧ v1 < (mu.1 29 4) → (0 ≤ ((v1 * 7) + 6) ∧ ((v1 * 7) + 6) < 140) ∧ ((mu.1 32 ((v1 * 7) + 6)) = 0 → jm_R l g (d + 1) iX11_keepCourt [.ref 0] mu (jm_qv fun m3 => jm_R l g (d + 1) iX1_strikeOut [.ref 29, jm_i v1] m3 (jm_qv fun m7 => Q (some (jm_i 1)) m7))) ∧ (¬ (mu.1 32 ((v1 * 7) + 6)) = 0 → Q (some (jm_i 0)) mu)) ∧ (¬ (0 ≤ v1 ∧ v1 < (mu.1 29 4)) → Q (some (jm_i 0)) mu)) : jm_R l g (d + 2) iX11_strike [.ref 0, jm_i v1] mu Q := by
  refine jm_enter [(0, .ref 0), (1, jm_i v1)] (by decide) (Nat.le_of_ble_eq_true rfl) rfl ?_
  refine jm_mrI (fun hm0 => ?_)
  refine jm_aload_n (pc := 0) 0 dX11_strike_0 rfl ?_
  refine jm_getr (pc := 1) 2 dX11_strike_1 fX11_26 (cC0 hg) rfl ?_
  refine jm_iload_n (pc := 4) 1 dX11_strike_4 rfl ?_
  have hg1 := h.1
  have h := h.2
  refine jm_inlvi (pc := 5) (As := [_]) (st := []) iX1_isTestimony dX11_strike_5 mX11_212 (cC29 hg) ⟨_, rfl, rfl⟩ rfl rfl (Nat.le_of_ble_eq_true rfl) (pX1_isTestimony hg hg1 (fun q => jm_kIi ?_) (fun q => jm_kIi ?_))
  · have h := h.1 q
    refine jm_if_eq (pc := 8) 24 dX11_strike_8 rfl ⟨by decide, by decide⟩ (fun q => absurd q (by decide)) (fun q => ?_)
    refine jm_aload_n (pc := 11) 0 dX11_strike_11 rfl ?_
    refine jm_getr (pc := 12) 2 dX11_strike_12 fX11_26 (cC0 hg) rfl ?_
    refine jm_iload_n (pc := 15) 1 dX11_strike_15 rfl ?_
    refine jm_bipush (pc := 16) dX11_strike_16 (by decide) ?_
    have hg2 := h.1
    have h := h.2
    refine jm_inlvi (pc := 18) (As := [_, _]) (st := []) iX1_ofTestimony dX11_strike_18 mX11_215 (cC29 hg) ⟨_, rfl, rfl⟩ rfl rfl (Nat.le_of_ble_eq_true rfl) (pX1_ofTestimony hg hg2 (jm_kIi ?_))
    refine jm_if_eq (pc := 21) 26 dX11_strike_21 rfl (hm0 _ _) (fun q => ?_) (fun q => ?_)
    · have h := h.1 q
      refine jm_aload_n (pc := 26) 0 dX11_strike_26 rfl ?_
      refine jm_callvv (pc := 27) (As := []) (st := []) iX11_keepCourt dX11_strike_27 mX11_203 (cC0 hg) ⟨_, rfl, rfl⟩ rfl rfl (Nat.le_of_ble_eq_true rfl) h (fun m3 h hm6 => ?_)
      refine jm_aload_n (pc := 30) 0 dX11_strike_30 rfl ?_
      refine jm_getr (pc := 31) 2 dX11_strike_31 fX11_26 (cC0 hg) rfl ?_
      refine jm_iload_n (pc := 34) 1 dX11_strike_34 rfl ?_
      refine jm_callvv (pc := 35) (As := [_]) (st := []) iX1_strikeOut dX11_strike_35 mX11_219 (cC29 hg) ⟨_, rfl, rfl⟩ rfl rfl (Nat.le_of_ble_eq_true rfl) h (fun m7 h hm10 => ?_)
      refine jm_iconst (pc := 38) dX11_strike_38 ?_
      exact jm_zret (pc := 39) dX11_strike_39 rfl (Or.inr rfl) h
    · have h := h.2 q
      refine jm_iconst (pc := 24) dX11_strike_24 ?_
      exact jm_zret (pc := 25) dX11_strike_25 rfl (Or.inl rfl) h
  · have h := h.2 q
    refine jm_if_eq (pc := 8) 24 dX11_strike_8 rfl ⟨by decide, by decide⟩ (fun q => ?_) (fun q => absurd q (by decide))
    refine jm_iconst (pc := 24) dX11_strike_24 ?_
    exact jm_zret (pc := 25) dX11_strike_25 rfl (Or.inl rfl) h
theorem dX1_howManyHoarse_0 : decode cX1_howManyHoarse 0 = .ok (.iconst 0, 1) := by decide +kernel
theorem dX1_howManyHoarse_1 : decode cX1_howManyHoarse 1 = .ok (.istore_n 2, 1) := by decide +kernel
theorem dX1_howManyHoarse_2 : decode cX1_howManyHoarse 2 = .ok (.iconst 0, 1) := by decide +kernel
theorem dX1_howManyHoarse_3 : decode cX1_howManyHoarse 3 = .ok (.istore_n 3, 1) := by decide +kernel
theorem dX1_howManyHoarse_4 : decode cX1_howManyHoarse 4 = .ok (.iload_n 3, 1) := by decide +kernel
theorem dX1_howManyHoarse_5 : decode cX1_howManyHoarse 5 = .ok (.iload_n 1, 1) := by decide +kernel
theorem dX1_howManyHoarse_6 : decode cX1_howManyHoarse 6 = .ok (.if_icmp .ge 24, 3) := by decide +kernel
theorem dX1_howManyHoarse_9 : decode cX1_howManyHoarse 9 = .ok (.iload_n 3, 1) := by decide +kernel
theorem dX1_howManyHoarse_10 : decode cX1_howManyHoarse 10 = .ok (.bipush 8, 2) := by decide +kernel
theorem dX1_howManyHoarse_12 : decode cX1_howManyHoarse 12 = .ok (.if_icmp .ge 18, 3) := by decide +kernel
theorem dX1_howManyHoarse_15 : decode cX1_howManyHoarse 15 = .ok (.iload_n 2, 1) := by decide +kernel
theorem dX1_howManyHoarse_16 : decode cX1_howManyHoarse 16 = .ok (.aload_n 0, 1) := by decide +kernel
theorem dX1_howManyHoarse_17 : decode cX1_howManyHoarse 17 = .ok (.getfield 22, 3) := by decide +kernel
theorem dX1_howManyHoarse_20 : decode cX1_howManyHoarse 20 = .ok (.iload_n 3, 1) := by decide +kernel
theorem dX1_howManyHoarse_21 : decode cX1_howManyHoarse 21 = .ok (.iaload, 1) := by decide +kernel
theorem dX1_howManyHoarse_22 : decode cX1_howManyHoarse 22 = .ok (.iadd, 1) := by decide +kernel
theorem dX1_howManyHoarse_23 : decode cX1_howManyHoarse 23 = .ok (.istore_n 2, 1) := by decide +kernel
theorem dX1_howManyHoarse_24 : decode cX1_howManyHoarse 24 = .ok (.iinc 3 1, 3) := by decide +kernel
theorem dX1_howManyHoarse_27 : decode cX1_howManyHoarse 27 = .ok (.goto (-23), 3) := by decide +kernel
theorem dX1_howManyHoarse_30 : decode cX1_howManyHoarse 30 = .ok (.iload_n 2, 1) := by decide +kernel
theorem dX1_howManyHoarse_31 : decode cX1_howManyHoarse 31 = .ok (.ireturn, 1) := by decide +kernel
theorem bX1_howManyHoarse_4 {l : Launch} {g : jm_G} {d : Nat} {v1 v2 v3 : Int} (hg : jm_HC g) {mu : jm_M} {Q : Option Value → jm_M → Prop} (h : jm_rg v3 ∧ jm_rg v1 ∧ (v1 ≤ v3 → Q (some (jm_i v2)) mu) ∧ (v3 < v1 → (8 ≤ v3 → Q (some (jm_i v2)) mu) ∧ (v3 < 8 → (0 ≤ v3 ∧ v3 < 8) ∧ ∀ x4, x4 = (v2 + (mu.1 31 v3)) → jm_V l g (d + 1) iX1_howManyHoarse 4 [(0, .ref 29), (1, jm_i v1), (2, jm_i x4), (3, jm_i (v3 + 1))] [] mu Q))) : jm_V l g (d + 1) iX1_howManyHoarse 4 [(0, .ref 29), (1, jm_i v1), (2, jm_i v2), (3, jm_i v3)] [] mu Q := by
  refine jm_mrI (fun hm0 => ?_)
  refine jm_iload_n (pc := 4) 3 dX1_howManyHoarse_4 rfl ?_
  refine jm_iload_n (pc := 5) 1 dX1_howManyHoarse_5 rfl ?_
  have hg1 := h.1
  have h := h.2
  have hg2 := h.1
  have h := h.2
  refine jm_icmp_ge (pc := 6) 30 dX1_howManyHoarse_6 rfl hg1 hg2 (fun q => ?_) (fun q => ?_)
  · have h := h.1 q
    refine jm_iload_n (pc := 30) 2 dX1_howManyHoarse_30 rfl ?_
    exact jm_iret (pc := 31) dX1_howManyHoarse_31 rfl h
  · have h := h.2 q
    refine jm_iload_n (pc := 9) 3 dX1_howManyHoarse_9 rfl ?_
    refine jm_bipush (pc := 10) dX1_howManyHoarse_10 (by decide) ?_
    refine jm_icmp_ge (pc := 12) 30 dX1_howManyHoarse_12 rfl hg1 ⟨by decide, by decide⟩ (fun q => ?_) (fun q => ?_)
    · have h := h.1 q
      refine jm_iload_n (pc := 30) 2 dX1_howManyHoarse_30 rfl ?_
      exact jm_iret (pc := 31) dX1_howManyHoarse_31 rfl h
    · have h := h.2 q
      refine jm_iload_n (pc := 15) 2 dX1_howManyHoarse_15 rfl ?_
      refine jm_aload_n (pc := 16) 0 dX1_howManyHoarse_16 rfl ?_
      refine jm_getr (pc := 17) 3 dX1_howManyHoarse_17 fX1_22 (cC29 hg) rfl ?_
      refine jm_iload_n (pc := 20) 3 dX1_howManyHoarse_20 rfl ?_
      have hg3 := h.1
      have h := h.2
      refine jm_iald (pc := 21) dX1_howManyHoarse_21 (cC31 hg) (by decide) hg3.1 hg3.2 ?_
      refine jm_iadd (pc := 22) dX1_howManyHoarse_22 ?_
      have h := h _ rfl
      refine jm_istore_n (pc := 23) (lv' := [(2, _), (0, _), (1, _), (3, _)]) dX1_howManyHoarse_23 (by decide) rfl ?_
      refine jm_iinc (pc := 24) (lv' := [(3, _), (2, _), (0, _), (1, _)]) 3 dX1_howManyHoarse_24 rfl (by decide) rfl ?_
      refine jm_goto (pc := 27) 4 dX1_howManyHoarse_27 rfl ?_
      exact jm_sub [2, 3, 1, 0] rfl h
theorem eX1_howManyHoarse {l : Launch} {g : jm_G} {d : Nat} {v1 : Int} (hg : jm_HC g) {mu : jm_M} {Q : Option Value → jm_M → Prop} (h : jm_V l g (d + 1) iX1_howManyHoarse 4 [(0, .ref 29), (1, jm_i v1), (2, jm_i 0), (3, jm_i 0)] [] mu Q) : jm_R l g (d + 1) iX1_howManyHoarse [.ref 29, jm_i v1] mu Q := by
  refine jm_enter [(0, .ref 29), (1, jm_i v1)] (by decide) (Nat.le_of_ble_eq_true rfl) rfl ?_
  refine jm_mrI (fun hm0 => ?_)
  refine jm_iconst (pc := 0) dX1_howManyHoarse_0 ?_
  refine jm_istore_n (pc := 1) (lv' := [(2, _), (0, _), (1, _)]) dX1_howManyHoarse_1 (by decide) rfl ?_
  refine jm_iconst (pc := 2) dX1_howManyHoarse_2 ?_
  refine jm_istore_n (pc := 3) (lv' := [(3, _), (2, _), (0, _), (1, _)]) dX1_howManyHoarse_3 (by decide) rfl ?_
  exact jm_sub [2, 3, 1, 0] rfl h
theorem dX2_restOneDay_0 : decode cX2_restOneDay 0 = .ok (.iconst 0, 1) := by decide +kernel
theorem dX2_restOneDay_1 : decode cX2_restOneDay 1 = .ok (.istore_n 1, 1) := by decide +kernel
theorem dX2_restOneDay_2 : decode cX2_restOneDay 2 = .ok (.iload_n 1, 1) := by decide +kernel
theorem dX2_restOneDay_3 : decode cX2_restOneDay 3 = .ok (.aload_n 0, 1) := by decide +kernel
theorem dX2_restOneDay_4 : decode cX2_restOneDay 4 = .ok (.getfield 21, 3) := by decide +kernel
theorem dX2_restOneDay_7 : decode cX2_restOneDay 7 = .ok (.getfield 104, 3) := by decide +kernel
theorem dX2_restOneDay_10 : decode cX2_restOneDay 10 = .ok (.if_icmp .ge 61, 3) := by decide +kernel
theorem dX2_restOneDay_13 : decode cX2_restOneDay 13 = .ok (.aload_n 0, 1) := by decide +kernel
theorem dX2_restOneDay_14 : decode cX2_restOneDay 14 = .ok (.getfield 26, 3) := by decide +kernel
theorem dX2_restOneDay_17 : decode cX2_restOneDay 17 = .ok (.getfield 96, 3) := by decide +kernel
theorem dX2_restOneDay_20 : decode cX2_restOneDay 20 = .ok (.iload_n 1, 1) := by decide +kernel
theorem dX2_restOneDay_21 : decode cX2_restOneDay 21 = .ok (.bipush 99, 2) := by decide +kernel
theorem dX2_restOneDay_23 : decode cX2_restOneDay 23 = .ok (.aload_n 0, 1) := by decide +kernel
theorem dX2_restOneDay_24 : decode cX2_restOneDay 24 = .ok (.getfield 26, 3) := by decide +kernel
theorem dX2_restOneDay_27 : decode cX2_restOneDay 27 = .ok (.getfield 96, 3) := by decide +kernel
theorem dX2_restOneDay_30 : decode cX2_restOneDay 30 = .ok (.iload_n 1, 1) := by decide +kernel
theorem dX2_restOneDay_31 : decode cX2_restOneDay 31 = .ok (.iaload, 1) := by decide +kernel
theorem dX2_restOneDay_32 : decode cX2_restOneDay 32 = .ok (.bipush 7, 2) := by decide +kernel
theorem dX2_restOneDay_34 : decode cX2_restOneDay 34 = .ok (.iadd, 1) := by decide +kernel
theorem dX2_restOneDay_35 : decode cX2_restOneDay 35 = .ok (.invokestatic 107, 3) := by decide +kernel
theorem dX2_restOneDay_38 : decode cX2_restOneDay 38 = .ok (.iastore, 1) := by decide +kernel
theorem dX2_restOneDay_39 : decode cX2_restOneDay 39 = .ok (.aload_n 0, 1) := by decide +kernel
theorem dX2_restOneDay_40 : decode cX2_restOneDay 40 = .ok (.getfield 26, 3) := by decide +kernel
theorem dX2_restOneDay_43 : decode cX2_restOneDay 43 = .ok (.getfield 110, 3) := by decide +kernel
theorem dX2_restOneDay_46 : decode cX2_restOneDay 46 = .ok (.iload_n 1, 1) := by decide +kernel
theorem dX2_restOneDay_47 : decode cX2_restOneDay 47 = .ok (.aload_n 0, 1) := by decide +kernel
theorem dX2_restOneDay_48 : decode cX2_restOneDay 48 = .ok (.getfield 26, 3) := by decide +kernel
theorem dX2_restOneDay_51 : decode cX2_restOneDay 51 = .ok (.bipush 10, 2) := by decide +kernel
theorem dX2_restOneDay_53 : decode cX2_restOneDay 53 = .ok (.invokevirtual 85, 3) := by decide +kernel
theorem dX2_restOneDay_56 : decode cX2_restOneDay 56 = .ok (.ifCond .ne 7, 3) := by decide +kernel
theorem dX2_restOneDay_59 : decode cX2_restOneDay 59 = .ok (.iconst 1, 1) := by decide +kernel
theorem dX2_restOneDay_60 : decode cX2_restOneDay 60 = .ok (.goto 4, 3) := by decide +kernel
theorem dX2_restOneDay_63 : decode cX2_restOneDay 63 = .ok (.iconst 0, 1) := by decide +kernel
theorem dX2_restOneDay_64 : decode cX2_restOneDay 64 = .ok (.iastore, 1) := by decide +kernel
theorem dX2_restOneDay_65 : decode cX2_restOneDay 65 = .ok (.iinc 1 1, 3) := by decide +kernel
theorem dX2_restOneDay_68 : decode cX2_restOneDay 68 = .ok (.goto (-66), 3) := by decide +kernel
theorem dX2_restOneDay_71 : decode cX2_restOneDay 71 = .ok (.aload_n 0, 1) := by decide +kernel
theorem dX2_restOneDay_72 : decode cX2_restOneDay 72 = .ok (.getfield 26, 3) := by decide +kernel
theorem dX2_restOneDay_75 : decode cX2_restOneDay 75 = .ok (.iconst 3, 1) := by decide +kernel
theorem dX2_restOneDay_76 : decode cX2_restOneDay 76 = .ok (.iconst (-1), 1) := by decide +kernel
theorem dX2_restOneDay_77 : decode cX2_restOneDay 77 = .ok (.iconst (-1), 1) := by decide +kernel
theorem dX2_restOneDay_78 : decode cX2_restOneDay 78 = .ok (.iconst 0, 1) := by decide +kernel
theorem dX2_restOneDay_79 : decode cX2_restOneDay 79 = .ok (.invokevirtual 78, 3) := by decide +kernel
theorem dX2_restOneDay_82 : decode cX2_restOneDay 82 = .ok (.aload_n 0, 1) := by decide +kernel
theorem dX2_restOneDay_83 : decode cX2_restOneDay 83 = .ok (.getfield 26, 3) := by decide +kernel
theorem dX2_restOneDay_86 : decode cX2_restOneDay 86 = .ok (.dup, 1) := by decide +kernel
theorem dX2_restOneDay_87 : decode cX2_restOneDay 87 = .ok (.getfield 113, 3) := by decide +kernel
theorem dX2_restOneDay_90 : decode cX2_restOneDay 90 = .ok (.iconst 1, 1) := by decide +kernel
theorem dX2_restOneDay_91 : decode cX2_restOneDay 91 = .ok (.iadd, 1) := by decide +kernel
theorem dX2_restOneDay_92 : decode cX2_restOneDay 92 = .ok (.putfield 113, 3) := by decide +kernel
theorem dX2_restOneDay_95 : decode cX2_restOneDay 95 = .ok (.return_, 1) := by decide +kernel
theorem bX2_restOneDay_2 {l : Launch} {g : jm_G} {d : Nat} {v1 : Int} (hg : jm_HC g) {mu : jm_M} {Q : Option Value → jm_M → Prop} (h : jm_rg v1 ∧ ((mu.1 6 0) ≤ v1 → jm_R l g d iX1_write [.ref 29, jm_i 3, jm_i (-1), jm_i (-1), jm_i 0] mu (jm_qv fun m2 => jm_rg ((m2.1 29 1) + 1) ∧ ∀ m7, m7 = jm_wr m2 29 1 ((m2.1 29 1) + 1) → Q none m7)) ∧ (v1 < (mu.1 6 0) → (0 ≤ v1 ∧ v1 < 8) ∧ jm_rg ((mu.1 30 v1) + 7) ∧ ∀ m11, m11 = jm_wr mu 30 v1 (min 99 ((mu.1 30 v1) + 7)) → jm_R l g d iX1_draw [.ref 29, jm_i 10] m11 (jm_qi fun z14 m13 => (¬ z14 = 0 → ∀ m17, m17 = jm_wr m13 31 v1 0 → jm_V l g (d + 1) iX2_restOneDay 2 [(0, .ref 37), (1, jm_i (v1 + 1))] [] m17 Q) ∧ (z14 = 0 → ∀ m19, m19 = jm_wr m13 31 v1 1 → jm_V l g (d + 1) iX2_restOneDay 2 [(0, .ref 37), (1, jm_i (v1 + 1))] [] m19 Q)))) : jm_V l g (d + 1) iX2_restOneDay 2 [(0, .ref 37), (1, jm_i v1)] [] mu Q := by
  refine jm_mrI (fun hm0 => ?_)
  refine jm_iload_n (pc := 2) 1 dX2_restOneDay_2 rfl ?_
  refine jm_aload_n (pc := 3) 0 dX2_restOneDay_3 rfl ?_
  refine jm_getr (pc := 4) 1 dX2_restOneDay_4 fX2_21 (cC37 hg) rfl ?_
  refine jm_geti (pc := 7) 0 dX2_restOneDay_7 fX2_104 (cC6 hg) rfl ?_
  have hg1 := h.1
  have h := h.2
  refine jm_icmp_ge (pc := 10) 71 dX2_restOneDay_10 rfl hg1 (hm0 _ _) (fun q => ?_) (fun q => ?_)
  · have h := h.1 q
    refine jm_aload_n (pc := 71) 0 dX2_restOneDay_71 rfl ?_
    refine jm_getr (pc := 72) 2 dX2_restOneDay_72 fX2_26 (cC37 hg) rfl ?_
    refine jm_iconst (pc := 75) dX2_restOneDay_75 ?_
    refine jm_iconst (pc := 76) dX2_restOneDay_76 ?_
    refine jm_iconst (pc := 77) dX2_restOneDay_77 ?_
    refine jm_iconst (pc := 78) dX2_restOneDay_78 ?_
    refine jm_callvv (pc := 79) (As := [_, _, _, _]) (st := []) iX1_write dX2_restOneDay_79 mX2_78 (cC29 hg) ⟨_, rfl, rfl⟩ rfl rfl (Nat.le_of_ble_eq_true rfl) h (fun m2 h hm5 => ?_)
    refine jm_aload_n (pc := 82) 0 dX2_restOneDay_82 rfl ?_
    refine jm_getr (pc := 83) 2 dX2_restOneDay_83 fX2_26 (cC37 hg) rfl ?_
    refine jm_dup (pc := 86) _ dX2_restOneDay_86 rfl ?_
    refine jm_geti (pc := 87) 1 dX2_restOneDay_87 fX2_113 (cC29 hg) rfl ?_
    refine jm_iconst (pc := 90) dX2_restOneDay_90 ?_
    refine jm_iadd (pc := 91) dX2_restOneDay_91 ?_
    have hg6 := h.1
    have h := h.2
    refine jm_put (pc := 92) 1 dX2_restOneDay_92 fX2_113 ftX1 (fun q h => by cases h; rfl) (jm_nI _) (jm_fI _) (cC29 hg) rfl hg6 ?_
    have h := h _ rfl
    refine jm_mrI (fun hm8 => ?_)
    exact jm_vret (pc := 95) dX2_restOneDay_95 rfl h
  · have h := h.2 q
    refine jm_aload_n (pc := 13) 0 dX2_restOneDay_13 rfl ?_
    refine jm_getr (pc := 14) 2 dX2_restOneDay_14 fX2_26 (cC37 hg) rfl ?_
    refine jm_getr (pc := 17) 2 dX2_restOneDay_17 fX2_96 (cC29 hg) rfl ?_
    refine jm_iload_n (pc := 20) 1 dX2_restOneDay_20 rfl ?_
    refine jm_bipush (pc := 21) dX2_restOneDay_21 (by decide) ?_
    refine jm_aload_n (pc := 23) 0 dX2_restOneDay_23 rfl ?_
    refine jm_getr (pc := 24) 2 dX2_restOneDay_24 fX2_26 (cC37 hg) rfl ?_
    refine jm_getr (pc := 27) 2 dX2_restOneDay_27 fX2_96 (cC29 hg) rfl ?_
    refine jm_iload_n (pc := 30) 1 dX2_restOneDay_30 rfl ?_
    have hg9 := h.1
    have h := h.2
    refine jm_iald (pc := 31) dX2_restOneDay_31 (cC30 hg) (by decide) hg9.1 hg9.2 ?_
    refine jm_bipush (pc := 32) dX2_restOneDay_32 (by decide) ?_
    refine jm_iadd (pc := 34) dX2_restOneDay_34 ?_
    have hg10 := h.1
    have h := h.2
    refine jm_mmin (pc := 35) dX2_restOneDay_35 mX2_107 ⟨by decide, by decide⟩ hg10 (Nat.le_of_ble_eq_true rfl) ?_
    refine jm_iast (pc := 38) dX2_restOneDay_38 (cC30 hg) (by decide) hg9.1 hg9.2 (jm_rgm ⟨by decide, by decide⟩ hg10) ?_
    have h := h _ rfl
    refine jm_mrI (fun hm12 => ?_)
    refine jm_aload_n (pc := 39) 0 dX2_restOneDay_39 rfl ?_
    refine jm_getr (pc := 40) 2 dX2_restOneDay_40 fX2_26 (cC37 hg) rfl ?_
    refine jm_getr (pc := 43) 3 dX2_restOneDay_43 fX2_110 (cC29 hg) rfl ?_
    refine jm_iload_n (pc := 46) 1 dX2_restOneDay_46 rfl ?_
    refine jm_aload_n (pc := 47) 0 dX2_restOneDay_47 rfl ?_
    refine jm_getr (pc := 48) 2 dX2_restOneDay_48 fX2_26 (cC37 hg) rfl ?_
    refine jm_bipush (pc := 51) dX2_restOneDay_51 (by decide) ?_
    refine jm_callvi (pc := 53) (As := [_]) (st := [_, _]) iX1_draw dX2_restOneDay_53 mX2_85 (cC29 hg) ⟨_, rfl, rfl⟩ rfl rfl (Nat.le_of_ble_eq_true rfl) h (fun z14 m13 hz15 h hm16 => ?_)
    refine jm_if_ne (pc := 56) 63 dX2_restOneDay_56 rfl hz15 (fun q => ?_) (fun q => ?_)
    · have h := h.1 q
      refine jm_iconst (pc := 63) dX2_restOneDay_63 ?_
      refine jm_iast (pc := 64) dX2_restOneDay_64 (cC31 hg) (by decide) hg9.1 hg9.2 ⟨by decide, by decide⟩ ?_
      have h := h _ rfl
      refine jm_mrI (fun hm18 => ?_)
      refine jm_iinc (pc := 65) (lv' := [(1, _), (0, _)]) 1 dX2_restOneDay_65 rfl (by decide) rfl ?_
      refine jm_goto (pc := 68) 2 dX2_restOneDay_68 rfl ?_
      exact jm_sub [1, 0] rfl h
    · have h := h.2 q
      refine jm_iconst (pc := 59) dX2_restOneDay_59 ?_
      refine jm_goto (pc := 60) 64 dX2_restOneDay_60 rfl ?_
      refine jm_iast (pc := 64) dX2_restOneDay_64 (cC31 hg) (by decide) hg9.1 hg9.2 ⟨by decide, by decide⟩ ?_
      have h := h _ rfl
      refine jm_mrI (fun hm20 => ?_)
      refine jm_iinc (pc := 65) (lv' := [(1, _), (0, _)]) 1 dX2_restOneDay_65 rfl (by decide) rfl ?_
      refine jm_goto (pc := 68) 2 dX2_restOneDay_68 rfl ?_
      exact jm_sub [1, 0] rfl h
theorem eX2_restOneDay {l : Launch} {g : jm_G} {d : Nat} (hg : jm_HC g) {mu : jm_M} {Q : Option Value → jm_M → Prop} (h : jm_V l g (d + 1) iX2_restOneDay 2 [(0, .ref 37), (1, jm_i 0)] [] mu Q) : jm_R l g (d + 1) iX2_restOneDay [.ref 37] mu Q := by
  refine jm_enter [(0, .ref 37)] (by decide) (Nat.le_of_ble_eq_true rfl) rfl ?_
  refine jm_mrI (fun hm0 => ?_)
  refine jm_iconst (pc := 0) dX2_restOneDay_0 ?_
  refine jm_istore_n (pc := 1) (lv' := [(1, _), (0, _)]) dX2_restOneDay_1 (by decide) rfl ?_
  exact jm_sub [1, 0] rfl h
theorem dX11_days_0 : decode cX11_days 0 = .ok (.iload_n 1, 1) := by decide +kernel
theorem dX11_days_1 : decode cX11_days 1 = .ok (.iconst 1, 1) := by decide +kernel
theorem dX11_days_2 : decode cX11_days 2 = .ok (.bipush 30, 2) := by decide +kernel
theorem dX11_days_4 : decode cX11_days 4 = .ok (.invokestatic 123, 3) := by decide +kernel
theorem dX11_days_7 : decode cX11_days 7 = .ok (.ifCond .eq 18, 3) := by decide +kernel
theorem dX11_days_10 : decode cX11_days 10 = .ok (.aload_n 0, 1) := by decide +kernel
theorem dX11_days_11 : decode cX11_days 11 = .ok (.getfield 26, 3) := by decide +kernel
theorem dX11_days_14 : decode cX11_days 14 = .ok (.getfield 222, 3) := by decide +kernel
theorem dX11_days_17 : decode cX11_days 17 = .ok (.iload_n 1, 1) := by decide +kernel
theorem dX11_days_18 : decode cX11_days 18 = .ok (.iadd, 1) := by decide +kernel
theorem dX11_days_19 : decode cX11_days 19 = .ok (.sipush 999, 3) := by decide +kernel
theorem dX11_days_22 : decode cX11_days 22 = .ok (.if_icmp .le 5, 3) := by decide +kernel
theorem dX11_days_25 : decode cX11_days 25 = .ok (.iconst (-1), 1) := by decide +kernel
theorem dX11_days_26 : decode cX11_days 26 = .ok (.ireturn, 1) := by decide +kernel
theorem dX11_days_27 : decode cX11_days 27 = .ok (.iconst 0, 1) := by decide +kernel
theorem dX11_days_28 : decode cX11_days 28 = .ok (.istore_n 2, 1) := by decide +kernel
theorem dX11_days_29 : decode cX11_days 29 = .ok (.iload_n 2, 1) := by decide +kernel
theorem dX11_days_30 : decode cX11_days 30 = .ok (.iload_n 1, 1) := by decide +kernel
theorem dX11_days_31 : decode cX11_days 31 = .ok (.if_icmp .ge 20, 3) := by decide +kernel
theorem dX11_days_34 : decode cX11_days 34 = .ok (.aload_n 0, 1) := by decide +kernel
theorem dX11_days_35 : decode cX11_days 35 = .ok (.invokevirtual 203, 3) := by decide +kernel
theorem dX11_days_38 : decode cX11_days 38 = .ok (.aload_n 0, 1) := by decide +kernel
theorem dX11_days_39 : decode cX11_days 39 = .ok (.getfield 44, 3) := by decide +kernel
theorem dX11_days_42 : decode cX11_days 42 = .ok (.invokevirtual 225, 3) := by decide +kernel
theorem dX11_days_45 : decode cX11_days 45 = .ok (.iinc 2 1, 3) := by decide +kernel
theorem dX11_days_48 : decode cX11_days 48 = .ok (.goto (-19), 3) := by decide +kernel
theorem dX11_days_51 : decode cX11_days 51 = .ok (.aload_n 0, 1) := by decide +kernel
theorem dX11_days_52 : decode cX11_days 52 = .ok (.getfield 26, 3) := by decide +kernel
theorem dX11_days_55 : decode cX11_days 55 = .ok (.aload_n 0, 1) := by decide +kernel
theorem dX11_days_56 : decode cX11_days 56 = .ok (.getfield 19, 3) := by decide +kernel
theorem dX11_days_59 : decode cX11_days 59 = .ok (.getfield 127, 3) := by decide +kernel
theorem dX11_days_62 : decode cX11_days 62 = .ok (.invokevirtual 228, 3) := by decide +kernel
theorem dX11_days_65 : decode cX11_days 65 = .ok (.ireturn, 1) := by decide +kernel
theorem bX11_days_29 {l : Launch} {g : jm_G} {d : Nat} {v1 v2 : Int} (hg : jm_HC g) {mu : jm_M} {Q : Option Value → jm_M → Prop} (h : jm_rg v2 ∧ jm_rg v1 ∧ (v1 ≤ v2 → jm_R l g (d + 1) iX1_howManyHoarse [.ref 29, jm_i (mu.1 6 0)] mu (jm_qi fun z4 m3 => Q (some (jm_i z4)) m3)) ∧ (v2 < v1 → jm_R l g (d + 1) iX11_keepCourt [.ref 0] mu (jm_qv fun m7 => jm_R l g (d + 1) iX2_restOneDay [.ref 37] m7 (jm_qv fun m11 => jm_V l g (d + 2) iX11_days 29 [(0, .ref 0), (1, jm_i v1), (2, jm_i (v2 + 1))] [] m11 Q)))) : jm_V l g (d + 2) iX11_days 29 [(0, .ref 0), (1, jm_i v1), (2, jm_i v2)] [] mu Q := by
  refine jm_mrI (fun hm0 => ?_)
  refine jm_iload_n (pc := 29) 2 dX11_days_29 rfl ?_
  refine jm_iload_n (pc := 30) 1 dX11_days_30 rfl ?_
  have hg1 := h.1
  have h := h.2
  have hg2 := h.1
  have h := h.2
  refine jm_icmp_ge (pc := 31) 51 dX11_days_31 rfl hg1 hg2 (fun q => ?_) (fun q => ?_)
  · have h := h.1 q
    refine jm_aload_n (pc := 51) 0 dX11_days_51 rfl ?_
    refine jm_getr (pc := 52) 2 dX11_days_52 fX11_26 (cC0 hg) rfl ?_
    refine jm_aload_n (pc := 55) 0 dX11_days_55 rfl ?_
    refine jm_getr (pc := 56) 1 dX11_days_56 fX11_19 (cC0 hg) rfl ?_
    refine jm_geti (pc := 59) 0 dX11_days_59 fX11_127 (cC6 hg) rfl ?_
    refine jm_callvi (pc := 62) (As := [_]) (st := []) iX1_howManyHoarse dX11_days_62 mX11_228 (cC29 hg) ⟨_, rfl, rfl⟩ rfl rfl (Nat.le_of_ble_eq_true rfl) h (fun z4 m3 hz5 h hm6 => ?_)
    exact jm_iret (pc := 65) dX11_days_65 rfl h
  · have h := h.2 q
    refine jm_aload_n (pc := 34) 0 dX11_days_34 rfl ?_
    refine jm_callvv (pc := 35) (As := []) (st := []) iX11_keepCourt dX11_days_35 mX11_203 (cC0 hg) ⟨_, rfl, rfl⟩ rfl rfl (Nat.le_of_ble_eq_true rfl) h (fun m7 h hm10 => ?_)
    refine jm_aload_n (pc := 38) 0 dX11_days_38 rfl ?_
    refine jm_getr (pc := 39) 4 dX11_days_39 fX11_44 (cC0 hg) rfl ?_
    refine jm_callvv (pc := 42) (As := []) (st := []) iX2_restOneDay dX11_days_42 mX11_225 (cC37 hg) ⟨_, rfl, rfl⟩ rfl rfl (Nat.le_of_ble_eq_true rfl) h (fun m11 h hm14 => ?_)
    refine jm_iinc (pc := 45) (lv' := [(2, _), (0, _), (1, _)]) 2 dX11_days_45 rfl (by decide) rfl ?_
    refine jm_goto (pc := 48) 29 dX11_days_48 rfl ?_
    exact jm_sub [1, 2, 0] rfl h
theorem eX11_days {l : Launch} {g : jm_G} {d : Nat} {v1 : Int} (hg : jm_HC g) {mu : jm_M} {Q : Option Value → jm_M → Prop} (h : jm_rg v1 ∧ (1 ≤ v1 ∧ v1 ≤ 30 → jm_rg ((mu.1 29 1) + v1) ∧ (((mu.1 29 1) + v1) ≤ 999 → jm_V l g (d + 2) iX11_days 29 [(0, .ref 0), (1, jm_i v1), (2, jm_i 0)] [] mu Q) ∧ (999 < ((mu.1 29 1) + v1) → Q (some (jm_i (-1))) mu)) ∧ (¬ (1 ≤ v1 ∧ v1 ≤ 30) → Q (some (jm_i (-1))) mu)) : jm_R l g (d + 2) iX11_days [.ref 0, jm_i v1] mu Q := by
  refine jm_enter [(0, .ref 0), (1, jm_i v1)] (by decide) (Nat.le_of_ble_eq_true rfl) rfl ?_
  refine jm_mrI (fun hm0 => ?_)
  refine jm_iload_n (pc := 0) 1 dX11_days_0 rfl ?_
  refine jm_iconst (pc := 1) dX11_days_1 ?_
  refine jm_bipush (pc := 2) dX11_days_2 (by decide) ?_
  have hg1 := h.1
  have h := h.2
  refine jm_inlsi (pc := 4) (As := [_, _, _]) (st := []) iX11_isWithin dX11_days_4 mX11_123 rfl rfl (Nat.le_of_ble_eq_true rfl) (pX11_isWithin hg hg1 ⟨by decide, by decide⟩ ⟨by decide, by decide⟩ (fun q => jm_kIi ?_) (fun q => jm_kIi ?_))
  · have h := h.1 q
    refine jm_if_eq (pc := 7) 25 dX11_days_7 rfl ⟨by decide, by decide⟩ (fun q => absurd q (by decide)) (fun q => ?_)
    refine jm_aload_n (pc := 10) 0 dX11_days_10 rfl ?_
    refine jm_getr (pc := 11) 2 dX11_days_11 fX11_26 (cC0 hg) rfl ?_
    refine jm_geti (pc := 14) 1 dX11_days_14 fX11_222 (cC29 hg) rfl ?_
    refine jm_iload_n (pc := 17) 1 dX11_days_17 rfl ?_
    refine jm_iadd (pc := 18) dX11_days_18 ?_
    refine jm_sipush (pc := 19) dX11_days_19 (by decide) ?_
    have hg2 := h.1
    have h := h.2
    refine jm_icmp_le (pc := 22) 27 dX11_days_22 rfl hg2 ⟨by decide, by decide⟩ (fun q => ?_) (fun q => ?_)
    · have h := h.1 q
      refine jm_iconst (pc := 27) dX11_days_27 ?_
      refine jm_istore_n (pc := 28) (lv' := [(2, _), (0, _), (1, _)]) dX11_days_28 (by decide) rfl ?_
      exact jm_sub [1, 2, 0] rfl h
    · have h := h.2 q
      refine jm_iconst (pc := 25) dX11_days_25 ?_
      exact jm_iret (pc := 26) dX11_days_26 rfl h
  · have h := h.2 q
    refine jm_if_eq (pc := 7) 25 dX11_days_7 rfl ⟨by decide, by decide⟩ (fun q => ?_) (fun q => absurd q (by decide))
    refine jm_iconst (pc := 25) dX11_days_25 ?_
    exact jm_iret (pc := 26) dX11_days_26 rfl h
theorem dX2_goThrough_0 : decode cX2_goThrough 0 = .ok (.iconst 0, 1) := by decide +kernel
theorem dX2_goThrough_1 : decode cX2_goThrough 1 = .ok (.istore_n 2, 1) := by decide +kernel
theorem dX2_goThrough_2 : decode cX2_goThrough 2 = .ok (.iconst 0, 1) := by decide +kernel
theorem dX2_goThrough_3 : decode cX2_goThrough 3 = .ok (.istore_n 3, 1) := by decide +kernel
theorem dX2_goThrough_4 : decode cX2_goThrough 4 = .ok (.iload_n 3, 1) := by decide +kernel
theorem dX2_goThrough_5 : decode cX2_goThrough 5 = .ok (.aload_n 1, 1) := by decide +kernel
theorem dX2_goThrough_6 : decode cX2_goThrough 6 = .ok (.getfield 116, 3) := by decide +kernel
theorem dX2_goThrough_9 : decode cX2_goThrough 9 = .ok (.if_icmp .ge 112, 3) := by decide +kernel
theorem dX2_goThrough_12 : decode cX2_goThrough 12 = .ok (.iload_n 3, 1) := by decide +kernel
theorem dX2_goThrough_13 : decode cX2_goThrough 13 = .ok (.bipush 60, 2) := by decide +kernel
theorem dX2_goThrough_15 : decode cX2_goThrough 15 = .ok (.if_icmp .ge 106, 3) := by decide +kernel
theorem dX2_goThrough_18 : decode cX2_goThrough 18 = .ok (.iinc 2 1, 3) := by decide +kernel
theorem dX2_goThrough_21 : decode cX2_goThrough 21 = .ok (.aload_n 1, 1) := by decide +kernel
theorem dX2_goThrough_22 : decode cX2_goThrough 22 = .ok (.getfield 121, 3) := by decide +kernel
theorem dX2_goThrough_25 : decode cX2_goThrough 25 = .ok (.iload_n 3, 1) := by decide +kernel
theorem dX2_goThrough_26 : decode cX2_goThrough 26 = .ok (.iaload, 1) := by decide +kernel
theorem dX2_goThrough_27 : decode cX2_goThrough 27 = .ok (.iconst 3, 1) := by decide +kernel
theorem dX2_goThrough_28 : decode cX2_goThrough 28 = .ok (.if_icmp .ne 10, 3) := by decide +kernel
theorem dX2_goThrough_31 : decode cX2_goThrough 31 = .ok (.aload_n 0, 1) := by decide +kernel
theorem dX2_goThrough_32 : decode cX2_goThrough 32 = .ok (.invokevirtual 124, 3) := by decide +kernel
theorem dX2_goThrough_35 : decode cX2_goThrough 35 = .ok (.goto 80, 3) := by decide +kernel
theorem dX2_goThrough_38 : decode cX2_goThrough 38 = .ok (.aload_n 1, 1) := by decide +kernel
theorem dX2_goThrough_39 : decode cX2_goThrough 39 = .ok (.getfield 121, 3) := by decide +kernel
theorem dX2_goThrough_42 : decode cX2_goThrough 42 = .ok (.iload_n 3, 1) := by decide +kernel
theorem dX2_goThrough_43 : decode cX2_goThrough 43 = .ok (.iaload, 1) := by decide +kernel
theorem dX2_goThrough_44 : decode cX2_goThrough 44 = .ok (.iconst 1, 1) := by decide +kernel
theorem dX2_goThrough_45 : decode cX2_goThrough 45 = .ok (.if_icmp .ne 16, 3) := by decide +kernel
theorem dX2_goThrough_48 : decode cX2_goThrough 48 = .ok (.aload_n 0, 1) := by decide +kernel
theorem dX2_goThrough_49 : decode cX2_goThrough 49 = .ok (.aload_n 1, 1) := by decide +kernel
theorem dX2_goThrough_50 : decode cX2_goThrough 50 = .ok (.getfield 127, 3) := by decide +kernel
theorem dX2_goThrough_53 : decode cX2_goThrough 53 = .ok (.iload_n 3, 1) := by decide +kernel
theorem dX2_goThrough_54 : decode cX2_goThrough 54 = .ok (.iaload, 1) := by decide +kernel
theorem dX2_goThrough_55 : decode cX2_goThrough 55 = .ok (.invokevirtual 130, 3) := by decide +kernel
theorem dX2_goThrough_58 : decode cX2_goThrough 58 = .ok (.goto 57, 3) := by decide +kernel
theorem dX2_goThrough_61 : decode cX2_goThrough 61 = .ok (.aload_n 0, 1) := by decide +kernel
theorem dX2_goThrough_62 : decode cX2_goThrough 62 = .ok (.aload_n 1, 1) := by decide +kernel
theorem dX2_goThrough_63 : decode cX2_goThrough 63 = .ok (.getfield 127, 3) := by decide +kernel
theorem dX2_goThrough_66 : decode cX2_goThrough 66 = .ok (.iload_n 3, 1) := by decide +kernel
theorem dX2_goThrough_67 : decode cX2_goThrough 67 = .ok (.iaload, 1) := by decide +kernel
theorem dX2_goThrough_68 : decode cX2_goThrough 68 = .ok (.aload_n 1, 1) := by decide +kernel
theorem dX2_goThrough_69 : decode cX2_goThrough 69 = .ok (.getfield 133, 3) := by decide +kernel
theorem dX2_goThrough_72 : decode cX2_goThrough 72 = .ok (.iload_n 3, 1) := by decide +kernel
theorem dX2_goThrough_73 : decode cX2_goThrough 73 = .ok (.iaload, 1) := by decide +kernel
theorem dX2_goThrough_74 : decode cX2_goThrough 74 = .ok (.aload_n 1, 1) := by decide +kernel
theorem dX2_goThrough_75 : decode cX2_goThrough 75 = .ok (.getfield 136, 3) := by decide +kernel
theorem dX2_goThrough_78 : decode cX2_goThrough 78 = .ok (.iload_n 3, 1) := by decide +kernel
theorem dX2_goThrough_79 : decode cX2_goThrough 79 = .ok (.iaload, 1) := by decide +kernel
theorem dX2_goThrough_80 : decode cX2_goThrough 80 = .ok (.invokevirtual 139, 3) := by decide +kernel
theorem dX2_goThrough_83 : decode cX2_goThrough 83 = .ok (.ifCond .eq 29, 3) := by decide +kernel
theorem dX2_goThrough_86 : decode cX2_goThrough 86 = .ok (.aload_n 0, 1) := by decide +kernel
theorem dX2_goThrough_87 : decode cX2_goThrough 87 = .ok (.aload_n 1, 1) := by decide +kernel
theorem dX2_goThrough_88 : decode cX2_goThrough 88 = .ok (.getfield 127, 3) := by decide +kernel
theorem dX2_goThrough_91 : decode cX2_goThrough 91 = .ok (.iload_n 3, 1) := by decide +kernel
theorem dX2_goThrough_92 : decode cX2_goThrough 92 = .ok (.iaload, 1) := by decide +kernel
theorem dX2_goThrough_93 : decode cX2_goThrough 93 = .ok (.aload_n 1, 1) := by decide +kernel
theorem dX2_goThrough_94 : decode cX2_goThrough 94 = .ok (.getfield 133, 3) := by decide +kernel
theorem dX2_goThrough_97 : decode cX2_goThrough 97 = .ok (.iload_n 3, 1) := by decide +kernel
theorem dX2_goThrough_98 : decode cX2_goThrough 98 = .ok (.iaload, 1) := by decide +kernel
theorem dX2_goThrough_99 : decode cX2_goThrough 99 = .ok (.aload_n 1, 1) := by decide +kernel
theorem dX2_goThrough_100 : decode cX2_goThrough 100 = .ok (.getfield 136, 3) := by decide +kernel
theorem dX2_goThrough_103 : decode cX2_goThrough 103 = .ok (.iload_n 3, 1) := by decide +kernel
theorem dX2_goThrough_104 : decode cX2_goThrough 104 = .ok (.iaload, 1) := by decide +kernel
theorem dX2_goThrough_105 : decode cX2_goThrough 105 = .ok (.invokevirtual 142, 3) := by decide +kernel
theorem dX2_goThrough_108 : decode cX2_goThrough 108 = .ok (.pop, 1) := by decide +kernel
theorem dX2_goThrough_109 : decode cX2_goThrough 109 = .ok (.goto 6, 3) := by decide +kernel
theorem dX2_goThrough_112 : decode cX2_goThrough 112 = .ok (.iinc 2 (-1), 3) := by decide +kernel
theorem dX2_goThrough_115 : decode cX2_goThrough 115 = .ok (.iinc 3 1, 3) := by decide +kernel
theorem dX2_goThrough_118 : decode cX2_goThrough 118 = .ok (.goto (-114), 3) := by decide +kernel
theorem dX2_goThrough_121 : decode cX2_goThrough 121 = .ok (.iload_n 2, 1) := by decide +kernel
theorem dX2_goThrough_122 : decode cX2_goThrough 122 = .ok (.ireturn, 1) := by decide +kernel
theorem bX2_goThrough_4 {l : Launch} {g : jm_G} {d : Nat} {v2 v3 : Int} (hg : jm_HC g) {mu : jm_M} {Q : Option Value → jm_M → Prop} (h : jm_rg v3 ∧ ((mu.1 22 0) ≤ v3 → Q (some (jm_i v2)) mu) ∧ (v3 < (mu.1 22 0) → (60 ≤ v3 → Q (some (jm_i v2)) mu) ∧ (v3 < 60 → (0 ≤ v3 ∧ v3 < 60) ∧ (¬ (mu.1 23 v3) = 3 → (¬ (mu.1 23 v3) = 1 → jm_R l g d iX2_canBeCalled [.ref 37, jm_i (mu.1 24 v3), jm_i (mu.1 25 v3), jm_i (mu.1 26 v3)] mu (jm_qi fun z4 m3 => (z4 = 0 → jm_V l g (d + 1) iX2_goThrough 4 [(0, .ref 37), (1, .ref 22), (2, jm_i ((v2 + 1) + (-1))), (3, jm_i (v3 + 1))] [] m3 Q) ∧ (¬ z4 = 0 → jm_R l g d iX2_sing [.ref 37, jm_i (m3.1 24 v3), jm_i (m3.1 25 v3), jm_i (m3.1 26 v3)] m3 (jm_qi fun z8 m7 => jm_V l g (d + 1) iX2_goThrough 4 [(0, .ref 37), (1, .ref 22), (2, jm_i (v2 + 1)), (3, jm_i (v3 + 1))] [] m7 Q)))) ∧ ((mu.1 23 v3) = 1 → jm_R l g d iX2_crossExamine [.ref 37, jm_i (mu.1 24 v3)] mu (jm_qv fun m11 => jm_V l g (d + 1) iX2_goThrough 4 [(0, .ref 37), (1, .ref 22), (2, jm_i (v2 + 1)), (3, jm_i (v3 + 1))] [] m11 Q))) ∧ ((mu.1 23 v3) = 3 → jm_R l g d iX2_restOneDay [.ref 37] mu (jm_qv fun m15 => jm_V l g (d + 1) iX2_goThrough 4 [(0, .ref 37), (1, .ref 22), (2, jm_i (v2 + 1)), (3, jm_i (v3 + 1))] [] m15 Q))))) : jm_V l g (d + 1) iX2_goThrough 4 [(0, .ref 37), (1, .ref 22), (2, jm_i v2), (3, jm_i v3)] [] mu Q := by
  refine jm_mrI (fun hm0 => ?_)
  refine jm_iload_n (pc := 4) 3 dX2_goThrough_4 rfl ?_
  refine jm_aload_n (pc := 5) 1 dX2_goThrough_5 rfl ?_
  refine jm_geti (pc := 6) 0 dX2_goThrough_6 fX2_116 (cC22 hg) rfl ?_
  have hg1 := h.1
  have h := h.2
  refine jm_icmp_ge (pc := 9) 121 dX2_goThrough_9 rfl hg1 (hm0 _ _) (fun q => ?_) (fun q => ?_)
  · have h := h.1 q
    refine jm_iload_n (pc := 121) 2 dX2_goThrough_121 rfl ?_
    exact jm_iret (pc := 122) dX2_goThrough_122 rfl h
  · have h := h.2 q
    refine jm_iload_n (pc := 12) 3 dX2_goThrough_12 rfl ?_
    refine jm_bipush (pc := 13) dX2_goThrough_13 (by decide) ?_
    refine jm_icmp_ge (pc := 15) 121 dX2_goThrough_15 rfl hg1 ⟨by decide, by decide⟩ (fun q => ?_) (fun q => ?_)
    · have h := h.1 q
      refine jm_iload_n (pc := 121) 2 dX2_goThrough_121 rfl ?_
      exact jm_iret (pc := 122) dX2_goThrough_122 rfl h
    · have h := h.2 q
      refine jm_iinc (pc := 18) (lv' := [(2, _), (0, _), (1, _), (3, _)]) 2 dX2_goThrough_18 rfl (by decide) rfl ?_
      refine jm_aload_n (pc := 21) 2 dX2_goThrough_21 rfl ?_
      refine jm_getr (pc := 22) 1 dX2_goThrough_22 fX2_121 (cC22 hg) rfl ?_
      refine jm_iload_n (pc := 25) 3 dX2_goThrough_25 rfl ?_
      have hg2 := h.1
      have h := h.2
      refine jm_iald (pc := 26) dX2_goThrough_26 (cC23 hg) (by decide) hg2.1 hg2.2 ?_
      refine jm_iconst (pc := 27) dX2_goThrough_27 ?_
      refine jm_icmp_ne (pc := 28) 38 dX2_goThrough_28 rfl (hm0 _ _) ⟨by decide, by decide⟩ (fun q => ?_) (fun q => ?_)
      · have h := h.1 q
        refine jm_aload_n (pc := 38) 2 dX2_goThrough_38 rfl ?_
        refine jm_getr (pc := 39) 1 dX2_goThrough_39 fX2_121 (cC22 hg) rfl ?_
        refine jm_iload_n (pc := 42) 3 dX2_goThrough_42 rfl ?_
        refine jm_iald (pc := 43) dX2_goThrough_43 (cC23 hg) (by decide) hg2.1 hg2.2 ?_
        refine jm_iconst (pc := 44) dX2_goThrough_44 ?_
        refine jm_icmp_ne (pc := 45) 61 dX2_goThrough_45 rfl (hm0 _ _) ⟨by decide, by decide⟩ (fun q => ?_) (fun q => ?_)
        · have h := h.1 q
          refine jm_aload_n (pc := 61) 1 dX2_goThrough_61 rfl ?_
          refine jm_aload_n (pc := 62) 2 dX2_goThrough_62 rfl ?_
          refine jm_getr (pc := 63) 2 dX2_goThrough_63 fX2_127 (cC22 hg) rfl ?_
          refine jm_iload_n (pc := 66) 3 dX2_goThrough_66 rfl ?_
          refine jm_iald (pc := 67) dX2_goThrough_67 (cC24 hg) (by decide) hg2.1 hg2.2 ?_
          refine jm_aload_n (pc := 68) 2 dX2_goThrough_68 rfl ?_
          refine jm_getr (pc := 69) 3 dX2_goThrough_69 fX2_133 (cC22 hg) rfl ?_
          refine jm_iload_n (pc := 72) 3 dX2_goThrough_72 rfl ?_
          refine jm_iald (pc := 73) dX2_goThrough_73 (cC25 hg) (by decide) hg2.1 hg2.2 ?_
          refine jm_aload_n (pc := 74) 2 dX2_goThrough_74 rfl ?_
          refine jm_getr (pc := 75) 4 dX2_goThrough_75 fX2_136 (cC22 hg) rfl ?_
          refine jm_iload_n (pc := 78) 3 dX2_goThrough_78 rfl ?_
          refine jm_iald (pc := 79) dX2_goThrough_79 (cC26 hg) (by decide) hg2.1 hg2.2 ?_
          refine jm_callvi (pc := 80) (As := [_, _, _]) (st := []) iX2_canBeCalled dX2_goThrough_80 mX2_139 (cC37 hg) ⟨_, rfl, rfl⟩ rfl rfl (Nat.le_of_ble_eq_true rfl) h (fun z4 m3 hz5 h hm6 => ?_)
          refine jm_if_eq (pc := 83) 112 dX2_goThrough_83 rfl hz5 (fun q => ?_) (fun q => ?_)
          · have h := h.1 q
            refine jm_iinc (pc := 112) (lv' := [(2, _), (0, _), (1, _), (3, _)]) 0 dX2_goThrough_112 rfl (by decide) rfl ?_
            refine jm_iinc (pc := 115) (lv' := [(3, _), (2, _), (0, _), (1, _)]) 3 dX2_goThrough_115 rfl (by decide) rfl ?_
            refine jm_goto (pc := 118) 4 dX2_goThrough_118 rfl ?_
            exact jm_sub [2, 3, 1, 0] rfl h
          · have h := h.2 q
            refine jm_aload_n (pc := 86) 1 dX2_goThrough_86 rfl ?_
            refine jm_aload_n (pc := 87) 2 dX2_goThrough_87 rfl ?_
            refine jm_getr (pc := 88) 2 dX2_goThrough_88 fX2_127 (cC22 hg) rfl ?_
            refine jm_iload_n (pc := 91) 3 dX2_goThrough_91 rfl ?_
            refine jm_iald (pc := 92) dX2_goThrough_92 (cC24 hg) (by decide) hg2.1 hg2.2 ?_
            refine jm_aload_n (pc := 93) 2 dX2_goThrough_93 rfl ?_
            refine jm_getr (pc := 94) 3 dX2_goThrough_94 fX2_133 (cC22 hg) rfl ?_
            refine jm_iload_n (pc := 97) 3 dX2_goThrough_97 rfl ?_
            refine jm_iald (pc := 98) dX2_goThrough_98 (cC25 hg) (by decide) hg2.1 hg2.2 ?_
            refine jm_aload_n (pc := 99) 2 dX2_goThrough_99 rfl ?_
            refine jm_getr (pc := 100) 4 dX2_goThrough_100 fX2_136 (cC22 hg) rfl ?_
            refine jm_iload_n (pc := 103) 3 dX2_goThrough_103 rfl ?_
            refine jm_iald (pc := 104) dX2_goThrough_104 (cC26 hg) (by decide) hg2.1 hg2.2 ?_
            refine jm_callvi (pc := 105) (As := [_, _, _]) (st := []) iX2_sing dX2_goThrough_105 mX2_142 (cC37 hg) ⟨_, rfl, rfl⟩ rfl rfl (Nat.le_of_ble_eq_true rfl) h (fun z8 m7 hz9 h hm10 => ?_)
            refine jm_pop (pc := 108) _ dX2_goThrough_108 rfl ?_
            refine jm_goto (pc := 109) 115 dX2_goThrough_109 rfl ?_
            refine jm_iinc (pc := 115) (lv' := [(3, _), (2, _), (0, _), (1, _)]) 3 dX2_goThrough_115 rfl (by decide) rfl ?_
            refine jm_goto (pc := 118) 4 dX2_goThrough_118 rfl ?_
            exact jm_sub [2, 3, 1, 0] rfl h
        · have h := h.2 q
          refine jm_aload_n (pc := 48) 1 dX2_goThrough_48 rfl ?_
          refine jm_aload_n (pc := 49) 2 dX2_goThrough_49 rfl ?_
          refine jm_getr (pc := 50) 2 dX2_goThrough_50 fX2_127 (cC22 hg) rfl ?_
          refine jm_iload_n (pc := 53) 3 dX2_goThrough_53 rfl ?_
          refine jm_iald (pc := 54) dX2_goThrough_54 (cC24 hg) (by decide) hg2.1 hg2.2 ?_
          refine jm_callvv (pc := 55) (As := [_]) (st := []) iX2_crossExamine dX2_goThrough_55 mX2_130 (cC37 hg) ⟨_, rfl, rfl⟩ rfl rfl (Nat.le_of_ble_eq_true rfl) h (fun m11 h hm14 => ?_)
          refine jm_goto (pc := 58) 115 dX2_goThrough_58 rfl ?_
          refine jm_iinc (pc := 115) (lv' := [(3, _), (2, _), (0, _), (1, _)]) 3 dX2_goThrough_115 rfl (by decide) rfl ?_
          refine jm_goto (pc := 118) 4 dX2_goThrough_118 rfl ?_
          exact jm_sub [2, 3, 1, 0] rfl h
      · have h := h.2 q
        refine jm_aload_n (pc := 31) 1 dX2_goThrough_31 rfl ?_
        refine jm_callvv (pc := 32) (As := []) (st := []) iX2_restOneDay dX2_goThrough_32 mX2_124 (cC37 hg) ⟨_, rfl, rfl⟩ rfl rfl (Nat.le_of_ble_eq_true rfl) h (fun m15 h hm18 => ?_)
        refine jm_goto (pc := 35) 115 dX2_goThrough_35 rfl ?_
        refine jm_iinc (pc := 115) (lv' := [(3, _), (2, _), (0, _), (1, _)]) 3 dX2_goThrough_115 rfl (by decide) rfl ?_
        refine jm_goto (pc := 118) 4 dX2_goThrough_118 rfl ?_
        exact jm_sub [2, 3, 1, 0] rfl h
theorem eX2_goThrough {l : Launch} {g : jm_G} {d : Nat} (hg : jm_HC g) {mu : jm_M} {Q : Option Value → jm_M → Prop} (h : jm_V l g (d + 1) iX2_goThrough 4 [(0, .ref 37), (1, .ref 22), (2, jm_i 0), (3, jm_i 0)] [] mu Q) : jm_R l g (d + 1) iX2_goThrough [.ref 37, .ref 22] mu Q := by
  refine jm_enter [(0, .ref 37), (1, .ref 22)] (by decide) (Nat.le_of_ble_eq_true rfl) rfl ?_
  refine jm_mrI (fun hm0 => ?_)
  refine jm_iconst (pc := 0) dX2_goThrough_0 ?_
  refine jm_istore_n (pc := 1) (lv' := [(2, _), (0, _), (1, _)]) dX2_goThrough_1 (by decide) rfl ?_
  refine jm_iconst (pc := 2) dX2_goThrough_2 ?_
  refine jm_istore_n (pc := 3) (lv' := [(3, _), (2, _), (0, _), (1, _)]) dX2_goThrough_3 (by decide) rfl ?_
  exact jm_sub [2, 3, 1, 0] rfl h
theorem dX6_rests_0 : decode cX6_rests 0 = .ok (.iconst 0, 1) := by decide +kernel
theorem dX6_rests_1 : decode cX6_rests 1 = .ok (.istore_n 1, 1) := by decide +kernel
theorem dX6_rests_2 : decode cX6_rests 2 = .ok (.iconst 0, 1) := by decide +kernel
theorem dX6_rests_3 : decode cX6_rests 3 = .ok (.istore_n 2, 1) := by decide +kernel
theorem dX6_rests_4 : decode cX6_rests 4 = .ok (.iload_n 2, 1) := by decide +kernel
theorem dX6_rests_5 : decode cX6_rests 5 = .ok (.aload_n 0, 1) := by decide +kernel
theorem dX6_rests_6 : decode cX6_rests 6 = .ok (.getfield 11, 3) := by decide +kernel
theorem dX6_rests_9 : decode cX6_rests 9 = .ok (.if_icmp .ge 28, 3) := by decide +kernel
theorem dX6_rests_12 : decode cX6_rests 12 = .ok (.iload_n 2, 1) := by decide +kernel
theorem dX6_rests_13 : decode cX6_rests 13 = .ok (.bipush 60, 2) := by decide +kernel
theorem dX6_rests_15 : decode cX6_rests 15 = .ok (.if_icmp .ge 22, 3) := by decide +kernel
theorem dX6_rests_18 : decode cX6_rests 18 = .ok (.aload_n 0, 1) := by decide +kernel
theorem dX6_rests_19 : decode cX6_rests 19 = .ok (.getfield 17, 3) := by decide +kernel
theorem dX6_rests_22 : decode cX6_rests 22 = .ok (.iload_n 2, 1) := by decide +kernel
theorem dX6_rests_23 : decode cX6_rests 23 = .ok (.iaload, 1) := by decide +kernel
theorem dX6_rests_24 : decode cX6_rests 24 = .ok (.iconst 3, 1) := by decide +kernel
theorem dX6_rests_25 : decode cX6_rests 25 = .ok (.if_icmp .ne 6, 3) := by decide +kernel
theorem dX6_rests_28 : decode cX6_rests 28 = .ok (.iinc 1 1, 3) := by decide +kernel
theorem dX6_rests_31 : decode cX6_rests 31 = .ok (.iinc 2 1, 3) := by decide +kernel
theorem dX6_rests_34 : decode cX6_rests 34 = .ok (.goto (-30), 3) := by decide +kernel
theorem dX6_rests_37 : decode cX6_rests 37 = .ok (.iload_n 1, 1) := by decide +kernel
theorem dX6_rests_38 : decode cX6_rests 38 = .ok (.ireturn, 1) := by decide +kernel
theorem bX6_rests_4 {l : Launch} {g : jm_G} {d : Nat} {v1 v2 : Int} (hg : jm_HC g) {mu : jm_M} {Q : Option Value → jm_M → Prop} (h : jm_rg v2 ∧ ((mu.1 22 0) ≤ v2 → Q (some (jm_i v1)) mu) ∧ (v2 < (mu.1 22 0) → (60 ≤ v2 → Q (some (jm_i v1)) mu) ∧ (v2 < 60 → (0 ≤ v2 ∧ v2 < 60) ∧ (¬ (mu.1 23 v2) = 3 → jm_V l g (d + 1) iX6_rests 4 [(0, .ref 22), (1, jm_i v1), (2, jm_i (v2 + 1))] [] mu Q) ∧ ((mu.1 23 v2) = 3 → jm_V l g (d + 1) iX6_rests 4 [(0, .ref 22), (1, jm_i (v1 + 1)), (2, jm_i (v2 + 1))] [] mu Q)))) : jm_V l g (d + 1) iX6_rests 4 [(0, .ref 22), (1, jm_i v1), (2, jm_i v2)] [] mu Q := by
  refine jm_mrI (fun hm0 => ?_)
  refine jm_iload_n (pc := 4) 2 dX6_rests_4 rfl ?_
  refine jm_aload_n (pc := 5) 0 dX6_rests_5 rfl ?_
  refine jm_geti (pc := 6) 0 dX6_rests_6 fX6_11 (cC22 hg) rfl ?_
  have hg1 := h.1
  have h := h.2
  refine jm_icmp_ge (pc := 9) 37 dX6_rests_9 rfl hg1 (hm0 _ _) (fun q => ?_) (fun q => ?_)
  · have h := h.1 q
    refine jm_iload_n (pc := 37) 1 dX6_rests_37 rfl ?_
    exact jm_iret (pc := 38) dX6_rests_38 rfl h
  · have h := h.2 q
    refine jm_iload_n (pc := 12) 2 dX6_rests_12 rfl ?_
    refine jm_bipush (pc := 13) dX6_rests_13 (by decide) ?_
    refine jm_icmp_ge (pc := 15) 37 dX6_rests_15 rfl hg1 ⟨by decide, by decide⟩ (fun q => ?_) (fun q => ?_)
    · have h := h.1 q
      refine jm_iload_n (pc := 37) 1 dX6_rests_37 rfl ?_
      exact jm_iret (pc := 38) dX6_rests_38 rfl h
    · have h := h.2 q
      refine jm_aload_n (pc := 18) 0 dX6_rests_18 rfl ?_
      refine jm_getr (pc := 19) 1 dX6_rests_19 fX6_17 (cC22 hg) rfl ?_
      refine jm_iload_n (pc := 22) 2 dX6_rests_22 rfl ?_
      have hg2 := h.1
      have h := h.2
      refine jm_iald (pc := 23) dX6_rests_23 (cC23 hg) (by decide) hg2.1 hg2.2 ?_
      refine jm_iconst (pc := 24) dX6_rests_24 ?_
      refine jm_icmp_ne (pc := 25) 31 dX6_rests_25 rfl (hm0 _ _) ⟨by decide, by decide⟩ (fun q => ?_) (fun q => ?_)
      · have h := h.1 q
        refine jm_iinc (pc := 31) (lv' := [(2, _), (0, _), (1, _)]) 2 dX6_rests_31 rfl (by decide) rfl ?_
        refine jm_goto (pc := 34) 4 dX6_rests_34 rfl ?_
        exact jm_sub [1, 2, 0] rfl h
      · have h := h.2 q
        refine jm_iinc (pc := 28) (lv' := [(1, _), (0, _), (2, _)]) 1 dX6_rests_28 rfl (by decide) rfl ?_
        refine jm_iinc (pc := 31) (lv' := [(2, _), (1, _), (0, _)]) 2 dX6_rests_31 rfl (by decide) rfl ?_
        refine jm_goto (pc := 34) 4 dX6_rests_34 rfl ?_
        exact jm_sub [2, 1, 0] rfl h
theorem eX6_rests {l : Launch} {g : jm_G} {d : Nat} (hg : jm_HC g) {mu : jm_M} {Q : Option Value → jm_M → Prop} (h : jm_V l g (d + 1) iX6_rests 4 [(0, .ref 22), (1, jm_i 0), (2, jm_i 0)] [] mu Q) : jm_R l g (d + 1) iX6_rests [.ref 22] mu Q := by
  refine jm_enter [(0, .ref 22)] (by decide) (Nat.le_of_ble_eq_true rfl) rfl ?_
  refine jm_mrI (fun hm0 => ?_)
  refine jm_iconst (pc := 0) dX6_rests_0 ?_
  refine jm_istore_n (pc := 1) (lv' := [(1, _), (0, _)]) dX6_rests_1 (by decide) rfl ?_
  refine jm_iconst (pc := 2) dX6_rests_2 ?_
  refine jm_istore_n (pc := 3) (lv' := [(2, _), (1, _), (0, _)]) dX6_rests_3 (by decide) rfl ?_
  exact jm_sub [2, 1, 0] rfl h
