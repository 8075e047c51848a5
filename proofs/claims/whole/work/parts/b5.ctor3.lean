section JKM
variable {l : Launch} {g : jc_G} {d mc ms : Nat} {i : jm_I} {pc k n : Nat} {lv : List (Nat × Value)} {st : List Value} {Q : va_W → Prop}
theorem jc_wst {X : va_W} {a : Nat} {f : Nat → Int32} {z v : Int32} (j : Nat) (hd : decode i.2.1 pc = .ok (.iastore, 1)) (hz : z.toNatClampNeg = j) (h0 : ¬ z < 0) (hv : v = Int32.ofInt (wGl j)) (hj : j < 143) (hf : ∀ t, t < j → f t = Int32.ofInt (wGl t)) (kk : ∀ f' : Nat → Int32, (∀ t, t < j + 1 → f' t = Int32.ofInt (wGl t)) → jc_V l g d mc ms i (pc + 1) lv st (X ++ [(a, .inl (g.2.1, 143, .inl f'))]) k n Q) : jc_V l g d mc ms i pc lv (.int v :: .int z :: .ref a :: st) (X ++ [(a, .inl (g.2.1, 143, .inl f))]) k n Q := by
  refine jc_iast (ws' := X ++ [(a, .inl (g.2.1, 143, .inl (upd f z.toNatClampNeg v)))]) X.length hd (by rw [List.getElem?_append_right (Nat.le_refl _), Nat.sub_self]; rfl) (fun q => by rcases q with q | q; exact h0 q; omega) ?_ (kk _ (fun t ht => ?_))
  · rw [List.set_append_right _ _ (Nat.le_refl _), Nat.sub_self]
    rfl
  · rw [hz, hv]
    unfold upd
    by_cases e : t = j
    · rw [if_pos e, e]
    · rw [if_neg e]
      exact hf t (by omega)
theorem dX12_init_0 : decode cX12_init 0 = .ok (.aload_n 0, 1) := by decide +kernel
theorem dX12_init_1 : decode cX12_init 1 = .ok (.invokespecial 1, 3) := by decide +kernel
theorem dX12_init_4 : decode cX12_init 4 = .ok (.aload_n 0, 1) := by decide +kernel
theorem dX12_init_5 : decode cX12_init 5 = .ok (.bipush 22, 2) := by decide +kernel
theorem dX12_init_7 : decode cX12_init 7 = .ok (.newarray .int, 2) := by decide +kernel
theorem dX12_init_9 : decode cX12_init 9 = .ok (.putfield 7, 3) := by decide +kernel
theorem dX12_init_12 : decode cX12_init 12 = .ok (.aload_n 0, 1) := by decide +kernel
theorem dX12_init_13 : decode cX12_init 13 = .ok (.sipush 132, 3) := by decide +kernel
theorem dX12_init_16 : decode cX12_init 16 = .ok (.newarray .int, 2) := by decide +kernel
theorem dX12_init_18 : decode cX12_init 18 = .ok (.putfield 13, 3) := by decide +kernel
theorem dX12_init_21 : decode cX12_init 21 = .ok (.aload_n 0, 1) := by decide +kernel
theorem dX12_init_22 : decode cX12_init 22 = .ok (.bipush 8, 2) := by decide +kernel
theorem dX12_init_24 : decode cX12_init 24 = .ok (.newarray .int, 2) := by decide +kernel
theorem dX12_init_26 : decode cX12_init 26 = .ok (.putfield 16, 3) := by decide +kernel
theorem dX12_init_29 : decode cX12_init 29 = .ok (.aload_n 0, 1) := by decide +kernel
theorem dX12_init_30 : decode cX12_init 30 = .ok (.bipush 8, 2) := by decide +kernel
theorem dX12_init_32 : decode cX12_init 32 = .ok (.newarray .int, 2) := by decide +kernel
theorem dX12_init_34 : decode cX12_init 34 = .ok (.putfield 19, 3) := by decide +kernel
theorem dX12_init_37 : decode cX12_init 37 = .ok (.aload_n 0, 1) := by decide +kernel
theorem dX12_init_38 : decode cX12_init 38 = .ok (.bipush 8, 2) := by decide +kernel
theorem dX12_init_40 : decode cX12_init 40 = .ok (.newarray .int, 2) := by decide +kernel
theorem dX12_init_42 : decode cX12_init 42 = .ok (.putfield 22, 3) := by decide +kernel
theorem dX12_init_45 : decode cX12_init 45 = .ok (.aload_n 0, 1) := by decide +kernel
theorem dX12_init_46 : decode cX12_init 46 = .ok (.bipush 48, 2) := by decide +kernel
theorem dX12_init_48 : decode cX12_init 48 = .ok (.newarray .int, 2) := by decide +kernel
theorem dX12_init_50 : decode cX12_init 50 = .ok (.putfield 25, 3) := by decide +kernel
theorem dX12_init_53 : decode cX12_init 53 = .ok (.aload_n 0, 1) := by decide +kernel
theorem dX12_init_54 : decode cX12_init 54 = .ok (.sipush 400, 3) := by decide +kernel
theorem dX12_init_57 : decode cX12_init 57 = .ok (.newarray .int, 2) := by decide +kernel
theorem dX12_init_59 : decode cX12_init 59 = .ok (.putfield 28, 3) := by decide +kernel
theorem dX12_init_62 : decode cX12_init 62 = .ok (.aload_n 0, 1) := by decide +kernel
theorem dX12_init_63 : decode cX12_init 63 = .ok (.sipush 143, 3) := by decide +kernel
theorem dX12_init_66 : decode cX12_init 66 = .ok (.newarray .int, 2) := by decide +kernel
theorem dX12_init_68 : decode cX12_init 68 = .ok (.dup, 1) := by decide +kernel
theorem dX12_init_69 : decode cX12_init 69 = .ok (.iconst 0, 1) := by decide +kernel
theorem dX12_init_70 : decode cX12_init 70 = .ok (.bipush 32, 2) := by decide +kernel
theorem dX12_init_72 : decode cX12_init 72 = .ok (.iastore, 1) := by decide +kernel
theorem dX12_init_73 : decode cX12_init 73 = .ok (.dup, 1) := by decide +kernel
theorem dX12_init_74 : decode cX12_init 74 = .ok (.iconst 1, 1) := by decide +kernel
theorem dX12_init_75 : decode cX12_init 75 = .ok (.bipush 115, 2) := by decide +kernel
theorem dX12_init_77 : decode cX12_init 77 = .ok (.iastore, 1) := by decide +kernel
theorem dX12_init_78 : decode cX12_init 78 = .ok (.dup, 1) := by decide +kernel
theorem dX12_init_79 : decode cX12_init 79 = .ok (.iconst 2, 1) := by decide +kernel
theorem dX12_init_80 : decode cX12_init 80 = .ok (.bipush 108, 2) := by decide +kernel
theorem dX12_init_82 : decode cX12_init 82 = .ok (.iastore, 1) := by decide +kernel
theorem dX12_init_83 : decode cX12_init 83 = .ok (.dup, 1) := by decide +kernel
theorem dX12_init_84 : decode cX12_init 84 = .ok (.iconst 3, 1) := by decide +kernel
theorem dX12_init_85 : decode cX12_init 85 = .ok (.bipush 105, 2) := by decide +kernel
theorem dX12_init_87 : decode cX12_init 87 = .ok (.iastore, 1) := by decide +kernel
theorem dX12_init_88 : decode cX12_init 88 = .ok (.dup, 1) := by decide +kernel
theorem dX12_init_89 : decode cX12_init 89 = .ok (.iconst 4, 1) := by decide +kernel
theorem dX12_init_90 : decode cX12_init 90 = .ok (.bipush 112, 2) := by decide +kernel
theorem dX12_init_92 : decode cX12_init 92 = .ok (.iastore, 1) := by decide +kernel
theorem dX12_init_93 : decode cX12_init 93 = .ok (.dup, 1) := by decide +kernel
theorem dX12_init_94 : decode cX12_init 94 = .ok (.iconst 5, 1) := by decide +kernel
theorem dX12_init_95 : decode cX12_init 95 = .ok (.bipush 32, 2) := by decide +kernel
theorem dX12_init_97 : decode cX12_init 97 = .ok (.iastore, 1) := by decide +kernel
theorem dX12_init_98 : decode cX12_init 98 = .ok (.dup, 1) := by decide +kernel
theorem dX12_init_99 : decode cX12_init 99 = .ok (.bipush 6, 2) := by decide +kernel
theorem dX12_init_101 : decode cX12_init 101 = .ok (.bipush 115, 2) := by decide +kernel
theorem dX12_init_103 : decode cX12_init 103 = .ok (.iastore, 1) := by decide +kernel
theorem dX12_init_104 : decode cX12_init 104 = .ok (.dup, 1) := by decide +kernel
theorem dX12_init_105 : decode cX12_init 105 = .ok (.bipush 7, 2) := by decide +kernel
theorem dX12_init_107 : decode cX12_init 107 = .ok (.bipush 104, 2) := by decide +kernel
theorem dX12_init_109 : decode cX12_init 109 = .ok (.iastore, 1) := by decide +kernel
theorem dX12_init_110 : decode cX12_init 110 = .ok (.dup, 1) := by decide +kernel
theorem dX12_init_111 : decode cX12_init 111 = .ok (.bipush 8, 2) := by decide +kernel
theorem dX12_init_113 : decode cX12_init 113 = .ok (.bipush 97, 2) := by decide +kernel
theorem dX12_init_115 : decode cX12_init 115 = .ok (.iastore, 1) := by decide +kernel
theorem dX12_init_116 : decode cX12_init 116 = .ok (.dup, 1) := by decide +kernel
theorem dX12_init_117 : decode cX12_init 117 = .ok (.bipush 9, 2) := by decide +kernel
theorem dX12_init_119 : decode cX12_init 119 = .ok (.bipush 107, 2) := by decide +kernel
theorem dX12_init_121 : decode cX12_init 121 = .ok (.iastore, 1) := by decide +kernel
theorem dX12_init_122 : decode cX12_init 122 = .ok (.dup, 1) := by decide +kernel
theorem dX12_init_123 : decode cX12_init 123 = .ok (.bipush 10, 2) := by decide +kernel
theorem dX12_init_125 : decode cX12_init 125 = .ok (.bipush 101, 2) := by decide +kernel
theorem dX12_init_127 : decode cX12_init 127 = .ok (.iastore, 1) := by decide +kernel
theorem dX12_init_128 : decode cX12_init 128 = .ok (.dup, 1) := by decide +kernel
theorem dX12_init_129 : decode cX12_init 129 = .ok (.bipush 11, 2) := by decide +kernel
theorem dX12_init_131 : decode cX12_init 131 = .ok (.bipush 32, 2) := by decide +kernel
theorem dX12_init_133 : decode cX12_init 133 = .ok (.iastore, 1) := by decide +kernel
theorem dX12_init_134 : decode cX12_init 134 = .ok (.dup, 1) := by decide +kernel
theorem dX12_init_135 : decode cX12_init 135 = .ok (.bipush 12, 2) := by decide +kernel
theorem dX12_init_137 : decode cX12_init 137 = .ok (.bipush 119, 2) := by decide +kernel
theorem dX12_init_139 : decode cX12_init 139 = .ok (.iastore, 1) := by decide +kernel
theorem dX12_init_140 : decode cX12_init 140 = .ok (.dup, 1) := by decide +kernel
theorem dX12_init_141 : decode cX12_init 141 = .ok (.bipush 13, 2) := by decide +kernel
theorem dX12_init_143 : decode cX12_init 143 = .ok (.bipush 101, 2) := by decide +kernel
theorem dX12_init_145 : decode cX12_init 145 = .ok (.iastore, 1) := by decide +kernel
theorem dX12_init_146 : decode cX12_init 146 = .ok (.dup, 1) := by decide +kernel
theorem dX12_init_147 : decode cX12_init 147 = .ok (.bipush 14, 2) := by decide +kernel
theorem dX12_init_149 : decode cX12_init 149 = .ok (.bipush 105, 2) := by decide +kernel
theorem dX12_init_151 : decode cX12_init 151 = .ok (.iastore, 1) := by decide +kernel
theorem dX12_init_152 : decode cX12_init 152 = .ok (.dup, 1) := by decide +kernel
theorem dX12_init_153 : decode cX12_init 153 = .ok (.bipush 15, 2) := by decide +kernel
theorem dX12_init_155 : decode cX12_init 155 = .ok (.bipush 103, 2) := by decide +kernel
theorem dX12_init_157 : decode cX12_init 157 = .ok (.iastore, 1) := by decide +kernel
theorem dX12_init_158 : decode cX12_init 158 = .ok (.dup, 1) := by decide +kernel
theorem dX12_init_159 : decode cX12_init 159 = .ok (.bipush 16, 2) := by decide +kernel
theorem dX12_init_161 : decode cX12_init 161 = .ok (.bipush 104, 2) := by decide +kernel
theorem dX12_init_163 : decode cX12_init 163 = .ok (.iastore, 1) := by decide +kernel
theorem dX12_init_164 : decode cX12_init 164 = .ok (.dup, 1) := by decide +kernel
theorem dX12_init_165 : decode cX12_init 165 = .ok (.bipush 17, 2) := by decide +kernel
theorem dX12_init_167 : decode cX12_init 167 = .ok (.bipush 116, 2) := by decide +kernel
theorem dX12_init_169 : decode cX12_init 169 = .ok (.iastore, 1) := by decide +kernel
theorem dX12_init_170 : decode cX12_init 170 = .ok (.dup, 1) := by decide +kernel
theorem dX12_init_171 : decode cX12_init 171 = .ok (.bipush 18, 2) := by decide +kernel
theorem dX12_init_173 : decode cX12_init 173 = .ok (.bipush 32, 2) := by decide +kernel
theorem dX12_init_175 : decode cX12_init 175 = .ok (.iastore, 1) := by decide +kernel
theorem dX12_init_176 : decode cX12_init 176 = .ok (.dup, 1) := by decide +kernel
theorem dX12_init_177 : decode cX12_init 177 = .ok (.bipush 19, 2) := by decide +kernel
theorem dX12_init_179 : decode cX12_init 179 = .ok (.bipush 119, 2) := by decide +kernel
theorem dX12_init_181 : decode cX12_init 181 = .ok (.iastore, 1) := by decide +kernel
theorem dX12_init_182 : decode cX12_init 182 = .ok (.dup, 1) := by decide +kernel
theorem dX12_init_183 : decode cX12_init 183 = .ok (.bipush 20, 2) := by decide +kernel
theorem dX12_init_185 : decode cX12_init 185 = .ok (.bipush 104, 2) := by decide +kernel
theorem dX12_init_187 : decode cX12_init 187 = .ok (.iastore, 1) := by decide +kernel
theorem dX12_init_188 : decode cX12_init 188 = .ok (.dup, 1) := by decide +kernel
theorem dX12_init_189 : decode cX12_init 189 = .ok (.bipush 21, 2) := by decide +kernel
theorem dX12_init_191 : decode cX12_init 191 = .ok (.bipush 101, 2) := by decide +kernel
theorem dX12_init_193 : decode cX12_init 193 = .ok (.iastore, 1) := by decide +kernel
theorem dX12_init_194 : decode cX12_init 194 = .ok (.dup, 1) := by decide +kernel
theorem dX12_init_195 : decode cX12_init 195 = .ok (.bipush 22, 2) := by decide +kernel
theorem dX12_init_197 : decode cX12_init 197 = .ok (.bipush 110, 2) := by decide +kernel
theorem dX12_init_199 : decode cX12_init 199 = .ok (.iastore, 1) := by decide +kernel
theorem dX12_init_200 : decode cX12_init 200 = .ok (.dup, 1) := by decide +kernel
theorem dX12_init_201 : decode cX12_init 201 = .ok (.bipush 23, 2) := by decide +kernel
theorem dX12_init_203 : decode cX12_init 203 = .ok (.bipush 32, 2) := by decide +kernel
theorem dX12_init_205 : decode cX12_init 205 = .ok (.iastore, 1) := by decide +kernel
theorem dX12_init_206 : decode cX12_init 206 = .ok (.dup, 1) := by decide +kernel
theorem dX12_init_207 : decode cX12_init 207 = .ok (.bipush 24, 2) := by decide +kernel
theorem dX12_init_209 : decode cX12_init 209 = .ok (.bipush 111, 2) := by decide +kernel
theorem dX12_init_211 : decode cX12_init 211 = .ok (.iastore, 1) := by decide +kernel
theorem dX12_init_212 : decode cX12_init 212 = .ok (.dup, 1) := by decide +kernel
theorem dX12_init_213 : decode cX12_init 213 = .ok (.bipush 25, 2) := by decide +kernel
theorem dX12_init_215 : decode cX12_init 215 = .ok (.bipush 114, 2) := by decide +kernel
theorem dX12_init_217 : decode cX12_init 217 = .ok (.iastore, 1) := by decide +kernel
theorem dX12_init_218 : decode cX12_init 218 = .ok (.dup, 1) := by decide +kernel
theorem dX12_init_219 : decode cX12_init 219 = .ok (.bipush 26, 2) := by decide +kernel
theorem dX12_init_221 : decode cX12_init 221 = .ok (.bipush 32, 2) := by decide +kernel
theorem dX12_init_223 : decode cX12_init 223 = .ok (.iastore, 1) := by decide +kernel
theorem dX12_init_224 : decode cX12_init 224 = .ok (.dup, 1) := by decide +kernel
theorem dX12_init_225 : decode cX12_init 225 = .ok (.bipush 27, 2) := by decide +kernel
theorem dX12_init_227 : decode cX12_init 227 = .ok (.bipush 97, 2) := by decide +kernel
theorem dX12_init_229 : decode cX12_init 229 = .ok (.iastore, 1) := by decide +kernel
theorem dX12_init_230 : decode cX12_init 230 = .ok (.dup, 1) := by decide +kernel
theorem dX12_init_231 : decode cX12_init 231 = .ok (.bipush 28, 2) := by decide +kernel
theorem dX12_init_233 : decode cX12_init 233 = .ok (.bipush 110, 2) := by decide +kernel
theorem dX12_init_235 : decode cX12_init 235 = .ok (.iastore, 1) := by decide +kernel
theorem dX12_init_236 : decode cX12_init 236 = .ok (.dup, 1) := by decide +kernel
theorem dX12_init_237 : decode cX12_init 237 = .ok (.bipush 29, 2) := by decide +kernel
theorem dX12_init_239 : decode cX12_init 239 = .ok (.bipush 100, 2) := by decide +kernel
theorem dX12_init_241 : decode cX12_init 241 = .ok (.iastore, 1) := by decide +kernel
theorem dX12_init_242 : decode cX12_init 242 = .ok (.dup, 1) := by decide +kernel
theorem dX12_init_243 : decode cX12_init 243 = .ok (.bipush 30, 2) := by decide +kernel
theorem dX12_init_245 : decode cX12_init 245 = .ok (.bipush 32, 2) := by decide +kernel
theorem dX12_init_247 : decode cX12_init 247 = .ok (.iastore, 1) := by decide +kernel
theorem dX12_init_248 : decode cX12_init 248 = .ok (.dup, 1) := by decide +kernel
theorem dX12_init_249 : decode cX12_init 249 = .ok (.bipush 31, 2) := by decide +kernel
theorem dX12_init_251 : decode cX12_init 251 = .ok (.bipush 110, 2) := by decide +kernel
theorem dX12_init_253 : decode cX12_init 253 = .ok (.iastore, 1) := by decide +kernel
theorem dX12_init_254 : decode cX12_init 254 = .ok (.dup, 1) := by decide +kernel
theorem dX12_init_255 : decode cX12_init 255 = .ok (.bipush 32, 2) := by decide +kernel
theorem dX12_init_257 : decode cX12_init 257 = .ok (.bipush 111, 2) := by decide +kernel
theorem dX12_init_259 : decode cX12_init 259 = .ok (.iastore, 1) := by decide +kernel
theorem dX12_init_260 : decode cX12_init 260 = .ok (.dup, 1) := by decide +kernel
theorem dX12_init_261 : decode cX12_init 261 = .ok (.bipush 33, 2) := by decide +kernel
theorem dX12_init_263 : decode cX12_init 263 = .ok (.bipush 116, 2) := by decide +kernel
theorem dX12_init_265 : decode cX12_init 265 = .ok (.iastore, 1) := by decide +kernel
theorem dX12_init_266 : decode cX12_init 266 = .ok (.dup, 1) := by decide +kernel
theorem dX12_init_267 : decode cX12_init 267 = .ok (.bipush 34, 2) := by decide +kernel
theorem dX12_init_269 : decode cX12_init 269 = .ok (.bipush 32, 2) := by decide +kernel
theorem dX12_init_271 : decode cX12_init 271 = .ok (.iastore, 1) := by decide +kernel
theorem dX12_init_272 : decode cX12_init 272 = .ok (.dup, 1) := by decide +kernel
theorem dX12_init_273 : decode cX12_init 273 = .ok (.bipush 35, 2) := by decide +kernel
theorem dX12_init_275 : decode cX12_init 275 = .ok (.bipush 110, 2) := by decide +kernel
theorem dX12_init_277 : decode cX12_init 277 = .ok (.iastore, 1) := by decide +kernel
theorem dX12_init_278 : decode cX12_init 278 = .ok (.dup, 1) := by decide +kernel
theorem dX12_init_279 : decode cX12_init 279 = .ok (.bipush 36, 2) := by decide +kernel
theorem dX12_init_281 : decode cX12_init 281 = .ok (.bipush 101, 2) := by decide +kernel
theorem dX12_init_283 : decode cX12_init 283 = .ok (.iastore, 1) := by decide +kernel
theorem dX12_init_284 : decode cX12_init 284 = .ok (.dup, 1) := by decide +kernel
theorem dX12_init_285 : decode cX12_init 285 = .ok (.bipush 37, 2) := by decide +kernel
theorem dX12_init_287 : decode cX12_init 287 = .ok (.bipush 114, 2) := by decide +kernel
theorem dX12_init_289 : decode cX12_init 289 = .ok (.iastore, 1) := by decide +kernel
theorem dX12_init_290 : decode cX12_init 290 = .ok (.dup, 1) := by decide +kernel
theorem dX12_init_291 : decode cX12_init 291 = .ok (.bipush 38, 2) := by decide +kernel
theorem dX12_init_293 : decode cX12_init 293 = .ok (.bipush 118, 2) := by decide +kernel
theorem dX12_init_295 : decode cX12_init 295 = .ok (.iastore, 1) := by decide +kernel
theorem dX12_init_296 : decode cX12_init 296 = .ok (.dup, 1) := by decide +kernel
theorem dX12_init_297 : decode cX12_init 297 = .ok (.bipush 39, 2) := by decide +kernel
theorem dX12_init_299 : decode cX12_init 299 = .ok (.bipush 101, 2) := by decide +kernel
theorem dX12_init_301 : decode cX12_init 301 = .ok (.iastore, 1) := by decide +kernel
theorem dX12_init_302 : decode cX12_init 302 = .ok (.dup, 1) := by decide +kernel
theorem dX12_init_303 : decode cX12_init 303 = .ok (.bipush 40, 2) := by decide +kernel
theorem dX12_init_305 : decode cX12_init 305 = .ok (.bipush 32, 2) := by decide +kernel
theorem dX12_init_307 : decode cX12_init 307 = .ok (.iastore, 1) := by decide +kernel
theorem dX12_init_308 : decode cX12_init 308 = .ok (.dup, 1) := by decide +kernel
theorem dX12_init_309 : decode cX12_init 309 = .ok (.bipush 41, 2) := by decide +kernel
theorem dX12_init_311 : decode cX12_init 311 = .ok (.bipush 104, 2) := by decide +kernel
theorem dX12_init_313 : decode cX12_init 313 = .ok (.iastore, 1) := by decide +kernel
theorem dX12_init_314 : decode cX12_init 314 = .ok (.dup, 1) := by decide +kernel
theorem dX12_init_315 : decode cX12_init 315 = .ok (.bipush 42, 2) := by decide +kernel
theorem dX12_init_317 : decode cX12_init 317 = .ok (.bipush 111, 2) := by decide +kernel
theorem dX12_init_319 : decode cX12_init 319 = .ok (.iastore, 1) := by decide +kernel
theorem dX12_init_320 : decode cX12_init 320 = .ok (.dup, 1) := by decide +kernel
theorem dX12_init_321 : decode cX12_init 321 = .ok (.bipush 43, 2) := by decide +kernel
theorem dX12_init_323 : decode cX12_init 323 = .ok (.bipush 97, 2) := by decide +kernel
theorem dX12_init_325 : decode cX12_init 325 = .ok (.iastore, 1) := by decide +kernel
theorem dX12_init_326 : decode cX12_init 326 = .ok (.dup, 1) := by decide +kernel
theorem dX12_init_327 : decode cX12_init 327 = .ok (.bipush 44, 2) := by decide +kernel
theorem dX12_init_329 : decode cX12_init 329 = .ok (.bipush 114, 2) := by decide +kernel
theorem dX12_init_331 : decode cX12_init 331 = .ok (.iastore, 1) := by decide +kernel
theorem dX12_init_332 : decode cX12_init 332 = .ok (.dup, 1) := by decide +kernel
theorem dX12_init_333 : decode cX12_init 333 = .ok (.bipush 45, 2) := by decide +kernel
theorem dX12_init_335 : decode cX12_init 335 = .ok (.bipush 115, 2) := by decide +kernel
theorem dX12_init_337 : decode cX12_init 337 = .ok (.iastore, 1) := by decide +kernel
theorem dX12_init_338 : decode cX12_init 338 = .ok (.dup, 1) := by decide +kernel
theorem dX12_init_339 : decode cX12_init 339 = .ok (.bipush 46, 2) := by decide +kernel
theorem dX12_init_341 : decode cX12_init 341 = .ok (.bipush 101, 2) := by decide +kernel
theorem dX12_init_343 : decode cX12_init 343 = .ok (.iastore, 1) := by decide +kernel
theorem dX12_init_344 : decode cX12_init 344 = .ok (.dup, 1) := by decide +kernel
theorem dX12_init_345 : decode cX12_init 345 = .ok (.bipush 47, 2) := by decide +kernel
theorem dX12_init_347 : decode cX12_init 347 = .ok (.bipush 32, 2) := by decide +kernel
theorem dX12_init_349 : decode cX12_init 349 = .ok (.iastore, 1) := by decide +kernel
theorem dX12_init_350 : decode cX12_init 350 = .ok (.dup, 1) := by decide +kernel
theorem dX12_init_351 : decode cX12_init 351 = .ok (.bipush 48, 2) := by decide +kernel
theorem dX12_init_353 : decode cX12_init 353 = .ok (.bipush 98, 2) := by decide +kernel
theorem dX12_init_355 : decode cX12_init 355 = .ok (.iastore, 1) := by decide +kernel
theorem dX12_init_356 : decode cX12_init 356 = .ok (.dup, 1) := by decide +kernel
theorem dX12_init_357 : decode cX12_init 357 = .ok (.bipush 49, 2) := by decide +kernel
theorem dX12_init_359 : decode cX12_init 359 = .ok (.bipush 114, 2) := by decide +kernel
theorem dX12_init_361 : decode cX12_init 361 = .ok (.iastore, 1) := by decide +kernel
theorem dX12_init_362 : decode cX12_init 362 = .ok (.dup, 1) := by decide +kernel
theorem dX12_init_363 : decode cX12_init 363 = .ok (.bipush 50, 2) := by decide +kernel
theorem dX12_init_365 : decode cX12_init 365 = .ok (.bipush 101, 2) := by decide +kernel
theorem dX12_init_367 : decode cX12_init 367 = .ok (.iastore, 1) := by decide +kernel
theorem dX12_init_368 : decode cX12_init 368 = .ok (.dup, 1) := by decide +kernel
theorem dX12_init_369 : decode cX12_init 369 = .ok (.bipush 51, 2) := by decide +kernel
theorem dX12_init_371 : decode cX12_init 371 = .ok (.bipush 97, 2) := by decide +kernel
theorem dX12_init_373 : decode cX12_init 373 = .ok (.iastore, 1) := by decide +kernel
theorem dX12_init_374 : decode cX12_init 374 = .ok (.dup, 1) := by decide +kernel
theorem dX12_init_375 : decode cX12_init 375 = .ok (.bipush 52, 2) := by decide +kernel
theorem dX12_init_377 : decode cX12_init 377 = .ok (.bipush 116, 2) := by decide +kernel
theorem dX12_init_379 : decode cX12_init 379 = .ok (.iastore, 1) := by decide +kernel
theorem dX12_init_380 : decode cX12_init 380 = .ok (.dup, 1) := by decide +kernel
theorem dX12_init_381 : decode cX12_init 381 = .ok (.bipush 53, 2) := by decide +kernel
theorem dX12_init_383 : decode cX12_init 383 = .ok (.bipush 104, 2) := by decide +kernel
theorem dX12_init_385 : decode cX12_init 385 = .ok (.iastore, 1) := by decide +kernel
theorem dX12_init_386 : decode cX12_init 386 = .ok (.dup, 1) := by decide +kernel
theorem dX12_init_387 : decode cX12_init 387 = .ok (.bipush 54, 2) := by decide +kernel
theorem dX12_init_389 : decode cX12_init 389 = .ok (.bipush 32, 2) := by decide +kernel
theorem dX12_init_391 : decode cX12_init 391 = .ok (.iastore, 1) := by decide +kernel
theorem dX12_init_392 : decode cX12_init 392 = .ok (.dup, 1) := by decide +kernel
theorem dX12_init_393 : decode cX12_init 393 = .ok (.bipush 55, 2) := by decide +kernel
theorem dX12_init_395 : decode cX12_init 395 = .ok (.bipush 98, 2) := by decide +kernel
theorem dX12_init_397 : decode cX12_init 397 = .ok (.iastore, 1) := by decide +kernel
theorem dX12_init_398 : decode cX12_init 398 = .ok (.dup, 1) := by decide +kernel
theorem dX12_init_399 : decode cX12_init 399 = .ok (.bipush 56, 2) := by decide +kernel
theorem dX12_init_401 : decode cX12_init 401 = .ok (.bipush 97, 2) := by decide +kernel
theorem dX12_init_403 : decode cX12_init 403 = .ok (.iastore, 1) := by decide +kernel
theorem dX12_init_404 : decode cX12_init 404 = .ok (.dup, 1) := by decide +kernel
theorem dX12_init_405 : decode cX12_init 405 = .ok (.bipush 57, 2) := by decide +kernel
theorem dX12_init_407 : decode cX12_init 407 = .ok (.bipush 114, 2) := by decide +kernel
theorem dX12_init_409 : decode cX12_init 409 = .ok (.iastore, 1) := by decide +kernel
theorem dX12_init_410 : decode cX12_init 410 = .ok (.dup, 1) := by decide +kernel
theorem dX12_init_411 : decode cX12_init 411 = .ok (.bipush 58, 2) := by decide +kernel
theorem dX12_init_413 : decode cX12_init 413 = .ok (.bipush 32, 2) := by decide +kernel
theorem dX12_init_415 : decode cX12_init 415 = .ok (.iastore, 1) := by decide +kernel
theorem dX12_init_416 : decode cX12_init 416 = .ok (.dup, 1) := by decide +kernel
theorem dX12_init_417 : decode cX12_init 417 = .ok (.bipush 59, 2) := by decide +kernel
theorem dX12_init_419 : decode cX12_init 419 = .ok (.bipush 110, 2) := by decide +kernel
theorem dX12_init_421 : decode cX12_init 421 = .ok (.iastore, 1) := by decide +kernel
theorem dX12_init_422 : decode cX12_init 422 = .ok (.dup, 1) := by decide +kernel
theorem dX12_init_423 : decode cX12_init 423 = .ok (.bipush 60, 2) := by decide +kernel
theorem dX12_init_425 : decode cX12_init 425 = .ok (.bipush 111, 2) := by decide +kernel
theorem dX12_init_427 : decode cX12_init 427 = .ok (.iastore, 1) := by decide +kernel
theorem dX12_init_428 : decode cX12_init 428 = .ok (.dup, 1) := by decide +kernel
theorem dX12_init_429 : decode cX12_init 429 = .ok (.bipush 61, 2) := by decide +kernel
theorem dX12_init_431 : decode cX12_init 431 = .ok (.bipush 116, 2) := by decide +kernel
theorem dX12_init_433 : decode cX12_init 433 = .ok (.iastore, 1) := by decide +kernel
theorem dX12_init_434 : decode cX12_init 434 = .ok (.dup, 1) := by decide +kernel
theorem dX12_init_435 : decode cX12_init 435 = .ok (.bipush 62, 2) := by decide +kernel
theorem dX12_init_437 : decode cX12_init 437 = .ok (.bipush 101, 2) := by decide +kernel
theorem dX12_init_439 : decode cX12_init 439 = .ok (.iastore, 1) := by decide +kernel
theorem dX12_init_440 : decode cX12_init 440 = .ok (.dup, 1) := by decide +kernel
theorem dX12_init_441 : decode cX12_init 441 = .ok (.bipush 63, 2) := by decide +kernel
theorem dX12_init_443 : decode cX12_init 443 = .ok (.bipush 32, 2) := by decide +kernel
theorem dX12_init_445 : decode cX12_init 445 = .ok (.iastore, 1) := by decide +kernel
theorem dX12_init_446 : decode cX12_init 446 = .ok (.dup, 1) := by decide +kernel
theorem dX12_init_447 : decode cX12_init 447 = .ok (.bipush 64, 2) := by decide +kernel
theorem dX12_init_449 : decode cX12_init 449 = .ok (.bipush 114, 2) := by decide +kernel
theorem dX12_init_451 : decode cX12_init 451 = .ok (.iastore, 1) := by decide +kernel
theorem dX12_init_452 : decode cX12_init 452 = .ok (.dup, 1) := by decide +kernel
theorem dX12_init_453 : decode cX12_init 453 = .ok (.bipush 65, 2) := by decide +kernel
theorem dX12_init_455 : decode cX12_init 455 = .ok (.bipush 111, 2) := by decide +kernel
theorem dX12_init_457 : decode cX12_init 457 = .ok (.iastore, 1) := by decide +kernel
theorem dX12_init_458 : decode cX12_init 458 = .ok (.dup, 1) := by decide +kernel
theorem dX12_init_459 : decode cX12_init 459 = .ok (.bipush 66, 2) := by decide +kernel
theorem dX12_init_461 : decode cX12_init 461 = .ok (.bipush 111, 2) := by decide +kernel
theorem dX12_init_463 : decode cX12_init 463 = .ok (.iastore, 1) := by decide +kernel
theorem dX12_init_464 : decode cX12_init 464 = .ok (.dup, 1) := by decide +kernel
theorem dX12_init_465 : decode cX12_init 465 = .ok (.bipush 67, 2) := by decide +kernel
theorem dX12_init_467 : decode cX12_init 467 = .ok (.bipush 109, 2) := by decide +kernel
theorem dX12_init_469 : decode cX12_init 469 = .ok (.iastore, 1) := by decide +kernel
theorem dX12_init_470 : decode cX12_init 470 = .ok (.dup, 1) := by decide +kernel
theorem dX12_init_471 : decode cX12_init 471 = .ok (.bipush 68, 2) := by decide +kernel
theorem dX12_init_473 : decode cX12_init 473 = .ok (.bipush 32, 2) := by decide +kernel
theorem dX12_init_475 : decode cX12_init 475 = .ok (.iastore, 1) := by decide +kernel
theorem dX12_init_476 : decode cX12_init 476 = .ok (.dup, 1) := by decide +kernel
theorem dX12_init_477 : decode cX12_init 477 = .ok (.bipush 69, 2) := by decide +kernel
theorem dX12_init_479 : decode cX12_init 479 = .ok (.bipush 102, 2) := by decide +kernel
theorem dX12_init_481 : decode cX12_init 481 = .ok (.iastore, 1) := by decide +kernel
theorem dX12_init_482 : decode cX12_init 482 = .ok (.dup, 1) := by decide +kernel
theorem dX12_init_483 : decode cX12_init 483 = .ok (.bipush 70, 2) := by decide +kernel
theorem dX12_init_485 : decode cX12_init 485 = .ok (.bipush 97, 2) := by decide +kernel
theorem dX12_init_487 : decode cX12_init 487 = .ok (.iastore, 1) := by decide +kernel
theorem dX12_init_488 : decode cX12_init 488 = .ok (.dup, 1) := by decide +kernel
theorem dX12_init_489 : decode cX12_init 489 = .ok (.bipush 71, 2) := by decide +kernel
theorem dX12_init_491 : decode cX12_init 491 = .ok (.bipush 99, 2) := by decide +kernel
theorem dX12_init_493 : decode cX12_init 493 = .ok (.iastore, 1) := by decide +kernel
theorem dX12_init_494 : decode cX12_init 494 = .ok (.dup, 1) := by decide +kernel
theorem dX12_init_495 : decode cX12_init 495 = .ok (.bipush 72, 2) := by decide +kernel
theorem dX12_init_497 : decode cX12_init 497 = .ok (.bipush 116, 2) := by decide +kernel
theorem dX12_init_499 : decode cX12_init 499 = .ok (.iastore, 1) := by decide +kernel
theorem dX12_init_500 : decode cX12_init 500 = .ok (.dup, 1) := by decide +kernel
theorem dX12_init_501 : decode cX12_init 501 = .ok (.bipush 73, 2) := by decide +kernel
theorem dX12_init_503 : decode cX12_init 503 = .ok (.bipush 32, 2) := by decide +kernel
theorem dX12_init_505 : decode cX12_init 505 = .ok (.iastore, 1) := by decide +kernel
theorem dX12_init_506 : decode cX12_init 506 = .ok (.dup, 1) := by decide +kernel
theorem dX12_init_507 : decode cX12_init 507 = .ok (.bipush 74, 2) := by decide +kernel
theorem dX12_init_509 : decode cX12_init 509 = .ok (.bipush 118, 2) := by decide +kernel
theorem dX12_init_511 : decode cX12_init 511 = .ok (.iastore, 1) := by decide +kernel
theorem dX12_init_512 : decode cX12_init 512 = .ok (.dup, 1) := by decide +kernel
theorem dX12_init_513 : decode cX12_init 513 = .ok (.bipush 75, 2) := by decide +kernel
theorem dX12_init_515 : decode cX12_init 515 = .ok (.bipush 97, 2) := by decide +kernel
theorem dX12_init_517 : decode cX12_init 517 = .ok (.iastore, 1) := by decide +kernel
theorem dX12_init_518 : decode cX12_init 518 = .ok (.dup, 1) := by decide +kernel
theorem dX12_init_519 : decode cX12_init 519 = .ok (.bipush 76, 2) := by decide +kernel
theorem dX12_init_521 : decode cX12_init 521 = .ok (.bipush 108, 2) := by decide +kernel
theorem dX12_init_523 : decode cX12_init 523 = .ok (.iastore, 1) := by decide +kernel
theorem dX12_init_524 : decode cX12_init 524 = .ok (.dup, 1) := by decide +kernel
theorem dX12_init_525 : decode cX12_init 525 = .ok (.bipush 77, 2) := by decide +kernel
theorem dX12_init_527 : decode cX12_init 527 = .ok (.bipush 117, 2) := by decide +kernel
theorem dX12_init_529 : decode cX12_init 529 = .ok (.iastore, 1) := by decide +kernel
theorem dX12_init_530 : decode cX12_init 530 = .ok (.dup, 1) := by decide +kernel
theorem dX12_init_531 : decode cX12_init 531 = .ok (.bipush 78, 2) := by decide +kernel
theorem dX12_init_533 : decode cX12_init 533 = .ok (.bipush 101, 2) := by decide +kernel
theorem dX12_init_535 : decode cX12_init 535 = .ok (.iastore, 1) := by decide +kernel
theorem dX12_init_536 : decode cX12_init 536 = .ok (.dup, 1) := by decide +kernel
theorem dX12_init_537 : decode cX12_init 537 = .ok (.bipush 79, 2) := by decide +kernel
theorem dX12_init_539 : decode cX12_init 539 = .ok (.bipush 32, 2) := by decide +kernel
theorem dX12_init_541 : decode cX12_init 541 = .ok (.iastore, 1) := by decide +kernel
theorem dX12_init_542 : decode cX12_init 542 = .ok (.dup, 1) := by decide +kernel
theorem dX12_init_543 : decode cX12_init 543 = .ok (.bipush 80, 2) := by decide +kernel
theorem dX12_init_545 : decode cX12_init 545 = .ok (.bipush 100, 2) := by decide +kernel
theorem dX12_init_547 : decode cX12_init 547 = .ok (.iastore, 1) := by decide +kernel
theorem dX12_init_548 : decode cX12_init 548 = .ok (.dup, 1) := by decide +kernel
theorem dX12_init_549 : decode cX12_init 549 = .ok (.bipush 81, 2) := by decide +kernel
theorem dX12_init_551 : decode cX12_init 551 = .ok (.bipush 97, 2) := by decide +kernel
theorem dX12_init_553 : decode cX12_init 553 = .ok (.iastore, 1) := by decide +kernel
theorem dX12_init_554 : decode cX12_init 554 = .ok (.dup, 1) := by decide +kernel
theorem dX12_init_555 : decode cX12_init 555 = .ok (.bipush 82, 2) := by decide +kernel
theorem dX12_init_557 : decode cX12_init 557 = .ok (.bipush 121, 2) := by decide +kernel
theorem dX12_init_559 : decode cX12_init 559 = .ok (.iastore, 1) := by decide +kernel
theorem dX12_init_560 : decode cX12_init 560 = .ok (.dup, 1) := by decide +kernel
theorem dX12_init_561 : decode cX12_init 561 = .ok (.bipush 83, 2) := by decide +kernel
theorem dX12_init_563 : decode cX12_init 563 = .ok (.bipush 32, 2) := by decide +kernel
theorem dX12_init_565 : decode cX12_init 565 = .ok (.iastore, 1) := by decide +kernel
theorem dX12_init_566 : decode cX12_init 566 = .ok (.dup, 1) := by decide +kernel
theorem dX12_init_567 : decode cX12_init 567 = .ok (.bipush 84, 2) := by decide +kernel
theorem dX12_init_569 : decode cX12_init 569 = .ok (.bipush 115, 2) := by decide +kernel
theorem dX12_init_571 : decode cX12_init 571 = .ok (.iastore, 1) := by decide +kernel
theorem dX12_init_572 : decode cX12_init 572 = .ok (.dup, 1) := by decide +kernel
theorem dX12_init_573 : decode cX12_init 573 = .ok (.bipush 85, 2) := by decide +kernel
theorem dX12_init_575 : decode cX12_init 575 = .ok (.bipush 117, 2) := by decide +kernel
theorem dX12_init_577 : decode cX12_init 577 = .ok (.iastore, 1) := by decide +kernel
theorem dX12_init_578 : decode cX12_init 578 = .ok (.dup, 1) := by decide +kernel
theorem dX12_init_579 : decode cX12_init 579 = .ok (.bipush 86, 2) := by decide +kernel
theorem dX12_init_581 : decode cX12_init 581 = .ok (.bipush 110, 2) := by decide +kernel
theorem dX12_init_583 : decode cX12_init 583 = .ok (.iastore, 1) := by decide +kernel
theorem dX12_init_584 : decode cX12_init 584 = .ok (.dup, 1) := by decide +kernel
theorem dX12_init_585 : decode cX12_init 585 = .ok (.bipush 87, 2) := by decide +kernel
theorem dX12_init_587 : decode cX12_init 587 = .ok (.bipush 103, 2) := by decide +kernel
theorem dX12_init_589 : decode cX12_init 589 = .ok (.iastore, 1) := by decide +kernel
theorem dX12_init_590 : decode cX12_init 590 = .ok (.dup, 1) := by decide +kernel
theorem dX12_init_591 : decode cX12_init 591 = .ok (.bipush 88, 2) := by decide +kernel
theorem dX12_init_593 : decode cX12_init 593 = .ok (.bipush 32, 2) := by decide +kernel
theorem dX12_init_595 : decode cX12_init 595 = .ok (.iastore, 1) := by decide +kernel
theorem dX12_init_596 : decode cX12_init 596 = .ok (.dup, 1) := by decide +kernel
theorem dX12_init_597 : decode cX12_init 597 = .ok (.bipush 89, 2) := by decide +kernel
theorem dX12_init_599 : decode cX12_init 599 = .ok (.bipush 115, 2) := by decide +kernel
theorem dX12_init_601 : decode cX12_init 601 = .ok (.iastore, 1) := by decide +kernel
theorem dX12_init_602 : decode cX12_init 602 = .ok (.dup, 1) := by decide +kernel
theorem dX12_init_603 : decode cX12_init 603 = .ok (.bipush 90, 2) := by decide +kernel
theorem dX12_init_605 : decode cX12_init 605 = .ok (.bipush 108, 2) := by decide +kernel
theorem dX12_init_607 : decode cX12_init 607 = .ok (.iastore, 1) := by decide +kernel
theorem dX12_init_608 : decode cX12_init 608 = .ok (.dup, 1) := by decide +kernel
theorem dX12_init_609 : decode cX12_init 609 = .ok (.bipush 91, 2) := by decide +kernel
theorem dX12_init_611 : decode cX12_init 611 = .ok (.bipush 105, 2) := by decide +kernel
theorem dX12_init_613 : decode cX12_init 613 = .ok (.iastore, 1) := by decide +kernel
theorem dX12_init_614 : decode cX12_init 614 = .ok (.dup, 1) := by decide +kernel
theorem dX12_init_615 : decode cX12_init 615 = .ok (.bipush 92, 2) := by decide +kernel
theorem dX12_init_617 : decode cX12_init 617 = .ok (.bipush 112, 2) := by decide +kernel
theorem dX12_init_619 : decode cX12_init 619 = .ok (.iastore, 1) := by decide +kernel
theorem dX12_init_620 : decode cX12_init 620 = .ok (.dup, 1) := by decide +kernel
theorem dX12_init_621 : decode cX12_init 621 = .ok (.bipush 93, 2) := by decide +kernel
theorem dX12_init_623 : decode cX12_init 623 = .ok (.bipush 115, 2) := by decide +kernel
theorem dX12_init_625 : decode cX12_init 625 = .ok (.iastore, 1) := by decide +kernel
theorem dX12_init_626 : decode cX12_init 626 = .ok (.dup, 1) := by decide +kernel
theorem dX12_init_627 : decode cX12_init 627 = .ok (.bipush 94, 2) := by decide +kernel
theorem dX12_init_629 : decode cX12_init 629 = .ok (.bipush 32, 2) := by decide +kernel
theorem dX12_init_631 : decode cX12_init 631 = .ok (.iastore, 1) := by decide +kernel
theorem dX12_init_632 : decode cX12_init 632 = .ok (.dup, 1) := by decide +kernel
theorem dX12_init_633 : decode cX12_init 633 = .ok (.bipush 95, 2) := by decide +kernel
theorem dX12_init_635 : decode cX12_init 635 = .ok (.bipush 109, 2) := by decide +kernel
theorem dX12_init_637 : decode cX12_init 637 = .ok (.iastore, 1) := by decide +kernel
theorem dX12_init_638 : decode cX12_init 638 = .ok (.dup, 1) := by decide +kernel
theorem dX12_init_639 : decode cX12_init 639 = .ok (.bipush 96, 2) := by decide +kernel
theorem dX12_init_641 : decode cX12_init 641 = .ok (.bipush 111, 2) := by decide +kernel
theorem dX12_init_643 : decode cX12_init 643 = .ok (.iastore, 1) := by decide +kernel
theorem dX12_init_644 : decode cX12_init 644 = .ok (.dup, 1) := by decide +kernel
theorem dX12_init_645 : decode cX12_init 645 = .ok (.bipush 97, 2) := by decide +kernel
theorem dX12_init_647 : decode cX12_init 647 = .ok (.bipush 116, 2) := by decide +kernel
theorem dX12_init_649 : decode cX12_init 649 = .ok (.iastore, 1) := by decide +kernel
theorem dX12_init_650 : decode cX12_init 650 = .ok (.dup, 1) := by decide +kernel
theorem dX12_init_651 : decode cX12_init 651 = .ok (.bipush 98, 2) := by decide +kernel
theorem dX12_init_653 : decode cX12_init 653 = .ok (.bipush 105, 2) := by decide +kernel
theorem dX12_init_655 : decode cX12_init 655 = .ok (.iastore, 1) := by decide +kernel
theorem dX12_init_656 : decode cX12_init 656 = .ok (.dup, 1) := by decide +kernel
theorem dX12_init_657 : decode cX12_init 657 = .ok (.bipush 99, 2) := by decide +kernel
theorem dX12_init_659 : decode cX12_init 659 = .ok (.bipush 118, 2) := by decide +kernel
theorem dX12_init_661 : decode cX12_init 661 = .ok (.iastore, 1) := by decide +kernel
theorem dX12_init_662 : decode cX12_init 662 = .ok (.dup, 1) := by decide +kernel
theorem dX12_init_663 : decode cX12_init 663 = .ok (.bipush 100, 2) := by decide +kernel
theorem dX12_init_665 : decode cX12_init 665 = .ok (.bipush 101, 2) := by decide +kernel
theorem dX12_init_667 : decode cX12_init 667 = .ok (.iastore, 1) := by decide +kernel
theorem dX12_init_668 : decode cX12_init 668 = .ok (.dup, 1) := by decide +kernel
theorem dX12_init_669 : decode cX12_init 669 = .ok (.bipush 101, 2) := by decide +kernel
theorem dX12_init_671 : decode cX12_init 671 = .ok (.bipush 32, 2) := by decide +kernel
theorem dX12_init_673 : decode cX12_init 673 = .ok (.iastore, 1) := by decide +kernel
theorem dX12_init_674 : decode cX12_init 674 = .ok (.dup, 1) := by decide +kernel
theorem dX12_init_675 : decode cX12_init 675 = .ok (.bipush 102, 2) := by decide +kernel
theorem dX12_init_677 : decode cX12_init 677 = .ok (.bipush 117, 2) := by decide +kernel
theorem dX12_init_679 : decode cX12_init 679 = .ok (.iastore, 1) := by decide +kernel
theorem dX12_init_680 : decode cX12_init 680 = .ok (.dup, 1) := by decide +kernel
theorem dX12_init_681 : decode cX12_init 681 = .ok (.bipush 103, 2) := by decide +kernel
theorem dX12_init_683 : decode cX12_init 683 = .ok (.bipush 112, 2) := by decide +kernel
theorem dX12_init_685 : decode cX12_init 685 = .ok (.iastore, 1) := by decide +kernel
theorem dX12_init_686 : decode cX12_init 686 = .ok (.dup, 1) := by decide +kernel
theorem dX12_init_687 : decode cX12_init 687 = .ok (.bipush 104, 2) := by decide +kernel
theorem dX12_init_689 : decode cX12_init 689 = .ok (.bipush 32, 2) := by decide +kernel
theorem dX12_init_691 : decode cX12_init 691 = .ok (.iastore, 1) := by decide +kernel
theorem dX12_init_692 : decode cX12_init 692 = .ok (.dup, 1) := by decide +kernel
theorem dX12_init_693 : decode cX12_init 693 = .ok (.bipush 105, 2) := by decide +kernel
theorem dX12_init_695 : decode cX12_init 695 = .ok (.bipush 100, 2) := by decide +kernel
theorem dX12_init_697 : decode cX12_init 697 = .ok (.iastore, 1) := by decide +kernel
theorem dX12_init_698 : decode cX12_init 698 = .ok (.dup, 1) := by decide +kernel
theorem dX12_init_699 : decode cX12_init 699 = .ok (.bipush 106, 2) := by decide +kernel
theorem dX12_init_701 : decode cX12_init 701 = .ok (.bipush 111, 2) := by decide +kernel
theorem dX12_init_703 : decode cX12_init 703 = .ok (.iastore, 1) := by decide +kernel
theorem dX12_init_704 : decode cX12_init 704 = .ok (.dup, 1) := by decide +kernel
theorem dX12_init_705 : decode cX12_init 705 = .ok (.bipush 107, 2) := by decide +kernel
theorem dX12_init_707 : decode cX12_init 707 = .ok (.bipush 119, 2) := by decide +kernel
theorem dX12_init_709 : decode cX12_init 709 = .ok (.iastore, 1) := by decide +kernel
theorem dX12_init_710 : decode cX12_init 710 = .ok (.dup, 1) := by decide +kernel
theorem dX12_init_711 : decode cX12_init 711 = .ok (.bipush 108, 2) := by decide +kernel
theorem dX12_init_713 : decode cX12_init 713 = .ok (.bipush 110, 2) := by decide +kernel
theorem dX12_init_715 : decode cX12_init 715 = .ok (.iastore, 1) := by decide +kernel
theorem dX12_init_716 : decode cX12_init 716 = .ok (.dup, 1) := by decide +kernel
theorem dX12_init_717 : decode cX12_init 717 = .ok (.bipush 109, 2) := by decide +kernel
theorem dX12_init_719 : decode cX12_init 719 = .ok (.bipush 32, 2) := by decide +kernel
theorem dX12_init_721 : decode cX12_init 721 = .ok (.iastore, 1) := by decide +kernel
theorem dX12_init_722 : decode cX12_init 722 = .ok (.dup, 1) := by decide +kernel
theorem dX12_init_723 : decode cX12_init 723 = .ok (.bipush 110, 2) := by decide +kernel
theorem dX12_init_725 : decode cX12_init 725 = .ok (.bipush 115, 2) := by decide +kernel
theorem dX12_init_727 : decode cX12_init 727 = .ok (.iastore, 1) := by decide +kernel
theorem dX12_init_728 : decode cX12_init 728 = .ok (.dup, 1) := by decide +kernel
theorem dX12_init_729 : decode cX12_init 729 = .ok (.bipush 111, 2) := by decide +kernel
theorem dX12_init_731 : decode cX12_init 731 = .ok (.bipush 97, 2) := by decide +kernel
theorem dX12_init_733 : decode cX12_init 733 = .ok (.iastore, 1) := by decide +kernel
theorem dX12_init_734 : decode cX12_init 734 = .ok (.dup, 1) := by decide +kernel
theorem dX12_init_735 : decode cX12_init 735 = .ok (.bipush 112, 2) := by decide +kernel
theorem dX12_init_737 : decode cX12_init 737 = .ok (.bipush 109, 2) := by decide +kernel
theorem dX12_init_739 : decode cX12_init 739 = .ok (.iastore, 1) := by decide +kernel
theorem dX12_init_740 : decode cX12_init 740 = .ok (.dup, 1) := by decide +kernel
theorem dX12_init_741 : decode cX12_init 741 = .ok (.bipush 113, 2) := by decide +kernel
theorem dX12_init_743 : decode cX12_init 743 = .ok (.bipush 101, 2) := by decide +kernel
theorem dX12_init_745 : decode cX12_init 745 = .ok (.iastore, 1) := by decide +kernel
theorem dX12_init_746 : decode cX12_init 746 = .ok (.dup, 1) := by decide +kernel
theorem dX12_init_747 : decode cX12_init 747 = .ok (.bipush 114, 2) := by decide +kernel
theorem dX12_init_749 : decode cX12_init 749 = .ok (.bipush 32, 2) := by decide +kernel
theorem dX12_init_751 : decode cX12_init 751 = .ok (.iastore, 1) := by decide +kernel
theorem dX12_init_752 : decode cX12_init 752 = .ok (.dup, 1) := by decide +kernel
theorem dX12_init_753 : decode cX12_init 753 = .ok (.bipush 115, 2) := by decide +kernel
theorem dX12_init_755 : decode cX12_init 755 = .ok (.bipush 99, 2) := by decide +kernel
theorem dX12_init_757 : decode cX12_init 757 = .ok (.iastore, 1) := by decide +kernel
theorem dX12_init_758 : decode cX12_init 758 = .ok (.dup, 1) := by decide +kernel
theorem dX12_init_759 : decode cX12_init 759 = .ok (.bipush 116, 2) := by decide +kernel
theorem dX12_init_761 : decode cX12_init 761 = .ok (.bipush 97, 2) := by decide +kernel
theorem dX12_init_763 : decode cX12_init 763 = .ok (.iastore, 1) := by decide +kernel
theorem dX12_init_764 : decode cX12_init 764 = .ok (.dup, 1) := by decide +kernel
theorem dX12_init_765 : decode cX12_init 765 = .ok (.bipush 117, 2) := by decide +kernel
theorem dX12_init_767 : decode cX12_init 767 = .ok (.bipush 108, 2) := by decide +kernel
theorem dX12_init_769 : decode cX12_init 769 = .ok (.iastore, 1) := by decide +kernel
theorem dX12_init_770 : decode cX12_init 770 = .ok (.dup, 1) := by decide +kernel
theorem dX12_init_771 : decode cX12_init 771 = .ok (.bipush 118, 2) := by decide +kernel
theorem dX12_init_773 : decode cX12_init 773 = .ok (.bipush 108, 2) := by decide +kernel
theorem dX12_init_775 : decode cX12_init 775 = .ok (.iastore, 1) := by decide +kernel
theorem dX12_init_776 : decode cX12_init 776 = .ok (.dup, 1) := by decide +kernel
theorem dX12_init_777 : decode cX12_init 777 = .ok (.bipush 119, 2) := by decide +kernel
theorem dX12_init_779 : decode cX12_init 779 = .ok (.bipush 32, 2) := by decide +kernel
theorem dX12_init_781 : decode cX12_init 781 = .ok (.iastore, 1) := by decide +kernel
theorem dX12_init_782 : decode cX12_init 782 = .ok (.dup, 1) := by decide +kernel
theorem dX12_init_783 : decode cX12_init 783 = .ok (.bipush 120, 2) := by decide +kernel
theorem dX12_init_785 : decode cX12_init 785 = .ok (.bipush 111, 2) := by decide +kernel
theorem dX12_init_787 : decode cX12_init 787 = .ok (.iastore, 1) := by decide +kernel
theorem dX12_init_788 : decode cX12_init 788 = .ok (.dup, 1) := by decide +kernel
theorem dX12_init_789 : decode cX12_init 789 = .ok (.bipush 121, 2) := by decide +kernel
theorem dX12_init_791 : decode cX12_init 791 = .ok (.bipush 110, 2) := by decide +kernel
theorem dX12_init_793 : decode cX12_init 793 = .ok (.iastore, 1) := by decide +kernel
theorem dX12_init_794 : decode cX12_init 794 = .ok (.dup, 1) := by decide +kernel
theorem dX12_init_795 : decode cX12_init 795 = .ok (.bipush 122, 2) := by decide +kernel
theorem dX12_init_797 : decode cX12_init 797 = .ok (.bipush 32, 2) := by decide +kernel
theorem dX12_init_799 : decode cX12_init 799 = .ok (.iastore, 1) := by decide +kernel
theorem dX12_init_800 : decode cX12_init 800 = .ok (.dup, 1) := by decide +kernel
theorem dX12_init_801 : decode cX12_init 801 = .ok (.bipush 123, 2) := by decide +kernel
theorem dX12_init_803 : decode cX12_init 803 = .ok (.bipush 105, 2) := by decide +kernel
theorem dX12_init_805 : decode cX12_init 805 = .ok (.iastore, 1) := by decide +kernel
theorem dX12_init_806 : decode cX12_init 806 = .ok (.dup, 1) := by decide +kernel
theorem dX12_init_807 : decode cX12_init 807 = .ok (.bipush 124, 2) := by decide +kernel
theorem dX12_init_809 : decode cX12_init 809 = .ok (.bipush 110, 2) := by decide +kernel
theorem dX12_init_811 : decode cX12_init 811 = .ok (.iastore, 1) := by decide +kernel
theorem dX12_init_812 : decode cX12_init 812 = .ok (.dup, 1) := by decide +kernel
theorem dX12_init_813 : decode cX12_init 813 = .ok (.bipush 125, 2) := by decide +kernel
theorem dX12_init_815 : decode cX12_init 815 = .ok (.bipush 32, 2) := by decide +kernel
theorem dX12_init_817 : decode cX12_init 817 = .ok (.iastore, 1) := by decide +kernel
theorem dX12_init_818 : decode cX12_init 818 = .ok (.dup, 1) := by decide +kernel
theorem dX12_init_819 : decode cX12_init 819 = .ok (.bipush 126, 2) := by decide +kernel
theorem dX12_init_821 : decode cX12_init 821 = .ok (.bipush 99, 2) := by decide +kernel
theorem dX12_init_823 : decode cX12_init 823 = .ok (.iastore, 1) := by decide +kernel
theorem dX12_init_824 : decode cX12_init 824 = .ok (.dup, 1) := by decide +kernel
theorem dX12_init_825 : decode cX12_init 825 = .ok (.bipush 127, 2) := by decide +kernel
theorem dX12_init_827 : decode cX12_init 827 = .ok (.bipush 114, 2) := by decide +kernel
theorem dX12_init_829 : decode cX12_init 829 = .ok (.iastore, 1) := by decide +kernel
theorem dX12_init_830 : decode cX12_init 830 = .ok (.dup, 1) := by decide +kernel
theorem dX12_init_831 : decode cX12_init 831 = .ok (.sipush 128, 3) := by decide +kernel
theorem dX12_init_834 : decode cX12_init 834 = .ok (.bipush 111, 2) := by decide +kernel
theorem dX12_init_836 : decode cX12_init 836 = .ok (.iastore, 1) := by decide +kernel
theorem dX12_init_837 : decode cX12_init 837 = .ok (.dup, 1) := by decide +kernel
theorem dX12_init_838 : decode cX12_init 838 = .ok (.sipush 129, 3) := by decide +kernel
theorem dX12_init_841 : decode cX12_init 841 = .ok (.bipush 115, 2) := by decide +kernel
theorem dX12_init_843 : decode cX12_init 843 = .ok (.iastore, 1) := by decide +kernel
theorem dX12_init_844 : decode cX12_init 844 = .ok (.dup, 1) := by decide +kernel
theorem dX12_init_845 : decode cX12_init 845 = .ok (.sipush 130, 3) := by decide +kernel
theorem dX12_init_848 : decode cX12_init 848 = .ok (.bipush 115, 2) := by decide +kernel
theorem dX12_init_850 : decode cX12_init 850 = .ok (.iastore, 1) := by decide +kernel
theorem dX12_init_851 : decode cX12_init 851 = .ok (.dup, 1) := by decide +kernel
theorem dX12_init_852 : decode cX12_init 852 = .ok (.sipush 131, 3) := by decide +kernel
theorem dX12_init_855 : decode cX12_init 855 = .ok (.bipush 32, 2) := by decide +kernel
theorem dX12_init_857 : decode cX12_init 857 = .ok (.iastore, 1) := by decide +kernel
theorem dX12_init_858 : decode cX12_init 858 = .ok (.dup, 1) := by decide +kernel
theorem dX12_init_859 : decode cX12_init 859 = .ok (.sipush 132, 3) := by decide +kernel
theorem dX12_init_862 : decode cX12_init 862 = .ok (.bipush 114, 2) := by decide +kernel
theorem dX12_init_864 : decode cX12_init 864 = .ok (.iastore, 1) := by decide +kernel
theorem dX12_init_865 : decode cX12_init 865 = .ok (.dup, 1) := by decide +kernel
theorem dX12_init_866 : decode cX12_init 866 = .ok (.sipush 133, 3) := by decide +kernel
theorem dX12_init_869 : decode cX12_init 869 = .ok (.bipush 101, 2) := by decide +kernel
theorem dX12_init_871 : decode cX12_init 871 = .ok (.iastore, 1) := by decide +kernel
theorem dX12_init_872 : decode cX12_init 872 = .ok (.dup, 1) := by decide +kernel
theorem dX12_init_873 : decode cX12_init 873 = .ok (.sipush 134, 3) := by decide +kernel
theorem dX12_init_876 : decode cX12_init 876 = .ok (.bipush 115, 2) := by decide +kernel
theorem dX12_init_878 : decode cX12_init 878 = .ok (.iastore, 1) := by decide +kernel
theorem dX12_init_879 : decode cX12_init 879 = .ok (.dup, 1) := by decide +kernel
theorem dX12_init_880 : decode cX12_init 880 = .ok (.sipush 135, 3) := by decide +kernel
theorem dX12_init_883 : decode cX12_init 883 = .ok (.bipush 116, 2) := by decide +kernel
theorem dX12_init_885 : decode cX12_init 885 = .ok (.iastore, 1) := by decide +kernel
theorem dX12_init_886 : decode cX12_init 886 = .ok (.dup, 1) := by decide +kernel
theorem dX12_init_887 : decode cX12_init 887 = .ok (.sipush 136, 3) := by decide +kernel
theorem dX12_init_890 : decode cX12_init 890 = .ok (.bipush 32, 2) := by decide +kernel
theorem dX12_init_892 : decode cX12_init 892 = .ok (.iastore, 1) := by decide +kernel
theorem dX12_init_893 : decode cX12_init 893 = .ok (.dup, 1) := by decide +kernel
theorem dX12_init_894 : decode cX12_init 894 = .ok (.sipush 137, 3) := by decide +kernel
theorem dX12_init_897 : decode cX12_init 897 = .ok (.bipush 97, 2) := by decide +kernel
theorem dX12_init_899 : decode cX12_init 899 = .ok (.iastore, 1) := by decide +kernel
theorem dX12_init_900 : decode cX12_init 900 = .ok (.dup, 1) := by decide +kernel
theorem dX12_init_901 : decode cX12_init 901 = .ok (.sipush 138, 3) := by decide +kernel
theorem dX12_init_904 : decode cX12_init 904 = .ok (.bipush 103, 2) := by decide +kernel
theorem dX12_init_906 : decode cX12_init 906 = .ok (.iastore, 1) := by decide +kernel
theorem dX12_init_907 : decode cX12_init 907 = .ok (.dup, 1) := by decide +kernel
theorem dX12_init_908 : decode cX12_init 908 = .ok (.sipush 139, 3) := by decide +kernel
theorem dX12_init_911 : decode cX12_init 911 = .ok (.bipush 97, 2) := by decide +kernel
theorem dX12_init_913 : decode cX12_init 913 = .ok (.iastore, 1) := by decide +kernel
theorem dX12_init_914 : decode cX12_init 914 = .ok (.dup, 1) := by decide +kernel
theorem dX12_init_915 : decode cX12_init 915 = .ok (.sipush 140, 3) := by decide +kernel
theorem dX12_init_918 : decode cX12_init 918 = .ok (.bipush 105, 2) := by decide +kernel
theorem dX12_init_920 : decode cX12_init 920 = .ok (.iastore, 1) := by decide +kernel
theorem dX12_init_921 : decode cX12_init 921 = .ok (.dup, 1) := by decide +kernel
theorem dX12_init_922 : decode cX12_init 922 = .ok (.sipush 141, 3) := by decide +kernel
theorem dX12_init_925 : decode cX12_init 925 = .ok (.bipush 110, 2) := by decide +kernel
theorem dX12_init_927 : decode cX12_init 927 = .ok (.iastore, 1) := by decide +kernel
theorem dX12_init_928 : decode cX12_init 928 = .ok (.dup, 1) := by decide +kernel
theorem dX12_init_929 : decode cX12_init 929 = .ok (.sipush 142, 3) := by decide +kernel
theorem dX12_init_932 : decode cX12_init 932 = .ok (.bipush 32, 2) := by decide +kernel
theorem dX12_init_934 : decode cX12_init 934 = .ok (.iastore, 1) := by decide +kernel
theorem dX12_init_935 : decode cX12_init 935 = .ok (.putfield 31, 3) := by decide +kernel
theorem dX12_init_938 : decode cX12_init 938 = .ok (.aload_n 0, 1) := by decide +kernel
theorem dX12_init_939 : decode cX12_init 939 = .ok (.iconst 2, 1) := by decide +kernel
theorem dX12_init_940 : decode cX12_init 940 = .ok (.newarray .int, 2) := by decide +kernel
theorem dX12_init_942 : decode cX12_init 942 = .ok (.putfield 34, 3) := by decide +kernel
theorem dX12_init_945 : decode cX12_init 945 = .ok (.aload_n 0, 1) := by decide +kernel
theorem dX12_init_946 : decode cX12_init 946 = .ok (.bipush 48, 2) := by decide +kernel
theorem dX12_init_948 : decode cX12_init 948 = .ok (.newarray .int, 2) := by decide +kernel
theorem dX12_init_950 : decode cX12_init 950 = .ok (.putfield 37, 3) := by decide +kernel
theorem dX12_init_953 : decode cX12_init 953 = .ok (.aload_n 0, 1) := by decide +kernel
theorem dX12_init_954 : decode cX12_init 954 = .ok (.bipush 48, 2) := by decide +kernel
theorem dX12_init_956 : decode cX12_init 956 = .ok (.newarray .int, 2) := by decide +kernel
theorem dX12_init_958 : decode cX12_init 958 = .ok (.putfield 40, 3) := by decide +kernel
theorem dX12_init_961 : decode cX12_init 961 = .ok (.aload_n 0, 1) := by decide +kernel
theorem dX12_init_962 : decode cX12_init 962 = .ok (.bipush 48, 2) := by decide +kernel
theorem dX12_init_964 : decode cX12_init 964 = .ok (.newarray .int, 2) := by decide +kernel
theorem dX12_init_966 : decode cX12_init 966 = .ok (.putfield 43, 3) := by decide +kernel
theorem dX12_init_969 : decode cX12_init 969 = .ok (.aload_n 0, 1) := by decide +kernel
theorem dX12_init_970 : decode cX12_init 970 = .ok (.bipush 48, 2) := by decide +kernel
theorem dX12_init_972 : decode cX12_init 972 = .ok (.newarray .int, 2) := by decide +kernel
theorem dX12_init_974 : decode cX12_init 974 = .ok (.putfield 46, 3) := by decide +kernel
theorem dX12_init_977 : decode cX12_init 977 = .ok (.aload_n 0, 1) := by decide +kernel
theorem dX12_init_978 : decode cX12_init 978 = .ok (.sipush 1200, 3) := by decide +kernel
theorem dX12_init_981 : decode cX12_init 981 = .ok (.newarray .int, 2) := by decide +kernel
theorem dX12_init_983 : decode cX12_init 983 = .ok (.putfield 49, 3) := by decide +kernel
theorem dX12_init_986 : decode cX12_init 986 = .ok (.aload_n 0, 1) := by decide +kernel
theorem dX12_init_987 : decode cX12_init 987 = .ok (.sipush 1200, 3) := by decide +kernel
theorem dX12_init_990 : decode cX12_init 990 = .ok (.newarray .int, 2) := by decide +kernel
theorem dX12_init_992 : decode cX12_init 992 = .ok (.putfield 52, 3) := by decide +kernel
theorem dX12_init_995 : decode cX12_init 995 = .ok (.aload_n 0, 1) := by decide +kernel
theorem dX12_init_996 : decode cX12_init 996 = .ok (.bipush 40, 2) := by decide +kernel
theorem dX12_init_998 : decode cX12_init 998 = .ok (.newarray .int, 2) := by decide +kernel
theorem dX12_init_1000 : decode cX12_init 1000 = .ok (.putfield 55, 3) := by decide +kernel
theorem dX12_init_1003 : decode cX12_init 1003 = .ok (.aload_n 0, 1) := by decide +kernel
theorem dX12_init_1004 : decode cX12_init 1004 = .ok (.iconst (-1), 1) := by decide +kernel
theorem dX12_init_1005 : decode cX12_init 1005 = .ok (.putfield 58, 3) := by decide +kernel
theorem dX12_init_1008 : decode cX12_init 1008 = .ok (.aload_n 0, 1) := by decide +kernel
theorem dX12_init_1009 : decode cX12_init 1009 = .ok (.sipush 384, 3) := by decide +kernel
theorem dX12_init_1012 : decode cX12_init 1012 = .ok (.newarray .int, 2) := by decide +kernel
theorem dX12_init_1014 : decode cX12_init 1014 = .ok (.putfield 62, 3) := by decide +kernel
theorem dX12_init_1017 : decode cX12_init 1017 = .ok (.aload_n 0, 1) := by decide +kernel
theorem dX12_init_1018 : decode cX12_init 1018 = .ok (.sipush 800, 3) := by decide +kernel
theorem dX12_init_1021 : decode cX12_init 1021 = .ok (.newarray .int, 2) := by decide +kernel
theorem dX12_init_1023 : decode cX12_init 1023 = .ok (.putfield 65, 3) := by decide +kernel
theorem dX12_init_1026 : decode cX12_init 1026 = .ok (.aload_n 0, 1) := by decide +kernel
theorem dX12_init_1027 : decode cX12_init 1027 = .ok (.sipush 480, 3) := by decide +kernel
theorem dX12_init_1030 : decode cX12_init 1030 = .ok (.newarray .int, 2) := by decide +kernel
theorem dX12_init_1032 : decode cX12_init 1032 = .ok (.putfield 68, 3) := by decide +kernel
theorem dX12_init_1035 : decode cX12_init 1035 = .ok (.aload_n 0, 1) := by decide +kernel
theorem dX12_init_1036 : decode cX12_init 1036 = .ok (.iconst 4, 1) := by decide +kernel
theorem dX12_init_1037 : decode cX12_init 1037 = .ok (.newarray .int, 2) := by decide +kernel
theorem dX12_init_1039 : decode cX12_init 1039 = .ok (.putfield 71, 3) := by decide +kernel
theorem dX12_init_1042 : decode cX12_init 1042 = .ok (.aload_n 0, 1) := by decide +kernel
theorem dX12_init_1043 : decode cX12_init 1043 = .ok (.iconst 4, 1) := by decide +kernel
theorem dX12_init_1044 : decode cX12_init 1044 = .ok (.newarray .int, 2) := by decide +kernel
theorem dX12_init_1046 : decode cX12_init 1046 = .ok (.putfield 74, 3) := by decide +kernel
theorem dX12_init_1049 : decode cX12_init 1049 = .ok (.aload_n 0, 1) := by decide +kernel
theorem dX12_init_1050 : decode cX12_init 1050 = .ok (.bipush 11, 2) := by decide +kernel
theorem dX12_init_1052 : decode cX12_init 1052 = .ok (.newarray .int, 2) := by decide +kernel
theorem dX12_init_1054 : decode cX12_init 1054 = .ok (.putfield 77, 3) := by decide +kernel
theorem dX12_init_1057 : decode cX12_init 1057 = .ok (.aload_n 0, 1) := by decide +kernel
theorem dX12_init_1058 : decode cX12_init 1058 = .ok (.sipush 420, 3) := by decide +kernel
theorem dX12_init_1061 : decode cX12_init 1061 = .ok (.newarray .int, 2) := by decide +kernel
theorem dX12_init_1063 : decode cX12_init 1063 = .ok (.putfield 80, 3) := by decide +kernel
theorem dX12_init_1066 : decode cX12_init 1066 = .ok (.aload_n 0, 1) := by decide +kernel
theorem dX12_init_1067 : decode cX12_init 1067 = .ok (.bipush 120, 2) := by decide +kernel
theorem dX12_init_1069 : decode cX12_init 1069 = .ok (.newarray .int, 2) := by decide +kernel
theorem dX12_init_1071 : decode cX12_init 1071 = .ok (.putfield 83, 3) := by decide +kernel
theorem dX12_init_1074 : decode cX12_init 1074 = .ok (.aload_n 0, 1) := by decide +kernel
theorem dX12_init_1075 : decode cX12_init 1075 = .ok (.sipush 200, 3) := by decide +kernel
theorem dX12_init_1078 : decode cX12_init 1078 = .ok (.newarray .int, 2) := by decide +kernel
theorem dX12_init_1080 : decode cX12_init 1080 = .ok (.putfield 86, 3) := by decide +kernel
theorem dX12_init_1083 : decode cX12_init 1083 = .ok (.aload_n 0, 1) := by decide +kernel
theorem dX12_init_1084 : decode cX12_init 1084 = .ok (.sipush 600, 3) := by decide +kernel
theorem dX12_init_1087 : decode cX12_init 1087 = .ok (.newarray .int, 2) := by decide +kernel
theorem dX12_init_1089 : decode cX12_init 1089 = .ok (.putfield 89, 3) := by decide +kernel
theorem dX12_init_1092 : decode cX12_init 1092 = .ok (.aload_n 0, 1) := by decide +kernel
theorem dX12_init_1093 : decode cX12_init 1093 = .ok (.bipush 10, 2) := by decide +kernel
theorem dX12_init_1095 : decode cX12_init 1095 = .ok (.newarray .int, 2) := by decide +kernel
theorem dX12_init_1097 : decode cX12_init 1097 = .ok (.putfield 92, 3) := by decide +kernel
theorem dX12_init_1100 : decode cX12_init 1100 = .ok (.aload_n 0, 1) := by decide +kernel
theorem dX12_init_1101 : decode cX12_init 1101 = .ok (.bipush 12, 2) := by decide +kernel
theorem dX12_init_1103 : decode cX12_init 1103 = .ok (.newarray .int, 2) := by decide +kernel
theorem dX12_init_1105 : decode cX12_init 1105 = .ok (.putfield 95, 3) := by decide +kernel
theorem dX12_init_1108 : decode cX12_init 1108 = .ok (.aload_n 0, 1) := by decide +kernel
theorem dX12_init_1109 : decode cX12_init 1109 = .ok (.bipush 24, 2) := by decide +kernel
theorem dX12_init_1111 : decode cX12_init 1111 = .ok (.newarray .int, 2) := by decide +kernel
theorem dX12_init_1113 : decode cX12_init 1113 = .ok (.putfield 98, 3) := by decide +kernel
theorem dX12_init_1116 : decode cX12_init 1116 = .ok (.aload_n 0, 1) := by decide +kernel
theorem dX12_init_1117 : decode cX12_init 1117 = .ok (.sipush 2700, 3) := by decide +kernel
theorem dX12_init_1120 : decode cX12_init 1120 = .ok (.newarray .int, 2) := by decide +kernel
theorem dX12_init_1122 : decode cX12_init 1122 = .ok (.putfield 101, 3) := by decide +kernel
theorem dX12_init_1125 : decode cX12_init 1125 = .ok (.return_, 1) := by decide +kernel
def wX12 (g : jc_G) (f : Nat → Int32) (ad : Nat → Nat) : va_W := [(ad 0, .inr (12, [.int 0, .ref (ad 1), .ref (ad 2), .int 0, .int 0, .ref (ad 3), .ref (ad 4), .ref (ad 5), .ref (ad 6), .int 0, .int 0, .int 0, .ref (ad 7), .int 0, .int 0, .int 0, .int 0, .int 0, .ref (ad 8), .ref (ad 9), .ref (ad 10), .ref (ad 11), .ref (ad 12), .ref (ad 13), .ref (ad 14), .ref (ad 15), .int 0, .int 0, .int 0, .ref (ad 16), .int 0, .int 0, .int 0, .int 0, .int (-1), .int 0, .ref (ad 17), .ref (ad 18), .int 0, .int 0, .ref (ad 19), .ref (ad 20), .ref (ad 21), .ref (ad 22), .ref (ad 23), .ref (ad 24), .ref (ad 25), .ref (ad 26), .int 0, .int 0, .int 0, .ref (ad 27), .int 0, .ref (ad 28), .ref (ad 29), .int 0, .int 0, .int 0, .ref (ad 30)])), (ad 1, .inl (g.2.1, 22, .inl (fun _ => 0))), (ad 2, .inl (g.2.1, 132, .inl (fun _ => 0))), (ad 3, .inl (g.2.1, 8, .inl (fun _ => 0))), (ad 4, .inl (g.2.1, 8, .inl (fun _ => 0))), (ad 5, .inl (g.2.1, 8, .inl (fun _ => 0))), (ad 6, .inl (g.2.1, 48, .inl (fun _ => 0))), (ad 7, .inl (g.2.1, 400, .inl (fun _ => 0))), (ad 8, .inl (g.2.1, 143, .inl f)), (ad 9, .inl (g.2.1, 2, .inl (fun _ => 0))), (ad 10, .inl (g.2.1, 48, .inl (fun _ => 0))), (ad 11, .inl (g.2.1, 48, .inl (fun _ => 0))), (ad 12, .inl (g.2.1, 48, .inl (fun _ => 0))), (ad 13, .inl (g.2.1, 48, .inl (fun _ => 0))), (ad 14, .inl (g.2.1, 1200, .inl (fun _ => 0))), (ad 15, .inl (g.2.1, 1200, .inl (fun _ => 0))), (ad 16, .inl (g.2.1, 40, .inl (fun _ => 0))), (ad 17, .inl (g.2.1, 384, .inl (fun _ => 0))), (ad 18, .inl (g.2.1, 800, .inl (fun _ => 0))), (ad 19, .inl (g.2.1, 480, .inl (fun _ => 0))), (ad 20, .inl (g.2.1, 4, .inl (fun _ => 0))), (ad 21, .inl (g.2.1, 4, .inl (fun _ => 0))), (ad 22, .inl (g.2.1, 11, .inl (fun _ => 0))), (ad 23, .inl (g.2.1, 420, .inl (fun _ => 0))), (ad 24, .inl (g.2.1, 120, .inl (fun _ => 0))), (ad 25, .inl (g.2.1, 200, .inl (fun _ => 0))), (ad 26, .inl (g.2.1, 600, .inl (fun _ => 0))), (ad 27, .inl (g.2.1, 10, .inl (fun _ => 0))), (ad 28, .inl (g.2.1, 12, .inl (fun _ => 0))), (ad 29, .inl (g.2.1, 24, .inl (fun _ => 0))), (ad 30, .inl (g.2.1, 2700, .inl (fun _ => 0)))]
set_option maxRecDepth 100000 in
set_option maxHeartbeats 8000000 in
theorem kX12 (h0 : Nat) : jc_R l g 4 30 9172 iX12_init [.ref h0] [(h0, .inr (12, dvX12))] (fun w => ∃ (ad : Nat → Nat) (f : Nat → Int32), ad 0 = h0 ∧ (∀ t, t < 143 → f t = Int32.ofInt (wGl t)) ∧ w = wX12 g f ad) := by
  refine jc_enter [(0, .ref h0)] (by decide) rfl (Nat.le_of_ble_eq_true rfl) rfl rfl ?_
  refine jc_aload_n (pc := 0) 0 dX12_init_0 rfl ?_
  refine jc_obj (pc := 1) dX12_init_1 oiX12_1 oiI oiC (by decide) ?_
  refine jc_aload_n (pc := 4) 0 dX12_init_4 rfl ?_
  refine jc_bipush (pc := 5) 22 dX12_init_5 (by decide) ?_
  refine jc_newi (pc := 7) 22 dX12_init_7 acI (by decide) (by decide) (by decide) (by decide) (by decide) (fun a1 => ?_)
  refine jc_to (ws' := [(h0, .inr (12, [.int 0, .null, .null, .int 0, .int 0, .null, .null, .null, .null, .int 0, .int 0, .int 0, .null, .int 0, .int 0, .int 0, .int 0, .int 0, .null, .null, .null, .null, .null, .null, .null, .null, .int 0, .int 0, .int 0, .null, .int 0, .int 0, .int 0, .int 0, .int 0, .int 0, .null, .null, .int 0, .int 0, .null, .null, .null, .null, .null, .null, .null, .null, .int 0, .int 0, .int 0, .null, .int 0, .null, .null, .int 0, .int 0, .int 0, .null])), (a1, .inl (g.2.1, 22, .inl (fun _ => 0)))]) rfl ?_
  refine jc_put (pc := 9) (ws' := [(h0, .inr (12, [.int 0, .ref a1, .null, .int 0, .int 0, .null, .null, .null, .null, .int 0, .int 0, .int 0, .null, .int 0, .int 0, .int 0, .int 0, .int 0, .null, .null, .null, .null, .null, .null, .null, .null, .int 0, .int 0, .int 0, .null, .int 0, .int 0, .int 0, .int 0, .int 0, .int 0, .null, .null, .int 0, .int 0, .null, .null, .null, .null, .null, .null, .null, .null, .int 0, .int 0, .int 0, .null, .int 0, .null, .null, .int 0, .int 0, .int 0, .null])), (a1, .inl (g.2.1, 22, .inl (fun _ => 0)))]) 0 1 dX12_init_9 fkX12_7 ftX12 (fun q h => by cases h; exact Or.inr ⟨rfl, rfl⟩) rfl rfl rfl (Nat.le_of_ble_eq_true rfl) rfl ?_
  refine jc_aload_n (pc := 12) 0 dX12_init_12 rfl ?_
  refine jc_sipush (pc := 13) 132 dX12_init_13 (by decide) ?_
  refine jc_newi (pc := 16) 132 dX12_init_16 acI (by decide) (by decide) (by decide) (by decide) (by decide) (fun a2 => ?_)
  refine jc_to (ws' := [(h0, .inr (12, [.int 0, .ref a1, .null, .int 0, .int 0, .null, .null, .null, .null, .int 0, .int 0, .int 0, .null, .int 0, .int 0, .int 0, .int 0, .int 0, .null, .null, .null, .null, .null, .null, .null, .null, .int 0, .int 0, .int 0, .null, .int 0, .int 0, .int 0, .int 0, .int 0, .int 0, .null, .null, .int 0, .int 0, .null, .null, .null, .null, .null, .null, .null, .null, .int 0, .int 0, .int 0, .null, .int 0, .null, .null, .int 0, .int 0, .int 0, .null])), (a1, .inl (g.2.1, 22, .inl (fun _ => 0))), (a2, .inl (g.2.1, 132, .inl (fun _ => 0)))]) rfl ?_
  refine jc_put (pc := 18) (ws' := [(h0, .inr (12, [.int 0, .ref a1, .ref a2, .int 0, .int 0, .null, .null, .null, .null, .int 0, .int 0, .int 0, .null, .int 0, .int 0, .int 0, .int 0, .int 0, .null, .null, .null, .null, .null, .null, .null, .null, .int 0, .int 0, .int 0, .null, .int 0, .int 0, .int 0, .int 0, .int 0, .int 0, .null, .null, .int 0, .int 0, .null, .null, .null, .null, .null, .null, .null, .null, .int 0, .int 0, .int 0, .null, .int 0, .null, .null, .int 0, .int 0, .int 0, .null])), (a1, .inl (g.2.1, 22, .inl (fun _ => 0))), (a2, .inl (g.2.1, 132, .inl (fun _ => 0)))]) 0 2 dX12_init_18 fkX12_13 ftX12 (fun q h => by cases h; exact Or.inr ⟨rfl, rfl⟩) rfl rfl rfl (Nat.le_of_ble_eq_true rfl) rfl ?_
  refine jc_aload_n (pc := 21) 0 dX12_init_21 rfl ?_
  refine jc_bipush (pc := 22) 8 dX12_init_22 (by decide) ?_
  refine jc_newi (pc := 24) 8 dX12_init_24 acI (by decide) (by decide) (by decide) (by decide) (by decide) (fun a3 => ?_)
  refine jc_to (ws' := [(h0, .inr (12, [.int 0, .ref a1, .ref a2, .int 0, .int 0, .null, .null, .null, .null, .int 0, .int 0, .int 0, .null, .int 0, .int 0, .int 0, .int 0, .int 0, .null, .null, .null, .null, .null, .null, .null, .null, .int 0, .int 0, .int 0, .null, .int 0, .int 0, .int 0, .int 0, .int 0, .int 0, .null, .null, .int 0, .int 0, .null, .null, .null, .null, .null, .null, .null, .null, .int 0, .int 0, .int 0, .null, .int 0, .null, .null, .int 0, .int 0, .int 0, .null])), (a1, .inl (g.2.1, 22, .inl (fun _ => 0))), (a2, .inl (g.2.1, 132, .inl (fun _ => 0))), (a3, .inl (g.2.1, 8, .inl (fun _ => 0)))]) rfl ?_
  refine jc_put (pc := 26) (ws' := [(h0, .inr (12, [.int 0, .ref a1, .ref a2, .int 0, .int 0, .ref a3, .null, .null, .null, .int 0, .int 0, .int 0, .null, .int 0, .int 0, .int 0, .int 0, .int 0, .null, .null, .null, .null, .null, .null, .null, .null, .int 0, .int 0, .int 0, .null, .int 0, .int 0, .int 0, .int 0, .int 0, .int 0, .null, .null, .int 0, .int 0, .null, .null, .null, .null, .null, .null, .null, .null, .int 0, .int 0, .int 0, .null, .int 0, .null, .null, .int 0, .int 0, .int 0, .null])), (a1, .inl (g.2.1, 22, .inl (fun _ => 0))), (a2, .inl (g.2.1, 132, .inl (fun _ => 0))), (a3, .inl (g.2.1, 8, .inl (fun _ => 0)))]) 0 5 dX12_init_26 fkX12_16 ftX12 (fun q h => by cases h; exact Or.inr ⟨rfl, rfl⟩) rfl rfl rfl (Nat.le_of_ble_eq_true rfl) rfl ?_
  refine jc_aload_n (pc := 29) 0 dX12_init_29 rfl ?_
  refine jc_bipush (pc := 30) 8 dX12_init_30 (by decide) ?_
  refine jc_newi (pc := 32) 8 dX12_init_32 acI (by decide) (by decide) (by decide) (by decide) (by decide) (fun a4 => ?_)
  refine jc_to (ws' := [(h0, .inr (12, [.int 0, .ref a1, .ref a2, .int 0, .int 0, .ref a3, .null, .null, .null, .int 0, .int 0, .int 0, .null, .int 0, .int 0, .int 0, .int 0, .int 0, .null, .null, .null, .null, .null, .null, .null, .null, .int 0, .int 0, .int 0, .null, .int 0, .int 0, .int 0, .int 0, .int 0, .int 0, .null, .null, .int 0, .int 0, .null, .null, .null, .null, .null, .null, .null, .null, .int 0, .int 0, .int 0, .null, .int 0, .null, .null, .int 0, .int 0, .int 0, .null])), (a1, .inl (g.2.1, 22, .inl (fun _ => 0))), (a2, .inl (g.2.1, 132, .inl (fun _ => 0))), (a3, .inl (g.2.1, 8, .inl (fun _ => 0))), (a4, .inl (g.2.1, 8, .inl (fun _ => 0)))]) rfl ?_
  refine jc_put (pc := 34) (ws' := [(h0, .inr (12, [.int 0, .ref a1, .ref a2, .int 0, .int 0, .ref a3, .ref a4, .null, .null, .int 0, .int 0, .int 0, .null, .int 0, .int 0, .int 0, .int 0, .int 0, .null, .null, .null, .null, .null, .null, .null, .null, .int 0, .int 0, .int 0, .null, .int 0, .int 0, .int 0, .int 0, .int 0, .int 0, .null, .null, .int 0, .int 0, .null, .null, .null, .null, .null, .null, .null, .null, .int 0, .int 0, .int 0, .null, .int 0, .null, .null, .int 0, .int 0, .int 0, .null])), (a1, .inl (g.2.1, 22, .inl (fun _ => 0))), (a2, .inl (g.2.1, 132, .inl (fun _ => 0))), (a3, .inl (g.2.1, 8, .inl (fun _ => 0))), (a4, .inl (g.2.1, 8, .inl (fun _ => 0)))]) 0 6 dX12_init_34 fkX12_19 ftX12 (fun q h => by cases h; exact Or.inr ⟨rfl, rfl⟩) rfl rfl rfl (Nat.le_of_ble_eq_true rfl) rfl ?_
  refine jc_aload_n (pc := 37) 0 dX12_init_37 rfl ?_
  refine jc_bipush (pc := 38) 8 dX12_init_38 (by decide) ?_
  refine jc_newi (pc := 40) 8 dX12_init_40 acI (by decide) (by decide) (by decide) (by decide) (by decide) (fun a5 => ?_)
  refine jc_to (ws' := [(h0, .inr (12, [.int 0, .ref a1, .ref a2, .int 0, .int 0, .ref a3, .ref a4, .null, .null, .int 0, .int 0, .int 0, .null, .int 0, .int 0, .int 0, .int 0, .int 0, .null, .null, .null, .null, .null, .null, .null, .null, .int 0, .int 0, .int 0, .null, .int 0, .int 0, .int 0, .int 0, .int 0, .int 0, .null, .null, .int 0, .int 0, .null, .null, .null, .null, .null, .null, .null, .null, .int 0, .int 0, .int 0, .null, .int 0, .null, .null, .int 0, .int 0, .int 0, .null])), (a1, .inl (g.2.1, 22, .inl (fun _ => 0))), (a2, .inl (g.2.1, 132, .inl (fun _ => 0))), (a3, .inl (g.2.1, 8, .inl (fun _ => 0))), (a4, .inl (g.2.1, 8, .inl (fun _ => 0))), (a5, .inl (g.2.1, 8, .inl (fun _ => 0)))]) rfl ?_
  refine jc_put (pc := 42) (ws' := [(h0, .inr (12, [.int 0, .ref a1, .ref a2, .int 0, .int 0, .ref a3, .ref a4, .ref a5, .null, .int 0, .int 0, .int 0, .null, .int 0, .int 0, .int 0, .int 0, .int 0, .null, .null, .null, .null, .null, .null, .null, .null, .int 0, .int 0, .int 0, .null, .int 0, .int 0, .int 0, .int 0, .int 0, .int 0, .null, .null, .int 0, .int 0, .null, .null, .null, .null, .null, .null, .null, .null, .int 0, .int 0, .int 0, .null, .int 0, .null, .null, .int 0, .int 0, .int 0, .null])), (a1, .inl (g.2.1, 22, .inl (fun _ => 0))), (a2, .inl (g.2.1, 132, .inl (fun _ => 0))), (a3, .inl (g.2.1, 8, .inl (fun _ => 0))), (a4, .inl (g.2.1, 8, .inl (fun _ => 0))), (a5, .inl (g.2.1, 8, .inl (fun _ => 0)))]) 0 7 dX12_init_42 fkX12_22 ftX12 (fun q h => by cases h; exact Or.inr ⟨rfl, rfl⟩) rfl rfl rfl (Nat.le_of_ble_eq_true rfl) rfl ?_
  refine jc_aload_n (pc := 45) 0 dX12_init_45 rfl ?_
  refine jc_bipush (pc := 46) 48 dX12_init_46 (by decide) ?_
  refine jc_newi (pc := 48) 48 dX12_init_48 acI (by decide) (by decide) (by decide) (by decide) (by decide) (fun a6 => ?_)
  refine jc_to (ws' := [(h0, .inr (12, [.int 0, .ref a1, .ref a2, .int 0, .int 0, .ref a3, .ref a4, .ref a5, .null, .int 0, .int 0, .int 0, .null, .int 0, .int 0, .int 0, .int 0, .int 0, .null, .null, .null, .null, .null, .null, .null, .null, .int 0, .int 0, .int 0, .null, .int 0, .int 0, .int 0, .int 0, .int 0, .int 0, .null, .null, .int 0, .int 0, .null, .null, .null, .null, .null, .null, .null, .null, .int 0, .int 0, .int 0, .null, .int 0, .null, .null, .int 0, .int 0, .int 0, .null])), (a1, .inl (g.2.1, 22, .inl (fun _ => 0))), (a2, .inl (g.2.1, 132, .inl (fun _ => 0))), (a3, .inl (g.2.1, 8, .inl (fun _ => 0))), (a4, .inl (g.2.1, 8, .inl (fun _ => 0))), (a5, .inl (g.2.1, 8, .inl (fun _ => 0))), (a6, .inl (g.2.1, 48, .inl (fun _ => 0)))]) rfl ?_
  refine jc_put (pc := 50) (ws' := [(h0, .inr (12, [.int 0, .ref a1, .ref a2, .int 0, .int 0, .ref a3, .ref a4, .ref a5, .ref a6, .int 0, .int 0, .int 0, .null, .int 0, .int 0, .int 0, .int 0, .int 0, .null, .null, .null, .null, .null, .null, .null, .null, .int 0, .int 0, .int 0, .null, .int 0, .int 0, .int 0, .int 0, .int 0, .int 0, .null, .null, .int 0, .int 0, .null, .null, .null, .null, .null, .null, .null, .null, .int 0, .int 0, .int 0, .null, .int 0, .null, .null, .int 0, .int 0, .int 0, .null])), (a1, .inl (g.2.1, 22, .inl (fun _ => 0))), (a2, .inl (g.2.1, 132, .inl (fun _ => 0))), (a3, .inl (g.2.1, 8, .inl (fun _ => 0))), (a4, .inl (g.2.1, 8, .inl (fun _ => 0))), (a5, .inl (g.2.1, 8, .inl (fun _ => 0))), (a6, .inl (g.2.1, 48, .inl (fun _ => 0)))]) 0 8 dX12_init_50 fkX12_25 ftX12 (fun q h => by cases h; exact Or.inr ⟨rfl, rfl⟩) rfl rfl rfl (Nat.le_of_ble_eq_true rfl) rfl ?_
  refine jc_aload_n (pc := 53) 0 dX12_init_53 rfl ?_
  refine jc_sipush (pc := 54) 400 dX12_init_54 (by decide) ?_
  refine jc_newi (pc := 57) 400 dX12_init_57 acI (by decide) (by decide) (by decide) (by decide) (by decide) (fun a7 => ?_)
  refine jc_to (ws' := [(h0, .inr (12, [.int 0, .ref a1, .ref a2, .int 0, .int 0, .ref a3, .ref a4, .ref a5, .ref a6, .int 0, .int 0, .int 0, .null, .int 0, .int 0, .int 0, .int 0, .int 0, .null, .null, .null, .null, .null, .null, .null, .null, .int 0, .int 0, .int 0, .null, .int 0, .int 0, .int 0, .int 0, .int 0, .int 0, .null, .null, .int 0, .int 0, .null, .null, .null, .null, .null, .null, .null, .null, .int 0, .int 0, .int 0, .null, .int 0, .null, .null, .int 0, .int 0, .int 0, .null])), (a1, .inl (g.2.1, 22, .inl (fun _ => 0))), (a2, .inl (g.2.1, 132, .inl (fun _ => 0))), (a3, .inl (g.2.1, 8, .inl (fun _ => 0))), (a4, .inl (g.2.1, 8, .inl (fun _ => 0))), (a5, .inl (g.2.1, 8, .inl (fun _ => 0))), (a6, .inl (g.2.1, 48, .inl (fun _ => 0))), (a7, .inl (g.2.1, 400, .inl (fun _ => 0)))]) rfl ?_
  refine jc_put (pc := 59) (ws' := [(h0, .inr (12, [.int 0, .ref a1, .ref a2, .int 0, .int 0, .ref a3, .ref a4, .ref a5, .ref a6, .int 0, .int 0, .int 0, .ref a7, .int 0, .int 0, .int 0, .int 0, .int 0, .null, .null, .null, .null, .null, .null, .null, .null, .int 0, .int 0, .int 0, .null, .int 0, .int 0, .int 0, .int 0, .int 0, .int 0, .null, .null, .int 0, .int 0, .null, .null, .null, .null, .null, .null, .null, .null, .int 0, .int 0, .int 0, .null, .int 0, .null, .null, .int 0, .int 0, .int 0, .null])), (a1, .inl (g.2.1, 22, .inl (fun _ => 0))), (a2, .inl (g.2.1, 132, .inl (fun _ => 0))), (a3, .inl (g.2.1, 8, .inl (fun _ => 0))), (a4, .inl (g.2.1, 8, .inl (fun _ => 0))), (a5, .inl (g.2.1, 8, .inl (fun _ => 0))), (a6, .inl (g.2.1, 48, .inl (fun _ => 0))), (a7, .inl (g.2.1, 400, .inl (fun _ => 0)))]) 0 12 dX12_init_59 fkX12_28 ftX12 (fun q h => by cases h; exact Or.inr ⟨rfl, rfl⟩) rfl rfl rfl (Nat.le_of_ble_eq_true rfl) rfl ?_
  refine jc_aload_n (pc := 62) 0 dX12_init_62 rfl ?_
  refine jc_sipush (pc := 63) 143 dX12_init_63 (by decide) ?_
  refine jc_newi (pc := 66) 143 dX12_init_66 acI (by decide) (by decide) (by decide) (by decide) (by decide) (fun a8 => ?_)
  have hf : ∀ t, t < 0 → (fun _ => (0 : Int32)) t = Int32.ofInt (wGl t) := fun t ht => absurd ht (Nat.not_lt_zero t)
  refine jc_dup (pc := 68) dX12_init_68 rfl ?_
  refine jc_iconst (pc := 69) 0 dX12_init_69 (by decide) ?_
  refine jc_bipush (pc := 70) 32 dX12_init_70 (by decide) ?_
  refine jc_wst (pc := 72) 0 dX12_init_72 (by decide) (by decide) (by decide) (by decide) hf (fun f hf => ?_)
  refine jc_dup (pc := 73) dX12_init_73 rfl ?_
  refine jc_iconst (pc := 74) 1 dX12_init_74 (by decide) ?_
  refine jc_bipush (pc := 75) 115 dX12_init_75 (by decide) ?_
  refine jc_wst (pc := 77) 1 dX12_init_77 (by decide) (by decide) (by decide) (by decide) hf (fun f hf => ?_)
  refine jc_dup (pc := 78) dX12_init_78 rfl ?_
  refine jc_iconst (pc := 79) 2 dX12_init_79 (by decide) ?_
  refine jc_bipush (pc := 80) 108 dX12_init_80 (by decide) ?_
  refine jc_wst (pc := 82) 2 dX12_init_82 (by decide) (by decide) (by decide) (by decide) hf (fun f hf => ?_)
  refine jc_dup (pc := 83) dX12_init_83 rfl ?_
  refine jc_iconst (pc := 84) 3 dX12_init_84 (by decide) ?_
  refine jc_bipush (pc := 85) 105 dX12_init_85 (by decide) ?_
  refine jc_wst (pc := 87) 3 dX12_init_87 (by decide) (by decide) (by decide) (by decide) hf (fun f hf => ?_)
  refine jc_dup (pc := 88) dX12_init_88 rfl ?_
  refine jc_iconst (pc := 89) 4 dX12_init_89 (by decide) ?_
  refine jc_bipush (pc := 90) 112 dX12_init_90 (by decide) ?_
  refine jc_wst (pc := 92) 4 dX12_init_92 (by decide) (by decide) (by decide) (by decide) hf (fun f hf => ?_)
  refine jc_dup (pc := 93) dX12_init_93 rfl ?_
  refine jc_iconst (pc := 94) 5 dX12_init_94 (by decide) ?_
  refine jc_bipush (pc := 95) 32 dX12_init_95 (by decide) ?_
  refine jc_wst (pc := 97) 5 dX12_init_97 (by decide) (by decide) (by decide) (by decide) hf (fun f hf => ?_)
  refine jc_dup (pc := 98) dX12_init_98 rfl ?_
  refine jc_bipush (pc := 99) 6 dX12_init_99 (by decide) ?_
  refine jc_bipush (pc := 101) 115 dX12_init_101 (by decide) ?_
  refine jc_wst (pc := 103) 6 dX12_init_103 (by decide) (by decide) (by decide) (by decide) hf (fun f hf => ?_)
  refine jc_dup (pc := 104) dX12_init_104 rfl ?_
  refine jc_bipush (pc := 105) 7 dX12_init_105 (by decide) ?_
  refine jc_bipush (pc := 107) 104 dX12_init_107 (by decide) ?_
  refine jc_wst (pc := 109) 7 dX12_init_109 (by decide) (by decide) (by decide) (by decide) hf (fun f hf => ?_)
  refine jc_dup (pc := 110) dX12_init_110 rfl ?_
  refine jc_bipush (pc := 111) 8 dX12_init_111 (by decide) ?_
  refine jc_bipush (pc := 113) 97 dX12_init_113 (by decide) ?_
  refine jc_wst (pc := 115) 8 dX12_init_115 (by decide) (by decide) (by decide) (by decide) hf (fun f hf => ?_)
  refine jc_dup (pc := 116) dX12_init_116 rfl ?_
  refine jc_bipush (pc := 117) 9 dX12_init_117 (by decide) ?_
  refine jc_bipush (pc := 119) 107 dX12_init_119 (by decide) ?_
  refine jc_wst (pc := 121) 9 dX12_init_121 (by decide) (by decide) (by decide) (by decide) hf (fun f hf => ?_)
  refine jc_dup (pc := 122) dX12_init_122 rfl ?_
  refine jc_bipush (pc := 123) 10 dX12_init_123 (by decide) ?_
  refine jc_bipush (pc := 125) 101 dX12_init_125 (by decide) ?_
  refine jc_wst (pc := 127) 10 dX12_init_127 (by decide) (by decide) (by decide) (by decide) hf (fun f hf => ?_)
  refine jc_dup (pc := 128) dX12_init_128 rfl ?_
  refine jc_bipush (pc := 129) 11 dX12_init_129 (by decide) ?_
  refine jc_bipush (pc := 131) 32 dX12_init_131 (by decide) ?_
  refine jc_wst (pc := 133) 11 dX12_init_133 (by decide) (by decide) (by decide) (by decide) hf (fun f hf => ?_)
  refine jc_dup (pc := 134) dX12_init_134 rfl ?_
  refine jc_bipush (pc := 135) 12 dX12_init_135 (by decide) ?_
  refine jc_bipush (pc := 137) 119 dX12_init_137 (by decide) ?_
  refine jc_wst (pc := 139) 12 dX12_init_139 (by decide) (by decide) (by decide) (by decide) hf (fun f hf => ?_)
  refine jc_dup (pc := 140) dX12_init_140 rfl ?_
  refine jc_bipush (pc := 141) 13 dX12_init_141 (by decide) ?_
  refine jc_bipush (pc := 143) 101 dX12_init_143 (by decide) ?_
  refine jc_wst (pc := 145) 13 dX12_init_145 (by decide) (by decide) (by decide) (by decide) hf (fun f hf => ?_)
  refine jc_dup (pc := 146) dX12_init_146 rfl ?_
  refine jc_bipush (pc := 147) 14 dX12_init_147 (by decide) ?_
  refine jc_bipush (pc := 149) 105 dX12_init_149 (by decide) ?_
  refine jc_wst (pc := 151) 14 dX12_init_151 (by decide) (by decide) (by decide) (by decide) hf (fun f hf => ?_)
  refine jc_dup (pc := 152) dX12_init_152 rfl ?_
  refine jc_bipush (pc := 153) 15 dX12_init_153 (by decide) ?_
  refine jc_bipush (pc := 155) 103 dX12_init_155 (by decide) ?_
  refine jc_wst (pc := 157) 15 dX12_init_157 (by decide) (by decide) (by decide) (by decide) hf (fun f hf => ?_)
  refine jc_dup (pc := 158) dX12_init_158 rfl ?_
  refine jc_bipush (pc := 159) 16 dX12_init_159 (by decide) ?_
  refine jc_bipush (pc := 161) 104 dX12_init_161 (by decide) ?_
  refine jc_wst (pc := 163) 16 dX12_init_163 (by decide) (by decide) (by decide) (by decide) hf (fun f hf => ?_)
  refine jc_dup (pc := 164) dX12_init_164 rfl ?_
  refine jc_bipush (pc := 165) 17 dX12_init_165 (by decide) ?_
  refine jc_bipush (pc := 167) 116 dX12_init_167 (by decide) ?_
  refine jc_wst (pc := 169) 17 dX12_init_169 (by decide) (by decide) (by decide) (by decide) hf (fun f hf => ?_)
  refine jc_dup (pc := 170) dX12_init_170 rfl ?_
  refine jc_bipush (pc := 171) 18 dX12_init_171 (by decide) ?_
  refine jc_bipush (pc := 173) 32 dX12_init_173 (by decide) ?_
  refine jc_wst (pc := 175) 18 dX12_init_175 (by decide) (by decide) (by decide) (by decide) hf (fun f hf => ?_)
  refine jc_dup (pc := 176) dX12_init_176 rfl ?_
  refine jc_bipush (pc := 177) 19 dX12_init_177 (by decide) ?_
  refine jc_bipush (pc := 179) 119 dX12_init_179 (by decide) ?_
  refine jc_wst (pc := 181) 19 dX12_init_181 (by decide) (by decide) (by decide) (by decide) hf (fun f hf => ?_)
  refine jc_dup (pc := 182) dX12_init_182 rfl ?_
  refine jc_bipush (pc := 183) 20 dX12_init_183 (by decide) ?_
  refine jc_bipush (pc := 185) 104 dX12_init_185 (by decide) ?_
  refine jc_wst (pc := 187) 20 dX12_init_187 (by decide) (by decide) (by decide) (by decide) hf (fun f hf => ?_)
  refine jc_dup (pc := 188) dX12_init_188 rfl ?_
  refine jc_bipush (pc := 189) 21 dX12_init_189 (by decide) ?_
  refine jc_bipush (pc := 191) 101 dX12_init_191 (by decide) ?_
  refine jc_wst (pc := 193) 21 dX12_init_193 (by decide) (by decide) (by decide) (by decide) hf (fun f hf => ?_)
  refine jc_dup (pc := 194) dX12_init_194 rfl ?_
  refine jc_bipush (pc := 195) 22 dX12_init_195 (by decide) ?_
  refine jc_bipush (pc := 197) 110 dX12_init_197 (by decide) ?_
  refine jc_wst (pc := 199) 22 dX12_init_199 (by decide) (by decide) (by decide) (by decide) hf (fun f hf => ?_)
  refine jc_dup (pc := 200) dX12_init_200 rfl ?_
  refine jc_bipush (pc := 201) 23 dX12_init_201 (by decide) ?_
  refine jc_bipush (pc := 203) 32 dX12_init_203 (by decide) ?_
  refine jc_wst (pc := 205) 23 dX12_init_205 (by decide) (by decide) (by decide) (by decide) hf (fun f hf => ?_)
  refine jc_dup (pc := 206) dX12_init_206 rfl ?_
  refine jc_bipush (pc := 207) 24 dX12_init_207 (by decide) ?_
  refine jc_bipush (pc := 209) 111 dX12_init_209 (by decide) ?_
  refine jc_wst (pc := 211) 24 dX12_init_211 (by decide) (by decide) (by decide) (by decide) hf (fun f hf => ?_)
  refine jc_dup (pc := 212) dX12_init_212 rfl ?_
  refine jc_bipush (pc := 213) 25 dX12_init_213 (by decide) ?_
  refine jc_bipush (pc := 215) 114 dX12_init_215 (by decide) ?_
  refine jc_wst (pc := 217) 25 dX12_init_217 (by decide) (by decide) (by decide) (by decide) hf (fun f hf => ?_)
  refine jc_dup (pc := 218) dX12_init_218 rfl ?_
  refine jc_bipush (pc := 219) 26 dX12_init_219 (by decide) ?_
  refine jc_bipush (pc := 221) 32 dX12_init_221 (by decide) ?_
  refine jc_wst (pc := 223) 26 dX12_init_223 (by decide) (by decide) (by decide) (by decide) hf (fun f hf => ?_)
  refine jc_dup (pc := 224) dX12_init_224 rfl ?_
  refine jc_bipush (pc := 225) 27 dX12_init_225 (by decide) ?_
  refine jc_bipush (pc := 227) 97 dX12_init_227 (by decide) ?_
  refine jc_wst (pc := 229) 27 dX12_init_229 (by decide) (by decide) (by decide) (by decide) hf (fun f hf => ?_)
  refine jc_dup (pc := 230) dX12_init_230 rfl ?_
  refine jc_bipush (pc := 231) 28 dX12_init_231 (by decide) ?_
  refine jc_bipush (pc := 233) 110 dX12_init_233 (by decide) ?_
  refine jc_wst (pc := 235) 28 dX12_init_235 (by decide) (by decide) (by decide) (by decide) hf (fun f hf => ?_)
  refine jc_dup (pc := 236) dX12_init_236 rfl ?_
  refine jc_bipush (pc := 237) 29 dX12_init_237 (by decide) ?_
  refine jc_bipush (pc := 239) 100 dX12_init_239 (by decide) ?_
  refine jc_wst (pc := 241) 29 dX12_init_241 (by decide) (by decide) (by decide) (by decide) hf (fun f hf => ?_)
  refine jc_dup (pc := 242) dX12_init_242 rfl ?_
  refine jc_bipush (pc := 243) 30 dX12_init_243 (by decide) ?_
  refine jc_bipush (pc := 245) 32 dX12_init_245 (by decide) ?_
  refine jc_wst (pc := 247) 30 dX12_init_247 (by decide) (by decide) (by decide) (by decide) hf (fun f hf => ?_)
  refine jc_dup (pc := 248) dX12_init_248 rfl ?_
  refine jc_bipush (pc := 249) 31 dX12_init_249 (by decide) ?_
  refine jc_bipush (pc := 251) 110 dX12_init_251 (by decide) ?_
  refine jc_wst (pc := 253) 31 dX12_init_253 (by decide) (by decide) (by decide) (by decide) hf (fun f hf => ?_)
  refine jc_dup (pc := 254) dX12_init_254 rfl ?_
  refine jc_bipush (pc := 255) 32 dX12_init_255 (by decide) ?_
  refine jc_bipush (pc := 257) 111 dX12_init_257 (by decide) ?_
  refine jc_wst (pc := 259) 32 dX12_init_259 (by decide) (by decide) (by decide) (by decide) hf (fun f hf => ?_)
  refine jc_dup (pc := 260) dX12_init_260 rfl ?_
  refine jc_bipush (pc := 261) 33 dX12_init_261 (by decide) ?_
  refine jc_bipush (pc := 263) 116 dX12_init_263 (by decide) ?_
  refine jc_wst (pc := 265) 33 dX12_init_265 (by decide) (by decide) (by decide) (by decide) hf (fun f hf => ?_)
  refine jc_dup (pc := 266) dX12_init_266 rfl ?_
  refine jc_bipush (pc := 267) 34 dX12_init_267 (by decide) ?_
  refine jc_bipush (pc := 269) 32 dX12_init_269 (by decide) ?_
  refine jc_wst (pc := 271) 34 dX12_init_271 (by decide) (by decide) (by decide) (by decide) hf (fun f hf => ?_)
  refine jc_dup (pc := 272) dX12_init_272 rfl ?_
  refine jc_bipush (pc := 273) 35 dX12_init_273 (by decide) ?_
  refine jc_bipush (pc := 275) 110 dX12_init_275 (by decide) ?_
  refine jc_wst (pc := 277) 35 dX12_init_277 (by decide) (by decide) (by decide) (by decide) hf (fun f hf => ?_)
  refine jc_dup (pc := 278) dX12_init_278 rfl ?_
  refine jc_bipush (pc := 279) 36 dX12_init_279 (by decide) ?_
  refine jc_bipush (pc := 281) 101 dX12_init_281 (by decide) ?_
  refine jc_wst (pc := 283) 36 dX12_init_283 (by decide) (by decide) (by decide) (by decide) hf (fun f hf => ?_)
  refine jc_dup (pc := 284) dX12_init_284 rfl ?_
  refine jc_bipush (pc := 285) 37 dX12_init_285 (by decide) ?_
  refine jc_bipush (pc := 287) 114 dX12_init_287 (by decide) ?_
  refine jc_wst (pc := 289) 37 dX12_init_289 (by decide) (by decide) (by decide) (by decide) hf (fun f hf => ?_)
  refine jc_dup (pc := 290) dX12_init_290 rfl ?_
  refine jc_bipush (pc := 291) 38 dX12_init_291 (by decide) ?_
  refine jc_bipush (pc := 293) 118 dX12_init_293 (by decide) ?_
  refine jc_wst (pc := 295) 38 dX12_init_295 (by decide) (by decide) (by decide) (by decide) hf (fun f hf => ?_)
  refine jc_dup (pc := 296) dX12_init_296 rfl ?_
  refine jc_bipush (pc := 297) 39 dX12_init_297 (by decide) ?_
  refine jc_bipush (pc := 299) 101 dX12_init_299 (by decide) ?_
  refine jc_wst (pc := 301) 39 dX12_init_301 (by decide) (by decide) (by decide) (by decide) hf (fun f hf => ?_)
  refine jc_dup (pc := 302) dX12_init_302 rfl ?_
  refine jc_bipush (pc := 303) 40 dX12_init_303 (by decide) ?_
  refine jc_bipush (pc := 305) 32 dX12_init_305 (by decide) ?_
  refine jc_wst (pc := 307) 40 dX12_init_307 (by decide) (by decide) (by decide) (by decide) hf (fun f hf => ?_)
  refine jc_dup (pc := 308) dX12_init_308 rfl ?_
  refine jc_bipush (pc := 309) 41 dX12_init_309 (by decide) ?_
  refine jc_bipush (pc := 311) 104 dX12_init_311 (by decide) ?_
  refine jc_wst (pc := 313) 41 dX12_init_313 (by decide) (by decide) (by decide) (by decide) hf (fun f hf => ?_)
  refine jc_dup (pc := 314) dX12_init_314 rfl ?_
  refine jc_bipush (pc := 315) 42 dX12_init_315 (by decide) ?_
  refine jc_bipush (pc := 317) 111 dX12_init_317 (by decide) ?_
  refine jc_wst (pc := 319) 42 dX12_init_319 (by decide) (by decide) (by decide) (by decide) hf (fun f hf => ?_)
  refine jc_dup (pc := 320) dX12_init_320 rfl ?_
  refine jc_bipush (pc := 321) 43 dX12_init_321 (by decide) ?_
  refine jc_bipush (pc := 323) 97 dX12_init_323 (by decide) ?_
  refine jc_wst (pc := 325) 43 dX12_init_325 (by decide) (by decide) (by decide) (by decide) hf (fun f hf => ?_)
  refine jc_dup (pc := 326) dX12_init_326 rfl ?_
  refine jc_bipush (pc := 327) 44 dX12_init_327 (by decide) ?_
  refine jc_bipush (pc := 329) 114 dX12_init_329 (by decide) ?_
  refine jc_wst (pc := 331) 44 dX12_init_331 (by decide) (by decide) (by decide) (by decide) hf (fun f hf => ?_)
  refine jc_dup (pc := 332) dX12_init_332 rfl ?_
  refine jc_bipush (pc := 333) 45 dX12_init_333 (by decide) ?_
  refine jc_bipush (pc := 335) 115 dX12_init_335 (by decide) ?_
  refine jc_wst (pc := 337) 45 dX12_init_337 (by decide) (by decide) (by decide) (by decide) hf (fun f hf => ?_)
  refine jc_dup (pc := 338) dX12_init_338 rfl ?_
  refine jc_bipush (pc := 339) 46 dX12_init_339 (by decide) ?_
  refine jc_bipush (pc := 341) 101 dX12_init_341 (by decide) ?_
  refine jc_wst (pc := 343) 46 dX12_init_343 (by decide) (by decide) (by decide) (by decide) hf (fun f hf => ?_)
  refine jc_dup (pc := 344) dX12_init_344 rfl ?_
  refine jc_bipush (pc := 345) 47 dX12_init_345 (by decide) ?_
  refine jc_bipush (pc := 347) 32 dX12_init_347 (by decide) ?_
  refine jc_wst (pc := 349) 47 dX12_init_349 (by decide) (by decide) (by decide) (by decide) hf (fun f hf => ?_)
  refine jc_dup (pc := 350) dX12_init_350 rfl ?_
  refine jc_bipush (pc := 351) 48 dX12_init_351 (by decide) ?_
  refine jc_bipush (pc := 353) 98 dX12_init_353 (by decide) ?_
  refine jc_wst (pc := 355) 48 dX12_init_355 (by decide) (by decide) (by decide) (by decide) hf (fun f hf => ?_)
  refine jc_dup (pc := 356) dX12_init_356 rfl ?_
  refine jc_bipush (pc := 357) 49 dX12_init_357 (by decide) ?_
  refine jc_bipush (pc := 359) 114 dX12_init_359 (by decide) ?_
  refine jc_wst (pc := 361) 49 dX12_init_361 (by decide) (by decide) (by decide) (by decide) hf (fun f hf => ?_)
  refine jc_dup (pc := 362) dX12_init_362 rfl ?_
  refine jc_bipush (pc := 363) 50 dX12_init_363 (by decide) ?_
  refine jc_bipush (pc := 365) 101 dX12_init_365 (by decide) ?_
  refine jc_wst (pc := 367) 50 dX12_init_367 (by decide) (by decide) (by decide) (by decide) hf (fun f hf => ?_)
  refine jc_dup (pc := 368) dX12_init_368 rfl ?_
  refine jc_bipush (pc := 369) 51 dX12_init_369 (by decide) ?_
  refine jc_bipush (pc := 371) 97 dX12_init_371 (by decide) ?_
  refine jc_wst (pc := 373) 51 dX12_init_373 (by decide) (by decide) (by decide) (by decide) hf (fun f hf => ?_)
  refine jc_dup (pc := 374) dX12_init_374 rfl ?_
  refine jc_bipush (pc := 375) 52 dX12_init_375 (by decide) ?_
  refine jc_bipush (pc := 377) 116 dX12_init_377 (by decide) ?_
  refine jc_wst (pc := 379) 52 dX12_init_379 (by decide) (by decide) (by decide) (by decide) hf (fun f hf => ?_)
  refine jc_dup (pc := 380) dX12_init_380 rfl ?_
  refine jc_bipush (pc := 381) 53 dX12_init_381 (by decide) ?_
  refine jc_bipush (pc := 383) 104 dX12_init_383 (by decide) ?_
  refine jc_wst (pc := 385) 53 dX12_init_385 (by decide) (by decide) (by decide) (by decide) hf (fun f hf => ?_)
  refine jc_dup (pc := 386) dX12_init_386 rfl ?_
  refine jc_bipush (pc := 387) 54 dX12_init_387 (by decide) ?_
  refine jc_bipush (pc := 389) 32 dX12_init_389 (by decide) ?_
  refine jc_wst (pc := 391) 54 dX12_init_391 (by decide) (by decide) (by decide) (by decide) hf (fun f hf => ?_)
  refine jc_dup (pc := 392) dX12_init_392 rfl ?_
  refine jc_bipush (pc := 393) 55 dX12_init_393 (by decide) ?_
  refine jc_bipush (pc := 395) 98 dX12_init_395 (by decide) ?_
  refine jc_wst (pc := 397) 55 dX12_init_397 (by decide) (by decide) (by decide) (by decide) hf (fun f hf => ?_)
  refine jc_dup (pc := 398) dX12_init_398 rfl ?_
  refine jc_bipush (pc := 399) 56 dX12_init_399 (by decide) ?_
  refine jc_bipush (pc := 401) 97 dX12_init_401 (by decide) ?_
  refine jc_wst (pc := 403) 56 dX12_init_403 (by decide) (by decide) (by decide) (by decide) hf (fun f hf => ?_)
  refine jc_dup (pc := 404) dX12_init_404 rfl ?_
  refine jc_bipush (pc := 405) 57 dX12_init_405 (by decide) ?_
  refine jc_bipush (pc := 407) 114 dX12_init_407 (by decide) ?_
  refine jc_wst (pc := 409) 57 dX12_init_409 (by decide) (by decide) (by decide) (by decide) hf (fun f hf => ?_)
  refine jc_dup (pc := 410) dX12_init_410 rfl ?_
  refine jc_bipush (pc := 411) 58 dX12_init_411 (by decide) ?_
  refine jc_bipush (pc := 413) 32 dX12_init_413 (by decide) ?_
  refine jc_wst (pc := 415) 58 dX12_init_415 (by decide) (by decide) (by decide) (by decide) hf (fun f hf => ?_)
  refine jc_dup (pc := 416) dX12_init_416 rfl ?_
  refine jc_bipush (pc := 417) 59 dX12_init_417 (by decide) ?_
  refine jc_bipush (pc := 419) 110 dX12_init_419 (by decide) ?_
  refine jc_wst (pc := 421) 59 dX12_init_421 (by decide) (by decide) (by decide) (by decide) hf (fun f hf => ?_)
  refine jc_dup (pc := 422) dX12_init_422 rfl ?_
  refine jc_bipush (pc := 423) 60 dX12_init_423 (by decide) ?_
  refine jc_bipush (pc := 425) 111 dX12_init_425 (by decide) ?_
  refine jc_wst (pc := 427) 60 dX12_init_427 (by decide) (by decide) (by decide) (by decide) hf (fun f hf => ?_)
  refine jc_dup (pc := 428) dX12_init_428 rfl ?_
  refine jc_bipush (pc := 429) 61 dX12_init_429 (by decide) ?_
  refine jc_bipush (pc := 431) 116 dX12_init_431 (by decide) ?_
  refine jc_wst (pc := 433) 61 dX12_init_433 (by decide) (by decide) (by decide) (by decide) hf (fun f hf => ?_)
  refine jc_dup (pc := 434) dX12_init_434 rfl ?_
  refine jc_bipush (pc := 435) 62 dX12_init_435 (by decide) ?_
  refine jc_bipush (pc := 437) 101 dX12_init_437 (by decide) ?_
  refine jc_wst (pc := 439) 62 dX12_init_439 (by decide) (by decide) (by decide) (by decide) hf (fun f hf => ?_)
  refine jc_dup (pc := 440) dX12_init_440 rfl ?_
  refine jc_bipush (pc := 441) 63 dX12_init_441 (by decide) ?_
  refine jc_bipush (pc := 443) 32 dX12_init_443 (by decide) ?_
  refine jc_wst (pc := 445) 63 dX12_init_445 (by decide) (by decide) (by decide) (by decide) hf (fun f hf => ?_)
  refine jc_dup (pc := 446) dX12_init_446 rfl ?_
  refine jc_bipush (pc := 447) 64 dX12_init_447 (by decide) ?_
  refine jc_bipush (pc := 449) 114 dX12_init_449 (by decide) ?_
  refine jc_wst (pc := 451) 64 dX12_init_451 (by decide) (by decide) (by decide) (by decide) hf (fun f hf => ?_)
  refine jc_dup (pc := 452) dX12_init_452 rfl ?_
  refine jc_bipush (pc := 453) 65 dX12_init_453 (by decide) ?_
  refine jc_bipush (pc := 455) 111 dX12_init_455 (by decide) ?_
  refine jc_wst (pc := 457) 65 dX12_init_457 (by decide) (by decide) (by decide) (by decide) hf (fun f hf => ?_)
  refine jc_dup (pc := 458) dX12_init_458 rfl ?_
  refine jc_bipush (pc := 459) 66 dX12_init_459 (by decide) ?_
  refine jc_bipush (pc := 461) 111 dX12_init_461 (by decide) ?_
  refine jc_wst (pc := 463) 66 dX12_init_463 (by decide) (by decide) (by decide) (by decide) hf (fun f hf => ?_)
  refine jc_dup (pc := 464) dX12_init_464 rfl ?_
  refine jc_bipush (pc := 465) 67 dX12_init_465 (by decide) ?_
  refine jc_bipush (pc := 467) 109 dX12_init_467 (by decide) ?_
  refine jc_wst (pc := 469) 67 dX12_init_469 (by decide) (by decide) (by decide) (by decide) hf (fun f hf => ?_)
  refine jc_dup (pc := 470) dX12_init_470 rfl ?_
  refine jc_bipush (pc := 471) 68 dX12_init_471 (by decide) ?_
  refine jc_bipush (pc := 473) 32 dX12_init_473 (by decide) ?_
  refine jc_wst (pc := 475) 68 dX12_init_475 (by decide) (by decide) (by decide) (by decide) hf (fun f hf => ?_)
  refine jc_dup (pc := 476) dX12_init_476 rfl ?_
  refine jc_bipush (pc := 477) 69 dX12_init_477 (by decide) ?_
  refine jc_bipush (pc := 479) 102 dX12_init_479 (by decide) ?_
  refine jc_wst (pc := 481) 69 dX12_init_481 (by decide) (by decide) (by decide) (by decide) hf (fun f hf => ?_)
  refine jc_dup (pc := 482) dX12_init_482 rfl ?_
  refine jc_bipush (pc := 483) 70 dX12_init_483 (by decide) ?_
  refine jc_bipush (pc := 485) 97 dX12_init_485 (by decide) ?_
  refine jc_wst (pc := 487) 70 dX12_init_487 (by decide) (by decide) (by decide) (by decide) hf (fun f hf => ?_)
  refine jc_dup (pc := 488) dX12_init_488 rfl ?_
  refine jc_bipush (pc := 489) 71 dX12_init_489 (by decide) ?_
  refine jc_bipush (pc := 491) 99 dX12_init_491 (by decide) ?_
  refine jc_wst (pc := 493) 71 dX12_init_493 (by decide) (by decide) (by decide) (by decide) hf (fun f hf => ?_)
  refine jc_dup (pc := 494) dX12_init_494 rfl ?_
  refine jc_bipush (pc := 495) 72 dX12_init_495 (by decide) ?_
  refine jc_bipush (pc := 497) 116 dX12_init_497 (by decide) ?_
  refine jc_wst (pc := 499) 72 dX12_init_499 (by decide) (by decide) (by decide) (by decide) hf (fun f hf => ?_)
  refine jc_dup (pc := 500) dX12_init_500 rfl ?_
  refine jc_bipush (pc := 501) 73 dX12_init_501 (by decide) ?_
  refine jc_bipush (pc := 503) 32 dX12_init_503 (by decide) ?_
  refine jc_wst (pc := 505) 73 dX12_init_505 (by decide) (by decide) (by decide) (by decide) hf (fun f hf => ?_)
  refine jc_dup (pc := 506) dX12_init_506 rfl ?_
  refine jc_bipush (pc := 507) 74 dX12_init_507 (by decide) ?_
  refine jc_bipush (pc := 509) 118 dX12_init_509 (by decide) ?_
  refine jc_wst (pc := 511) 74 dX12_init_511 (by decide) (by decide) (by decide) (by decide) hf (fun f hf => ?_)
  refine jc_dup (pc := 512) dX12_init_512 rfl ?_
  refine jc_bipush (pc := 513) 75 dX12_init_513 (by decide) ?_
  refine jc_bipush (pc := 515) 97 dX12_init_515 (by decide) ?_
  refine jc_wst (pc := 517) 75 dX12_init_517 (by decide) (by decide) (by decide) (by decide) hf (fun f hf => ?_)
  refine jc_dup (pc := 518) dX12_init_518 rfl ?_
  refine jc_bipush (pc := 519) 76 dX12_init_519 (by decide) ?_
  refine jc_bipush (pc := 521) 108 dX12_init_521 (by decide) ?_
  refine jc_wst (pc := 523) 76 dX12_init_523 (by decide) (by decide) (by decide) (by decide) hf (fun f hf => ?_)
  refine jc_dup (pc := 524) dX12_init_524 rfl ?_
  refine jc_bipush (pc := 525) 77 dX12_init_525 (by decide) ?_
  refine jc_bipush (pc := 527) 117 dX12_init_527 (by decide) ?_
  refine jc_wst (pc := 529) 77 dX12_init_529 (by decide) (by decide) (by decide) (by decide) hf (fun f hf => ?_)
  refine jc_dup (pc := 530) dX12_init_530 rfl ?_
  refine jc_bipush (pc := 531) 78 dX12_init_531 (by decide) ?_
  refine jc_bipush (pc := 533) 101 dX12_init_533 (by decide) ?_
  refine jc_wst (pc := 535) 78 dX12_init_535 (by decide) (by decide) (by decide) (by decide) hf (fun f hf => ?_)
  refine jc_dup (pc := 536) dX12_init_536 rfl ?_
  refine jc_bipush (pc := 537) 79 dX12_init_537 (by decide) ?_
  refine jc_bipush (pc := 539) 32 dX12_init_539 (by decide) ?_
  refine jc_wst (pc := 541) 79 dX12_init_541 (by decide) (by decide) (by decide) (by decide) hf (fun f hf => ?_)
  refine jc_dup (pc := 542) dX12_init_542 rfl ?_
  refine jc_bipush (pc := 543) 80 dX12_init_543 (by decide) ?_
  refine jc_bipush (pc := 545) 100 dX12_init_545 (by decide) ?_
  refine jc_wst (pc := 547) 80 dX12_init_547 (by decide) (by decide) (by decide) (by decide) hf (fun f hf => ?_)
  refine jc_dup (pc := 548) dX12_init_548 rfl ?_
  refine jc_bipush (pc := 549) 81 dX12_init_549 (by decide) ?_
  refine jc_bipush (pc := 551) 97 dX12_init_551 (by decide) ?_
  refine jc_wst (pc := 553) 81 dX12_init_553 (by decide) (by decide) (by decide) (by decide) hf (fun f hf => ?_)
  refine jc_dup (pc := 554) dX12_init_554 rfl ?_
  refine jc_bipush (pc := 555) 82 dX12_init_555 (by decide) ?_
  refine jc_bipush (pc := 557) 121 dX12_init_557 (by decide) ?_
  refine jc_wst (pc := 559) 82 dX12_init_559 (by decide) (by decide) (by decide) (by decide) hf (fun f hf => ?_)
  refine jc_dup (pc := 560) dX12_init_560 rfl ?_
  refine jc_bipush (pc := 561) 83 dX12_init_561 (by decide) ?_
  refine jc_bipush (pc := 563) 32 dX12_init_563 (by decide) ?_
  refine jc_wst (pc := 565) 83 dX12_init_565 (by decide) (by decide) (by decide) (by decide) hf (fun f hf => ?_)
  refine jc_dup (pc := 566) dX12_init_566 rfl ?_
  refine jc_bipush (pc := 567) 84 dX12_init_567 (by decide) ?_
  refine jc_bipush (pc := 569) 115 dX12_init_569 (by decide) ?_
  refine jc_wst (pc := 571) 84 dX12_init_571 (by decide) (by decide) (by decide) (by decide) hf (fun f hf => ?_)
  refine jc_dup (pc := 572) dX12_init_572 rfl ?_
  refine jc_bipush (pc := 573) 85 dX12_init_573 (by decide) ?_
  refine jc_bipush (pc := 575) 117 dX12_init_575 (by decide) ?_
  refine jc_wst (pc := 577) 85 dX12_init_577 (by decide) (by decide) (by decide) (by decide) hf (fun f hf => ?_)
  refine jc_dup (pc := 578) dX12_init_578 rfl ?_
  refine jc_bipush (pc := 579) 86 dX12_init_579 (by decide) ?_
  refine jc_bipush (pc := 581) 110 dX12_init_581 (by decide) ?_
  refine jc_wst (pc := 583) 86 dX12_init_583 (by decide) (by decide) (by decide) (by decide) hf (fun f hf => ?_)
  refine jc_dup (pc := 584) dX12_init_584 rfl ?_
  refine jc_bipush (pc := 585) 87 dX12_init_585 (by decide) ?_
  refine jc_bipush (pc := 587) 103 dX12_init_587 (by decide) ?_
  refine jc_wst (pc := 589) 87 dX12_init_589 (by decide) (by decide) (by decide) (by decide) hf (fun f hf => ?_)
  refine jc_dup (pc := 590) dX12_init_590 rfl ?_
  refine jc_bipush (pc := 591) 88 dX12_init_591 (by decide) ?_
  refine jc_bipush (pc := 593) 32 dX12_init_593 (by decide) ?_
  refine jc_wst (pc := 595) 88 dX12_init_595 (by decide) (by decide) (by decide) (by decide) hf (fun f hf => ?_)
  refine jc_dup (pc := 596) dX12_init_596 rfl ?_
  refine jc_bipush (pc := 597) 89 dX12_init_597 (by decide) ?_
  refine jc_bipush (pc := 599) 115 dX12_init_599 (by decide) ?_
  refine jc_wst (pc := 601) 89 dX12_init_601 (by decide) (by decide) (by decide) (by decide) hf (fun f hf => ?_)
  refine jc_dup (pc := 602) dX12_init_602 rfl ?_
  refine jc_bipush (pc := 603) 90 dX12_init_603 (by decide) ?_
  refine jc_bipush (pc := 605) 108 dX12_init_605 (by decide) ?_
  refine jc_wst (pc := 607) 90 dX12_init_607 (by decide) (by decide) (by decide) (by decide) hf (fun f hf => ?_)
  refine jc_dup (pc := 608) dX12_init_608 rfl ?_
  refine jc_bipush (pc := 609) 91 dX12_init_609 (by decide) ?_
  refine jc_bipush (pc := 611) 105 dX12_init_611 (by decide) ?_
  refine jc_wst (pc := 613) 91 dX12_init_613 (by decide) (by decide) (by decide) (by decide) hf (fun f hf => ?_)
  refine jc_dup (pc := 614) dX12_init_614 rfl ?_
  refine jc_bipush (pc := 615) 92 dX12_init_615 (by decide) ?_
  refine jc_bipush (pc := 617) 112 dX12_init_617 (by decide) ?_
  refine jc_wst (pc := 619) 92 dX12_init_619 (by decide) (by decide) (by decide) (by decide) hf (fun f hf => ?_)
  refine jc_dup (pc := 620) dX12_init_620 rfl ?_
  refine jc_bipush (pc := 621) 93 dX12_init_621 (by decide) ?_
  refine jc_bipush (pc := 623) 115 dX12_init_623 (by decide) ?_
  refine jc_wst (pc := 625) 93 dX12_init_625 (by decide) (by decide) (by decide) (by decide) hf (fun f hf => ?_)
  refine jc_dup (pc := 626) dX12_init_626 rfl ?_
  refine jc_bipush (pc := 627) 94 dX12_init_627 (by decide) ?_
  refine jc_bipush (pc := 629) 32 dX12_init_629 (by decide) ?_
  refine jc_wst (pc := 631) 94 dX12_init_631 (by decide) (by decide) (by decide) (by decide) hf (fun f hf => ?_)
  refine jc_dup (pc := 632) dX12_init_632 rfl ?_
  refine jc_bipush (pc := 633) 95 dX12_init_633 (by decide) ?_
  refine jc_bipush (pc := 635) 109 dX12_init_635 (by decide) ?_
  refine jc_wst (pc := 637) 95 dX12_init_637 (by decide) (by decide) (by decide) (by decide) hf (fun f hf => ?_)
  refine jc_dup (pc := 638) dX12_init_638 rfl ?_
  refine jc_bipush (pc := 639) 96 dX12_init_639 (by decide) ?_
  refine jc_bipush (pc := 641) 111 dX12_init_641 (by decide) ?_
  refine jc_wst (pc := 643) 96 dX12_init_643 (by decide) (by decide) (by decide) (by decide) hf (fun f hf => ?_)
  refine jc_dup (pc := 644) dX12_init_644 rfl ?_
  refine jc_bipush (pc := 645) 97 dX12_init_645 (by decide) ?_
  refine jc_bipush (pc := 647) 116 dX12_init_647 (by decide) ?_
  refine jc_wst (pc := 649) 97 dX12_init_649 (by decide) (by decide) (by decide) (by decide) hf (fun f hf => ?_)
  refine jc_dup (pc := 650) dX12_init_650 rfl ?_
  refine jc_bipush (pc := 651) 98 dX12_init_651 (by decide) ?_
  refine jc_bipush (pc := 653) 105 dX12_init_653 (by decide) ?_
  refine jc_wst (pc := 655) 98 dX12_init_655 (by decide) (by decide) (by decide) (by decide) hf (fun f hf => ?_)
  refine jc_dup (pc := 656) dX12_init_656 rfl ?_
  refine jc_bipush (pc := 657) 99 dX12_init_657 (by decide) ?_
  refine jc_bipush (pc := 659) 118 dX12_init_659 (by decide) ?_
  refine jc_wst (pc := 661) 99 dX12_init_661 (by decide) (by decide) (by decide) (by decide) hf (fun f hf => ?_)
  refine jc_dup (pc := 662) dX12_init_662 rfl ?_
  refine jc_bipush (pc := 663) 100 dX12_init_663 (by decide) ?_
  refine jc_bipush (pc := 665) 101 dX12_init_665 (by decide) ?_
  refine jc_wst (pc := 667) 100 dX12_init_667 (by decide) (by decide) (by decide) (by decide) hf (fun f hf => ?_)
  refine jc_dup (pc := 668) dX12_init_668 rfl ?_
  refine jc_bipush (pc := 669) 101 dX12_init_669 (by decide) ?_
  refine jc_bipush (pc := 671) 32 dX12_init_671 (by decide) ?_
  refine jc_wst (pc := 673) 101 dX12_init_673 (by decide) (by decide) (by decide) (by decide) hf (fun f hf => ?_)
  refine jc_dup (pc := 674) dX12_init_674 rfl ?_
  refine jc_bipush (pc := 675) 102 dX12_init_675 (by decide) ?_
  refine jc_bipush (pc := 677) 117 dX12_init_677 (by decide) ?_
  refine jc_wst (pc := 679) 102 dX12_init_679 (by decide) (by decide) (by decide) (by decide) hf (fun f hf => ?_)
  refine jc_dup (pc := 680) dX12_init_680 rfl ?_
  refine jc_bipush (pc := 681) 103 dX12_init_681 (by decide) ?_
  refine jc_bipush (pc := 683) 112 dX12_init_683 (by decide) ?_
  refine jc_wst (pc := 685) 103 dX12_init_685 (by decide) (by decide) (by decide) (by decide) hf (fun f hf => ?_)
  refine jc_dup (pc := 686) dX12_init_686 rfl ?_
  refine jc_bipush (pc := 687) 104 dX12_init_687 (by decide) ?_
  refine jc_bipush (pc := 689) 32 dX12_init_689 (by decide) ?_
  refine jc_wst (pc := 691) 104 dX12_init_691 (by decide) (by decide) (by decide) (by decide) hf (fun f hf => ?_)
  refine jc_dup (pc := 692) dX12_init_692 rfl ?_
  refine jc_bipush (pc := 693) 105 dX12_init_693 (by decide) ?_
  refine jc_bipush (pc := 695) 100 dX12_init_695 (by decide) ?_
  refine jc_wst (pc := 697) 105 dX12_init_697 (by decide) (by decide) (by decide) (by decide) hf (fun f hf => ?_)
  refine jc_dup (pc := 698) dX12_init_698 rfl ?_
  refine jc_bipush (pc := 699) 106 dX12_init_699 (by decide) ?_
  refine jc_bipush (pc := 701) 111 dX12_init_701 (by decide) ?_
  refine jc_wst (pc := 703) 106 dX12_init_703 (by decide) (by decide) (by decide) (by decide) hf (fun f hf => ?_)
  refine jc_dup (pc := 704) dX12_init_704 rfl ?_
  refine jc_bipush (pc := 705) 107 dX12_init_705 (by decide) ?_
  refine jc_bipush (pc := 707) 119 dX12_init_707 (by decide) ?_
  refine jc_wst (pc := 709) 107 dX12_init_709 (by decide) (by decide) (by decide) (by decide) hf (fun f hf => ?_)
  refine jc_dup (pc := 710) dX12_init_710 rfl ?_
  refine jc_bipush (pc := 711) 108 dX12_init_711 (by decide) ?_
  refine jc_bipush (pc := 713) 110 dX12_init_713 (by decide) ?_
  refine jc_wst (pc := 715) 108 dX12_init_715 (by decide) (by decide) (by decide) (by decide) hf (fun f hf => ?_)
  refine jc_dup (pc := 716) dX12_init_716 rfl ?_
  refine jc_bipush (pc := 717) 109 dX12_init_717 (by decide) ?_
  refine jc_bipush (pc := 719) 32 dX12_init_719 (by decide) ?_
  refine jc_wst (pc := 721) 109 dX12_init_721 (by decide) (by decide) (by decide) (by decide) hf (fun f hf => ?_)
  refine jc_dup (pc := 722) dX12_init_722 rfl ?_
  refine jc_bipush (pc := 723) 110 dX12_init_723 (by decide) ?_
  refine jc_bipush (pc := 725) 115 dX12_init_725 (by decide) ?_
  refine jc_wst (pc := 727) 110 dX12_init_727 (by decide) (by decide) (by decide) (by decide) hf (fun f hf => ?_)
  refine jc_dup (pc := 728) dX12_init_728 rfl ?_
  refine jc_bipush (pc := 729) 111 dX12_init_729 (by decide) ?_
  refine jc_bipush (pc := 731) 97 dX12_init_731 (by decide) ?_
  refine jc_wst (pc := 733) 111 dX12_init_733 (by decide) (by decide) (by decide) (by decide) hf (fun f hf => ?_)
  refine jc_dup (pc := 734) dX12_init_734 rfl ?_
  refine jc_bipush (pc := 735) 112 dX12_init_735 (by decide) ?_
  refine jc_bipush (pc := 737) 109 dX12_init_737 (by decide) ?_
  refine jc_wst (pc := 739) 112 dX12_init_739 (by decide) (by decide) (by decide) (by decide) hf (fun f hf => ?_)
  refine jc_dup (pc := 740) dX12_init_740 rfl ?_
  refine jc_bipush (pc := 741) 113 dX12_init_741 (by decide) ?_
  refine jc_bipush (pc := 743) 101 dX12_init_743 (by decide) ?_
  refine jc_wst (pc := 745) 113 dX12_init_745 (by decide) (by decide) (by decide) (by decide) hf (fun f hf => ?_)
  refine jc_dup (pc := 746) dX12_init_746 rfl ?_
  refine jc_bipush (pc := 747) 114 dX12_init_747 (by decide) ?_
  refine jc_bipush (pc := 749) 32 dX12_init_749 (by decide) ?_
  refine jc_wst (pc := 751) 114 dX12_init_751 (by decide) (by decide) (by decide) (by decide) hf (fun f hf => ?_)
  refine jc_dup (pc := 752) dX12_init_752 rfl ?_
  refine jc_bipush (pc := 753) 115 dX12_init_753 (by decide) ?_
  refine jc_bipush (pc := 755) 99 dX12_init_755 (by decide) ?_
  refine jc_wst (pc := 757) 115 dX12_init_757 (by decide) (by decide) (by decide) (by decide) hf (fun f hf => ?_)
  refine jc_dup (pc := 758) dX12_init_758 rfl ?_
  refine jc_bipush (pc := 759) 116 dX12_init_759 (by decide) ?_
  refine jc_bipush (pc := 761) 97 dX12_init_761 (by decide) ?_
  refine jc_wst (pc := 763) 116 dX12_init_763 (by decide) (by decide) (by decide) (by decide) hf (fun f hf => ?_)
  refine jc_dup (pc := 764) dX12_init_764 rfl ?_
  refine jc_bipush (pc := 765) 117 dX12_init_765 (by decide) ?_
  refine jc_bipush (pc := 767) 108 dX12_init_767 (by decide) ?_
  refine jc_wst (pc := 769) 117 dX12_init_769 (by decide) (by decide) (by decide) (by decide) hf (fun f hf => ?_)
  refine jc_dup (pc := 770) dX12_init_770 rfl ?_
  refine jc_bipush (pc := 771) 118 dX12_init_771 (by decide) ?_
  refine jc_bipush (pc := 773) 108 dX12_init_773 (by decide) ?_
  refine jc_wst (pc := 775) 118 dX12_init_775 (by decide) (by decide) (by decide) (by decide) hf (fun f hf => ?_)
  refine jc_dup (pc := 776) dX12_init_776 rfl ?_
  refine jc_bipush (pc := 777) 119 dX12_init_777 (by decide) ?_
  refine jc_bipush (pc := 779) 32 dX12_init_779 (by decide) ?_
  refine jc_wst (pc := 781) 119 dX12_init_781 (by decide) (by decide) (by decide) (by decide) hf (fun f hf => ?_)
  refine jc_dup (pc := 782) dX12_init_782 rfl ?_
  refine jc_bipush (pc := 783) 120 dX12_init_783 (by decide) ?_
  refine jc_bipush (pc := 785) 111 dX12_init_785 (by decide) ?_
  refine jc_wst (pc := 787) 120 dX12_init_787 (by decide) (by decide) (by decide) (by decide) hf (fun f hf => ?_)
  refine jc_dup (pc := 788) dX12_init_788 rfl ?_
  refine jc_bipush (pc := 789) 121 dX12_init_789 (by decide) ?_
  refine jc_bipush (pc := 791) 110 dX12_init_791 (by decide) ?_
  refine jc_wst (pc := 793) 121 dX12_init_793 (by decide) (by decide) (by decide) (by decide) hf (fun f hf => ?_)
  refine jc_dup (pc := 794) dX12_init_794 rfl ?_
  refine jc_bipush (pc := 795) 122 dX12_init_795 (by decide) ?_
  refine jc_bipush (pc := 797) 32 dX12_init_797 (by decide) ?_
  refine jc_wst (pc := 799) 122 dX12_init_799 (by decide) (by decide) (by decide) (by decide) hf (fun f hf => ?_)
  refine jc_dup (pc := 800) dX12_init_800 rfl ?_
  refine jc_bipush (pc := 801) 123 dX12_init_801 (by decide) ?_
  refine jc_bipush (pc := 803) 105 dX12_init_803 (by decide) ?_
  refine jc_wst (pc := 805) 123 dX12_init_805 (by decide) (by decide) (by decide) (by decide) hf (fun f hf => ?_)
  refine jc_dup (pc := 806) dX12_init_806 rfl ?_
  refine jc_bipush (pc := 807) 124 dX12_init_807 (by decide) ?_
  refine jc_bipush (pc := 809) 110 dX12_init_809 (by decide) ?_
  refine jc_wst (pc := 811) 124 dX12_init_811 (by decide) (by decide) (by decide) (by decide) hf (fun f hf => ?_)
  refine jc_dup (pc := 812) dX12_init_812 rfl ?_
  refine jc_bipush (pc := 813) 125 dX12_init_813 (by decide) ?_
  refine jc_bipush (pc := 815) 32 dX12_init_815 (by decide) ?_
  refine jc_wst (pc := 817) 125 dX12_init_817 (by decide) (by decide) (by decide) (by decide) hf (fun f hf => ?_)
  refine jc_dup (pc := 818) dX12_init_818 rfl ?_
  refine jc_bipush (pc := 819) 126 dX12_init_819 (by decide) ?_
  refine jc_bipush (pc := 821) 99 dX12_init_821 (by decide) ?_
  refine jc_wst (pc := 823) 126 dX12_init_823 (by decide) (by decide) (by decide) (by decide) hf (fun f hf => ?_)
  refine jc_dup (pc := 824) dX12_init_824 rfl ?_
  refine jc_bipush (pc := 825) 127 dX12_init_825 (by decide) ?_
  refine jc_bipush (pc := 827) 114 dX12_init_827 (by decide) ?_
  refine jc_wst (pc := 829) 127 dX12_init_829 (by decide) (by decide) (by decide) (by decide) hf (fun f hf => ?_)
  refine jc_dup (pc := 830) dX12_init_830 rfl ?_
  refine jc_sipush (pc := 831) 128 dX12_init_831 (by decide) ?_
  refine jc_bipush (pc := 834) 111 dX12_init_834 (by decide) ?_
  refine jc_wst (pc := 836) 128 dX12_init_836 (by decide) (by decide) (by decide) (by decide) hf (fun f hf => ?_)
  refine jc_dup (pc := 837) dX12_init_837 rfl ?_
  refine jc_sipush (pc := 838) 129 dX12_init_838 (by decide) ?_
  refine jc_bipush (pc := 841) 115 dX12_init_841 (by decide) ?_
  refine jc_wst (pc := 843) 129 dX12_init_843 (by decide) (by decide) (by decide) (by decide) hf (fun f hf => ?_)
  refine jc_dup (pc := 844) dX12_init_844 rfl ?_
  refine jc_sipush (pc := 845) 130 dX12_init_845 (by decide) ?_
  refine jc_bipush (pc := 848) 115 dX12_init_848 (by decide) ?_
  refine jc_wst (pc := 850) 130 dX12_init_850 (by decide) (by decide) (by decide) (by decide) hf (fun f hf => ?_)
  refine jc_dup (pc := 851) dX12_init_851 rfl ?_
  refine jc_sipush (pc := 852) 131 dX12_init_852 (by decide) ?_
  refine jc_bipush (pc := 855) 32 dX12_init_855 (by decide) ?_
  refine jc_wst (pc := 857) 131 dX12_init_857 (by decide) (by decide) (by decide) (by decide) hf (fun f hf => ?_)
  refine jc_dup (pc := 858) dX12_init_858 rfl ?_
  refine jc_sipush (pc := 859) 132 dX12_init_859 (by decide) ?_
  refine jc_bipush (pc := 862) 114 dX12_init_862 (by decide) ?_
  refine jc_wst (pc := 864) 132 dX12_init_864 (by decide) (by decide) (by decide) (by decide) hf (fun f hf => ?_)
  refine jc_dup (pc := 865) dX12_init_865 rfl ?_
  refine jc_sipush (pc := 866) 133 dX12_init_866 (by decide) ?_
  refine jc_bipush (pc := 869) 101 dX12_init_869 (by decide) ?_
  refine jc_wst (pc := 871) 133 dX12_init_871 (by decide) (by decide) (by decide) (by decide) hf (fun f hf => ?_)
  refine jc_dup (pc := 872) dX12_init_872 rfl ?_
  refine jc_sipush (pc := 873) 134 dX12_init_873 (by decide) ?_
  refine jc_bipush (pc := 876) 115 dX12_init_876 (by decide) ?_
  refine jc_wst (pc := 878) 134 dX12_init_878 (by decide) (by decide) (by decide) (by decide) hf (fun f hf => ?_)
  refine jc_dup (pc := 879) dX12_init_879 rfl ?_
  refine jc_sipush (pc := 880) 135 dX12_init_880 (by decide) ?_
  refine jc_bipush (pc := 883) 116 dX12_init_883 (by decide) ?_
  refine jc_wst (pc := 885) 135 dX12_init_885 (by decide) (by decide) (by decide) (by decide) hf (fun f hf => ?_)
  refine jc_dup (pc := 886) dX12_init_886 rfl ?_
  refine jc_sipush (pc := 887) 136 dX12_init_887 (by decide) ?_
  refine jc_bipush (pc := 890) 32 dX12_init_890 (by decide) ?_
  refine jc_wst (pc := 892) 136 dX12_init_892 (by decide) (by decide) (by decide) (by decide) hf (fun f hf => ?_)
  refine jc_dup (pc := 893) dX12_init_893 rfl ?_
  refine jc_sipush (pc := 894) 137 dX12_init_894 (by decide) ?_
  refine jc_bipush (pc := 897) 97 dX12_init_897 (by decide) ?_
  refine jc_wst (pc := 899) 137 dX12_init_899 (by decide) (by decide) (by decide) (by decide) hf (fun f hf => ?_)
  refine jc_dup (pc := 900) dX12_init_900 rfl ?_
  refine jc_sipush (pc := 901) 138 dX12_init_901 (by decide) ?_
  refine jc_bipush (pc := 904) 103 dX12_init_904 (by decide) ?_
  refine jc_wst (pc := 906) 138 dX12_init_906 (by decide) (by decide) (by decide) (by decide) hf (fun f hf => ?_)
  refine jc_dup (pc := 907) dX12_init_907 rfl ?_
  refine jc_sipush (pc := 908) 139 dX12_init_908 (by decide) ?_
  refine jc_bipush (pc := 911) 97 dX12_init_911 (by decide) ?_
  refine jc_wst (pc := 913) 139 dX12_init_913 (by decide) (by decide) (by decide) (by decide) hf (fun f hf => ?_)
  refine jc_dup (pc := 914) dX12_init_914 rfl ?_
  refine jc_sipush (pc := 915) 140 dX12_init_915 (by decide) ?_
  refine jc_bipush (pc := 918) 105 dX12_init_918 (by decide) ?_
  refine jc_wst (pc := 920) 140 dX12_init_920 (by decide) (by decide) (by decide) (by decide) hf (fun f hf => ?_)
  refine jc_dup (pc := 921) dX12_init_921 rfl ?_
  refine jc_sipush (pc := 922) 141 dX12_init_922 (by decide) ?_
  refine jc_bipush (pc := 925) 110 dX12_init_925 (by decide) ?_
  refine jc_wst (pc := 927) 141 dX12_init_927 (by decide) (by decide) (by decide) (by decide) hf (fun f hf => ?_)
  refine jc_dup (pc := 928) dX12_init_928 rfl ?_
  refine jc_sipush (pc := 929) 142 dX12_init_929 (by decide) ?_
  refine jc_bipush (pc := 932) 32 dX12_init_932 (by decide) ?_
  refine jc_wst (pc := 934) 142 dX12_init_934 (by decide) (by decide) (by decide) (by decide) hf (fun f hf => ?_)
  refine jc_put (pc := 935) (ws' := [(h0, .inr (12, [.int 0, .ref a1, .ref a2, .int 0, .int 0, .ref a3, .ref a4, .ref a5, .ref a6, .int 0, .int 0, .int 0, .ref a7, .int 0, .int 0, .int 0, .int 0, .int 0, .ref a8, .null, .null, .null, .null, .null, .null, .null, .int 0, .int 0, .int 0, .null, .int 0, .int 0, .int 0, .int 0, .int 0, .int 0, .null, .null, .int 0, .int 0, .null, .null, .null, .null, .null, .null, .null, .null, .int 0, .int 0, .int 0, .null, .int 0, .null, .null, .int 0, .int 0, .int 0, .null])), (a1, .inl (g.2.1, 22, .inl (fun _ => 0))), (a2, .inl (g.2.1, 132, .inl (fun _ => 0))), (a3, .inl (g.2.1, 8, .inl (fun _ => 0))), (a4, .inl (g.2.1, 8, .inl (fun _ => 0))), (a5, .inl (g.2.1, 8, .inl (fun _ => 0))), (a6, .inl (g.2.1, 48, .inl (fun _ => 0))), (a7, .inl (g.2.1, 400, .inl (fun _ => 0))), (a8, .inl (g.2.1, 143, .inl f))]) 0 18 dX12_init_935 fkX12_31 ftX12 (fun q h => by cases h; exact Or.inr ⟨rfl, rfl⟩) rfl rfl rfl (Nat.le_of_ble_eq_true rfl) rfl ?_
  refine jc_aload_n (pc := 938) 0 dX12_init_938 rfl ?_
  refine jc_iconst (pc := 939) 2 dX12_init_939 (by decide) ?_
  refine jc_newi (pc := 940) 2 dX12_init_940 acI (by decide) (by decide) (by decide) (by decide) (by decide) (fun a9 => ?_)
  refine jc_to (ws' := [(h0, .inr (12, [.int 0, .ref a1, .ref a2, .int 0, .int 0, .ref a3, .ref a4, .ref a5, .ref a6, .int 0, .int 0, .int 0, .ref a7, .int 0, .int 0, .int 0, .int 0, .int 0, .ref a8, .null, .null, .null, .null, .null, .null, .null, .int 0, .int 0, .int 0, .null, .int 0, .int 0, .int 0, .int 0, .int 0, .int 0, .null, .null, .int 0, .int 0, .null, .null, .null, .null, .null, .null, .null, .null, .int 0, .int 0, .int 0, .null, .int 0, .null, .null, .int 0, .int 0, .int 0, .null])), (a1, .inl (g.2.1, 22, .inl (fun _ => 0))), (a2, .inl (g.2.1, 132, .inl (fun _ => 0))), (a3, .inl (g.2.1, 8, .inl (fun _ => 0))), (a4, .inl (g.2.1, 8, .inl (fun _ => 0))), (a5, .inl (g.2.1, 8, .inl (fun _ => 0))), (a6, .inl (g.2.1, 48, .inl (fun _ => 0))), (a7, .inl (g.2.1, 400, .inl (fun _ => 0))), (a8, .inl (g.2.1, 143, .inl f)), (a9, .inl (g.2.1, 2, .inl (fun _ => 0)))]) rfl ?_
  refine jc_put (pc := 942) (ws' := [(h0, .inr (12, [.int 0, .ref a1, .ref a2, .int 0, .int 0, .ref a3, .ref a4, .ref a5, .ref a6, .int 0, .int 0, .int 0, .ref a7, .int 0, .int 0, .int 0, .int 0, .int 0, .ref a8, .ref a9, .null, .null, .null, .null, .null, .null, .int 0, .int 0, .int 0, .null, .int 0, .int 0, .int 0, .int 0, .int 0, .int 0, .null, .null, .int 0, .int 0, .null, .null, .null, .null, .null, .null, .null, .null, .int 0, .int 0, .int 0, .null, .int 0, .null, .null, .int 0, .int 0, .int 0, .null])), (a1, .inl (g.2.1, 22, .inl (fun _ => 0))), (a2, .inl (g.2.1, 132, .inl (fun _ => 0))), (a3, .inl (g.2.1, 8, .inl (fun _ => 0))), (a4, .inl (g.2.1, 8, .inl (fun _ => 0))), (a5, .inl (g.2.1, 8, .inl (fun _ => 0))), (a6, .inl (g.2.1, 48, .inl (fun _ => 0))), (a7, .inl (g.2.1, 400, .inl (fun _ => 0))), (a8, .inl (g.2.1, 143, .inl f)), (a9, .inl (g.2.1, 2, .inl (fun _ => 0)))]) 0 19 dX12_init_942 fkX12_34 ftX12 (fun q h => by cases h; exact Or.inr ⟨rfl, rfl⟩) rfl rfl rfl (Nat.le_of_ble_eq_true rfl) rfl ?_
  refine jc_aload_n (pc := 945) 0 dX12_init_945 rfl ?_
  refine jc_bipush (pc := 946) 48 dX12_init_946 (by decide) ?_
  refine jc_newi (pc := 948) 48 dX12_init_948 acI (by decide) (by decide) (by decide) (by decide) (by decide) (fun a10 => ?_)
  refine jc_to (ws' := [(h0, .inr (12, [.int 0, .ref a1, .ref a2, .int 0, .int 0, .ref a3, .ref a4, .ref a5, .ref a6, .int 0, .int 0, .int 0, .ref a7, .int 0, .int 0, .int 0, .int 0, .int 0, .ref a8, .ref a9, .null, .null, .null, .null, .null, .null, .int 0, .int 0, .int 0, .null, .int 0, .int 0, .int 0, .int 0, .int 0, .int 0, .null, .null, .int 0, .int 0, .null, .null, .null, .null, .null, .null, .null, .null, .int 0, .int 0, .int 0, .null, .int 0, .null, .null, .int 0, .int 0, .int 0, .null])), (a1, .inl (g.2.1, 22, .inl (fun _ => 0))), (a2, .inl (g.2.1, 132, .inl (fun _ => 0))), (a3, .inl (g.2.1, 8, .inl (fun _ => 0))), (a4, .inl (g.2.1, 8, .inl (fun _ => 0))), (a5, .inl (g.2.1, 8, .inl (fun _ => 0))), (a6, .inl (g.2.1, 48, .inl (fun _ => 0))), (a7, .inl (g.2.1, 400, .inl (fun _ => 0))), (a8, .inl (g.2.1, 143, .inl f)), (a9, .inl (g.2.1, 2, .inl (fun _ => 0))), (a10, .inl (g.2.1, 48, .inl (fun _ => 0)))]) rfl ?_
  refine jc_put (pc := 950) (ws' := [(h0, .inr (12, [.int 0, .ref a1, .ref a2, .int 0, .int 0, .ref a3, .ref a4, .ref a5, .ref a6, .int 0, .int 0, .int 0, .ref a7, .int 0, .int 0, .int 0, .int 0, .int 0, .ref a8, .ref a9, .ref a10, .null, .null, .null, .null, .null, .int 0, .int 0, .int 0, .null, .int 0, .int 0, .int 0, .int 0, .int 0, .int 0, .null, .null, .int 0, .int 0, .null, .null, .null, .null, .null, .null, .null, .null, .int 0, .int 0, .int 0, .null, .int 0, .null, .null, .int 0, .int 0, .int 0, .null])), (a1, .inl (g.2.1, 22, .inl (fun _ => 0))), (a2, .inl (g.2.1, 132, .inl (fun _ => 0))), (a3, .inl (g.2.1, 8, .inl (fun _ => 0))), (a4, .inl (g.2.1, 8, .inl (fun _ => 0))), (a5, .inl (g.2.1, 8, .inl (fun _ => 0))), (a6, .inl (g.2.1, 48, .inl (fun _ => 0))), (a7, .inl (g.2.1, 400, .inl (fun _ => 0))), (a8, .inl (g.2.1, 143, .inl f)), (a9, .inl (g.2.1, 2, .inl (fun _ => 0))), (a10, .inl (g.2.1, 48, .inl (fun _ => 0)))]) 0 20 dX12_init_950 fkX12_37 ftX12 (fun q h => by cases h; exact Or.inr ⟨rfl, rfl⟩) rfl rfl rfl (Nat.le_of_ble_eq_true rfl) rfl ?_
  refine jc_aload_n (pc := 953) 0 dX12_init_953 rfl ?_
  refine jc_bipush (pc := 954) 48 dX12_init_954 (by decide) ?_
  refine jc_newi (pc := 956) 48 dX12_init_956 acI (by decide) (by decide) (by decide) (by decide) (by decide) (fun a11 => ?_)
  refine jc_to (ws' := [(h0, .inr (12, [.int 0, .ref a1, .ref a2, .int 0, .int 0, .ref a3, .ref a4, .ref a5, .ref a6, .int 0, .int 0, .int 0, .ref a7, .int 0, .int 0, .int 0, .int 0, .int 0, .ref a8, .ref a9, .ref a10, .null, .null, .null, .null, .null, .int 0, .int 0, .int 0, .null, .int 0, .int 0, .int 0, .int 0, .int 0, .int 0, .null, .null, .int 0, .int 0, .null, .null, .null, .null, .null, .null, .null, .null, .int 0, .int 0, .int 0, .null, .int 0, .null, .null, .int 0, .int 0, .int 0, .null])), (a1, .inl (g.2.1, 22, .inl (fun _ => 0))), (a2, .inl (g.2.1, 132, .inl (fun _ => 0))), (a3, .inl (g.2.1, 8, .inl (fun _ => 0))), (a4, .inl (g.2.1, 8, .inl (fun _ => 0))), (a5, .inl (g.2.1, 8, .inl (fun _ => 0))), (a6, .inl (g.2.1, 48, .inl (fun _ => 0))), (a7, .inl (g.2.1, 400, .inl (fun _ => 0))), (a8, .inl (g.2.1, 143, .inl f)), (a9, .inl (g.2.1, 2, .inl (fun _ => 0))), (a10, .inl (g.2.1, 48, .inl (fun _ => 0))), (a11, .inl (g.2.1, 48, .inl (fun _ => 0)))]) rfl ?_
  refine jc_put (pc := 958) (ws' := [(h0, .inr (12, [.int 0, .ref a1, .ref a2, .int 0, .int 0, .ref a3, .ref a4, .ref a5, .ref a6, .int 0, .int 0, .int 0, .ref a7, .int 0, .int 0, .int 0, .int 0, .int 0, .ref a8, .ref a9, .ref a10, .ref a11, .null, .null, .null, .null, .int 0, .int 0, .int 0, .null, .int 0, .int 0, .int 0, .int 0, .int 0, .int 0, .null, .null, .int 0, .int 0, .null, .null, .null, .null, .null, .null, .null, .null, .int 0, .int 0, .int 0, .null, .int 0, .null, .null, .int 0, .int 0, .int 0, .null])), (a1, .inl (g.2.1, 22, .inl (fun _ => 0))), (a2, .inl (g.2.1, 132, .inl (fun _ => 0))), (a3, .inl (g.2.1, 8, .inl (fun _ => 0))), (a4, .inl (g.2.1, 8, .inl (fun _ => 0))), (a5, .inl (g.2.1, 8, .inl (fun _ => 0))), (a6, .inl (g.2.1, 48, .inl (fun _ => 0))), (a7, .inl (g.2.1, 400, .inl (fun _ => 0))), (a8, .inl (g.2.1, 143, .inl f)), (a9, .inl (g.2.1, 2, .inl (fun _ => 0))), (a10, .inl (g.2.1, 48, .inl (fun _ => 0))), (a11, .inl (g.2.1, 48, .inl (fun _ => 0)))]) 0 21 dX12_init_958 fkX12_40 ftX12 (fun q h => by cases h; exact Or.inr ⟨rfl, rfl⟩) rfl rfl rfl (Nat.le_of_ble_eq_true rfl) rfl ?_
  refine jc_aload_n (pc := 961) 0 dX12_init_961 rfl ?_
  refine jc_bipush (pc := 962) 48 dX12_init_962 (by decide) ?_
  refine jc_newi (pc := 964) 48 dX12_init_964 acI (by decide) (by decide) (by decide) (by decide) (by decide) (fun a12 => ?_)
  refine jc_to (ws' := [(h0, .inr (12, [.int 0, .ref a1, .ref a2, .int 0, .int 0, .ref a3, .ref a4, .ref a5, .ref a6, .int 0, .int 0, .int 0, .ref a7, .int 0, .int 0, .int 0, .int 0, .int 0, .ref a8, .ref a9, .ref a10, .ref a11, .null, .null, .null, .null, .int 0, .int 0, .int 0, .null, .int 0, .int 0, .int 0, .int 0, .int 0, .int 0, .null, .null, .int 0, .int 0, .null, .null, .null, .null, .null, .null, .null, .null, .int 0, .int 0, .int 0, .null, .int 0, .null, .null, .int 0, .int 0, .int 0, .null])), (a1, .inl (g.2.1, 22, .inl (fun _ => 0))), (a2, .inl (g.2.1, 132, .inl (fun _ => 0))), (a3, .inl (g.2.1, 8, .inl (fun _ => 0))), (a4, .inl (g.2.1, 8, .inl (fun _ => 0))), (a5, .inl (g.2.1, 8, .inl (fun _ => 0))), (a6, .inl (g.2.1, 48, .inl (fun _ => 0))), (a7, .inl (g.2.1, 400, .inl (fun _ => 0))), (a8, .inl (g.2.1, 143, .inl f)), (a9, .inl (g.2.1, 2, .inl (fun _ => 0))), (a10, .inl (g.2.1, 48, .inl (fun _ => 0))), (a11, .inl (g.2.1, 48, .inl (fun _ => 0))), (a12, .inl (g.2.1, 48, .inl (fun _ => 0)))]) rfl ?_
  refine jc_put (pc := 966) (ws' := [(h0, .inr (12, [.int 0, .ref a1, .ref a2, .int 0, .int 0, .ref a3, .ref a4, .ref a5, .ref a6, .int 0, .int 0, .int 0, .ref a7, .int 0, .int 0, .int 0, .int 0, .int 0, .ref a8, .ref a9, .ref a10, .ref a11, .ref a12, .null, .null, .null, .int 0, .int 0, .int 0, .null, .int 0, .int 0, .int 0, .int 0, .int 0, .int 0, .null, .null, .int 0, .int 0, .null, .null, .null, .null, .null, .null, .null, .null, .int 0, .int 0, .int 0, .null, .int 0, .null, .null, .int 0, .int 0, .int 0, .null])), (a1, .inl (g.2.1, 22, .inl (fun _ => 0))), (a2, .inl (g.2.1, 132, .inl (fun _ => 0))), (a3, .inl (g.2.1, 8, .inl (fun _ => 0))), (a4, .inl (g.2.1, 8, .inl (fun _ => 0))), (a5, .inl (g.2.1, 8, .inl (fun _ => 0))), (a6, .inl (g.2.1, 48, .inl (fun _ => 0))), (a7, .inl (g.2.1, 400, .inl (fun _ => 0))), (a8, .inl (g.2.1, 143, .inl f)), (a9, .inl (g.2.1, 2, .inl (fun _ => 0))), (a10, .inl (g.2.1, 48, .inl (fun _ => 0))), (a11, .inl (g.2.1, 48, .inl (fun _ => 0))), (a12, .inl (g.2.1, 48, .inl (fun _ => 0)))]) 0 22 dX12_init_966 fkX12_43 ftX12 (fun q h => by cases h; exact Or.inr ⟨rfl, rfl⟩) rfl rfl rfl (Nat.le_of_ble_eq_true rfl) rfl ?_
  refine jc_aload_n (pc := 969) 0 dX12_init_969 rfl ?_
  refine jc_bipush (pc := 970) 48 dX12_init_970 (by decide) ?_
  refine jc_newi (pc := 972) 48 dX12_init_972 acI (by decide) (by decide) (by decide) (by decide) (by decide) (fun a13 => ?_)
  refine jc_to (ws' := [(h0, .inr (12, [.int 0, .ref a1, .ref a2, .int 0, .int 0, .ref a3, .ref a4, .ref a5, .ref a6, .int 0, .int 0, .int 0, .ref a7, .int 0, .int 0, .int 0, .int 0, .int 0, .ref a8, .ref a9, .ref a10, .ref a11, .ref a12, .null, .null, .null, .int 0, .int 0, .int 0, .null, .int 0, .int 0, .int 0, .int 0, .int 0, .int 0, .null, .null, .int 0, .int 0, .null, .null, .null, .null, .null, .null, .null, .null, .int 0, .int 0, .int 0, .null, .int 0, .null, .null, .int 0, .int 0, .int 0, .null])), (a1, .inl (g.2.1, 22, .inl (fun _ => 0))), (a2, .inl (g.2.1, 132, .inl (fun _ => 0))), (a3, .inl (g.2.1, 8, .inl (fun _ => 0))), (a4, .inl (g.2.1, 8, .inl (fun _ => 0))), (a5, .inl (g.2.1, 8, .inl (fun _ => 0))), (a6, .inl (g.2.1, 48, .inl (fun _ => 0))), (a7, .inl (g.2.1, 400, .inl (fun _ => 0))), (a8, .inl (g.2.1, 143, .inl f)), (a9, .inl (g.2.1, 2, .inl (fun _ => 0))), (a10, .inl (g.2.1, 48, .inl (fun _ => 0))), (a11, .inl (g.2.1, 48, .inl (fun _ => 0))), (a12, .inl (g.2.1, 48, .inl (fun _ => 0))), (a13, .inl (g.2.1, 48, .inl (fun _ => 0)))]) rfl ?_
  refine jc_put (pc := 974) (ws' := [(h0, .inr (12, [.int 0, .ref a1, .ref a2, .int 0, .int 0, .ref a3, .ref a4, .ref a5, .ref a6, .int 0, .int 0, .int 0, .ref a7, .int 0, .int 0, .int 0, .int 0, .int 0, .ref a8, .ref a9, .ref a10, .ref a11, .ref a12, .ref a13, .null, .null, .int 0, .int 0, .int 0, .null, .int 0, .int 0, .int 0, .int 0, .int 0, .int 0, .null, .null, .int 0, .int 0, .null, .null, .null, .null, .null, .null, .null, .null, .int 0, .int 0, .int 0, .null, .int 0, .null, .null, .int 0, .int 0, .int 0, .null])), (a1, .inl (g.2.1, 22, .inl (fun _ => 0))), (a2, .inl (g.2.1, 132, .inl (fun _ => 0))), (a3, .inl (g.2.1, 8, .inl (fun _ => 0))), (a4, .inl (g.2.1, 8, .inl (fun _ => 0))), (a5, .inl (g.2.1, 8, .inl (fun _ => 0))), (a6, .inl (g.2.1, 48, .inl (fun _ => 0))), (a7, .inl (g.2.1, 400, .inl (fun _ => 0))), (a8, .inl (g.2.1, 143, .inl f)), (a9, .inl (g.2.1, 2, .inl (fun _ => 0))), (a10, .inl (g.2.1, 48, .inl (fun _ => 0))), (a11, .inl (g.2.1, 48, .inl (fun _ => 0))), (a12, .inl (g.2.1, 48, .inl (fun _ => 0))), (a13, .inl (g.2.1, 48, .inl (fun _ => 0)))]) 0 23 dX12_init_974 fkX12_46 ftX12 (fun q h => by cases h; exact Or.inr ⟨rfl, rfl⟩) rfl rfl rfl (Nat.le_of_ble_eq_true rfl) rfl ?_
  refine jc_aload_n (pc := 977) 0 dX12_init_977 rfl ?_
  refine jc_sipush (pc := 978) 1200 dX12_init_978 (by decide) ?_
  refine jc_newi (pc := 981) 1200 dX12_init_981 acI (by decide) (by decide) (by decide) (by decide) (by decide) (fun a14 => ?_)
  refine jc_to (ws' := [(h0, .inr (12, [.int 0, .ref a1, .ref a2, .int 0, .int 0, .ref a3, .ref a4, .ref a5, .ref a6, .int 0, .int 0, .int 0, .ref a7, .int 0, .int 0, .int 0, .int 0, .int 0, .ref a8, .ref a9, .ref a10, .ref a11, .ref a12, .ref a13, .null, .null, .int 0, .int 0, .int 0, .null, .int 0, .int 0, .int 0, .int 0, .int 0, .int 0, .null, .null, .int 0, .int 0, .null, .null, .null, .null, .null, .null, .null, .null, .int 0, .int 0, .int 0, .null, .int 0, .null, .null, .int 0, .int 0, .int 0, .null])), (a1, .inl (g.2.1, 22, .inl (fun _ => 0))), (a2, .inl (g.2.1, 132, .inl (fun _ => 0))), (a3, .inl (g.2.1, 8, .inl (fun _ => 0))), (a4, .inl (g.2.1, 8, .inl (fun _ => 0))), (a5, .inl (g.2.1, 8, .inl (fun _ => 0))), (a6, .inl (g.2.1, 48, .inl (fun _ => 0))), (a7, .inl (g.2.1, 400, .inl (fun _ => 0))), (a8, .inl (g.2.1, 143, .inl f)), (a9, .inl (g.2.1, 2, .inl (fun _ => 0))), (a10, .inl (g.2.1, 48, .inl (fun _ => 0))), (a11, .inl (g.2.1, 48, .inl (fun _ => 0))), (a12, .inl (g.2.1, 48, .inl (fun _ => 0))), (a13, .inl (g.2.1, 48, .inl (fun _ => 0))), (a14, .inl (g.2.1, 1200, .inl (fun _ => 0)))]) rfl ?_
  refine jc_put (pc := 983) (ws' := [(h0, .inr (12, [.int 0, .ref a1, .ref a2, .int 0, .int 0, .ref a3, .ref a4, .ref a5, .ref a6, .int 0, .int 0, .int 0, .ref a7, .int 0, .int 0, .int 0, .int 0, .int 0, .ref a8, .ref a9, .ref a10, .ref a11, .ref a12, .ref a13, .ref a14, .null, .int 0, .int 0, .int 0, .null, .int 0, .int 0, .int 0, .int 0, .int 0, .int 0, .null, .null, .int 0, .int 0, .null, .null, .null, .null, .null, .null, .null, .null, .int 0, .int 0, .int 0, .null, .int 0, .null, .null, .int 0, .int 0, .int 0, .null])), (a1, .inl (g.2.1, 22, .inl (fun _ => 0))), (a2, .inl (g.2.1, 132, .inl (fun _ => 0))), (a3, .inl (g.2.1, 8, .inl (fun _ => 0))), (a4, .inl (g.2.1, 8, .inl (fun _ => 0))), (a5, .inl (g.2.1, 8, .inl (fun _ => 0))), (a6, .inl (g.2.1, 48, .inl (fun _ => 0))), (a7, .inl (g.2.1, 400, .inl (fun _ => 0))), (a8, .inl (g.2.1, 143, .inl f)), (a9, .inl (g.2.1, 2, .inl (fun _ => 0))), (a10, .inl (g.2.1, 48, .inl (fun _ => 0))), (a11, .inl (g.2.1, 48, .inl (fun _ => 0))), (a12, .inl (g.2.1, 48, .inl (fun _ => 0))), (a13, .inl (g.2.1, 48, .inl (fun _ => 0))), (a14, .inl (g.2.1, 1200, .inl (fun _ => 0)))]) 0 24 dX12_init_983 fkX12_49 ftX12 (fun q h => by cases h; exact Or.inr ⟨rfl, rfl⟩) rfl rfl rfl (Nat.le_of_ble_eq_true rfl) rfl ?_
  refine jc_aload_n (pc := 986) 0 dX12_init_986 rfl ?_
  refine jc_sipush (pc := 987) 1200 dX12_init_987 (by decide) ?_
  refine jc_newi (pc := 990) 1200 dX12_init_990 acI (by decide) (by decide) (by decide) (by decide) (by decide) (fun a15 => ?_)
  refine jc_to (ws' := [(h0, .inr (12, [.int 0, .ref a1, .ref a2, .int 0, .int 0, .ref a3, .ref a4, .ref a5, .ref a6, .int 0, .int 0, .int 0, .ref a7, .int 0, .int 0, .int 0, .int 0, .int 0, .ref a8, .ref a9, .ref a10, .ref a11, .ref a12, .ref a13, .ref a14, .null, .int 0, .int 0, .int 0, .null, .int 0, .int 0, .int 0, .int 0, .int 0, .int 0, .null, .null, .int 0, .int 0, .null, .null, .null, .null, .null, .null, .null, .null, .int 0, .int 0, .int 0, .null, .int 0, .null, .null, .int 0, .int 0, .int 0, .null])), (a1, .inl (g.2.1, 22, .inl (fun _ => 0))), (a2, .inl (g.2.1, 132, .inl (fun _ => 0))), (a3, .inl (g.2.1, 8, .inl (fun _ => 0))), (a4, .inl (g.2.1, 8, .inl (fun _ => 0))), (a5, .inl (g.2.1, 8, .inl (fun _ => 0))), (a6, .inl (g.2.1, 48, .inl (fun _ => 0))), (a7, .inl (g.2.1, 400, .inl (fun _ => 0))), (a8, .inl (g.2.1, 143, .inl f)), (a9, .inl (g.2.1, 2, .inl (fun _ => 0))), (a10, .inl (g.2.1, 48, .inl (fun _ => 0))), (a11, .inl (g.2.1, 48, .inl (fun _ => 0))), (a12, .inl (g.2.1, 48, .inl (fun _ => 0))), (a13, .inl (g.2.1, 48, .inl (fun _ => 0))), (a14, .inl (g.2.1, 1200, .inl (fun _ => 0))), (a15, .inl (g.2.1, 1200, .inl (fun _ => 0)))]) rfl ?_
  refine jc_put (pc := 992) (ws' := [(h0, .inr (12, [.int 0, .ref a1, .ref a2, .int 0, .int 0, .ref a3, .ref a4, .ref a5, .ref a6, .int 0, .int 0, .int 0, .ref a7, .int 0, .int 0, .int 0, .int 0, .int 0, .ref a8, .ref a9, .ref a10, .ref a11, .ref a12, .ref a13, .ref a14, .ref a15, .int 0, .int 0, .int 0, .null, .int 0, .int 0, .int 0, .int 0, .int 0, .int 0, .null, .null, .int 0, .int 0, .null, .null, .null, .null, .null, .null, .null, .null, .int 0, .int 0, .int 0, .null, .int 0, .null, .null, .int 0, .int 0, .int 0, .null])), (a1, .inl (g.2.1, 22, .inl (fun _ => 0))), (a2, .inl (g.2.1, 132, .inl (fun _ => 0))), (a3, .inl (g.2.1, 8, .inl (fun _ => 0))), (a4, .inl (g.2.1, 8, .inl (fun _ => 0))), (a5, .inl (g.2.1, 8, .inl (fun _ => 0))), (a6, .inl (g.2.1, 48, .inl (fun _ => 0))), (a7, .inl (g.2.1, 400, .inl (fun _ => 0))), (a8, .inl (g.2.1, 143, .inl f)), (a9, .inl (g.2.1, 2, .inl (fun _ => 0))), (a10, .inl (g.2.1, 48, .inl (fun _ => 0))), (a11, .inl (g.2.1, 48, .inl (fun _ => 0))), (a12, .inl (g.2.1, 48, .inl (fun _ => 0))), (a13, .inl (g.2.1, 48, .inl (fun _ => 0))), (a14, .inl (g.2.1, 1200, .inl (fun _ => 0))), (a15, .inl (g.2.1, 1200, .inl (fun _ => 0)))]) 0 25 dX12_init_992 fkX12_52 ftX12 (fun q h => by cases h; exact Or.inr ⟨rfl, rfl⟩) rfl rfl rfl (Nat.le_of_ble_eq_true rfl) rfl ?_
  refine jc_aload_n (pc := 995) 0 dX12_init_995 rfl ?_
  refine jc_bipush (pc := 996) 40 dX12_init_996 (by decide) ?_
  refine jc_newi (pc := 998) 40 dX12_init_998 acI (by decide) (by decide) (by decide) (by decide) (by decide) (fun a16 => ?_)
  refine jc_to (ws' := [(h0, .inr (12, [.int 0, .ref a1, .ref a2, .int 0, .int 0, .ref a3, .ref a4, .ref a5, .ref a6, .int 0, .int 0, .int 0, .ref a7, .int 0, .int 0, .int 0, .int 0, .int 0, .ref a8, .ref a9, .ref a10, .ref a11, .ref a12, .ref a13, .ref a14, .ref a15, .int 0, .int 0, .int 0, .null, .int 0, .int 0, .int 0, .int 0, .int 0, .int 0, .null, .null, .int 0, .int 0, .null, .null, .null, .null, .null, .null, .null, .null, .int 0, .int 0, .int 0, .null, .int 0, .null, .null, .int 0, .int 0, .int 0, .null])), (a1, .inl (g.2.1, 22, .inl (fun _ => 0))), (a2, .inl (g.2.1, 132, .inl (fun _ => 0))), (a3, .inl (g.2.1, 8, .inl (fun _ => 0))), (a4, .inl (g.2.1, 8, .inl (fun _ => 0))), (a5, .inl (g.2.1, 8, .inl (fun _ => 0))), (a6, .inl (g.2.1, 48, .inl (fun _ => 0))), (a7, .inl (g.2.1, 400, .inl (fun _ => 0))), (a8, .inl (g.2.1, 143, .inl f)), (a9, .inl (g.2.1, 2, .inl (fun _ => 0))), (a10, .inl (g.2.1, 48, .inl (fun _ => 0))), (a11, .inl (g.2.1, 48, .inl (fun _ => 0))), (a12, .inl (g.2.1, 48, .inl (fun _ => 0))), (a13, .inl (g.2.1, 48, .inl (fun _ => 0))), (a14, .inl (g.2.1, 1200, .inl (fun _ => 0))), (a15, .inl (g.2.1, 1200, .inl (fun _ => 0))), (a16, .inl (g.2.1, 40, .inl (fun _ => 0)))]) rfl ?_
  refine jc_put (pc := 1000) (ws' := [(h0, .inr (12, [.int 0, .ref a1, .ref a2, .int 0, .int 0, .ref a3, .ref a4, .ref a5, .ref a6, .int 0, .int 0, .int 0, .ref a7, .int 0, .int 0, .int 0, .int 0, .int 0, .ref a8, .ref a9, .ref a10, .ref a11, .ref a12, .ref a13, .ref a14, .ref a15, .int 0, .int 0, .int 0, .ref a16, .int 0, .int 0, .int 0, .int 0, .int 0, .int 0, .null, .null, .int 0, .int 0, .null, .null, .null, .null, .null, .null, .null, .null, .int 0, .int 0, .int 0, .null, .int 0, .null, .null, .int 0, .int 0, .int 0, .null])), (a1, .inl (g.2.1, 22, .inl (fun _ => 0))), (a2, .inl (g.2.1, 132, .inl (fun _ => 0))), (a3, .inl (g.2.1, 8, .inl (fun _ => 0))), (a4, .inl (g.2.1, 8, .inl (fun _ => 0))), (a5, .inl (g.2.1, 8, .inl (fun _ => 0))), (a6, .inl (g.2.1, 48, .inl (fun _ => 0))), (a7, .inl (g.2.1, 400, .inl (fun _ => 0))), (a8, .inl (g.2.1, 143, .inl f)), (a9, .inl (g.2.1, 2, .inl (fun _ => 0))), (a10, .inl (g.2.1, 48, .inl (fun _ => 0))), (a11, .inl (g.2.1, 48, .inl (fun _ => 0))), (a12, .inl (g.2.1, 48, .inl (fun _ => 0))), (a13, .inl (g.2.1, 48, .inl (fun _ => 0))), (a14, .inl (g.2.1, 1200, .inl (fun _ => 0))), (a15, .inl (g.2.1, 1200, .inl (fun _ => 0))), (a16, .inl (g.2.1, 40, .inl (fun _ => 0)))]) 0 29 dX12_init_1000 fkX12_55 ftX12 (fun q h => by cases h; exact Or.inr ⟨rfl, rfl⟩) rfl rfl rfl (Nat.le_of_ble_eq_true rfl) rfl ?_
  refine jc_aload_n (pc := 1003) 0 dX12_init_1003 rfl ?_
  refine jc_iconst (pc := 1004) (-1) dX12_init_1004 (by decide) ?_
  refine jc_put (pc := 1005) (ws' := [(h0, .inr (12, [.int 0, .ref a1, .ref a2, .int 0, .int 0, .ref a3, .ref a4, .ref a5, .ref a6, .int 0, .int 0, .int 0, .ref a7, .int 0, .int 0, .int 0, .int 0, .int 0, .ref a8, .ref a9, .ref a10, .ref a11, .ref a12, .ref a13, .ref a14, .ref a15, .int 0, .int 0, .int 0, .ref a16, .int 0, .int 0, .int 0, .int 0, .int (-1), .int 0, .null, .null, .int 0, .int 0, .null, .null, .null, .null, .null, .null, .null, .null, .int 0, .int 0, .int 0, .null, .int 0, .null, .null, .int 0, .int 0, .int 0, .null])), (a1, .inl (g.2.1, 22, .inl (fun _ => 0))), (a2, .inl (g.2.1, 132, .inl (fun _ => 0))), (a3, .inl (g.2.1, 8, .inl (fun _ => 0))), (a4, .inl (g.2.1, 8, .inl (fun _ => 0))), (a5, .inl (g.2.1, 8, .inl (fun _ => 0))), (a6, .inl (g.2.1, 48, .inl (fun _ => 0))), (a7, .inl (g.2.1, 400, .inl (fun _ => 0))), (a8, .inl (g.2.1, 143, .inl f)), (a9, .inl (g.2.1, 2, .inl (fun _ => 0))), (a10, .inl (g.2.1, 48, .inl (fun _ => 0))), (a11, .inl (g.2.1, 48, .inl (fun _ => 0))), (a12, .inl (g.2.1, 48, .inl (fun _ => 0))), (a13, .inl (g.2.1, 48, .inl (fun _ => 0))), (a14, .inl (g.2.1, 1200, .inl (fun _ => 0))), (a15, .inl (g.2.1, 1200, .inl (fun _ => 0))), (a16, .inl (g.2.1, 40, .inl (fun _ => 0)))]) 0 34 dX12_init_1005 fkX12_58 ftX12 (fun q h => by cases h; exact Or.inl rfl) rfl rfl rfl (Nat.le_of_ble_eq_true rfl) rfl ?_
  refine jc_aload_n (pc := 1008) 0 dX12_init_1008 rfl ?_
  refine jc_sipush (pc := 1009) 384 dX12_init_1009 (by decide) ?_
  refine jc_newi (pc := 1012) 384 dX12_init_1012 acI (by decide) (by decide) (by decide) (by decide) (by decide) (fun a17 => ?_)
  refine jc_to (ws' := [(h0, .inr (12, [.int 0, .ref a1, .ref a2, .int 0, .int 0, .ref a3, .ref a4, .ref a5, .ref a6, .int 0, .int 0, .int 0, .ref a7, .int 0, .int 0, .int 0, .int 0, .int 0, .ref a8, .ref a9, .ref a10, .ref a11, .ref a12, .ref a13, .ref a14, .ref a15, .int 0, .int 0, .int 0, .ref a16, .int 0, .int 0, .int 0, .int 0, .int (-1), .int 0, .null, .null, .int 0, .int 0, .null, .null, .null, .null, .null, .null, .null, .null, .int 0, .int 0, .int 0, .null, .int 0, .null, .null, .int 0, .int 0, .int 0, .null])), (a1, .inl (g.2.1, 22, .inl (fun _ => 0))), (a2, .inl (g.2.1, 132, .inl (fun _ => 0))), (a3, .inl (g.2.1, 8, .inl (fun _ => 0))), (a4, .inl (g.2.1, 8, .inl (fun _ => 0))), (a5, .inl (g.2.1, 8, .inl (fun _ => 0))), (a6, .inl (g.2.1, 48, .inl (fun _ => 0))), (a7, .inl (g.2.1, 400, .inl (fun _ => 0))), (a8, .inl (g.2.1, 143, .inl f)), (a9, .inl (g.2.1, 2, .inl (fun _ => 0))), (a10, .inl (g.2.1, 48, .inl (fun _ => 0))), (a11, .inl (g.2.1, 48, .inl (fun _ => 0))), (a12, .inl (g.2.1, 48, .inl (fun _ => 0))), (a13, .inl (g.2.1, 48, .inl (fun _ => 0))), (a14, .inl (g.2.1, 1200, .inl (fun _ => 0))), (a15, .inl (g.2.1, 1200, .inl (fun _ => 0))), (a16, .inl (g.2.1, 40, .inl (fun _ => 0))), (a17, .inl (g.2.1, 384, .inl (fun _ => 0)))]) rfl ?_
  refine jc_put (pc := 1014) (ws' := [(h0, .inr (12, [.int 0, .ref a1, .ref a2, .int 0, .int 0, .ref a3, .ref a4, .ref a5, .ref a6, .int 0, .int 0, .int 0, .ref a7, .int 0, .int 0, .int 0, .int 0, .int 0, .ref a8, .ref a9, .ref a10, .ref a11, .ref a12, .ref a13, .ref a14, .ref a15, .int 0, .int 0, .int 0, .ref a16, .int 0, .int 0, .int 0, .int 0, .int (-1), .int 0, .ref a17, .null, .int 0, .int 0, .null, .null, .null, .null, .null, .null, .null, .null, .int 0, .int 0, .int 0, .null, .int 0, .null, .null, .int 0, .int 0, .int 0, .null])), (a1, .inl (g.2.1, 22, .inl (fun _ => 0))), (a2, .inl (g.2.1, 132, .inl (fun _ => 0))), (a3, .inl (g.2.1, 8, .inl (fun _ => 0))), (a4, .inl (g.2.1, 8, .inl (fun _ => 0))), (a5, .inl (g.2.1, 8, .inl (fun _ => 0))), (a6, .inl (g.2.1, 48, .inl (fun _ => 0))), (a7, .inl (g.2.1, 400, .inl (fun _ => 0))), (a8, .inl (g.2.1, 143, .inl f)), (a9, .inl (g.2.1, 2, .inl (fun _ => 0))), (a10, .inl (g.2.1, 48, .inl (fun _ => 0))), (a11, .inl (g.2.1, 48, .inl (fun _ => 0))), (a12, .inl (g.2.1, 48, .inl (fun _ => 0))), (a13, .inl (g.2.1, 48, .inl (fun _ => 0))), (a14, .inl (g.2.1, 1200, .inl (fun _ => 0))), (a15, .inl (g.2.1, 1200, .inl (fun _ => 0))), (a16, .inl (g.2.1, 40, .inl (fun _ => 0))), (a17, .inl (g.2.1, 384, .inl (fun _ => 0)))]) 0 36 dX12_init_1014 fkX12_62 ftX12 (fun q h => by cases h; exact Or.inr ⟨rfl, rfl⟩) rfl rfl rfl (Nat.le_of_ble_eq_true rfl) rfl ?_
  refine jc_aload_n (pc := 1017) 0 dX12_init_1017 rfl ?_
  refine jc_sipush (pc := 1018) 800 dX12_init_1018 (by decide) ?_
  refine jc_newi (pc := 1021) 800 dX12_init_1021 acI (by decide) (by decide) (by decide) (by decide) (by decide) (fun a18 => ?_)
  refine jc_to (ws' := [(h0, .inr (12, [.int 0, .ref a1, .ref a2, .int 0, .int 0, .ref a3, .ref a4, .ref a5, .ref a6, .int 0, .int 0, .int 0, .ref a7, .int 0, .int 0, .int 0, .int 0, .int 0, .ref a8, .ref a9, .ref a10, .ref a11, .ref a12, .ref a13, .ref a14, .ref a15, .int 0, .int 0, .int 0, .ref a16, .int 0, .int 0, .int 0, .int 0, .int (-1), .int 0, .ref a17, .null, .int 0, .int 0, .null, .null, .null, .null, .null, .null, .null, .null, .int 0, .int 0, .int 0, .null, .int 0, .null, .null, .int 0, .int 0, .int 0, .null])), (a1, .inl (g.2.1, 22, .inl (fun _ => 0))), (a2, .inl (g.2.1, 132, .inl (fun _ => 0))), (a3, .inl (g.2.1, 8, .inl (fun _ => 0))), (a4, .inl (g.2.1, 8, .inl (fun _ => 0))), (a5, .inl (g.2.1, 8, .inl (fun _ => 0))), (a6, .inl (g.2.1, 48, .inl (fun _ => 0))), (a7, .inl (g.2.1, 400, .inl (fun _ => 0))), (a8, .inl (g.2.1, 143, .inl f)), (a9, .inl (g.2.1, 2, .inl (fun _ => 0))), (a10, .inl (g.2.1, 48, .inl (fun _ => 0))), (a11, .inl (g.2.1, 48, .inl (fun _ => 0))), (a12, .inl (g.2.1, 48, .inl (fun _ => 0))), (a13, .inl (g.2.1, 48, .inl (fun _ => 0))), (a14, .inl (g.2.1, 1200, .inl (fun _ => 0))), (a15, .inl (g.2.1, 1200, .inl (fun _ => 0))), (a16, .inl (g.2.1, 40, .inl (fun _ => 0))), (a17, .inl (g.2.1, 384, .inl (fun _ => 0))), (a18, .inl (g.2.1, 800, .inl (fun _ => 0)))]) rfl ?_
  refine jc_put (pc := 1023) (ws' := [(h0, .inr (12, [.int 0, .ref a1, .ref a2, .int 0, .int 0, .ref a3, .ref a4, .ref a5, .ref a6, .int 0, .int 0, .int 0, .ref a7, .int 0, .int 0, .int 0, .int 0, .int 0, .ref a8, .ref a9, .ref a10, .ref a11, .ref a12, .ref a13, .ref a14, .ref a15, .int 0, .int 0, .int 0, .ref a16, .int 0, .int 0, .int 0, .int 0, .int (-1), .int 0, .ref a17, .ref a18, .int 0, .int 0, .null, .null, .null, .null, .null, .null, .null, .null, .int 0, .int 0, .int 0, .null, .int 0, .null, .null, .int 0, .int 0, .int 0, .null])), (a1, .inl (g.2.1, 22, .inl (fun _ => 0))), (a2, .inl (g.2.1, 132, .inl (fun _ => 0))), (a3, .inl (g.2.1, 8, .inl (fun _ => 0))), (a4, .inl (g.2.1, 8, .inl (fun _ => 0))), (a5, .inl (g.2.1, 8, .inl (fun _ => 0))), (a6, .inl (g.2.1, 48, .inl (fun _ => 0))), (a7, .inl (g.2.1, 400, .inl (fun _ => 0))), (a8, .inl (g.2.1, 143, .inl f)), (a9, .inl (g.2.1, 2, .inl (fun _ => 0))), (a10, .inl (g.2.1, 48, .inl (fun _ => 0))), (a11, .inl (g.2.1, 48, .inl (fun _ => 0))), (a12, .inl (g.2.1, 48, .inl (fun _ => 0))), (a13, .inl (g.2.1, 48, .inl (fun _ => 0))), (a14, .inl (g.2.1, 1200, .inl (fun _ => 0))), (a15, .inl (g.2.1, 1200, .inl (fun _ => 0))), (a16, .inl (g.2.1, 40, .inl (fun _ => 0))), (a17, .inl (g.2.1, 384, .inl (fun _ => 0))), (a18, .inl (g.2.1, 800, .inl (fun _ => 0)))]) 0 37 dX12_init_1023 fkX12_65 ftX12 (fun q h => by cases h; exact Or.inr ⟨rfl, rfl⟩) rfl rfl rfl (Nat.le_of_ble_eq_true rfl) rfl ?_
  refine jc_aload_n (pc := 1026) 0 dX12_init_1026 rfl ?_
  refine jc_sipush (pc := 1027) 480 dX12_init_1027 (by decide) ?_
  refine jc_newi (pc := 1030) 480 dX12_init_1030 acI (by decide) (by decide) (by decide) (by decide) (by decide) (fun a19 => ?_)
  refine jc_to (ws' := [(h0, .inr (12, [.int 0, .ref a1, .ref a2, .int 0, .int 0, .ref a3, .ref a4, .ref a5, .ref a6, .int 0, .int 0, .int 0, .ref a7, .int 0, .int 0, .int 0, .int 0, .int 0, .ref a8, .ref a9, .ref a10, .ref a11, .ref a12, .ref a13, .ref a14, .ref a15, .int 0, .int 0, .int 0, .ref a16, .int 0, .int 0, .int 0, .int 0, .int (-1), .int 0, .ref a17, .ref a18, .int 0, .int 0, .null, .null, .null, .null, .null, .null, .null, .null, .int 0, .int 0, .int 0, .null, .int 0, .null, .null, .int 0, .int 0, .int 0, .null])), (a1, .inl (g.2.1, 22, .inl (fun _ => 0))), (a2, .inl (g.2.1, 132, .inl (fun _ => 0))), (a3, .inl (g.2.1, 8, .inl (fun _ => 0))), (a4, .inl (g.2.1, 8, .inl (fun _ => 0))), (a5, .inl (g.2.1, 8, .inl (fun _ => 0))), (a6, .inl (g.2.1, 48, .inl (fun _ => 0))), (a7, .inl (g.2.1, 400, .inl (fun _ => 0))), (a8, .inl (g.2.1, 143, .inl f)), (a9, .inl (g.2.1, 2, .inl (fun _ => 0))), (a10, .inl (g.2.1, 48, .inl (fun _ => 0))), (a11, .inl (g.2.1, 48, .inl (fun _ => 0))), (a12, .inl (g.2.1, 48, .inl (fun _ => 0))), (a13, .inl (g.2.1, 48, .inl (fun _ => 0))), (a14, .inl (g.2.1, 1200, .inl (fun _ => 0))), (a15, .inl (g.2.1, 1200, .inl (fun _ => 0))), (a16, .inl (g.2.1, 40, .inl (fun _ => 0))), (a17, .inl (g.2.1, 384, .inl (fun _ => 0))), (a18, .inl (g.2.1, 800, .inl (fun _ => 0))), (a19, .inl (g.2.1, 480, .inl (fun _ => 0)))]) rfl ?_
  refine jc_put (pc := 1032) (ws' := [(h0, .inr (12, [.int 0, .ref a1, .ref a2, .int 0, .int 0, .ref a3, .ref a4, .ref a5, .ref a6, .int 0, .int 0, .int 0, .ref a7, .int 0, .int 0, .int 0, .int 0, .int 0, .ref a8, .ref a9, .ref a10, .ref a11, .ref a12, .ref a13, .ref a14, .ref a15, .int 0, .int 0, .int 0, .ref a16, .int 0, .int 0, .int 0, .int 0, .int (-1), .int 0, .ref a17, .ref a18, .int 0, .int 0, .ref a19, .null, .null, .null, .null, .null, .null, .null, .int 0, .int 0, .int 0, .null, .int 0, .null, .null, .int 0, .int 0, .int 0, .null])), (a1, .inl (g.2.1, 22, .inl (fun _ => 0))), (a2, .inl (g.2.1, 132, .inl (fun _ => 0))), (a3, .inl (g.2.1, 8, .inl (fun _ => 0))), (a4, .inl (g.2.1, 8, .inl (fun _ => 0))), (a5, .inl (g.2.1, 8, .inl (fun _ => 0))), (a6, .inl (g.2.1, 48, .inl (fun _ => 0))), (a7, .inl (g.2.1, 400, .inl (fun _ => 0))), (a8, .inl (g.2.1, 143, .inl f)), (a9, .inl (g.2.1, 2, .inl (fun _ => 0))), (a10, .inl (g.2.1, 48, .inl (fun _ => 0))), (a11, .inl (g.2.1, 48, .inl (fun _ => 0))), (a12, .inl (g.2.1, 48, .inl (fun _ => 0))), (a13, .inl (g.2.1, 48, .inl (fun _ => 0))), (a14, .inl (g.2.1, 1200, .inl (fun _ => 0))), (a15, .inl (g.2.1, 1200, .inl (fun _ => 0))), (a16, .inl (g.2.1, 40, .inl (fun _ => 0))), (a17, .inl (g.2.1, 384, .inl (fun _ => 0))), (a18, .inl (g.2.1, 800, .inl (fun _ => 0))), (a19, .inl (g.2.1, 480, .inl (fun _ => 0)))]) 0 40 dX12_init_1032 fkX12_68 ftX12 (fun q h => by cases h; exact Or.inr ⟨rfl, rfl⟩) rfl rfl rfl (Nat.le_of_ble_eq_true rfl) rfl ?_
  refine jc_aload_n (pc := 1035) 0 dX12_init_1035 rfl ?_
  refine jc_iconst (pc := 1036) 4 dX12_init_1036 (by decide) ?_
  refine jc_newi (pc := 1037) 4 dX12_init_1037 acI (by decide) (by decide) (by decide) (by decide) (by decide) (fun a20 => ?_)
  refine jc_to (ws' := [(h0, .inr (12, [.int 0, .ref a1, .ref a2, .int 0, .int 0, .ref a3, .ref a4, .ref a5, .ref a6, .int 0, .int 0, .int 0, .ref a7, .int 0, .int 0, .int 0, .int 0, .int 0, .ref a8, .ref a9, .ref a10, .ref a11, .ref a12, .ref a13, .ref a14, .ref a15, .int 0, .int 0, .int 0, .ref a16, .int 0, .int 0, .int 0, .int 0, .int (-1), .int 0, .ref a17, .ref a18, .int 0, .int 0, .ref a19, .null, .null, .null, .null, .null, .null, .null, .int 0, .int 0, .int 0, .null, .int 0, .null, .null, .int 0, .int 0, .int 0, .null])), (a1, .inl (g.2.1, 22, .inl (fun _ => 0))), (a2, .inl (g.2.1, 132, .inl (fun _ => 0))), (a3, .inl (g.2.1, 8, .inl (fun _ => 0))), (a4, .inl (g.2.1, 8, .inl (fun _ => 0))), (a5, .inl (g.2.1, 8, .inl (fun _ => 0))), (a6, .inl (g.2.1, 48, .inl (fun _ => 0))), (a7, .inl (g.2.1, 400, .inl (fun _ => 0))), (a8, .inl (g.2.1, 143, .inl f)), (a9, .inl (g.2.1, 2, .inl (fun _ => 0))), (a10, .inl (g.2.1, 48, .inl (fun _ => 0))), (a11, .inl (g.2.1, 48, .inl (fun _ => 0))), (a12, .inl (g.2.1, 48, .inl (fun _ => 0))), (a13, .inl (g.2.1, 48, .inl (fun _ => 0))), (a14, .inl (g.2.1, 1200, .inl (fun _ => 0))), (a15, .inl (g.2.1, 1200, .inl (fun _ => 0))), (a16, .inl (g.2.1, 40, .inl (fun _ => 0))), (a17, .inl (g.2.1, 384, .inl (fun _ => 0))), (a18, .inl (g.2.1, 800, .inl (fun _ => 0))), (a19, .inl (g.2.1, 480, .inl (fun _ => 0))), (a20, .inl (g.2.1, 4, .inl (fun _ => 0)))]) rfl ?_
  refine jc_put (pc := 1039) (ws' := [(h0, .inr (12, [.int 0, .ref a1, .ref a2, .int 0, .int 0, .ref a3, .ref a4, .ref a5, .ref a6, .int 0, .int 0, .int 0, .ref a7, .int 0, .int 0, .int 0, .int 0, .int 0, .ref a8, .ref a9, .ref a10, .ref a11, .ref a12, .ref a13, .ref a14, .ref a15, .int 0, .int 0, .int 0, .ref a16, .int 0, .int 0, .int 0, .int 0, .int (-1), .int 0, .ref a17, .ref a18, .int 0, .int 0, .ref a19, .ref a20, .null, .null, .null, .null, .null, .null, .int 0, .int 0, .int 0, .null, .int 0, .null, .null, .int 0, .int 0, .int 0, .null])), (a1, .inl (g.2.1, 22, .inl (fun _ => 0))), (a2, .inl (g.2.1, 132, .inl (fun _ => 0))), (a3, .inl (g.2.1, 8, .inl (fun _ => 0))), (a4, .inl (g.2.1, 8, .inl (fun _ => 0))), (a5, .inl (g.2.1, 8, .inl (fun _ => 0))), (a6, .inl (g.2.1, 48, .inl (fun _ => 0))), (a7, .inl (g.2.1, 400, .inl (fun _ => 0))), (a8, .inl (g.2.1, 143, .inl f)), (a9, .inl (g.2.1, 2, .inl (fun _ => 0))), (a10, .inl (g.2.1, 48, .inl (fun _ => 0))), (a11, .inl (g.2.1, 48, .inl (fun _ => 0))), (a12, .inl (g.2.1, 48, .inl (fun _ => 0))), (a13, .inl (g.2.1, 48, .inl (fun _ => 0))), (a14, .inl (g.2.1, 1200, .inl (fun _ => 0))), (a15, .inl (g.2.1, 1200, .inl (fun _ => 0))), (a16, .inl (g.2.1, 40, .inl (fun _ => 0))), (a17, .inl (g.2.1, 384, .inl (fun _ => 0))), (a18, .inl (g.2.1, 800, .inl (fun _ => 0))), (a19, .inl (g.2.1, 480, .inl (fun _ => 0))), (a20, .inl (g.2.1, 4, .inl (fun _ => 0)))]) 0 41 dX12_init_1039 fkX12_71 ftX12 (fun q h => by cases h; exact Or.inr ⟨rfl, rfl⟩) rfl rfl rfl (Nat.le_of_ble_eq_true rfl) rfl ?_
  refine jc_aload_n (pc := 1042) 0 dX12_init_1042 rfl ?_
  refine jc_iconst (pc := 1043) 4 dX12_init_1043 (by decide) ?_
  refine jc_newi (pc := 1044) 4 dX12_init_1044 acI (by decide) (by decide) (by decide) (by decide) (by decide) (fun a21 => ?_)
  refine jc_to (ws' := [(h0, .inr (12, [.int 0, .ref a1, .ref a2, .int 0, .int 0, .ref a3, .ref a4, .ref a5, .ref a6, .int 0, .int 0, .int 0, .ref a7, .int 0, .int 0, .int 0, .int 0, .int 0, .ref a8, .ref a9, .ref a10, .ref a11, .ref a12, .ref a13, .ref a14, .ref a15, .int 0, .int 0, .int 0, .ref a16, .int 0, .int 0, .int 0, .int 0, .int (-1), .int 0, .ref a17, .ref a18, .int 0, .int 0, .ref a19, .ref a20, .null, .null, .null, .null, .null, .null, .int 0, .int 0, .int 0, .null, .int 0, .null, .null, .int 0, .int 0, .int 0, .null])), (a1, .inl (g.2.1, 22, .inl (fun _ => 0))), (a2, .inl (g.2.1, 132, .inl (fun _ => 0))), (a3, .inl (g.2.1, 8, .inl (fun _ => 0))), (a4, .inl (g.2.1, 8, .inl (fun _ => 0))), (a5, .inl (g.2.1, 8, .inl (fun _ => 0))), (a6, .inl (g.2.1, 48, .inl (fun _ => 0))), (a7, .inl (g.2.1, 400, .inl (fun _ => 0))), (a8, .inl (g.2.1, 143, .inl f)), (a9, .inl (g.2.1, 2, .inl (fun _ => 0))), (a10, .inl (g.2.1, 48, .inl (fun _ => 0))), (a11, .inl (g.2.1, 48, .inl (fun _ => 0))), (a12, .inl (g.2.1, 48, .inl (fun _ => 0))), (a13, .inl (g.2.1, 48, .inl (fun _ => 0))), (a14, .inl (g.2.1, 1200, .inl (fun _ => 0))), (a15, .inl (g.2.1, 1200, .inl (fun _ => 0))), (a16, .inl (g.2.1, 40, .inl (fun _ => 0))), (a17, .inl (g.2.1, 384, .inl (fun _ => 0))), (a18, .inl (g.2.1, 800, .inl (fun _ => 0))), (a19, .inl (g.2.1, 480, .inl (fun _ => 0))), (a20, .inl (g.2.1, 4, .inl (fun _ => 0))), (a21, .inl (g.2.1, 4, .inl (fun _ => 0)))]) rfl ?_
  refine jc_put (pc := 1046) (ws' := [(h0, .inr (12, [.int 0, .ref a1, .ref a2, .int 0, .int 0, .ref a3, .ref a4, .ref a5, .ref a6, .int 0, .int 0, .int 0, .ref a7, .int 0, .int 0, .int 0, .int 0, .int 0, .ref a8, .ref a9, .ref a10, .ref a11, .ref a12, .ref a13, .ref a14, .ref a15, .int 0, .int 0, .int 0, .ref a16, .int 0, .int 0, .int 0, .int 0, .int (-1), .int 0, .ref a17, .ref a18, .int 0, .int 0, .ref a19, .ref a20, .ref a21, .null, .null, .null, .null, .null, .int 0, .int 0, .int 0, .null, .int 0, .null, .null, .int 0, .int 0, .int 0, .null])), (a1, .inl (g.2.1, 22, .inl (fun _ => 0))), (a2, .inl (g.2.1, 132, .inl (fun _ => 0))), (a3, .inl (g.2.1, 8, .inl (fun _ => 0))), (a4, .inl (g.2.1, 8, .inl (fun _ => 0))), (a5, .inl (g.2.1, 8, .inl (fun _ => 0))), (a6, .inl (g.2.1, 48, .inl (fun _ => 0))), (a7, .inl (g.2.1, 400, .inl (fun _ => 0))), (a8, .inl (g.2.1, 143, .inl f)), (a9, .inl (g.2.1, 2, .inl (fun _ => 0))), (a10, .inl (g.2.1, 48, .inl (fun _ => 0))), (a11, .inl (g.2.1, 48, .inl (fun _ => 0))), (a12, .inl (g.2.1, 48, .inl (fun _ => 0))), (a13, .inl (g.2.1, 48, .inl (fun _ => 0))), (a14, .inl (g.2.1, 1200, .inl (fun _ => 0))), (a15, .inl (g.2.1, 1200, .inl (fun _ => 0))), (a16, .inl (g.2.1, 40, .inl (fun _ => 0))), (a17, .inl (g.2.1, 384, .inl (fun _ => 0))), (a18, .inl (g.2.1, 800, .inl (fun _ => 0))), (a19, .inl (g.2.1, 480, .inl (fun _ => 0))), (a20, .inl (g.2.1, 4, .inl (fun _ => 0))), (a21, .inl (g.2.1, 4, .inl (fun _ => 0)))]) 0 42 dX12_init_1046 fkX12_74 ftX12 (fun q h => by cases h; exact Or.inr ⟨rfl, rfl⟩) rfl rfl rfl (Nat.le_of_ble_eq_true rfl) rfl ?_
  refine jc_aload_n (pc := 1049) 0 dX12_init_1049 rfl ?_
  refine jc_bipush (pc := 1050) 11 dX12_init_1050 (by decide) ?_
  refine jc_newi (pc := 1052) 11 dX12_init_1052 acI (by decide) (by decide) (by decide) (by decide) (by decide) (fun a22 => ?_)
  refine jc_to (ws' := [(h0, .inr (12, [.int 0, .ref a1, .ref a2, .int 0, .int 0, .ref a3, .ref a4, .ref a5, .ref a6, .int 0, .int 0, .int 0, .ref a7, .int 0, .int 0, .int 0, .int 0, .int 0, .ref a8, .ref a9, .ref a10, .ref a11, .ref a12, .ref a13, .ref a14, .ref a15, .int 0, .int 0, .int 0, .ref a16, .int 0, .int 0, .int 0, .int 0, .int (-1), .int 0, .ref a17, .ref a18, .int 0, .int 0, .ref a19, .ref a20, .ref a21, .null, .null, .null, .null, .null, .int 0, .int 0, .int 0, .null, .int 0, .null, .null, .int 0, .int 0, .int 0, .null])), (a1, .inl (g.2.1, 22, .inl (fun _ => 0))), (a2, .inl (g.2.1, 132, .inl (fun _ => 0))), (a3, .inl (g.2.1, 8, .inl (fun _ => 0))), (a4, .inl (g.2.1, 8, .inl (fun _ => 0))), (a5, .inl (g.2.1, 8, .inl (fun _ => 0))), (a6, .inl (g.2.1, 48, .inl (fun _ => 0))), (a7, .inl (g.2.1, 400, .inl (fun _ => 0))), (a8, .inl (g.2.1, 143, .inl f)), (a9, .inl (g.2.1, 2, .inl (fun _ => 0))), (a10, .inl (g.2.1, 48, .inl (fun _ => 0))), (a11, .inl (g.2.1, 48, .inl (fun _ => 0))), (a12, .inl (g.2.1, 48, .inl (fun _ => 0))), (a13, .inl (g.2.1, 48, .inl (fun _ => 0))), (a14, .inl (g.2.1, 1200, .inl (fun _ => 0))), (a15, .inl (g.2.1, 1200, .inl (fun _ => 0))), (a16, .inl (g.2.1, 40, .inl (fun _ => 0))), (a17, .inl (g.2.1, 384, .inl (fun _ => 0))), (a18, .inl (g.2.1, 800, .inl (fun _ => 0))), (a19, .inl (g.2.1, 480, .inl (fun _ => 0))), (a20, .inl (g.2.1, 4, .inl (fun _ => 0))), (a21, .inl (g.2.1, 4, .inl (fun _ => 0))), (a22, .inl (g.2.1, 11, .inl (fun _ => 0)))]) rfl ?_
  refine jc_put (pc := 1054) (ws' := [(h0, .inr (12, [.int 0, .ref a1, .ref a2, .int 0, .int 0, .ref a3, .ref a4, .ref a5, .ref a6, .int 0, .int 0, .int 0, .ref a7, .int 0, .int 0, .int 0, .int 0, .int 0, .ref a8, .ref a9, .ref a10, .ref a11, .ref a12, .ref a13, .ref a14, .ref a15, .int 0, .int 0, .int 0, .ref a16, .int 0, .int 0, .int 0, .int 0, .int (-1), .int 0, .ref a17, .ref a18, .int 0, .int 0, .ref a19, .ref a20, .ref a21, .ref a22, .null, .null, .null, .null, .int 0, .int 0, .int 0, .null, .int 0, .null, .null, .int 0, .int 0, .int 0, .null])), (a1, .inl (g.2.1, 22, .inl (fun _ => 0))), (a2, .inl (g.2.1, 132, .inl (fun _ => 0))), (a3, .inl (g.2.1, 8, .inl (fun _ => 0))), (a4, .inl (g.2.1, 8, .inl (fun _ => 0))), (a5, .inl (g.2.1, 8, .inl (fun _ => 0))), (a6, .inl (g.2.1, 48, .inl (fun _ => 0))), (a7, .inl (g.2.1, 400, .inl (fun _ => 0))), (a8, .inl (g.2.1, 143, .inl f)), (a9, .inl (g.2.1, 2, .inl (fun _ => 0))), (a10, .inl (g.2.1, 48, .inl (fun _ => 0))), (a11, .inl (g.2.1, 48, .inl (fun _ => 0))), (a12, .inl (g.2.1, 48, .inl (fun _ => 0))), (a13, .inl (g.2.1, 48, .inl (fun _ => 0))), (a14, .inl (g.2.1, 1200, .inl (fun _ => 0))), (a15, .inl (g.2.1, 1200, .inl (fun _ => 0))), (a16, .inl (g.2.1, 40, .inl (fun _ => 0))), (a17, .inl (g.2.1, 384, .inl (fun _ => 0))), (a18, .inl (g.2.1, 800, .inl (fun _ => 0))), (a19, .inl (g.2.1, 480, .inl (fun _ => 0))), (a20, .inl (g.2.1, 4, .inl (fun _ => 0))), (a21, .inl (g.2.1, 4, .inl (fun _ => 0))), (a22, .inl (g.2.1, 11, .inl (fun _ => 0)))]) 0 43 dX12_init_1054 fkX12_77 ftX12 (fun q h => by cases h; exact Or.inr ⟨rfl, rfl⟩) rfl rfl rfl (Nat.le_of_ble_eq_true rfl) rfl ?_
  refine jc_aload_n (pc := 1057) 0 dX12_init_1057 rfl ?_
  refine jc_sipush (pc := 1058) 420 dX12_init_1058 (by decide) ?_
  refine jc_newi (pc := 1061) 420 dX12_init_1061 acI (by decide) (by decide) (by decide) (by decide) (by decide) (fun a23 => ?_)
  refine jc_to (ws' := [(h0, .inr (12, [.int 0, .ref a1, .ref a2, .int 0, .int 0, .ref a3, .ref a4, .ref a5, .ref a6, .int 0, .int 0, .int 0, .ref a7, .int 0, .int 0, .int 0, .int 0, .int 0, .ref a8, .ref a9, .ref a10, .ref a11, .ref a12, .ref a13, .ref a14, .ref a15, .int 0, .int 0, .int 0, .ref a16, .int 0, .int 0, .int 0, .int 0, .int (-1), .int 0, .ref a17, .ref a18, .int 0, .int 0, .ref a19, .ref a20, .ref a21, .ref a22, .null, .null, .null, .null, .int 0, .int 0, .int 0, .null, .int 0, .null, .null, .int 0, .int 0, .int 0, .null])), (a1, .inl (g.2.1, 22, .inl (fun _ => 0))), (a2, .inl (g.2.1, 132, .inl (fun _ => 0))), (a3, .inl (g.2.1, 8, .inl (fun _ => 0))), (a4, .inl (g.2.1, 8, .inl (fun _ => 0))), (a5, .inl (g.2.1, 8, .inl (fun _ => 0))), (a6, .inl (g.2.1, 48, .inl (fun _ => 0))), (a7, .inl (g.2.1, 400, .inl (fun _ => 0))), (a8, .inl (g.2.1, 143, .inl f)), (a9, .inl (g.2.1, 2, .inl (fun _ => 0))), (a10, .inl (g.2.1, 48, .inl (fun _ => 0))), (a11, .inl (g.2.1, 48, .inl (fun _ => 0))), (a12, .inl (g.2.1, 48, .inl (fun _ => 0))), (a13, .inl (g.2.1, 48, .inl (fun _ => 0))), (a14, .inl (g.2.1, 1200, .inl (fun _ => 0))), (a15, .inl (g.2.1, 1200, .inl (fun _ => 0))), (a16, .inl (g.2.1, 40, .inl (fun _ => 0))), (a17, .inl (g.2.1, 384, .inl (fun _ => 0))), (a18, .inl (g.2.1, 800, .inl (fun _ => 0))), (a19, .inl (g.2.1, 480, .inl (fun _ => 0))), (a20, .inl (g.2.1, 4, .inl (fun _ => 0))), (a21, .inl (g.2.1, 4, .inl (fun _ => 0))), (a22, .inl (g.2.1, 11, .inl (fun _ => 0))), (a23, .inl (g.2.1, 420, .inl (fun _ => 0)))]) rfl ?_
  refine jc_put (pc := 1063) (ws' := [(h0, .inr (12, [.int 0, .ref a1, .ref a2, .int 0, .int 0, .ref a3, .ref a4, .ref a5, .ref a6, .int 0, .int 0, .int 0, .ref a7, .int 0, .int 0, .int 0, .int 0, .int 0, .ref a8, .ref a9, .ref a10, .ref a11, .ref a12, .ref a13, .ref a14, .ref a15, .int 0, .int 0, .int 0, .ref a16, .int 0, .int 0, .int 0, .int 0, .int (-1), .int 0, .ref a17, .ref a18, .int 0, .int 0, .ref a19, .ref a20, .ref a21, .ref a22, .ref a23, .null, .null, .null, .int 0, .int 0, .int 0, .null, .int 0, .null, .null, .int 0, .int 0, .int 0, .null])), (a1, .inl (g.2.1, 22, .inl (fun _ => 0))), (a2, .inl (g.2.1, 132, .inl (fun _ => 0))), (a3, .inl (g.2.1, 8, .inl (fun _ => 0))), (a4, .inl (g.2.1, 8, .inl (fun _ => 0))), (a5, .inl (g.2.1, 8, .inl (fun _ => 0))), (a6, .inl (g.2.1, 48, .inl (fun _ => 0))), (a7, .inl (g.2.1, 400, .inl (fun _ => 0))), (a8, .inl (g.2.1, 143, .inl f)), (a9, .inl (g.2.1, 2, .inl (fun _ => 0))), (a10, .inl (g.2.1, 48, .inl (fun _ => 0))), (a11, .inl (g.2.1, 48, .inl (fun _ => 0))), (a12, .inl (g.2.1, 48, .inl (fun _ => 0))), (a13, .inl (g.2.1, 48, .inl (fun _ => 0))), (a14, .inl (g.2.1, 1200, .inl (fun _ => 0))), (a15, .inl (g.2.1, 1200, .inl (fun _ => 0))), (a16, .inl (g.2.1, 40, .inl (fun _ => 0))), (a17, .inl (g.2.1, 384, .inl (fun _ => 0))), (a18, .inl (g.2.1, 800, .inl (fun _ => 0))), (a19, .inl (g.2.1, 480, .inl (fun _ => 0))), (a20, .inl (g.2.1, 4, .inl (fun _ => 0))), (a21, .inl (g.2.1, 4, .inl (fun _ => 0))), (a22, .inl (g.2.1, 11, .inl (fun _ => 0))), (a23, .inl (g.2.1, 420, .inl (fun _ => 0)))]) 0 44 dX12_init_1063 fkX12_80 ftX12 (fun q h => by cases h; exact Or.inr ⟨rfl, rfl⟩) rfl rfl rfl (Nat.le_of_ble_eq_true rfl) rfl ?_
  refine jc_aload_n (pc := 1066) 0 dX12_init_1066 rfl ?_
  refine jc_bipush (pc := 1067) 120 dX12_init_1067 (by decide) ?_
  refine jc_newi (pc := 1069) 120 dX12_init_1069 acI (by decide) (by decide) (by decide) (by decide) (by decide) (fun a24 => ?_)
  refine jc_to (ws' := [(h0, .inr (12, [.int 0, .ref a1, .ref a2, .int 0, .int 0, .ref a3, .ref a4, .ref a5, .ref a6, .int 0, .int 0, .int 0, .ref a7, .int 0, .int 0, .int 0, .int 0, .int 0, .ref a8, .ref a9, .ref a10, .ref a11, .ref a12, .ref a13, .ref a14, .ref a15, .int 0, .int 0, .int 0, .ref a16, .int 0, .int 0, .int 0, .int 0, .int (-1), .int 0, .ref a17, .ref a18, .int 0, .int 0, .ref a19, .ref a20, .ref a21, .ref a22, .ref a23, .null, .null, .null, .int 0, .int 0, .int 0, .null, .int 0, .null, .null, .int 0, .int 0, .int 0, .null])), (a1, .inl (g.2.1, 22, .inl (fun _ => 0))), (a2, .inl (g.2.1, 132, .inl (fun _ => 0))), (a3, .inl (g.2.1, 8, .inl (fun _ => 0))), (a4, .inl (g.2.1, 8, .inl (fun _ => 0))), (a5, .inl (g.2.1, 8, .inl (fun _ => 0))), (a6, .inl (g.2.1, 48, .inl (fun _ => 0))), (a7, .inl (g.2.1, 400, .inl (fun _ => 0))), (a8, .inl (g.2.1, 143, .inl f)), (a9, .inl (g.2.1, 2, .inl (fun _ => 0))), (a10, .inl (g.2.1, 48, .inl (fun _ => 0))), (a11, .inl (g.2.1, 48, .inl (fun _ => 0))), (a12, .inl (g.2.1, 48, .inl (fun _ => 0))), (a13, .inl (g.2.1, 48, .inl (fun _ => 0))), (a14, .inl (g.2.1, 1200, .inl (fun _ => 0))), (a15, .inl (g.2.1, 1200, .inl (fun _ => 0))), (a16, .inl (g.2.1, 40, .inl (fun _ => 0))), (a17, .inl (g.2.1, 384, .inl (fun _ => 0))), (a18, .inl (g.2.1, 800, .inl (fun _ => 0))), (a19, .inl (g.2.1, 480, .inl (fun _ => 0))), (a20, .inl (g.2.1, 4, .inl (fun _ => 0))), (a21, .inl (g.2.1, 4, .inl (fun _ => 0))), (a22, .inl (g.2.1, 11, .inl (fun _ => 0))), (a23, .inl (g.2.1, 420, .inl (fun _ => 0))), (a24, .inl (g.2.1, 120, .inl (fun _ => 0)))]) rfl ?_
  refine jc_put (pc := 1071) (ws' := [(h0, .inr (12, [.int 0, .ref a1, .ref a2, .int 0, .int 0, .ref a3, .ref a4, .ref a5, .ref a6, .int 0, .int 0, .int 0, .ref a7, .int 0, .int 0, .int 0, .int 0, .int 0, .ref a8, .ref a9, .ref a10, .ref a11, .ref a12, .ref a13, .ref a14, .ref a15, .int 0, .int 0, .int 0, .ref a16, .int 0, .int 0, .int 0, .int 0, .int (-1), .int 0, .ref a17, .ref a18, .int 0, .int 0, .ref a19, .ref a20, .ref a21, .ref a22, .ref a23, .ref a24, .null, .null, .int 0, .int 0, .int 0, .null, .int 0, .null, .null, .int 0, .int 0, .int 0, .null])), (a1, .inl (g.2.1, 22, .inl (fun _ => 0))), (a2, .inl (g.2.1, 132, .inl (fun _ => 0))), (a3, .inl (g.2.1, 8, .inl (fun _ => 0))), (a4, .inl (g.2.1, 8, .inl (fun _ => 0))), (a5, .inl (g.2.1, 8, .inl (fun _ => 0))), (a6, .inl (g.2.1, 48, .inl (fun _ => 0))), (a7, .inl (g.2.1, 400, .inl (fun _ => 0))), (a8, .inl (g.2.1, 143, .inl f)), (a9, .inl (g.2.1, 2, .inl (fun _ => 0))), (a10, .inl (g.2.1, 48, .inl (fun _ => 0))), (a11, .inl (g.2.1, 48, .inl (fun _ => 0))), (a12, .inl (g.2.1, 48, .inl (fun _ => 0))), (a13, .inl (g.2.1, 48, .inl (fun _ => 0))), (a14, .inl (g.2.1, 1200, .inl (fun _ => 0))), (a15, .inl (g.2.1, 1200, .inl (fun _ => 0))), (a16, .inl (g.2.1, 40, .inl (fun _ => 0))), (a17, .inl (g.2.1, 384, .inl (fun _ => 0))), (a18, .inl (g.2.1, 800, .inl (fun _ => 0))), (a19, .inl (g.2.1, 480, .inl (fun _ => 0))), (a20, .inl (g.2.1, 4, .inl (fun _ => 0))), (a21, .inl (g.2.1, 4, .inl (fun _ => 0))), (a22, .inl (g.2.1, 11, .inl (fun _ => 0))), (a23, .inl (g.2.1, 420, .inl (fun _ => 0))), (a24, .inl (g.2.1, 120, .inl (fun _ => 0)))]) 0 45 dX12_init_1071 fkX12_83 ftX12 (fun q h => by cases h; exact Or.inr ⟨rfl, rfl⟩) rfl rfl rfl (Nat.le_of_ble_eq_true rfl) rfl ?_
  refine jc_aload_n (pc := 1074) 0 dX12_init_1074 rfl ?_
  refine jc_sipush (pc := 1075) 200 dX12_init_1075 (by decide) ?_
  refine jc_newi (pc := 1078) 200 dX12_init_1078 acI (by decide) (by decide) (by decide) (by decide) (by decide) (fun a25 => ?_)
  refine jc_to (ws' := [(h0, .inr (12, [.int 0, .ref a1, .ref a2, .int 0, .int 0, .ref a3, .ref a4, .ref a5, .ref a6, .int 0, .int 0, .int 0, .ref a7, .int 0, .int 0, .int 0, .int 0, .int 0, .ref a8, .ref a9, .ref a10, .ref a11, .ref a12, .ref a13, .ref a14, .ref a15, .int 0, .int 0, .int 0, .ref a16, .int 0, .int 0, .int 0, .int 0, .int (-1), .int 0, .ref a17, .ref a18, .int 0, .int 0, .ref a19, .ref a20, .ref a21, .ref a22, .ref a23, .ref a24, .null, .null, .int 0, .int 0, .int 0, .null, .int 0, .null, .null, .int 0, .int 0, .int 0, .null])), (a1, .inl (g.2.1, 22, .inl (fun _ => 0))), (a2, .inl (g.2.1, 132, .inl (fun _ => 0))), (a3, .inl (g.2.1, 8, .inl (fun _ => 0))), (a4, .inl (g.2.1, 8, .inl (fun _ => 0))), (a5, .inl (g.2.1, 8, .inl (fun _ => 0))), (a6, .inl (g.2.1, 48, .inl (fun _ => 0))), (a7, .inl (g.2.1, 400, .inl (fun _ => 0))), (a8, .inl (g.2.1, 143, .inl f)), (a9, .inl (g.2.1, 2, .inl (fun _ => 0))), (a10, .inl (g.2.1, 48, .inl (fun _ => 0))), (a11, .inl (g.2.1, 48, .inl (fun _ => 0))), (a12, .inl (g.2.1, 48, .inl (fun _ => 0))), (a13, .inl (g.2.1, 48, .inl (fun _ => 0))), (a14, .inl (g.2.1, 1200, .inl (fun _ => 0))), (a15, .inl (g.2.1, 1200, .inl (fun _ => 0))), (a16, .inl (g.2.1, 40, .inl (fun _ => 0))), (a17, .inl (g.2.1, 384, .inl (fun _ => 0))), (a18, .inl (g.2.1, 800, .inl (fun _ => 0))), (a19, .inl (g.2.1, 480, .inl (fun _ => 0))), (a20, .inl (g.2.1, 4, .inl (fun _ => 0))), (a21, .inl (g.2.1, 4, .inl (fun _ => 0))), (a22, .inl (g.2.1, 11, .inl (fun _ => 0))), (a23, .inl (g.2.1, 420, .inl (fun _ => 0))), (a24, .inl (g.2.1, 120, .inl (fun _ => 0))), (a25, .inl (g.2.1, 200, .inl (fun _ => 0)))]) rfl ?_
  refine jc_put (pc := 1080) (ws' := [(h0, .inr (12, [.int 0, .ref a1, .ref a2, .int 0, .int 0, .ref a3, .ref a4, .ref a5, .ref a6, .int 0, .int 0, .int 0, .ref a7, .int 0, .int 0, .int 0, .int 0, .int 0, .ref a8, .ref a9, .ref a10, .ref a11, .ref a12, .ref a13, .ref a14, .ref a15, .int 0, .int 0, .int 0, .ref a16, .int 0, .int 0, .int 0, .int 0, .int (-1), .int 0, .ref a17, .ref a18, .int 0, .int 0, .ref a19, .ref a20, .ref a21, .ref a22, .ref a23, .ref a24, .ref a25, .null, .int 0, .int 0, .int 0, .null, .int 0, .null, .null, .int 0, .int 0, .int 0, .null])), (a1, .inl (g.2.1, 22, .inl (fun _ => 0))), (a2, .inl (g.2.1, 132, .inl (fun _ => 0))), (a3, .inl (g.2.1, 8, .inl (fun _ => 0))), (a4, .inl (g.2.1, 8, .inl (fun _ => 0))), (a5, .inl (g.2.1, 8, .inl (fun _ => 0))), (a6, .inl (g.2.1, 48, .inl (fun _ => 0))), (a7, .inl (g.2.1, 400, .inl (fun _ => 0))), (a8, .inl (g.2.1, 143, .inl f)), (a9, .inl (g.2.1, 2, .inl (fun _ => 0))), (a10, .inl (g.2.1, 48, .inl (fun _ => 0))), (a11, .inl (g.2.1, 48, .inl (fun _ => 0))), (a12, .inl (g.2.1, 48, .inl (fun _ => 0))), (a13, .inl (g.2.1, 48, .inl (fun _ => 0))), (a14, .inl (g.2.1, 1200, .inl (fun _ => 0))), (a15, .inl (g.2.1, 1200, .inl (fun _ => 0))), (a16, .inl (g.2.1, 40, .inl (fun _ => 0))), (a17, .inl (g.2.1, 384, .inl (fun _ => 0))), (a18, .inl (g.2.1, 800, .inl (fun _ => 0))), (a19, .inl (g.2.1, 480, .inl (fun _ => 0))), (a20, .inl (g.2.1, 4, .inl (fun _ => 0))), (a21, .inl (g.2.1, 4, .inl (fun _ => 0))), (a22, .inl (g.2.1, 11, .inl (fun _ => 0))), (a23, .inl (g.2.1, 420, .inl (fun _ => 0))), (a24, .inl (g.2.1, 120, .inl (fun _ => 0))), (a25, .inl (g.2.1, 200, .inl (fun _ => 0)))]) 0 46 dX12_init_1080 fkX12_86 ftX12 (fun q h => by cases h; exact Or.inr ⟨rfl, rfl⟩) rfl rfl rfl (Nat.le_of_ble_eq_true rfl) rfl ?_
  refine jc_aload_n (pc := 1083) 0 dX12_init_1083 rfl ?_
  refine jc_sipush (pc := 1084) 600 dX12_init_1084 (by decide) ?_
  refine jc_newi (pc := 1087) 600 dX12_init_1087 acI (by decide) (by decide) (by decide) (by decide) (by decide) (fun a26 => ?_)
  refine jc_to (ws' := [(h0, .inr (12, [.int 0, .ref a1, .ref a2, .int 0, .int 0, .ref a3, .ref a4, .ref a5, .ref a6, .int 0, .int 0, .int 0, .ref a7, .int 0, .int 0, .int 0, .int 0, .int 0, .ref a8, .ref a9, .ref a10, .ref a11, .ref a12, .ref a13, .ref a14, .ref a15, .int 0, .int 0, .int 0, .ref a16, .int 0, .int 0, .int 0, .int 0, .int (-1), .int 0, .ref a17, .ref a18, .int 0, .int 0, .ref a19, .ref a20, .ref a21, .ref a22, .ref a23, .ref a24, .ref a25, .null, .int 0, .int 0, .int 0, .null, .int 0, .null, .null, .int 0, .int 0, .int 0, .null])), (a1, .inl (g.2.1, 22, .inl (fun _ => 0))), (a2, .inl (g.2.1, 132, .inl (fun _ => 0))), (a3, .inl (g.2.1, 8, .inl (fun _ => 0))), (a4, .inl (g.2.1, 8, .inl (fun _ => 0))), (a5, .inl (g.2.1, 8, .inl (fun _ => 0))), (a6, .inl (g.2.1, 48, .inl (fun _ => 0))), (a7, .inl (g.2.1, 400, .inl (fun _ => 0))), (a8, .inl (g.2.1, 143, .inl f)), (a9, .inl (g.2.1, 2, .inl (fun _ => 0))), (a10, .inl (g.2.1, 48, .inl (fun _ => 0))), (a11, .inl (g.2.1, 48, .inl (fun _ => 0))), (a12, .inl (g.2.1, 48, .inl (fun _ => 0))), (a13, .inl (g.2.1, 48, .inl (fun _ => 0))), (a14, .inl (g.2.1, 1200, .inl (fun _ => 0))), (a15, .inl (g.2.1, 1200, .inl (fun _ => 0))), (a16, .inl (g.2.1, 40, .inl (fun _ => 0))), (a17, .inl (g.2.1, 384, .inl (fun _ => 0))), (a18, .inl (g.2.1, 800, .inl (fun _ => 0))), (a19, .inl (g.2.1, 480, .inl (fun _ => 0))), (a20, .inl (g.2.1, 4, .inl (fun _ => 0))), (a21, .inl (g.2.1, 4, .inl (fun _ => 0))), (a22, .inl (g.2.1, 11, .inl (fun _ => 0))), (a23, .inl (g.2.1, 420, .inl (fun _ => 0))), (a24, .inl (g.2.1, 120, .inl (fun _ => 0))), (a25, .inl (g.2.1, 200, .inl (fun _ => 0))), (a26, .inl (g.2.1, 600, .inl (fun _ => 0)))]) rfl ?_
  refine jc_put (pc := 1089) (ws' := [(h0, .inr (12, [.int 0, .ref a1, .ref a2, .int 0, .int 0, .ref a3, .ref a4, .ref a5, .ref a6, .int 0, .int 0, .int 0, .ref a7, .int 0, .int 0, .int 0, .int 0, .int 0, .ref a8, .ref a9, .ref a10, .ref a11, .ref a12, .ref a13, .ref a14, .ref a15, .int 0, .int 0, .int 0, .ref a16, .int 0, .int 0, .int 0, .int 0, .int (-1), .int 0, .ref a17, .ref a18, .int 0, .int 0, .ref a19, .ref a20, .ref a21, .ref a22, .ref a23, .ref a24, .ref a25, .ref a26, .int 0, .int 0, .int 0, .null, .int 0, .null, .null, .int 0, .int 0, .int 0, .null])), (a1, .inl (g.2.1, 22, .inl (fun _ => 0))), (a2, .inl (g.2.1, 132, .inl (fun _ => 0))), (a3, .inl (g.2.1, 8, .inl (fun _ => 0))), (a4, .inl (g.2.1, 8, .inl (fun _ => 0))), (a5, .inl (g.2.1, 8, .inl (fun _ => 0))), (a6, .inl (g.2.1, 48, .inl (fun _ => 0))), (a7, .inl (g.2.1, 400, .inl (fun _ => 0))), (a8, .inl (g.2.1, 143, .inl f)), (a9, .inl (g.2.1, 2, .inl (fun _ => 0))), (a10, .inl (g.2.1, 48, .inl (fun _ => 0))), (a11, .inl (g.2.1, 48, .inl (fun _ => 0))), (a12, .inl (g.2.1, 48, .inl (fun _ => 0))), (a13, .inl (g.2.1, 48, .inl (fun _ => 0))), (a14, .inl (g.2.1, 1200, .inl (fun _ => 0))), (a15, .inl (g.2.1, 1200, .inl (fun _ => 0))), (a16, .inl (g.2.1, 40, .inl (fun _ => 0))), (a17, .inl (g.2.1, 384, .inl (fun _ => 0))), (a18, .inl (g.2.1, 800, .inl (fun _ => 0))), (a19, .inl (g.2.1, 480, .inl (fun _ => 0))), (a20, .inl (g.2.1, 4, .inl (fun _ => 0))), (a21, .inl (g.2.1, 4, .inl (fun _ => 0))), (a22, .inl (g.2.1, 11, .inl (fun _ => 0))), (a23, .inl (g.2.1, 420, .inl (fun _ => 0))), (a24, .inl (g.2.1, 120, .inl (fun _ => 0))), (a25, .inl (g.2.1, 200, .inl (fun _ => 0))), (a26, .inl (g.2.1, 600, .inl (fun _ => 0)))]) 0 47 dX12_init_1089 fkX12_89 ftX12 (fun q h => by cases h; exact Or.inr ⟨rfl, rfl⟩) rfl rfl rfl (Nat.le_of_ble_eq_true rfl) rfl ?_
  refine jc_aload_n (pc := 1092) 0 dX12_init_1092 rfl ?_
  refine jc_bipush (pc := 1093) 10 dX12_init_1093 (by decide) ?_
  refine jc_newi (pc := 1095) 10 dX12_init_1095 acI (by decide) (by decide) (by decide) (by decide) (by decide) (fun a27 => ?_)
  refine jc_to (ws' := [(h0, .inr (12, [.int 0, .ref a1, .ref a2, .int 0, .int 0, .ref a3, .ref a4, .ref a5, .ref a6, .int 0, .int 0, .int 0, .ref a7, .int 0, .int 0, .int 0, .int 0, .int 0, .ref a8, .ref a9, .ref a10, .ref a11, .ref a12, .ref a13, .ref a14, .ref a15, .int 0, .int 0, .int 0, .ref a16, .int 0, .int 0, .int 0, .int 0, .int (-1), .int 0, .ref a17, .ref a18, .int 0, .int 0, .ref a19, .ref a20, .ref a21, .ref a22, .ref a23, .ref a24, .ref a25, .ref a26, .int 0, .int 0, .int 0, .null, .int 0, .null, .null, .int 0, .int 0, .int 0, .null])), (a1, .inl (g.2.1, 22, .inl (fun _ => 0))), (a2, .inl (g.2.1, 132, .inl (fun _ => 0))), (a3, .inl (g.2.1, 8, .inl (fun _ => 0))), (a4, .inl (g.2.1, 8, .inl (fun _ => 0))), (a5, .inl (g.2.1, 8, .inl (fun _ => 0))), (a6, .inl (g.2.1, 48, .inl (fun _ => 0))), (a7, .inl (g.2.1, 400, .inl (fun _ => 0))), (a8, .inl (g.2.1, 143, .inl f)), (a9, .inl (g.2.1, 2, .inl (fun _ => 0))), (a10, .inl (g.2.1, 48, .inl (fun _ => 0))), (a11, .inl (g.2.1, 48, .inl (fun _ => 0))), (a12, .inl (g.2.1, 48, .inl (fun _ => 0))), (a13, .inl (g.2.1, 48, .inl (fun _ => 0))), (a14, .inl (g.2.1, 1200, .inl (fun _ => 0))), (a15, .inl (g.2.1, 1200, .inl (fun _ => 0))), (a16, .inl (g.2.1, 40, .inl (fun _ => 0))), (a17, .inl (g.2.1, 384, .inl (fun _ => 0))), (a18, .inl (g.2.1, 800, .inl (fun _ => 0))), (a19, .inl (g.2.1, 480, .inl (fun _ => 0))), (a20, .inl (g.2.1, 4, .inl (fun _ => 0))), (a21, .inl (g.2.1, 4, .inl (fun _ => 0))), (a22, .inl (g.2.1, 11, .inl (fun _ => 0))), (a23, .inl (g.2.1, 420, .inl (fun _ => 0))), (a24, .inl (g.2.1, 120, .inl (fun _ => 0))), (a25, .inl (g.2.1, 200, .inl (fun _ => 0))), (a26, .inl (g.2.1, 600, .inl (fun _ => 0))), (a27, .inl (g.2.1, 10, .inl (fun _ => 0)))]) rfl ?_
  refine jc_put (pc := 1097) (ws' := [(h0, .inr (12, [.int 0, .ref a1, .ref a2, .int 0, .int 0, .ref a3, .ref a4, .ref a5, .ref a6, .int 0, .int 0, .int 0, .ref a7, .int 0, .int 0, .int 0, .int 0, .int 0, .ref a8, .ref a9, .ref a10, .ref a11, .ref a12, .ref a13, .ref a14, .ref a15, .int 0, .int 0, .int 0, .ref a16, .int 0, .int 0, .int 0, .int 0, .int (-1), .int 0, .ref a17, .ref a18, .int 0, .int 0, .ref a19, .ref a20, .ref a21, .ref a22, .ref a23, .ref a24, .ref a25, .ref a26, .int 0, .int 0, .int 0, .ref a27, .int 0, .null, .null, .int 0, .int 0, .int 0, .null])), (a1, .inl (g.2.1, 22, .inl (fun _ => 0))), (a2, .inl (g.2.1, 132, .inl (fun _ => 0))), (a3, .inl (g.2.1, 8, .inl (fun _ => 0))), (a4, .inl (g.2.1, 8, .inl (fun _ => 0))), (a5, .inl (g.2.1, 8, .inl (fun _ => 0))), (a6, .inl (g.2.1, 48, .inl (fun _ => 0))), (a7, .inl (g.2.1, 400, .inl (fun _ => 0))), (a8, .inl (g.2.1, 143, .inl f)), (a9, .inl (g.2.1, 2, .inl (fun _ => 0))), (a10, .inl (g.2.1, 48, .inl (fun _ => 0))), (a11, .inl (g.2.1, 48, .inl (fun _ => 0))), (a12, .inl (g.2.1, 48, .inl (fun _ => 0))), (a13, .inl (g.2.1, 48, .inl (fun _ => 0))), (a14, .inl (g.2.1, 1200, .inl (fun _ => 0))), (a15, .inl (g.2.1, 1200, .inl (fun _ => 0))), (a16, .inl (g.2.1, 40, .inl (fun _ => 0))), (a17, .inl (g.2.1, 384, .inl (fun _ => 0))), (a18, .inl (g.2.1, 800, .inl (fun _ => 0))), (a19, .inl (g.2.1, 480, .inl (fun _ => 0))), (a20, .inl (g.2.1, 4, .inl (fun _ => 0))), (a21, .inl (g.2.1, 4, .inl (fun _ => 0))), (a22, .inl (g.2.1, 11, .inl (fun _ => 0))), (a23, .inl (g.2.1, 420, .inl (fun _ => 0))), (a24, .inl (g.2.1, 120, .inl (fun _ => 0))), (a25, .inl (g.2.1, 200, .inl (fun _ => 0))), (a26, .inl (g.2.1, 600, .inl (fun _ => 0))), (a27, .inl (g.2.1, 10, .inl (fun _ => 0)))]) 0 51 dX12_init_1097 fkX12_92 ftX12 (fun q h => by cases h; exact Or.inr ⟨rfl, rfl⟩) rfl rfl rfl (Nat.le_of_ble_eq_true rfl) rfl ?_
  refine jc_aload_n (pc := 1100) 0 dX12_init_1100 rfl ?_
  refine jc_bipush (pc := 1101) 12 dX12_init_1101 (by decide) ?_
  refine jc_newi (pc := 1103) 12 dX12_init_1103 acI (by decide) (by decide) (by decide) (by decide) (by decide) (fun a28 => ?_)
  refine jc_to (ws' := [(h0, .inr (12, [.int 0, .ref a1, .ref a2, .int 0, .int 0, .ref a3, .ref a4, .ref a5, .ref a6, .int 0, .int 0, .int 0, .ref a7, .int 0, .int 0, .int 0, .int 0, .int 0, .ref a8, .ref a9, .ref a10, .ref a11, .ref a12, .ref a13, .ref a14, .ref a15, .int 0, .int 0, .int 0, .ref a16, .int 0, .int 0, .int 0, .int 0, .int (-1), .int 0, .ref a17, .ref a18, .int 0, .int 0, .ref a19, .ref a20, .ref a21, .ref a22, .ref a23, .ref a24, .ref a25, .ref a26, .int 0, .int 0, .int 0, .ref a27, .int 0, .null, .null, .int 0, .int 0, .int 0, .null])), (a1, .inl (g.2.1, 22, .inl (fun _ => 0))), (a2, .inl (g.2.1, 132, .inl (fun _ => 0))), (a3, .inl (g.2.1, 8, .inl (fun _ => 0))), (a4, .inl (g.2.1, 8, .inl (fun _ => 0))), (a5, .inl (g.2.1, 8, .inl (fun _ => 0))), (a6, .inl (g.2.1, 48, .inl (fun _ => 0))), (a7, .inl (g.2.1, 400, .inl (fun _ => 0))), (a8, .inl (g.2.1, 143, .inl f)), (a9, .inl (g.2.1, 2, .inl (fun _ => 0))), (a10, .inl (g.2.1, 48, .inl (fun _ => 0))), (a11, .inl (g.2.1, 48, .inl (fun _ => 0))), (a12, .inl (g.2.1, 48, .inl (fun _ => 0))), (a13, .inl (g.2.1, 48, .inl (fun _ => 0))), (a14, .inl (g.2.1, 1200, .inl (fun _ => 0))), (a15, .inl (g.2.1, 1200, .inl (fun _ => 0))), (a16, .inl (g.2.1, 40, .inl (fun _ => 0))), (a17, .inl (g.2.1, 384, .inl (fun _ => 0))), (a18, .inl (g.2.1, 800, .inl (fun _ => 0))), (a19, .inl (g.2.1, 480, .inl (fun _ => 0))), (a20, .inl (g.2.1, 4, .inl (fun _ => 0))), (a21, .inl (g.2.1, 4, .inl (fun _ => 0))), (a22, .inl (g.2.1, 11, .inl (fun _ => 0))), (a23, .inl (g.2.1, 420, .inl (fun _ => 0))), (a24, .inl (g.2.1, 120, .inl (fun _ => 0))), (a25, .inl (g.2.1, 200, .inl (fun _ => 0))), (a26, .inl (g.2.1, 600, .inl (fun _ => 0))), (a27, .inl (g.2.1, 10, .inl (fun _ => 0))), (a28, .inl (g.2.1, 12, .inl (fun _ => 0)))]) rfl ?_
  refine jc_put (pc := 1105) (ws' := [(h0, .inr (12, [.int 0, .ref a1, .ref a2, .int 0, .int 0, .ref a3, .ref a4, .ref a5, .ref a6, .int 0, .int 0, .int 0, .ref a7, .int 0, .int 0, .int 0, .int 0, .int 0, .ref a8, .ref a9, .ref a10, .ref a11, .ref a12, .ref a13, .ref a14, .ref a15, .int 0, .int 0, .int 0, .ref a16, .int 0, .int 0, .int 0, .int 0, .int (-1), .int 0, .ref a17, .ref a18, .int 0, .int 0, .ref a19, .ref a20, .ref a21, .ref a22, .ref a23, .ref a24, .ref a25, .ref a26, .int 0, .int 0, .int 0, .ref a27, .int 0, .ref a28, .null, .int 0, .int 0, .int 0, .null])), (a1, .inl (g.2.1, 22, .inl (fun _ => 0))), (a2, .inl (g.2.1, 132, .inl (fun _ => 0))), (a3, .inl (g.2.1, 8, .inl (fun _ => 0))), (a4, .inl (g.2.1, 8, .inl (fun _ => 0))), (a5, .inl (g.2.1, 8, .inl (fun _ => 0))), (a6, .inl (g.2.1, 48, .inl (fun _ => 0))), (a7, .inl (g.2.1, 400, .inl (fun _ => 0))), (a8, .inl (g.2.1, 143, .inl f)), (a9, .inl (g.2.1, 2, .inl (fun _ => 0))), (a10, .inl (g.2.1, 48, .inl (fun _ => 0))), (a11, .inl (g.2.1, 48, .inl (fun _ => 0))), (a12, .inl (g.2.1, 48, .inl (fun _ => 0))), (a13, .inl (g.2.1, 48, .inl (fun _ => 0))), (a14, .inl (g.2.1, 1200, .inl (fun _ => 0))), (a15, .inl (g.2.1, 1200, .inl (fun _ => 0))), (a16, .inl (g.2.1, 40, .inl (fun _ => 0))), (a17, .inl (g.2.1, 384, .inl (fun _ => 0))), (a18, .inl (g.2.1, 800, .inl (fun _ => 0))), (a19, .inl (g.2.1, 480, .inl (fun _ => 0))), (a20, .inl (g.2.1, 4, .inl (fun _ => 0))), (a21, .inl (g.2.1, 4, .inl (fun _ => 0))), (a22, .inl (g.2.1, 11, .inl (fun _ => 0))), (a23, .inl (g.2.1, 420, .inl (fun _ => 0))), (a24, .inl (g.2.1, 120, .inl (fun _ => 0))), (a25, .inl (g.2.1, 200, .inl (fun _ => 0))), (a26, .inl (g.2.1, 600, .inl (fun _ => 0))), (a27, .inl (g.2.1, 10, .inl (fun _ => 0))), (a28, .inl (g.2.1, 12, .inl (fun _ => 0)))]) 0 53 dX12_init_1105 fkX12_95 ftX12 (fun q h => by cases h; exact Or.inr ⟨rfl, rfl⟩) rfl rfl rfl (Nat.le_of_ble_eq_true rfl) rfl ?_
  refine jc_aload_n (pc := 1108) 0 dX12_init_1108 rfl ?_
  refine jc_bipush (pc := 1109) 24 dX12_init_1109 (by decide) ?_
  refine jc_newi (pc := 1111) 24 dX12_init_1111 acI (by decide) (by decide) (by decide) (by decide) (by decide) (fun a29 => ?_)
  refine jc_to (ws' := [(h0, .inr (12, [.int 0, .ref a1, .ref a2, .int 0, .int 0, .ref a3, .ref a4, .ref a5, .ref a6, .int 0, .int 0, .int 0, .ref a7, .int 0, .int 0, .int 0, .int 0, .int 0, .ref a8, .ref a9, .ref a10, .ref a11, .ref a12, .ref a13, .ref a14, .ref a15, .int 0, .int 0, .int 0, .ref a16, .int 0, .int 0, .int 0, .int 0, .int (-1), .int 0, .ref a17, .ref a18, .int 0, .int 0, .ref a19, .ref a20, .ref a21, .ref a22, .ref a23, .ref a24, .ref a25, .ref a26, .int 0, .int 0, .int 0, .ref a27, .int 0, .ref a28, .null, .int 0, .int 0, .int 0, .null])), (a1, .inl (g.2.1, 22, .inl (fun _ => 0))), (a2, .inl (g.2.1, 132, .inl (fun _ => 0))), (a3, .inl (g.2.1, 8, .inl (fun _ => 0))), (a4, .inl (g.2.1, 8, .inl (fun _ => 0))), (a5, .inl (g.2.1, 8, .inl (fun _ => 0))), (a6, .inl (g.2.1, 48, .inl (fun _ => 0))), (a7, .inl (g.2.1, 400, .inl (fun _ => 0))), (a8, .inl (g.2.1, 143, .inl f)), (a9, .inl (g.2.1, 2, .inl (fun _ => 0))), (a10, .inl (g.2.1, 48, .inl (fun _ => 0))), (a11, .inl (g.2.1, 48, .inl (fun _ => 0))), (a12, .inl (g.2.1, 48, .inl (fun _ => 0))), (a13, .inl (g.2.1, 48, .inl (fun _ => 0))), (a14, .inl (g.2.1, 1200, .inl (fun _ => 0))), (a15, .inl (g.2.1, 1200, .inl (fun _ => 0))), (a16, .inl (g.2.1, 40, .inl (fun _ => 0))), (a17, .inl (g.2.1, 384, .inl (fun _ => 0))), (a18, .inl (g.2.1, 800, .inl (fun _ => 0))), (a19, .inl (g.2.1, 480, .inl (fun _ => 0))), (a20, .inl (g.2.1, 4, .inl (fun _ => 0))), (a21, .inl (g.2.1, 4, .inl (fun _ => 0))), (a22, .inl (g.2.1, 11, .inl (fun _ => 0))), (a23, .inl (g.2.1, 420, .inl (fun _ => 0))), (a24, .inl (g.2.1, 120, .inl (fun _ => 0))), (a25, .inl (g.2.1, 200, .inl (fun _ => 0))), (a26, .inl (g.2.1, 600, .inl (fun _ => 0))), (a27, .inl (g.2.1, 10, .inl (fun _ => 0))), (a28, .inl (g.2.1, 12, .inl (fun _ => 0))), (a29, .inl (g.2.1, 24, .inl (fun _ => 0)))]) rfl ?_
  refine jc_put (pc := 1113) (ws' := [(h0, .inr (12, [.int 0, .ref a1, .ref a2, .int 0, .int 0, .ref a3, .ref a4, .ref a5, .ref a6, .int 0, .int 0, .int 0, .ref a7, .int 0, .int 0, .int 0, .int 0, .int 0, .ref a8, .ref a9, .ref a10, .ref a11, .ref a12, .ref a13, .ref a14, .ref a15, .int 0, .int 0, .int 0, .ref a16, .int 0, .int 0, .int 0, .int 0, .int (-1), .int 0, .ref a17, .ref a18, .int 0, .int 0, .ref a19, .ref a20, .ref a21, .ref a22, .ref a23, .ref a24, .ref a25, .ref a26, .int 0, .int 0, .int 0, .ref a27, .int 0, .ref a28, .ref a29, .int 0, .int 0, .int 0, .null])), (a1, .inl (g.2.1, 22, .inl (fun _ => 0))), (a2, .inl (g.2.1, 132, .inl (fun _ => 0))), (a3, .inl (g.2.1, 8, .inl (fun _ => 0))), (a4, .inl (g.2.1, 8, .inl (fun _ => 0))), (a5, .inl (g.2.1, 8, .inl (fun _ => 0))), (a6, .inl (g.2.1, 48, .inl (fun _ => 0))), (a7, .inl (g.2.1, 400, .inl (fun _ => 0))), (a8, .inl (g.2.1, 143, .inl f)), (a9, .inl (g.2.1, 2, .inl (fun _ => 0))), (a10, .inl (g.2.1, 48, .inl (fun _ => 0))), (a11, .inl (g.2.1, 48, .inl (fun _ => 0))), (a12, .inl (g.2.1, 48, .inl (fun _ => 0))), (a13, .inl (g.2.1, 48, .inl (fun _ => 0))), (a14, .inl (g.2.1, 1200, .inl (fun _ => 0))), (a15, .inl (g.2.1, 1200, .inl (fun _ => 0))), (a16, .inl (g.2.1, 40, .inl (fun _ => 0))), (a17, .inl (g.2.1, 384, .inl (fun _ => 0))), (a18, .inl (g.2.1, 800, .inl (fun _ => 0))), (a19, .inl (g.2.1, 480, .inl (fun _ => 0))), (a20, .inl (g.2.1, 4, .inl (fun _ => 0))), (a21, .inl (g.2.1, 4, .inl (fun _ => 0))), (a22, .inl (g.2.1, 11, .inl (fun _ => 0))), (a23, .inl (g.2.1, 420, .inl (fun _ => 0))), (a24, .inl (g.2.1, 120, .inl (fun _ => 0))), (a25, .inl (g.2.1, 200, .inl (fun _ => 0))), (a26, .inl (g.2.1, 600, .inl (fun _ => 0))), (a27, .inl (g.2.1, 10, .inl (fun _ => 0))), (a28, .inl (g.2.1, 12, .inl (fun _ => 0))), (a29, .inl (g.2.1, 24, .inl (fun _ => 0)))]) 0 54 dX12_init_1113 fkX12_98 ftX12 (fun q h => by cases h; exact Or.inr ⟨rfl, rfl⟩) rfl rfl rfl (Nat.le_of_ble_eq_true rfl) rfl ?_
  refine jc_aload_n (pc := 1116) 0 dX12_init_1116 rfl ?_
  refine jc_sipush (pc := 1117) 2700 dX12_init_1117 (by decide) ?_
  refine jc_newi (pc := 1120) 2700 dX12_init_1120 acI (by decide) (by decide) (by decide) (by decide) (by decide) (fun a30 => ?_)
  refine jc_to (ws' := [(h0, .inr (12, [.int 0, .ref a1, .ref a2, .int 0, .int 0, .ref a3, .ref a4, .ref a5, .ref a6, .int 0, .int 0, .int 0, .ref a7, .int 0, .int 0, .int 0, .int 0, .int 0, .ref a8, .ref a9, .ref a10, .ref a11, .ref a12, .ref a13, .ref a14, .ref a15, .int 0, .int 0, .int 0, .ref a16, .int 0, .int 0, .int 0, .int 0, .int (-1), .int 0, .ref a17, .ref a18, .int 0, .int 0, .ref a19, .ref a20, .ref a21, .ref a22, .ref a23, .ref a24, .ref a25, .ref a26, .int 0, .int 0, .int 0, .ref a27, .int 0, .ref a28, .ref a29, .int 0, .int 0, .int 0, .null])), (a1, .inl (g.2.1, 22, .inl (fun _ => 0))), (a2, .inl (g.2.1, 132, .inl (fun _ => 0))), (a3, .inl (g.2.1, 8, .inl (fun _ => 0))), (a4, .inl (g.2.1, 8, .inl (fun _ => 0))), (a5, .inl (g.2.1, 8, .inl (fun _ => 0))), (a6, .inl (g.2.1, 48, .inl (fun _ => 0))), (a7, .inl (g.2.1, 400, .inl (fun _ => 0))), (a8, .inl (g.2.1, 143, .inl f)), (a9, .inl (g.2.1, 2, .inl (fun _ => 0))), (a10, .inl (g.2.1, 48, .inl (fun _ => 0))), (a11, .inl (g.2.1, 48, .inl (fun _ => 0))), (a12, .inl (g.2.1, 48, .inl (fun _ => 0))), (a13, .inl (g.2.1, 48, .inl (fun _ => 0))), (a14, .inl (g.2.1, 1200, .inl (fun _ => 0))), (a15, .inl (g.2.1, 1200, .inl (fun _ => 0))), (a16, .inl (g.2.1, 40, .inl (fun _ => 0))), (a17, .inl (g.2.1, 384, .inl (fun _ => 0))), (a18, .inl (g.2.1, 800, .inl (fun _ => 0))), (a19, .inl (g.2.1, 480, .inl (fun _ => 0))), (a20, .inl (g.2.1, 4, .inl (fun _ => 0))), (a21, .inl (g.2.1, 4, .inl (fun _ => 0))), (a22, .inl (g.2.1, 11, .inl (fun _ => 0))), (a23, .inl (g.2.1, 420, .inl (fun _ => 0))), (a24, .inl (g.2.1, 120, .inl (fun _ => 0))), (a25, .inl (g.2.1, 200, .inl (fun _ => 0))), (a26, .inl (g.2.1, 600, .inl (fun _ => 0))), (a27, .inl (g.2.1, 10, .inl (fun _ => 0))), (a28, .inl (g.2.1, 12, .inl (fun _ => 0))), (a29, .inl (g.2.1, 24, .inl (fun _ => 0))), (a30, .inl (g.2.1, 2700, .inl (fun _ => 0)))]) rfl ?_
  refine jc_put (pc := 1122) (ws' := [(h0, .inr (12, [.int 0, .ref a1, .ref a2, .int 0, .int 0, .ref a3, .ref a4, .ref a5, .ref a6, .int 0, .int 0, .int 0, .ref a7, .int 0, .int 0, .int 0, .int 0, .int 0, .ref a8, .ref a9, .ref a10, .ref a11, .ref a12, .ref a13, .ref a14, .ref a15, .int 0, .int 0, .int 0, .ref a16, .int 0, .int 0, .int 0, .int 0, .int (-1), .int 0, .ref a17, .ref a18, .int 0, .int 0, .ref a19, .ref a20, .ref a21, .ref a22, .ref a23, .ref a24, .ref a25, .ref a26, .int 0, .int 0, .int 0, .ref a27, .int 0, .ref a28, .ref a29, .int 0, .int 0, .int 0, .ref a30])), (a1, .inl (g.2.1, 22, .inl (fun _ => 0))), (a2, .inl (g.2.1, 132, .inl (fun _ => 0))), (a3, .inl (g.2.1, 8, .inl (fun _ => 0))), (a4, .inl (g.2.1, 8, .inl (fun _ => 0))), (a5, .inl (g.2.1, 8, .inl (fun _ => 0))), (a6, .inl (g.2.1, 48, .inl (fun _ => 0))), (a7, .inl (g.2.1, 400, .inl (fun _ => 0))), (a8, .inl (g.2.1, 143, .inl f)), (a9, .inl (g.2.1, 2, .inl (fun _ => 0))), (a10, .inl (g.2.1, 48, .inl (fun _ => 0))), (a11, .inl (g.2.1, 48, .inl (fun _ => 0))), (a12, .inl (g.2.1, 48, .inl (fun _ => 0))), (a13, .inl (g.2.1, 48, .inl (fun _ => 0))), (a14, .inl (g.2.1, 1200, .inl (fun _ => 0))), (a15, .inl (g.2.1, 1200, .inl (fun _ => 0))), (a16, .inl (g.2.1, 40, .inl (fun _ => 0))), (a17, .inl (g.2.1, 384, .inl (fun _ => 0))), (a18, .inl (g.2.1, 800, .inl (fun _ => 0))), (a19, .inl (g.2.1, 480, .inl (fun _ => 0))), (a20, .inl (g.2.1, 4, .inl (fun _ => 0))), (a21, .inl (g.2.1, 4, .inl (fun _ => 0))), (a22, .inl (g.2.1, 11, .inl (fun _ => 0))), (a23, .inl (g.2.1, 420, .inl (fun _ => 0))), (a24, .inl (g.2.1, 120, .inl (fun _ => 0))), (a25, .inl (g.2.1, 200, .inl (fun _ => 0))), (a26, .inl (g.2.1, 600, .inl (fun _ => 0))), (a27, .inl (g.2.1, 10, .inl (fun _ => 0))), (a28, .inl (g.2.1, 12, .inl (fun _ => 0))), (a29, .inl (g.2.1, 24, .inl (fun _ => 0))), (a30, .inl (g.2.1, 2700, .inl (fun _ => 0)))]) 0 58 dX12_init_1122 fkX12_101 ftX12 (fun q h => by cases h; exact Or.inr ⟨rfl, rfl⟩) rfl rfl rfl (Nat.le_of_ble_eq_true rfl) rfl ?_
  exact jc_ret (pc := 1125) dX12_init_1125 (by decide) (by decide) ⟨fun k => [h0, a1, a2, a3, a4, a5, a6, a7, a8, a9, a10, a11, a12, a13, a14, a15, a16, a17, a18, a19, a20, a21, a22, a23, a24, a25, a26, a27, a28, a29, a30].getD k 0, f, rfl, hf, rfl⟩
end JKM
