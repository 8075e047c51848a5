section LWC
variable {l : Launch} {gC gR : jm_G} {b L : Nat} {xs : Nat → Int32} {s : State} {below : List Frame} {i : Nat} {mu nu : jm_M}
theorem mL_13 : jm_mv R_law 13 iX11_state 1 := ⟨cwX11_state, jm_tw (n := 448) (by decide +kernel) rfl, vwX11_state.1, vwX11_state.2⟩
theorem mL_17 : jm_mv R_law 17 iX12_state 1 := ⟨cwX12_state, jm_tw (n := 1426) (by decide +kernel) rfl, vwX12_state.1, vwX12_state.2⟩
set_option maxHeartbeats 1000000 in
theorem lw_k0 (hi : i + 7 ≤ L) (hL : L ≤ 3584) (hC : jm_HC gC) (hR : jm_HR gR) (hI : Iv mu nu) (kk : ∀ m n : jm_M, Iv m n → lw_V l gC gR b L xs s below i 1324 [] m n) : lw_V l gC gR b L xs s below i 184 [] mu nu := by
  refine lw_aldC (pc := 184) dL_law_184 ?_
  refine lw_arg (pc := 185) (k := 1) hi hL (by omega) dL_law_185 dL_law_186 dL_law_187 dL_law_188 dL_law_189 ?_
  refine lw_cC (pc := 190) (As := [jm_i (xs (i + 1)).toInt]) (st := []) iX11_state dL_law_190 mL_13 ⟨_, rfl, rfl⟩ rfl rfl (Nat.le_of_ble_eq_true rfl) (by omega) hC (sim_state (d := 0) hC hR hI (lw_rg _)) (fun r m hq => ?_)
  obtain ⟨z, rfl, hz, hr⟩ := hq
  refine lw_aldR (pc := 193) dL_law_193 ?_
  refine lw_arg (pc := 194) (k := 1) hi hL (by omega) dL_law_194 dL_law_195 dL_law_196 dL_law_197 dL_law_198 ?_
  refine lw_cR (pc := 199) (As := [jm_i (xs (i + 1)).toInt]) (st := [jm_i z]) iX12_state dL_law_199 mL_17 ⟨_, rfl, rfl⟩ rfl rfl (Nat.le_of_ble_eq_true rfl) (by omega) hR hr (fun r n hq => ?_)
  obtain ⟨y, rfl, hy, rfl, hJ1⟩ := hq
  exact lw_eq (pc := 202) dL_law_202 (by decide) (kk m n hJ1)
theorem mL_18 : jm_mv R_law 18 iX11_witness 3 := ⟨cwX11_witness, jm_tw (n := 456) (by decide +kernel) rfl, vwX11_witness.1, vwX11_witness.2⟩
theorem mL_22 : jm_mv R_law 22 iX12_witness 3 := ⟨cwX12_witness, jm_tw (n := 1430) (by decide +kernel) rfl, vwX12_witness.1, vwX12_witness.2⟩
set_option maxHeartbeats 1000000 in
theorem lw_k1 (hi : i + 7 ≤ L) (hL : L ≤ 3584) (hC : jm_HC gC) (hR : jm_HR gR) (hI : Iv mu nu) (kk : ∀ m n : jm_M, Iv m n → lw_V l gC gR b L xs s below i 1324 [] m n) : lw_V l gC gR b L xs s below i 207 [] mu nu := by
  refine lw_aldC (pc := 207) dL_law_207 ?_
  refine lw_arg (pc := 208) (k := 1) hi hL (by omega) dL_law_208 dL_law_209 dL_law_210 dL_law_211 dL_law_212 ?_
  refine lw_arg (pc := 213) (k := 2) hi hL (by omega) dL_law_213 dL_law_214 dL_law_215 dL_law_216 dL_law_217 ?_
  refine lw_arg (pc := 218) (k := 3) hi hL (by omega) dL_law_218 dL_law_219 dL_law_220 dL_law_221 dL_law_222 ?_
  refine lw_cC (pc := 223) (As := [jm_i (xs (i + 1)).toInt, jm_i (xs (i + 2)).toInt, jm_i (xs (i + 3)).toInt]) (st := []) iX11_witness dL_law_223 mL_18 ⟨_, rfl, rfl⟩ rfl rfl (Nat.le_of_ble_eq_true rfl) (by omega) hC (sim_witness (d := 0) hC hR hI (lw_rg _) (lw_rg _) (lw_rg _)) (fun r m hq => ?_)
  obtain ⟨z, rfl, hz, hr⟩ := hq
  refine lw_aldR (pc := 226) dL_law_226 ?_
  refine lw_arg (pc := 227) (k := 1) hi hL (by omega) dL_law_227 dL_law_228 dL_law_229 dL_law_230 dL_law_231 ?_
  refine lw_arg (pc := 232) (k := 2) hi hL (by omega) dL_law_232 dL_law_233 dL_law_234 dL_law_235 dL_law_236 ?_
  refine lw_arg (pc := 237) (k := 3) hi hL (by omega) dL_law_237 dL_law_238 dL_law_239 dL_law_240 dL_law_241 ?_
  refine lw_cR (pc := 242) (As := [jm_i (xs (i + 1)).toInt, jm_i (xs (i + 2)).toInt, jm_i (xs (i + 3)).toInt]) (st := [jm_i z]) iX12_witness dL_law_242 mL_22 ⟨_, rfl, rfl⟩ rfl rfl (Nat.le_of_ble_eq_true rfl) (by omega) hR hr (fun r n hq => ?_)
  obtain ⟨y, rfl, hy, rfl, hJ1⟩ := hq
  exact lw_eq (pc := 245) dL_law_245 (by decide) (kk m n hJ1)
theorem mL_23 : jm_mv R_law 23 iX11_claim 3 := ⟨cwX11_claim, jm_tw (n := 470) (by decide +kernel) rfl, vwX11_claim.1, vwX11_claim.2⟩
theorem mL_27 : jm_mv R_law 27 iX12_claim 3 := ⟨cwX12_claim, jm_tw (n := 1438) (by decide +kernel) rfl, vwX12_claim.1, vwX12_claim.2⟩
set_option maxHeartbeats 1000000 in
theorem lw_k2 (hi : i + 7 ≤ L) (hL : L ≤ 3584) (hC : jm_HC gC) (hR : jm_HR gR) (hI : Iv mu nu) (kk : ∀ m n : jm_M, Iv m n → lw_V l gC gR b L xs s below i 1324 [] m n) : lw_V l gC gR b L xs s below i 250 [] mu nu := by
  refine lw_aldC (pc := 250) dL_law_250 ?_
  refine lw_arg (pc := 251) (k := 1) hi hL (by omega) dL_law_251 dL_law_252 dL_law_253 dL_law_254 dL_law_255 ?_
  refine lw_arg (pc := 256) (k := 2) hi hL (by omega) dL_law_256 dL_law_257 dL_law_258 dL_law_259 dL_law_260 ?_
  refine lw_arg (pc := 261) (k := 3) hi hL (by omega) dL_law_261 dL_law_262 dL_law_263 dL_law_264 dL_law_265 ?_
  refine lw_cC (pc := 266) (As := [jm_i (xs (i + 1)).toInt, jm_i (xs (i + 2)).toInt, jm_i (xs (i + 3)).toInt]) (st := []) iX11_claim dL_law_266 mL_23 ⟨_, rfl, rfl⟩ rfl rfl (Nat.le_of_ble_eq_true rfl) (by omega) hC (sim_claim (d := 0) hC hR hI (lw_rg _) (lw_rg _) (lw_rg _)) (fun r m hq => ?_)
  obtain ⟨z, rfl, hz, hr⟩ := hq
  refine lw_aldR (pc := 269) dL_law_269 ?_
  refine lw_arg (pc := 270) (k := 1) hi hL (by omega) dL_law_270 dL_law_271 dL_law_272 dL_law_273 dL_law_274 ?_
  refine lw_arg (pc := 275) (k := 2) hi hL (by omega) dL_law_275 dL_law_276 dL_law_277 dL_law_278 dL_law_279 ?_
  refine lw_arg (pc := 280) (k := 3) hi hL (by omega) dL_law_280 dL_law_281 dL_law_282 dL_law_283 dL_law_284 ?_
  refine lw_cR (pc := 285) (As := [jm_i (xs (i + 1)).toInt, jm_i (xs (i + 2)).toInt, jm_i (xs (i + 3)).toInt]) (st := [jm_i z]) iX12_claim dL_law_285 mL_27 ⟨_, rfl, rfl⟩ rfl rfl (Nat.le_of_ble_eq_true rfl) (by omega) hR hr (fun r n hq => ?_)
  obtain ⟨y, rfl, hy, rfl, hJ1⟩ := hq
  exact lw_eq (pc := 288) dL_law_288 (by decide) (kk m n hJ1)
theorem mL_28 : jm_mv R_law 28 iX11_set 3 := ⟨cwX11_set, jm_tw (n := 481) (by decide +kernel) rfl, vwX11_set.1, vwX11_set.2⟩
theorem mL_31 : jm_mv R_law 31 iX12_set 3 := ⟨cwX12_set, jm_tw (n := 1450) (by decide +kernel) rfl, vwX12_set.1, vwX12_set.2⟩
set_option maxHeartbeats 1000000 in
theorem lw_k3 (hi : i + 7 ≤ L) (hL : L ≤ 3584) (hC : jm_HC gC) (hR : jm_HR gR) (hI : Iv mu nu) (kk : ∀ m n : jm_M, Iv m n → lw_V l gC gR b L xs s below i 1324 [] m n) : lw_V l gC gR b L xs s below i 293 [] mu nu := by
  refine lw_aldC (pc := 293) dL_law_293 ?_
  refine lw_arg (pc := 294) (k := 1) hi hL (by omega) dL_law_294 dL_law_295 dL_law_296 dL_law_297 dL_law_298 ?_
  refine lw_arg (pc := 299) (k := 2) hi hL (by omega) dL_law_299 dL_law_300 dL_law_301 dL_law_302 dL_law_303 ?_
  refine lw_arg (pc := 304) (k := 3) hi hL (by omega) dL_law_304 dL_law_305 dL_law_306 dL_law_307 dL_law_308 ?_
  refine lw_cC (pc := 309) (As := [jm_i (xs (i + 1)).toInt, jm_i (xs (i + 2)).toInt, jm_i (xs (i + 3)).toInt]) (st := []) iX11_set dL_law_309 mL_28 ⟨_, rfl, rfl⟩ rfl rfl (Nat.le_of_ble_eq_true rfl) (by omega) hC (sim_set (d := 0) hC hR hI (lw_rg _) (lw_rg _) (lw_rg _)) (fun r m hq => ?_)
  obtain ⟨z, rfl, hz, hr⟩ := hq
  refine lw_aldR (pc := 312) dL_law_312 ?_
  refine lw_arg (pc := 313) (k := 1) hi hL (by omega) dL_law_313 dL_law_314 dL_law_315 dL_law_316 dL_law_317 ?_
  refine lw_arg (pc := 318) (k := 2) hi hL (by omega) dL_law_318 dL_law_319 dL_law_320 dL_law_321 dL_law_322 ?_
  refine lw_arg (pc := 323) (k := 3) hi hL (by omega) dL_law_323 dL_law_324 dL_law_325 dL_law_326 dL_law_327 ?_
  refine lw_cR (pc := 328) (As := [jm_i (xs (i + 1)).toInt, jm_i (xs (i + 2)).toInt, jm_i (xs (i + 3)).toInt]) (st := [jm_i z]) iX12_set dL_law_328 mL_31 ⟨_, rfl, rfl⟩ rfl rfl (Nat.le_of_ble_eq_true rfl) (by omega) hR hr (fun r n hq => ?_)
  obtain ⟨y, rfl, hy, rfl, hJ1⟩ := hq
  exact lw_eq (pc := 331) dL_law_331 (by decide) (kk m n hJ1)
theorem mL_32 : jm_mv R_law 32 iX11_feed 5 := ⟨cwX11_feed, jm_tw (n := 493) (by decide +kernel) rfl, vwX11_feed.1, vwX11_feed.2⟩
theorem mL_36 : jm_mv R_law 36 iX12_feed 5 := ⟨cwX12_feed, jm_tw (n := 1466) (by decide +kernel) rfl, vwX12_feed.1, vwX12_feed.2⟩
set_option maxHeartbeats 1000000 in
theorem lw_k4 (hi : i + 7 ≤ L) (hL : L ≤ 3584) (hC : jm_HC gC) (hR : jm_HR gR) (hI : Iv mu nu) (kk : ∀ m n : jm_M, Iv m n → lw_V l gC gR b L xs s below i 1324 [] m n) : lw_V l gC gR b L xs s below i 336 [] mu nu := by
  refine lw_aldC (pc := 336) dL_law_336 ?_
  refine lw_arg (pc := 337) (k := 1) hi hL (by omega) dL_law_337 dL_law_338 dL_law_339 dL_law_340 dL_law_341 ?_
  refine lw_arg (pc := 342) (k := 2) hi hL (by omega) dL_law_342 dL_law_343 dL_law_344 dL_law_345 dL_law_346 ?_
  refine lw_arg (pc := 347) (k := 3) hi hL (by omega) dL_law_347 dL_law_348 dL_law_349 dL_law_350 dL_law_351 ?_
  refine lw_arg (pc := 352) (k := 4) hi hL (by omega) dL_law_352 dL_law_353 dL_law_354 dL_law_355 dL_law_356 ?_
  refine lw_arg (pc := 357) (k := 5) hi hL (by omega) dL_law_357 dL_law_358 dL_law_359 dL_law_360 dL_law_361 ?_
  refine lw_cC (pc := 362) (As := [jm_i (xs (i + 1)).toInt, jm_i (xs (i + 2)).toInt, jm_i (xs (i + 3)).toInt, jm_i (xs (i + 4)).toInt, jm_i (xs (i + 5)).toInt]) (st := []) iX11_feed dL_law_362 mL_32 ⟨_, rfl, rfl⟩ rfl rfl (Nat.le_of_ble_eq_true rfl) (by omega) hC (sim_feed (d := 0) hC hR hI (lw_rg _) (lw_rg _) (lw_rg _) (lw_rg _) (lw_rg _)) (fun r m hq => ?_)
  obtain ⟨z, rfl, hz, hr⟩ := hq
  refine lw_aldR (pc := 365) dL_law_365 ?_
  refine lw_arg (pc := 366) (k := 1) hi hL (by omega) dL_law_366 dL_law_367 dL_law_368 dL_law_369 dL_law_370 ?_
  refine lw_arg (pc := 371) (k := 2) hi hL (by omega) dL_law_371 dL_law_372 dL_law_373 dL_law_374 dL_law_375 ?_
  refine lw_arg (pc := 376) (k := 3) hi hL (by omega) dL_law_376 dL_law_377 dL_law_378 dL_law_379 dL_law_380 ?_
  refine lw_arg (pc := 381) (k := 4) hi hL (by omega) dL_law_381 dL_law_382 dL_law_383 dL_law_384 dL_law_385 ?_
  refine lw_arg (pc := 386) (k := 5) hi hL (by omega) dL_law_386 dL_law_387 dL_law_388 dL_law_389 dL_law_390 ?_
  refine lw_cR (pc := 391) (As := [jm_i (xs (i + 1)).toInt, jm_i (xs (i + 2)).toInt, jm_i (xs (i + 3)).toInt, jm_i (xs (i + 4)).toInt, jm_i (xs (i + 5)).toInt]) (st := [jm_i z]) iX12_feed dL_law_391 mL_36 ⟨_, rfl, rfl⟩ rfl rfl (Nat.le_of_ble_eq_true rfl) (by omega) hR hr (fun r n hq => ?_)
  obtain ⟨y, rfl, hy, rfl, hJ1⟩ := hq
  exact lw_eq (pc := 394) dL_law_394 (by decide) (kk m n hJ1)
theorem mL_37 : jm_mv R_law 37 iX11_end 1 := ⟨cwX11_end, jm_tw (n := 505) (by decide +kernel) rfl, vwX11_end.1, vwX11_end.2⟩
theorem mL_41 : jm_mv R_law 41 iX12_end 1 := ⟨cwX12_end, jm_tw (n := 1474) (by decide +kernel) rfl, vwX12_end.1, vwX12_end.2⟩
set_option maxHeartbeats 1000000 in
theorem lw_k5 (hi : i + 7 ≤ L) (hL : L ≤ 3584) (hC : jm_HC gC) (hR : jm_HR gR) (hI : Iv mu nu) (kk : ∀ m n : jm_M, Iv m n → lw_V l gC gR b L xs s below i 1324 [] m n) : lw_V l gC gR b L xs s below i 399 [] mu nu := by
  refine lw_aldC (pc := 399) dL_law_399 ?_
  refine lw_arg (pc := 400) (k := 1) hi hL (by omega) dL_law_400 dL_law_401 dL_law_402 dL_law_403 dL_law_404 ?_
  refine lw_cC (pc := 405) (As := [jm_i (xs (i + 1)).toInt]) (st := []) iX11_end dL_law_405 mL_37 ⟨_, rfl, rfl⟩ rfl rfl (Nat.le_of_ble_eq_true rfl) (by omega) hC (sim_end (d := 0) hC hR hI (lw_rg _)) (fun r m hq => ?_)
  obtain ⟨z, rfl, hz, hr⟩ := hq
  refine lw_aldR (pc := 408) dL_law_408 ?_
  refine lw_arg (pc := 409) (k := 1) hi hL (by omega) dL_law_409 dL_law_410 dL_law_411 dL_law_412 dL_law_413 ?_
  refine lw_cR (pc := 414) (As := [jm_i (xs (i + 1)).toInt]) (st := [jm_i z]) iX12_end dL_law_414 mL_41 ⟨_, rfl, rfl⟩ rfl rfl (Nat.le_of_ble_eq_true rfl) (by omega) hR hr (fun r n hq => ?_)
  obtain ⟨y, rfl, hy, rfl, hJ1⟩ := hq
  exact lw_eq (pc := 417) dL_law_417 (by decide) (kk m n hJ1)
theorem mL_42 : jm_mv R_law 42 iX11_text 1 := ⟨cwX11_text, jm_tw (n := 509) (by decide +kernel) rfl, vwX11_text.1, vwX11_text.2⟩
theorem mL_45 : jm_mv R_law 45 iX12_text 1 := ⟨cwX12_text, jm_tw (n := 1478) (by decide +kernel) rfl, vwX12_text.1, vwX12_text.2⟩
set_option maxHeartbeats 1000000 in
theorem lw_k6 (hi : i + 7 ≤ L) (hL : L ≤ 3584) (hC : jm_HC gC) (hR : jm_HR gR) (hJ : jm_JS l gC) (hI : Iv mu nu) (kk : ∀ m n : jm_M, Iv m n → lw_V l gC gR b L xs s below i 1324 [] m n) : lw_V l gC gR b L xs s below i 422 [] mu nu := by
  refine lw_aldC (pc := 422) dL_law_422 ?_
  refine lw_arg (pc := 423) (k := 1) hi hL (by omega) dL_law_423 dL_law_424 dL_law_425 dL_law_426 dL_law_427 ?_
  refine lw_cC (pc := 428) (As := [jm_i (xs (i + 1)).toInt]) (st := []) iX11_text dL_law_428 mL_42 ⟨_, rfl, rfl⟩ rfl rfl (Nat.le_of_ble_eq_true rfl) (by omega) hC (sim_text (d := 0) hC hR hJ hI (lw_rg _)) (fun r m hq => ?_)
  obtain ⟨z, rfl, hz, hr⟩ := hq
  refine lw_aldR (pc := 431) dL_law_431 ?_
  refine lw_arg (pc := 432) (k := 1) hi hL (by omega) dL_law_432 dL_law_433 dL_law_434 dL_law_435 dL_law_436 ?_
  refine lw_cR (pc := 437) (As := [jm_i (xs (i + 1)).toInt]) (st := [jm_i z]) iX12_text dL_law_437 mL_45 ⟨_, rfl, rfl⟩ rfl rfl (Nat.le_of_ble_eq_true rfl) (by omega) hR hr (fun r n hq => ?_)
  obtain ⟨y, rfl, hy, rfl, hJ1⟩ := hq
  exact lw_eq (pc := 440) dL_law_440 (by decide) (kk m n hJ1)
theorem mL_46 : jm_mv R_law 46 iX11_fault 1 := ⟨cwX11_fault, jm_tw (n := 761) (by decide +kernel) rfl, vwX11_fault.1, vwX11_fault.2⟩
theorem mL_49 : jm_mv R_law 49 iX12_fault 1 := ⟨cwX12_fault, jm_tw (n := 1626) (by decide +kernel) rfl, vwX12_fault.1, vwX12_fault.2⟩
set_option maxHeartbeats 1000000 in
theorem lw_k7 (hi : i + 7 ≤ L) (hL : L ≤ 3584) (hC : jm_HC gC) (hR : jm_HR gR) (hI : Iv mu nu) (kk : ∀ m n : jm_M, Iv m n → lw_V l gC gR b L xs s below i 1324 [] m n) : lw_V l gC gR b L xs s below i 445 [] mu nu := by
  refine lw_aldC (pc := 445) dL_law_445 ?_
  refine lw_arg (pc := 446) (k := 1) hi hL (by omega) dL_law_446 dL_law_447 dL_law_448 dL_law_449 dL_law_450 ?_
  refine lw_cC (pc := 451) (As := [jm_i (xs (i + 1)).toInt]) (st := []) iX11_fault dL_law_451 mL_46 ⟨_, rfl, rfl⟩ rfl rfl (Nat.le_of_ble_eq_true rfl) (by omega) hC (sim_fault (d := 0) hC hR hI (lw_rg _)) (fun r m hq => ?_)
  obtain ⟨z, rfl, hz, hr⟩ := hq
  refine lw_aldR (pc := 454) dL_law_454 ?_
  refine lw_arg (pc := 455) (k := 1) hi hL (by omega) dL_law_455 dL_law_456 dL_law_457 dL_law_458 dL_law_459 ?_
  refine lw_cR (pc := 460) (As := [jm_i (xs (i + 1)).toInt]) (st := [jm_i z]) iX12_fault dL_law_460 mL_49 ⟨_, rfl, rfl⟩ rfl rfl (Nat.le_of_ble_eq_true rfl) (by omega) hR hr (fun r n hq => ?_)
  obtain ⟨y, rfl, hy, rfl, hJ1⟩ := hq
  exact lw_eq (pc := 463) dL_law_463 (by decide) (kk m n hJ1)
theorem mL_50 : jm_mv R_law 50 iX11_call 3 := ⟨cwX11_call, jm_tw (n := 765) (by decide +kernel) rfl, vwX11_call.1, vwX11_call.2⟩
theorem mL_53 : jm_mv R_law 53 iX12_call 3 := ⟨cwX12_call, jm_tw (n := 1630) (by decide +kernel) rfl, vwX12_call.1, vwX12_call.2⟩
set_option maxHeartbeats 1000000 in
theorem lw_k8 (hi : i + 7 ≤ L) (hL : L ≤ 3584) (hC : jm_HC gC) (hR : jm_HR gR) (hI : Iv mu nu) (kk : ∀ m n : jm_M, Iv m n → lw_V l gC gR b L xs s below i 1324 [] m n) : lw_V l gC gR b L xs s below i 468 [] mu nu := by
  refine lw_aldC (pc := 468) dL_law_468 ?_
  refine lw_arg (pc := 469) (k := 1) hi hL (by omega) dL_law_469 dL_law_470 dL_law_471 dL_law_472 dL_law_473 ?_
  refine lw_arg (pc := 474) (k := 2) hi hL (by omega) dL_law_474 dL_law_475 dL_law_476 dL_law_477 dL_law_478 ?_
  refine lw_arg (pc := 479) (k := 3) hi hL (by omega) dL_law_479 dL_law_480 dL_law_481 dL_law_482 dL_law_483 ?_
  refine lw_cC (pc := 484) (As := [jm_i (xs (i + 1)).toInt, jm_i (xs (i + 2)).toInt, jm_i (xs (i + 3)).toInt]) (st := []) iX11_call dL_law_484 mL_50 ⟨_, rfl, rfl⟩ rfl rfl (Nat.le_of_ble_eq_true rfl) (by omega) hC (sim_call (d := 0) hC hR hI (lw_rg _) (lw_rg _) (lw_rg _)) (fun r m hq => ?_)
  obtain ⟨z, rfl, hz, hr⟩ := hq
  refine lw_aldR (pc := 487) dL_law_487 ?_
  refine lw_arg (pc := 488) (k := 1) hi hL (by omega) dL_law_488 dL_law_489 dL_law_490 dL_law_491 dL_law_492 ?_
  refine lw_arg (pc := 493) (k := 2) hi hL (by omega) dL_law_493 dL_law_494 dL_law_495 dL_law_496 dL_law_497 ?_
  refine lw_arg (pc := 498) (k := 3) hi hL (by omega) dL_law_498 dL_law_499 dL_law_500 dL_law_501 dL_law_502 ?_
  refine lw_cR (pc := 503) (As := [jm_i (xs (i + 1)).toInt, jm_i (xs (i + 2)).toInt, jm_i (xs (i + 3)).toInt]) (st := [jm_i z]) iX12_call dL_law_503 mL_53 ⟨_, rfl, rfl⟩ rfl rfl (Nat.le_of_ble_eq_true rfl) (by omega) hR hr (fun r n hq => ?_)
  obtain ⟨y, rfl, hy, rfl, hJ1⟩ := hq
  exact lw_eq (pc := 506) dL_law_506 (by decide) (kk m n hJ1)
theorem mL_54 : jm_mv R_law 54 iX11_cross 1 := ⟨cwX11_cross, jm_tw (n := 899) (by decide +kernel) rfl, vwX11_cross.1, vwX11_cross.2⟩
theorem mL_57 : jm_mv R_law 57 iX12_cross 1 := ⟨cwX12_cross, jm_tw (n := 1732) (by decide +kernel) rfl, vwX12_cross.1, vwX12_cross.2⟩
set_option maxHeartbeats 1000000 in
theorem lw_k9 (hi : i + 7 ≤ L) (hL : L ≤ 3584) (hC : jm_HC gC) (hR : jm_HR gR) (hI : Iv mu nu) (kk : ∀ m n : jm_M, Iv m n → lw_V l gC gR b L xs s below i 1324 [] m n) : lw_V l gC gR b L xs s below i 511 [] mu nu := by
  refine lw_aldC (pc := 511) dL_law_511 ?_
  refine lw_arg (pc := 512) (k := 1) hi hL (by omega) dL_law_512 dL_law_513 dL_law_514 dL_law_515 dL_law_516 ?_
  refine lw_cC (pc := 517) (As := [jm_i (xs (i + 1)).toInt]) (st := []) iX11_cross dL_law_517 mL_54 ⟨_, rfl, rfl⟩ rfl rfl (Nat.le_of_ble_eq_true rfl) (by omega) hC (sim_cross (d := 0) hC hR hI (lw_rg _)) (fun r m hq => ?_)
  obtain ⟨z, rfl, hz, hr⟩ := hq
  refine lw_aldR (pc := 520) dL_law_520 ?_
  refine lw_arg (pc := 521) (k := 1) hi hL (by omega) dL_law_521 dL_law_522 dL_law_523 dL_law_524 dL_law_525 ?_
  refine lw_cR (pc := 526) (As := [jm_i (xs (i + 1)).toInt]) (st := [jm_i z]) iX12_cross dL_law_526 mL_57 ⟨_, rfl, rfl⟩ rfl rfl (Nat.le_of_ble_eq_true rfl) (by omega) hR hr (fun r n hq => ?_)
  obtain ⟨y, rfl, hy, rfl, hJ1⟩ := hq
  exact lw_eq (pc := 529) dL_law_529 (by decide) (kk m n hJ1)
theorem mL_58 : jm_mv R_law 58 iX11_strike 1 := ⟨cwX11_strike, jm_tw (n := 907) (by decide +kernel) rfl, vwX11_strike.1, vwX11_strike.2⟩
theorem mL_61 : jm_mv R_law 61 iX12_strike 1 := ⟨cwX12_strike, jm_tw (n := 1740) (by decide +kernel) rfl, vwX12_strike.1, vwX12_strike.2⟩
set_option maxHeartbeats 1000000 in
theorem lw_k10 (hi : i + 7 ≤ L) (hL : L ≤ 3584) (hC : jm_HC gC) (hR : jm_HR gR) (hI : Iv mu nu) (kk : ∀ m n : jm_M, Iv m n → lw_V l gC gR b L xs s below i 1324 [] m n) : lw_V l gC gR b L xs s below i 534 [] mu nu := by
  refine lw_aldC (pc := 534) dL_law_534 ?_
  refine lw_arg (pc := 535) (k := 1) hi hL (by omega) dL_law_535 dL_law_536 dL_law_537 dL_law_538 dL_law_539 ?_
  refine lw_cC (pc := 540) (As := [jm_i (xs (i + 1)).toInt]) (st := []) iX11_strike dL_law_540 mL_58 ⟨_, rfl, rfl⟩ rfl rfl (Nat.le_of_ble_eq_true rfl) (by omega) hC (sim_strike (d := 0) hC hR hI (lw_rg _)) (fun r m hq => ?_)
  obtain ⟨z, rfl, hz, hr⟩ := hq
  refine lw_aldR (pc := 543) dL_law_543 ?_
  refine lw_arg (pc := 544) (k := 1) hi hL (by omega) dL_law_544 dL_law_545 dL_law_546 dL_law_547 dL_law_548 ?_
  refine lw_cR (pc := 549) (As := [jm_i (xs (i + 1)).toInt]) (st := [jm_i z]) iX12_strike dL_law_549 mL_61 ⟨_, rfl, rfl⟩ rfl rfl (Nat.le_of_ble_eq_true rfl) (by omega) hR hr (fun r n hq => ?_)
  obtain ⟨y, rfl, hy, rfl, hJ1⟩ := hq
  exact lw_eq (pc := 552) dL_law_552 (by decide) (kk m n hJ1)
theorem mL_62 : jm_mv R_law 62 iX11_days 1 := ⟨cwX11_days, jm_tw (n := 921) (by decide +kernel) rfl, vwX11_days.1, vwX11_days.2⟩
theorem mL_65 : jm_mv R_law 65 iX12_days 1 := ⟨cwX12_days, jm_tw (n := 1752) (by decide +kernel) rfl, vwX12_days.1, vwX12_days.2⟩
set_option maxHeartbeats 1000000 in
theorem lw_k11 (hi : i + 7 ≤ L) (hL : L ≤ 3584) (hC : jm_HC gC) (hR : jm_HR gR) (hI : Iv mu nu) (kk : ∀ m n : jm_M, Iv m n → lw_V l gC gR b L xs s below i 1324 [] m n) : lw_V l gC gR b L xs s below i 557 [] mu nu := by
  refine lw_aldC (pc := 557) dL_law_557 ?_
  refine lw_arg (pc := 558) (k := 1) hi hL (by omega) dL_law_558 dL_law_559 dL_law_560 dL_law_561 dL_law_562 ?_
  refine lw_cC (pc := 563) (As := [jm_i (xs (i + 1)).toInt]) (st := []) iX11_days dL_law_563 mL_62 ⟨_, rfl, rfl⟩ rfl rfl (Nat.le_of_ble_eq_true rfl) (by omega) hC (sim_days (d := 0) hC hR hI (lw_rg _)) (fun r m hq => ?_)
  obtain ⟨z, rfl, hz, hr⟩ := hq
  refine lw_aldR (pc := 566) dL_law_566 ?_
  refine lw_arg (pc := 567) (k := 1) hi hL (by omega) dL_law_567 dL_law_568 dL_law_569 dL_law_570 dL_law_571 ?_
  refine lw_cR (pc := 572) (As := [jm_i (xs (i + 1)).toInt]) (st := [jm_i z]) iX12_days dL_law_572 mL_65 ⟨_, rfl, rfl⟩ rfl rfl (Nat.le_of_ble_eq_true rfl) (by omega) hR hr (fun r n hq => ?_)
  obtain ⟨y, rfl, hy, rfl, hJ1⟩ := hq
  exact lw_eq (pc := 575) dL_law_575 (by decide) (kk m n hJ1)
theorem mL_66 : jm_mv R_law 66 iX11_trial 0 := ⟨cwX11_trial, jm_tw (n := 934) (by decide +kernel) rfl, vwX11_trial.1, vwX11_trial.2⟩
theorem mL_70 : jm_mv R_law 70 iX12_trial 0 := ⟨cwX12_trial, jm_tw (n := 1764) (by decide +kernel) rfl, vwX12_trial.1, vwX12_trial.2⟩
set_option maxHeartbeats 1000000 in
theorem lw_k12 (hi : i + 7 ≤ L) (hL : L ≤ 3584) (hC : jm_HC gC) (hR : jm_HR gR) (hI : Iv mu nu) (kk : ∀ m n : jm_M, Iv m n → lw_V l gC gR b L xs s below i 1324 [] m n) : lw_V l gC gR b L xs s below i 580 [] mu nu := by
  refine lw_aldC (pc := 580) dL_law_580 ?_
  refine lw_cC (pc := 581) (As := []) (st := []) iX11_trial dL_law_581 mL_66 ⟨_, rfl, rfl⟩ rfl rfl (Nat.le_of_ble_eq_true rfl) (by omega) hC (sim_trial (d := 0) hC hR hI) (fun r m hq => ?_)
  obtain ⟨z, rfl, hz, hr⟩ := hq
  refine lw_aldR (pc := 584) dL_law_584 ?_
  refine lw_cR (pc := 585) (As := []) (st := [jm_i z]) iX12_trial dL_law_585 mL_70 ⟨_, rfl, rfl⟩ rfl rfl (Nat.le_of_ble_eq_true rfl) (by omega) hR hr (fun r n hq => ?_)
  obtain ⟨y, rfl, hy, rfl, hJ1⟩ := hq
  exact lw_eq (pc := 588) dL_law_588 (by decide) (kk m n hJ1)
theorem mL_71 : jm_mv R_law 71 iX11_of 2 := ⟨cwX11_of, jm_tw (n := 950) (by decide +kernel) rfl, vwX11_of.1, vwX11_of.2⟩
theorem mL_75 : jm_mv R_law 75 iX12_of 2 := ⟨cwX12_of, jm_tw (n := 1780) (by decide +kernel) rfl, vwX12_of.1, vwX12_of.2⟩
set_option maxHeartbeats 1000000 in
theorem lw_k13 (hi : i + 7 ≤ L) (hL : L ≤ 3584) (hC : jm_HC gC) (hR : jm_HR gR) (hI : Iv mu nu) (kk : ∀ m n : jm_M, Iv m n → lw_V l gC gR b L xs s below i 1324 [] m n) : lw_V l gC gR b L xs s below i 593 [] mu nu := by
  refine lw_aldC (pc := 593) dL_law_593 ?_
  refine lw_arg (pc := 594) (k := 1) hi hL (by omega) dL_law_594 dL_law_595 dL_law_596 dL_law_597 dL_law_598 ?_
  refine lw_arg (pc := 599) (k := 2) hi hL (by omega) dL_law_599 dL_law_600 dL_law_601 dL_law_602 dL_law_603 ?_
  refine lw_cC (pc := 604) (As := [jm_i (xs (i + 1)).toInt, jm_i (xs (i + 2)).toInt]) (st := []) iX11_of dL_law_604 mL_71 ⟨_, rfl, rfl⟩ rfl rfl (Nat.le_of_ble_eq_true rfl) (by omega) hC (sim_of (d := 0) hC hR hI (lw_rg _) (lw_rg _)) (fun r m hq => ?_)
  obtain ⟨z, rfl, hz, hr⟩ := hq
  refine lw_aldR (pc := 607) dL_law_607 ?_
  refine lw_arg (pc := 608) (k := 1) hi hL (by omega) dL_law_608 dL_law_609 dL_law_610 dL_law_611 dL_law_612 ?_
  refine lw_arg (pc := 613) (k := 2) hi hL (by omega) dL_law_613 dL_law_614 dL_law_615 dL_law_616 dL_law_617 ?_
  refine lw_cR (pc := 618) (As := [jm_i (xs (i + 1)).toInt, jm_i (xs (i + 2)).toInt]) (st := [jm_i z]) iX12_of dL_law_618 mL_75 ⟨_, rfl, rfl⟩ rfl rfl (Nat.le_of_ble_eq_true rfl) (by omega) hR hr (fun r n hq => ?_)
  obtain ⟨y, rfl, hy, rfl, hJ1⟩ := hq
  exact lw_eq (pc := 621) dL_law_621 (by decide) (kk m n hJ1)
theorem mL_76 : jm_mv R_law 76 iX11_testimony 2 := ⟨cwX11_testimony, jm_tw (n := 957) (by decide +kernel) rfl, vwX11_testimony.1, vwX11_testimony.2⟩
theorem mL_79 : jm_mv R_law 79 iX12_testimony 2 := ⟨cwX12_testimony, jm_tw (n := 1784) (by decide +kernel) rfl, vwX12_testimony.1, vwX12_testimony.2⟩
set_option maxHeartbeats 1000000 in
theorem lw_k14 (hi : i + 7 ≤ L) (hL : L ≤ 3584) (hC : jm_HC gC) (hR : jm_HR gR) (hI : Iv mu nu) (kk : ∀ m n : jm_M, Iv m n → lw_V l gC gR b L xs s below i 1324 [] m n) : lw_V l gC gR b L xs s below i 626 [] mu nu := by
  refine lw_aldC (pc := 626) dL_law_626 ?_
  refine lw_arg (pc := 627) (k := 1) hi hL (by omega) dL_law_627 dL_law_628 dL_law_629 dL_law_630 dL_law_631 ?_
  refine lw_arg (pc := 632) (k := 2) hi hL (by omega) dL_law_632 dL_law_633 dL_law_634 dL_law_635 dL_law_636 ?_
  refine lw_cC (pc := 637) (As := [jm_i (xs (i + 1)).toInt, jm_i (xs (i + 2)).toInt]) (st := []) iX11_testimony dL_law_637 mL_76 ⟨_, rfl, rfl⟩ rfl rfl (Nat.le_of_ble_eq_true rfl) (by omega) hC (sim_testimony (d := 0) hC hR hI (lw_rg _) (lw_rg _)) (fun r m hq => ?_)
  obtain ⟨z, rfl, hz, hr⟩ := hq
  refine lw_aldR (pc := 640) dL_law_640 ?_
  refine lw_arg (pc := 641) (k := 1) hi hL (by omega) dL_law_641 dL_law_642 dL_law_643 dL_law_644 dL_law_645 ?_
  refine lw_arg (pc := 646) (k := 2) hi hL (by omega) dL_law_646 dL_law_647 dL_law_648 dL_law_649 dL_law_650 ?_
  refine lw_cR (pc := 651) (As := [jm_i (xs (i + 1)).toInt, jm_i (xs (i + 2)).toInt]) (st := [jm_i z]) iX12_testimony dL_law_651 mL_79 ⟨_, rfl, rfl⟩ rfl rfl (Nat.le_of_ble_eq_true rfl) (by omega) hR hr (fun r n hq => ?_)
  obtain ⟨y, rfl, hy, rfl, hJ1⟩ := hq
  exact lw_eq (pc := 654) dL_law_654 (by decide) (kk m n hJ1)
theorem mL_80 : jm_mv R_law 80 iX11_bar 1 := ⟨cwX11_bar, jm_tw (n := 970) (by decide +kernel) rfl, vwX11_bar.1, vwX11_bar.2⟩
theorem mL_83 : jm_mv R_law 83 iX12_bar 1 := ⟨cwX12_bar, jm_tw (n := 1792) (by decide +kernel) rfl, vwX12_bar.1, vwX12_bar.2⟩
set_option maxHeartbeats 1000000 in
theorem lw_k15 (hi : i + 7 ≤ L) (hL : L ≤ 3584) (hC : jm_HC gC) (hR : jm_HR gR) (hI : Iv mu nu) (kk : ∀ m n : jm_M, Iv m n → lw_V l gC gR b L xs s below i 1324 [] m n) : lw_V l gC gR b L xs s below i 659 [] mu nu := by
  refine lw_aldC (pc := 659) dL_law_659 ?_
  refine lw_arg (pc := 660) (k := 1) hi hL (by omega) dL_law_660 dL_law_661 dL_law_662 dL_law_663 dL_law_664 ?_
  refine lw_cC (pc := 665) (As := [jm_i (xs (i + 1)).toInt]) (st := []) iX11_bar dL_law_665 mL_80 ⟨_, rfl, rfl⟩ rfl rfl (Nat.le_of_ble_eq_true rfl) (by omega) hC (sim_bar (d := 0) hC hR hI (lw_rg _)) (fun r m hq => ?_)
  obtain ⟨z, rfl, hz, hr⟩ := hq
  refine lw_aldR (pc := 668) dL_law_668 ?_
  refine lw_arg (pc := 669) (k := 1) hi hL (by omega) dL_law_669 dL_law_670 dL_law_671 dL_law_672 dL_law_673 ?_
  refine lw_cR (pc := 674) (As := [jm_i (xs (i + 1)).toInt]) (st := [jm_i z]) iX12_bar dL_law_674 mL_83 ⟨_, rfl, rfl⟩ rfl rfl (Nat.le_of_ble_eq_true rfl) (by omega) hR hr (fun r n hq => ?_)
  obtain ⟨y, rfl, hy, rfl, hJ1⟩ := hq
  exact lw_eq (pc := 677) dL_law_677 (by decide) (kk m n hJ1)
theorem mL_84 : jm_mv R_law 84 iX11_motive 2 := ⟨cwX11_motive, jm_tw (n := 974) (by decide +kernel) rfl, vwX11_motive.1, vwX11_motive.2⟩
theorem mL_87 : jm_mv R_law 87 iX12_motive 2 := ⟨cwX12_motive, jm_tw (n := 1796) (by decide +kernel) rfl, vwX12_motive.1, vwX12_motive.2⟩
set_option maxHeartbeats 1000000 in
theorem lw_k16 (hi : i + 7 ≤ L) (hL : L ≤ 3584) (hC : jm_HC gC) (hR : jm_HR gR) (hI : Iv mu nu) (kk : ∀ m n : jm_M, Iv m n → lw_V l gC gR b L xs s below i 1324 [] m n) : lw_V l gC gR b L xs s below i 682 [] mu nu := by
  refine lw_aldC (pc := 682) dL_law_682 ?_
  refine lw_arg (pc := 683) (k := 1) hi hL (by omega) dL_law_683 dL_law_684 dL_law_685 dL_law_686 dL_law_687 ?_
  refine lw_arg (pc := 688) (k := 2) hi hL (by omega) dL_law_688 dL_law_689 dL_law_690 dL_law_691 dL_law_692 ?_
  refine lw_cC (pc := 693) (As := [jm_i (xs (i + 1)).toInt, jm_i (xs (i + 2)).toInt]) (st := []) iX11_motive dL_law_693 mL_84 ⟨_, rfl, rfl⟩ rfl rfl (Nat.le_of_ble_eq_true rfl) (by omega) hC (sim_motive (d := 0) hC hR hI (lw_rg _) (lw_rg _)) (fun r m hq => ?_)
  obtain ⟨z, rfl, hz, hr⟩ := hq
  refine lw_aldR (pc := 696) dL_law_696 ?_
  refine lw_arg (pc := 697) (k := 1) hi hL (by omega) dL_law_697 dL_law_698 dL_law_699 dL_law_700 dL_law_701 ?_
  refine lw_arg (pc := 702) (k := 2) hi hL (by omega) dL_law_702 dL_law_703 dL_law_704 dL_law_705 dL_law_706 ?_
  refine lw_cR (pc := 707) (As := [jm_i (xs (i + 1)).toInt, jm_i (xs (i + 2)).toInt]) (st := [jm_i z]) iX12_motive dL_law_707 mL_87 ⟨_, rfl, rfl⟩ rfl rfl (Nat.le_of_ble_eq_true rfl) (by omega) hR hr (fun r n hq => ?_)
  obtain ⟨y, rfl, hy, rfl, hJ1⟩ := hq
  exact lw_eq (pc := 710) dL_law_710 (by decide) (kk m n hJ1)
theorem mL_88 : jm_mv R_law 88 iX11_book 2 := ⟨cwX11_book, jm_tw (n := 979) (by decide +kernel) rfl, vwX11_book.1, vwX11_book.2⟩
theorem mL_91 : jm_mv R_law 91 iX12_book 2 := ⟨cwX12_book, jm_tw (n := 1800) (by decide +kernel) rfl, vwX12_book.1, vwX12_book.2⟩
set_option maxHeartbeats 1000000 in
theorem lw_k17 (hi : i + 7 ≤ L) (hL : L ≤ 3584) (hC : jm_HC gC) (hR : jm_HR gR) (hI : Iv mu nu) (kk : ∀ m n : jm_M, Iv m n → lw_V l gC gR b L xs s below i 1324 [] m n) : lw_V l gC gR b L xs s below i 715 [] mu nu := by
  refine lw_aldC (pc := 715) dL_law_715 ?_
  refine lw_arg (pc := 716) (k := 1) hi hL (by omega) dL_law_716 dL_law_717 dL_law_718 dL_law_719 dL_law_720 ?_
  refine lw_arg (pc := 721) (k := 2) hi hL (by omega) dL_law_721 dL_law_722 dL_law_723 dL_law_724 dL_law_725 ?_
  refine lw_cC (pc := 726) (As := [jm_i (xs (i + 1)).toInt, jm_i (xs (i + 2)).toInt]) (st := []) iX11_book dL_law_726 mL_88 ⟨_, rfl, rfl⟩ rfl rfl (Nat.le_of_ble_eq_true rfl) (by omega) hC (sim_book (d := 0) hC hR hI (lw_rg _) (lw_rg _)) (fun r m hq => ?_)
  obtain ⟨z, rfl, hz, hr⟩ := hq
  refine lw_aldR (pc := 729) dL_law_729 ?_
  refine lw_arg (pc := 730) (k := 1) hi hL (by omega) dL_law_730 dL_law_731 dL_law_732 dL_law_733 dL_law_734 ?_
  refine lw_arg (pc := 735) (k := 2) hi hL (by omega) dL_law_735 dL_law_736 dL_law_737 dL_law_738 dL_law_739 ?_
  refine lw_cR (pc := 740) (As := [jm_i (xs (i + 1)).toInt, jm_i (xs (i + 2)).toInt]) (st := [jm_i z]) iX12_book dL_law_740 mL_91 ⟨_, rfl, rfl⟩ rfl rfl (Nat.le_of_ble_eq_true rfl) (by omega) hR hr (fun r n hq => ?_)
  obtain ⟨y, rfl, hy, rfl, hJ1⟩ := hq
  exact lw_eq (pc := 743) dL_law_743 (by decide) (kk m n hJ1)
theorem mL_92 : jm_mv R_law 92 iX11_keys 3 := ⟨cwX11_keys, jm_tw (n := 983) (by decide +kernel) rfl, vwX11_keys.1, vwX11_keys.2⟩
theorem mL_95 : jm_mv R_law 95 iX12_keys 3 := ⟨cwX12_keys, jm_tw (n := 1804) (by decide +kernel) rfl, vwX12_keys.1, vwX12_keys.2⟩
set_option maxHeartbeats 1000000 in
theorem lw_k18 (hi : i + 7 ≤ L) (hL : L ≤ 3584) (hC : jm_HC gC) (hR : jm_HR gR) (hI : Iv mu nu) (kk : ∀ m n : jm_M, Iv m n → lw_V l gC gR b L xs s below i 1324 [] m n) : lw_V l gC gR b L xs s below i 748 [] mu nu := by
  refine lw_aldC (pc := 748) dL_law_748 ?_
  refine lw_arg (pc := 749) (k := 1) hi hL (by omega) dL_law_749 dL_law_750 dL_law_751 dL_law_752 dL_law_753 ?_
  refine lw_arg (pc := 754) (k := 2) hi hL (by omega) dL_law_754 dL_law_755 dL_law_756 dL_law_757 dL_law_758 ?_
  refine lw_arg (pc := 759) (k := 3) hi hL (by omega) dL_law_759 dL_law_760 dL_law_761 dL_law_762 dL_law_763 ?_
  refine lw_cC (pc := 764) (As := [jm_i (xs (i + 1)).toInt, jm_i (xs (i + 2)).toInt, jm_i (xs (i + 3)).toInt]) (st := []) iX11_keys dL_law_764 mL_92 ⟨_, rfl, rfl⟩ rfl rfl (Nat.le_of_ble_eq_true rfl) (by omega) hC (sim_keys (d := 0) hC hR hI (lw_rg _) (lw_rg _) (lw_rg _)) (fun r m hq => ?_)
  obtain ⟨z, rfl, hz, hr⟩ := hq
  refine lw_aldR (pc := 767) dL_law_767 ?_
  refine lw_arg (pc := 768) (k := 1) hi hL (by omega) dL_law_768 dL_law_769 dL_law_770 dL_law_771 dL_law_772 ?_
  refine lw_arg (pc := 773) (k := 2) hi hL (by omega) dL_law_773 dL_law_774 dL_law_775 dL_law_776 dL_law_777 ?_
  refine lw_arg (pc := 778) (k := 3) hi hL (by omega) dL_law_778 dL_law_779 dL_law_780 dL_law_781 dL_law_782 ?_
  refine lw_cR (pc := 783) (As := [jm_i (xs (i + 1)).toInt, jm_i (xs (i + 2)).toInt, jm_i (xs (i + 3)).toInt]) (st := [jm_i z]) iX12_keys dL_law_783 mL_95 ⟨_, rfl, rfl⟩ rfl rfl (Nat.le_of_ble_eq_true rfl) (by omega) hR hr (fun r n hq => ?_)
  obtain ⟨y, rfl, hy, rfl, hJ1⟩ := hq
  exact lw_eq (pc := 786) dL_law_786 (by decide) (kk m n hJ1)
theorem mL_96 : jm_mv R_law 96 iX11_fair 4 := ⟨cwX11_fair, jm_tw (n := 995) (by decide +kernel) rfl, vwX11_fair.1, vwX11_fair.2⟩
theorem mL_100 : jm_mv R_law 100 iX12_fair 4 := ⟨cwX12_fair, jm_tw (n := 1812) (by decide +kernel) rfl, vwX12_fair.1, vwX12_fair.2⟩
set_option maxHeartbeats 1000000 in
theorem lw_k19 (hi : i + 7 ≤ L) (hL : L ≤ 3584) (hC : jm_HC gC) (hR : jm_HR gR) (hI : Iv mu nu) (kk : ∀ m n : jm_M, Iv m n → lw_V l gC gR b L xs s below i 1324 [] m n) : lw_V l gC gR b L xs s below i 791 [] mu nu := by
  refine lw_aldC (pc := 791) dL_law_791 ?_
  refine lw_arg (pc := 792) (k := 1) hi hL (by omega) dL_law_792 dL_law_793 dL_law_794 dL_law_795 dL_law_796 ?_
  refine lw_arg (pc := 797) (k := 2) hi hL (by omega) dL_law_797 dL_law_798 dL_law_799 dL_law_800 dL_law_801 ?_
  refine lw_arg (pc := 802) (k := 3) hi hL (by omega) dL_law_802 dL_law_803 dL_law_804 dL_law_805 dL_law_806 ?_
  refine lw_arg (pc := 807) (k := 4) hi hL (by omega) dL_law_807 dL_law_808 dL_law_809 dL_law_810 dL_law_811 ?_
  refine lw_cC (pc := 812) (As := [jm_i (xs (i + 1)).toInt, jm_i (xs (i + 2)).toInt, jm_i (xs (i + 3)).toInt, jm_i (xs (i + 4)).toInt]) (st := []) iX11_fair dL_law_812 mL_96 ⟨_, rfl, rfl⟩ rfl rfl (Nat.le_of_ble_eq_true rfl) (by omega) hC (sim_fair (d := 0) hC hR hI (lw_rg _) (lw_rg _) (lw_rg _) (lw_rg _)) (fun r m hq => ?_)
  obtain ⟨z, rfl, hz, hr⟩ := hq
  refine lw_aldR (pc := 815) dL_law_815 ?_
  refine lw_arg (pc := 816) (k := 1) hi hL (by omega) dL_law_816 dL_law_817 dL_law_818 dL_law_819 dL_law_820 ?_
  refine lw_arg (pc := 821) (k := 2) hi hL (by omega) dL_law_821 dL_law_822 dL_law_823 dL_law_824 dL_law_825 ?_
  refine lw_arg (pc := 826) (k := 3) hi hL (by omega) dL_law_826 dL_law_827 dL_law_828 dL_law_829 dL_law_830 ?_
  refine lw_arg (pc := 831) (k := 4) hi hL (by omega) dL_law_831 dL_law_832 dL_law_833 dL_law_834 dL_law_835 ?_
  refine lw_cR (pc := 836) (As := [jm_i (xs (i + 1)).toInt, jm_i (xs (i + 2)).toInt, jm_i (xs (i + 3)).toInt, jm_i (xs (i + 4)).toInt]) (st := [jm_i z]) iX12_fair dL_law_836 mL_100 ⟨_, rfl, rfl⟩ rfl rfl (Nat.le_of_ble_eq_true rfl) (by omega) hR hr (fun r n hq => ?_)
  obtain ⟨y, rfl, hy, rfl, hJ1⟩ := hq
  exact lw_eq (pc := 839) dL_law_839 (by decide) (kk m n hJ1)
theorem mL_101 : jm_mv R_law 101 iX11_heard 1 := ⟨cwX11_heard, jm_tw (n := 1011) (by decide +kernel) rfl, vwX11_heard.1, vwX11_heard.2⟩
theorem mL_104 : jm_mv R_law 104 iX12_heard 1 := ⟨cwX12_heard, jm_tw (n := 1818) (by decide +kernel) rfl, vwX12_heard.1, vwX12_heard.2⟩
set_option maxHeartbeats 1000000 in
theorem lw_k20 (hi : i + 7 ≤ L) (hL : L ≤ 3584) (hC : jm_HC gC) (hR : jm_HR gR) (hI : Iv mu nu) (kk : ∀ m n : jm_M, Iv m n → lw_V l gC gR b L xs s below i 1324 [] m n) : lw_V l gC gR b L xs s below i 844 [] mu nu := by
  refine lw_aldC (pc := 844) dL_law_844 ?_
  refine lw_arg (pc := 845) (k := 1) hi hL (by omega) dL_law_845 dL_law_846 dL_law_847 dL_law_848 dL_law_849 ?_
  refine lw_cC (pc := 850) (As := [jm_i (xs (i + 1)).toInt]) (st := []) iX11_heard dL_law_850 mL_101 ⟨_, rfl, rfl⟩ rfl rfl (Nat.le_of_ble_eq_true rfl) (by omega) hC (sim_heard (d := 0) hC hR hI (lw_rg _)) (fun r m hq => ?_)
  obtain ⟨z, rfl, hz, hr⟩ := hq
  refine lw_aldR (pc := 853) dL_law_853 ?_
  refine lw_arg (pc := 854) (k := 1) hi hL (by omega) dL_law_854 dL_law_855 dL_law_856 dL_law_857 dL_law_858 ?_
  refine lw_cR (pc := 859) (As := [jm_i (xs (i + 1)).toInt]) (st := [jm_i z]) iX12_heard dL_law_859 mL_104 ⟨_, rfl, rfl⟩ rfl rfl (Nat.le_of_ble_eq_true rfl) (by omega) hR hr (fun r n hq => ?_)
  obtain ⟨y, rfl, hy, rfl, hJ1⟩ := hq
  exact lw_eq (pc := 862) dL_law_862 (by decide) (kk m n hJ1)
theorem mL_105 : jm_mv R_law 105 iX11_read 2 := ⟨cwX11_read, jm_tw (n := 1015) (by decide +kernel) rfl, vwX11_read.1, vwX11_read.2⟩
theorem mL_108 : jm_mv R_law 108 iX12_read 2 := ⟨cwX12_read, jm_tw (n := 1822) (by decide +kernel) rfl, vwX12_read.1, vwX12_read.2⟩
set_option maxHeartbeats 1000000 in
theorem lw_k21 (hi : i + 7 ≤ L) (hL : L ≤ 3584) (hC : jm_HC gC) (hR : jm_HR gR) (hI : Iv mu nu) (kk : ∀ m n : jm_M, Iv m n → lw_V l gC gR b L xs s below i 1324 [] m n) : lw_V l gC gR b L xs s below i 867 [] mu nu := by
  refine lw_aldC (pc := 867) dL_law_867 ?_
  refine lw_arg (pc := 868) (k := 1) hi hL (by omega) dL_law_868 dL_law_869 dL_law_870 dL_law_871 dL_law_872 ?_
  refine lw_arg (pc := 873) (k := 2) hi hL (by omega) dL_law_873 dL_law_874 dL_law_875 dL_law_876 dL_law_877 ?_
  refine lw_cC (pc := 878) (As := [jm_i (xs (i + 1)).toInt, jm_i (xs (i + 2)).toInt]) (st := []) iX11_read dL_law_878 mL_105 ⟨_, rfl, rfl⟩ rfl rfl (Nat.le_of_ble_eq_true rfl) (by omega) hC (sim_read (d := 0) hC hR hI (lw_rg _) (lw_rg _)) (fun r m hq => ?_)
  obtain ⟨z, rfl, hz, hr⟩ := hq
  refine lw_aldR (pc := 881) dL_law_881 ?_
  refine lw_arg (pc := 882) (k := 1) hi hL (by omega) dL_law_882 dL_law_883 dL_law_884 dL_law_885 dL_law_886 ?_
  refine lw_arg (pc := 887) (k := 2) hi hL (by omega) dL_law_887 dL_law_888 dL_law_889 dL_law_890 dL_law_891 ?_
  refine lw_cR (pc := 892) (As := [jm_i (xs (i + 1)).toInt, jm_i (xs (i + 2)).toInt]) (st := [jm_i z]) iX12_read dL_law_892 mL_108 ⟨_, rfl, rfl⟩ rfl rfl (Nat.le_of_ble_eq_true rfl) (by omega) hR hr (fun r n hq => ?_)
  obtain ⟨y, rfl, hy, rfl, hJ1⟩ := hq
  exact lw_eq (pc := 895) dL_law_895 (by decide) (kk m n hJ1)
theorem mL_109 : jm_mv R_law 109 iX11_duet 2 := ⟨cwX11_duet, jm_tw (n := 1034) (by decide +kernel) rfl, vwX11_duet.1, vwX11_duet.2⟩
theorem mL_112 : jm_mv R_law 112 iX12_duet 2 := ⟨cwX12_duet, jm_tw (n := 1834) (by decide +kernel) rfl, vwX12_duet.1, vwX12_duet.2⟩
set_option maxHeartbeats 1000000 in
theorem lw_k22 (hi : i + 7 ≤ L) (hL : L ≤ 3584) (hC : jm_HC gC) (hR : jm_HR gR) (hI : Iv mu nu) (kk : ∀ m n : jm_M, Iv m n → lw_V l gC gR b L xs s below i 1324 [] m n) : lw_V l gC gR b L xs s below i 900 [] mu nu := by
  refine lw_aldC (pc := 900) dL_law_900 ?_
  refine lw_arg (pc := 901) (k := 1) hi hL (by omega) dL_law_901 dL_law_902 dL_law_903 dL_law_904 dL_law_905 ?_
  refine lw_arg (pc := 906) (k := 2) hi hL (by omega) dL_law_906 dL_law_907 dL_law_908 dL_law_909 dL_law_910 ?_
  refine lw_cC (pc := 911) (As := [jm_i (xs (i + 1)).toInt, jm_i (xs (i + 2)).toInt]) (st := []) iX11_duet dL_law_911 mL_109 ⟨_, rfl, rfl⟩ rfl rfl (Nat.le_of_ble_eq_true rfl) (by omega) hC (sim_duet (d := 0) hC hR hI (lw_rg _) (lw_rg _)) (fun r m hq => ?_)
  obtain ⟨z, rfl, hz, hr⟩ := hq
  refine lw_aldR (pc := 914) dL_law_914 ?_
  refine lw_arg (pc := 915) (k := 1) hi hL (by omega) dL_law_915 dL_law_916 dL_law_917 dL_law_918 dL_law_919 ?_
  refine lw_arg (pc := 920) (k := 2) hi hL (by omega) dL_law_920 dL_law_921 dL_law_922 dL_law_923 dL_law_924 ?_
  refine lw_cR (pc := 925) (As := [jm_i (xs (i + 1)).toInt, jm_i (xs (i + 2)).toInt]) (st := [jm_i z]) iX12_duet dL_law_925 mL_112 ⟨_, rfl, rfl⟩ rfl rfl (Nat.le_of_ble_eq_true rfl) (by omega) hR hr (fun r n hq => ?_)
  obtain ⟨y, rfl, hy, rfl, hJ1⟩ := hq
  exact lw_eq (pc := 928) dL_law_928 (by decide) (kk m n hJ1)
theorem mL_113 : jm_mv R_law 113 iX11_best 4 := ⟨cwX11_best, jm_tw (n := 1060) (by decide +kernel) rfl, vwX11_best.1, vwX11_best.2⟩
theorem mL_116 : jm_mv R_law 116 iX12_best 4 := ⟨cwX12_best, jm_tw (n := 1850) (by decide +kernel) rfl, vwX12_best.1, vwX12_best.2⟩
set_option maxHeartbeats 1000000 in
theorem lw_k23 (hi : i + 7 ≤ L) (hL : L ≤ 3584) (hC : jm_HC gC) (hR : jm_HR gR) (hI : Iv mu nu) (kk : ∀ m n : jm_M, Iv m n → lw_V l gC gR b L xs s below i 1324 [] m n) : lw_V l gC gR b L xs s below i 933 [] mu nu := by
  refine lw_aldC (pc := 933) dL_law_933 ?_
  refine lw_arg (pc := 934) (k := 1) hi hL (by omega) dL_law_934 dL_law_935 dL_law_936 dL_law_937 dL_law_938 ?_
  refine lw_arg (pc := 939) (k := 2) hi hL (by omega) dL_law_939 dL_law_940 dL_law_941 dL_law_942 dL_law_943 ?_
  refine lw_arg (pc := 944) (k := 3) hi hL (by omega) dL_law_944 dL_law_945 dL_law_946 dL_law_947 dL_law_948 ?_
  refine lw_arg (pc := 949) (k := 4) hi hL (by omega) dL_law_949 dL_law_950 dL_law_951 dL_law_952 dL_law_953 ?_
  refine lw_cC (pc := 954) (As := [jm_i (xs (i + 1)).toInt, jm_i (xs (i + 2)).toInt, jm_i (xs (i + 3)).toInt, jm_i (xs (i + 4)).toInt]) (st := []) iX11_best dL_law_954 mL_113 ⟨_, rfl, rfl⟩ rfl rfl (Nat.le_of_ble_eq_true rfl) (by omega) hC (sim_best (d := 0) hC hR hI (lw_rg _) (lw_rg _) (lw_rg _) (lw_rg _)) (fun r m hq => ?_)
  obtain ⟨z, rfl, hz, hr⟩ := hq
  refine lw_aldR (pc := 957) dL_law_957 ?_
  refine lw_arg (pc := 958) (k := 1) hi hL (by omega) dL_law_958 dL_law_959 dL_law_960 dL_law_961 dL_law_962 ?_
  refine lw_arg (pc := 963) (k := 2) hi hL (by omega) dL_law_963 dL_law_964 dL_law_965 dL_law_966 dL_law_967 ?_
  refine lw_arg (pc := 968) (k := 3) hi hL (by omega) dL_law_968 dL_law_969 dL_law_970 dL_law_971 dL_law_972 ?_
  refine lw_arg (pc := 973) (k := 4) hi hL (by omega) dL_law_973 dL_law_974 dL_law_975 dL_law_976 dL_law_977 ?_
  refine lw_cR (pc := 978) (As := [jm_i (xs (i + 1)).toInt, jm_i (xs (i + 2)).toInt, jm_i (xs (i + 3)).toInt, jm_i (xs (i + 4)).toInt]) (st := [jm_i z]) iX12_best dL_law_978 mL_116 ⟨_, rfl, rfl⟩ rfl rfl (Nat.le_of_ble_eq_true rfl) (by omega) hR hr (fun r n hq => ?_)
  obtain ⟨y, rfl, hy, rfl, hJ1⟩ := hq
  exact lw_eq (pc := 981) dL_law_981 (by decide) (kk m n hJ1)
theorem mL_117 : jm_mv R_law 117 iX11_canon 2 := ⟨cwX11_canon, jm_tw (n := 1074) (by decide +kernel) rfl, vwX11_canon.1, vwX11_canon.2⟩
theorem mL_120 : jm_mv R_law 120 iX12_canon 2 := ⟨cwX12_canon, jm_tw (n := 1862) (by decide +kernel) rfl, vwX12_canon.1, vwX12_canon.2⟩
set_option maxHeartbeats 1000000 in
theorem lw_k24 (hi : i + 7 ≤ L) (hL : L ≤ 3584) (hC : jm_HC gC) (hR : jm_HR gR) (hI : Iv mu nu) (kk : ∀ m n : jm_M, Iv m n → lw_V l gC gR b L xs s below i 1324 [] m n) : lw_V l gC gR b L xs s below i 986 [] mu nu := by
  refine lw_aldC (pc := 986) dL_law_986 ?_
  refine lw_arg (pc := 987) (k := 1) hi hL (by omega) dL_law_987 dL_law_988 dL_law_989 dL_law_990 dL_law_991 ?_
  refine lw_arg (pc := 992) (k := 2) hi hL (by omega) dL_law_992 dL_law_993 dL_law_994 dL_law_995 dL_law_996 ?_
  refine lw_cC (pc := 997) (As := [jm_i (xs (i + 1)).toInt, jm_i (xs (i + 2)).toInt]) (st := []) iX11_canon dL_law_997 mL_117 ⟨_, rfl, rfl⟩ rfl rfl (Nat.le_of_ble_eq_true rfl) (by omega) hC (sim_canon (d := 0) hC hR hI (lw_rg _) (lw_rg _)) (fun r m hq => ?_)
  obtain ⟨z, rfl, hz, hr⟩ := hq
  refine lw_aldR (pc := 1000) dL_law_1000 ?_
  refine lw_arg (pc := 1001) (k := 1) hi hL (by omega) dL_law_1001 dL_law_1002 dL_law_1003 dL_law_1004 dL_law_1005 ?_
  refine lw_arg (pc := 1006) (k := 2) hi hL (by omega) dL_law_1006 dL_law_1007 dL_law_1008 dL_law_1009 dL_law_1010 ?_
  refine lw_cR (pc := 1011) (As := [jm_i (xs (i + 1)).toInt, jm_i (xs (i + 2)).toInt]) (st := [jm_i z]) iX12_canon dL_law_1011 mL_120 ⟨_, rfl, rfl⟩ rfl rfl (Nat.le_of_ble_eq_true rfl) (by omega) hR hr (fun r n hq => ?_)
  obtain ⟨y, rfl, hy, rfl, hJ1⟩ := hq
  exact lw_eq (pc := 1014) dL_law_1014 (by decide) (kk m n hJ1)
theorem mL_121 : jm_mv R_law 121 iX11_weighed 2 := ⟨cwX11_weighed, jm_tw (n := 1082) (by decide +kernel) rfl, vwX11_weighed.1, vwX11_weighed.2⟩
theorem mL_124 : jm_mv R_law 124 iX12_weighed 2 := ⟨cwX12_weighed, jm_tw (n := 1866) (by decide +kernel) rfl, vwX12_weighed.1, vwX12_weighed.2⟩
set_option maxHeartbeats 1000000 in
theorem lw_k25 (hi : i + 7 ≤ L) (hL : L ≤ 3584) (hC : jm_HC gC) (hR : jm_HR gR) (hI : Iv mu nu) (kk : ∀ m n : jm_M, Iv m n → lw_V l gC gR b L xs s below i 1324 [] m n) : lw_V l gC gR b L xs s below i 1019 [] mu nu := by
  refine lw_aldC (pc := 1019) dL_law_1019 ?_
  refine lw_arg (pc := 1020) (k := 1) hi hL (by omega) dL_law_1020 dL_law_1021 dL_law_1022 dL_law_1023 dL_law_1024 ?_
  refine lw_arg (pc := 1025) (k := 2) hi hL (by omega) dL_law_1025 dL_law_1026 dL_law_1027 dL_law_1028 dL_law_1029 ?_
  refine lw_cC (pc := 1030) (As := [jm_i (xs (i + 1)).toInt, jm_i (xs (i + 2)).toInt]) (st := []) iX11_weighed dL_law_1030 mL_121 ⟨_, rfl, rfl⟩ rfl rfl (Nat.le_of_ble_eq_true rfl) (by omega) hC (sim_weighed (d := 0) hC hR hI (lw_rg _) (lw_rg _)) (fun r m hq => ?_)
  obtain ⟨z, rfl, hz, hr⟩ := hq
  refine lw_aldR (pc := 1033) dL_law_1033 ?_
  refine lw_arg (pc := 1034) (k := 1) hi hL (by omega) dL_law_1034 dL_law_1035 dL_law_1036 dL_law_1037 dL_law_1038 ?_
  refine lw_arg (pc := 1039) (k := 2) hi hL (by omega) dL_law_1039 dL_law_1040 dL_law_1041 dL_law_1042 dL_law_1043 ?_
  refine lw_cR (pc := 1044) (As := [jm_i (xs (i + 1)).toInt, jm_i (xs (i + 2)).toInt]) (st := [jm_i z]) iX12_weighed dL_law_1044 mL_124 ⟨_, rfl, rfl⟩ rfl rfl (Nat.le_of_ble_eq_true rfl) (by omega) hR hr (fun r n hq => ?_)
  obtain ⟨y, rfl, hy, rfl, hJ1⟩ := hq
  exact lw_eq (pc := 1047) dL_law_1047 (by decide) (kk m n hJ1)
theorem mL_125 : jm_mv R_law 125 iX11_found 1 := ⟨cwX11_found, jm_tw (n := 1099) (by decide +kernel) rfl, vwX11_found.1, vwX11_found.2⟩
theorem mL_128 : jm_mv R_law 128 iX12_found 1 := ⟨cwX12_found, jm_tw (n := 1878) (by decide +kernel) rfl, vwX12_found.1, vwX12_found.2⟩
set_option maxHeartbeats 1000000 in
theorem lw_k26 (hi : i + 7 ≤ L) (hL : L ≤ 3584) (hC : jm_HC gC) (hR : jm_HR gR) (hI : Iv mu nu) (kk : ∀ m n : jm_M, Iv m n → lw_V l gC gR b L xs s below i 1324 [] m n) : lw_V l gC gR b L xs s below i 1052 [] mu nu := by
  refine lw_aldC (pc := 1052) dL_law_1052 ?_
  refine lw_arg (pc := 1053) (k := 1) hi hL (by omega) dL_law_1053 dL_law_1054 dL_law_1055 dL_law_1056 dL_law_1057 ?_
  refine lw_cC (pc := 1058) (As := [jm_i (xs (i + 1)).toInt]) (st := []) iX11_found dL_law_1058 mL_125 ⟨_, rfl, rfl⟩ rfl rfl (Nat.le_of_ble_eq_true rfl) (by omega) hC (sim_found (d := 0) hC hR hI (lw_rg _)) (fun r m hq => ?_)
  obtain ⟨z, rfl, hz, hr⟩ := hq
  refine lw_aldR (pc := 1061) dL_law_1061 ?_
  refine lw_arg (pc := 1062) (k := 1) hi hL (by omega) dL_law_1062 dL_law_1063 dL_law_1064 dL_law_1065 dL_law_1066 ?_
  refine lw_cR (pc := 1067) (As := [jm_i (xs (i + 1)).toInt]) (st := [jm_i z]) iX12_found dL_law_1067 mL_128 ⟨_, rfl, rfl⟩ rfl rfl (Nat.le_of_ble_eq_true rfl) (by omega) hR hr (fun r n hq => ?_)
  obtain ⟨y, rfl, hy, rfl, hJ1⟩ := hq
  exact lw_eq (pc := 1070) dL_law_1070 (by decide) (kk m n hJ1)
theorem mL_129 : jm_mv R_law 129 iX11_calls 3 := ⟨cwX11_calls, jm_tw (n := 1112) (by decide +kernel) rfl, vwX11_calls.1, vwX11_calls.2⟩
theorem mL_132 : jm_mv R_law 132 iX12_calls 3 := ⟨cwX12_calls, jm_tw (n := 1890) (by decide +kernel) rfl, vwX12_calls.1, vwX12_calls.2⟩
set_option maxHeartbeats 1000000 in
theorem lw_k27 (hi : i + 7 ≤ L) (hL : L ≤ 3584) (hC : jm_HC gC) (hR : jm_HR gR) (hI : Iv mu nu) (kk : ∀ m n : jm_M, Iv m n → lw_V l gC gR b L xs s below i 1324 [] m n) : lw_V l gC gR b L xs s below i 1075 [] mu nu := by
  refine lw_aldC (pc := 1075) dL_law_1075 ?_
  refine lw_arg (pc := 1076) (k := 1) hi hL (by omega) dL_law_1076 dL_law_1077 dL_law_1078 dL_law_1079 dL_law_1080 ?_
  refine lw_arg (pc := 1081) (k := 2) hi hL (by omega) dL_law_1081 dL_law_1082 dL_law_1083 dL_law_1084 dL_law_1085 ?_
  refine lw_arg (pc := 1086) (k := 3) hi hL (by omega) dL_law_1086 dL_law_1087 dL_law_1088 dL_law_1089 dL_law_1090 ?_
  refine lw_cC (pc := 1091) (As := [jm_i (xs (i + 1)).toInt, jm_i (xs (i + 2)).toInt, jm_i (xs (i + 3)).toInt]) (st := []) iX11_calls dL_law_1091 mL_129 ⟨_, rfl, rfl⟩ rfl rfl (Nat.le_of_ble_eq_true rfl) (by omega) hC (sim_calls (d := 0) hC hR hI (lw_rg _) (lw_rg _) (lw_rg _)) (fun r m hq => ?_)
  obtain ⟨z, rfl, hz, hr⟩ := hq
  refine lw_aldR (pc := 1094) dL_law_1094 ?_
  refine lw_arg (pc := 1095) (k := 1) hi hL (by omega) dL_law_1095 dL_law_1096 dL_law_1097 dL_law_1098 dL_law_1099 ?_
  refine lw_arg (pc := 1100) (k := 2) hi hL (by omega) dL_law_1100 dL_law_1101 dL_law_1102 dL_law_1103 dL_law_1104 ?_
  refine lw_arg (pc := 1105) (k := 3) hi hL (by omega) dL_law_1105 dL_law_1106 dL_law_1107 dL_law_1108 dL_law_1109 ?_
  refine lw_cR (pc := 1110) (As := [jm_i (xs (i + 1)).toInt, jm_i (xs (i + 2)).toInt, jm_i (xs (i + 3)).toInt]) (st := [jm_i z]) iX12_calls dL_law_1110 mL_132 ⟨_, rfl, rfl⟩ rfl rfl (Nat.le_of_ble_eq_true rfl) (by omega) hR hr (fun r n hq => ?_)
  obtain ⟨y, rfl, hy, rfl, hJ1⟩ := hq
  exact lw_eq (pc := 1113) dL_law_1113 (by decide) (kk m n hJ1)
theorem mL_133 : jm_mv R_law 133 iX11_choir 1 := ⟨cwX11_choir, jm_tw (n := 1138) (by decide +kernel) rfl, vwX11_choir.1, vwX11_choir.2⟩
theorem mL_136 : jm_mv R_law 136 iX12_choir 1 := ⟨cwX12_choir, jm_tw (n := 1902) (by decide +kernel) rfl, vwX12_choir.1, vwX12_choir.2⟩
set_option maxHeartbeats 1000000 in
theorem lw_k28 (hi : i + 7 ≤ L) (hL : L ≤ 3584) (hC : jm_HC gC) (hR : jm_HR gR) (hI : Iv mu nu) (kk : ∀ m n : jm_M, Iv m n → lw_V l gC gR b L xs s below i 1324 [] m n) : lw_V l gC gR b L xs s below i 1118 [] mu nu := by
  refine lw_aldC (pc := 1118) dL_law_1118 ?_
  refine lw_arg (pc := 1119) (k := 1) hi hL (by omega) dL_law_1119 dL_law_1120 dL_law_1121 dL_law_1122 dL_law_1123 ?_
  refine lw_cC (pc := 1124) (As := [jm_i (xs (i + 1)).toInt]) (st := []) iX11_choir dL_law_1124 mL_133 ⟨_, rfl, rfl⟩ rfl rfl (Nat.le_of_ble_eq_true rfl) (by omega) hC (sim_choir (d := 0) hC hR hI (lw_rg _)) (fun r m hq => ?_)
  obtain ⟨z, rfl, hz, hr⟩ := hq
  refine lw_aldR (pc := 1127) dL_law_1127 ?_
  refine lw_arg (pc := 1128) (k := 1) hi hL (by omega) dL_law_1128 dL_law_1129 dL_law_1130 dL_law_1131 dL_law_1132 ?_
  refine lw_cR (pc := 1133) (As := [jm_i (xs (i + 1)).toInt]) (st := [jm_i z]) iX12_choir dL_law_1133 mL_136 ⟨_, rfl, rfl⟩ rfl rfl (Nat.le_of_ble_eq_true rfl) (by omega) hR hr (fun r n hq => ?_)
  obtain ⟨y, rfl, hy, rfl, hJ1⟩ := hq
  exact lw_eq (pc := 1136) dL_law_1136 (by decide) (kk m n hJ1)
theorem mL_137 : jm_mv R_law 137 iX11_worlds 2 := ⟨cwX11_worlds, jm_tw (n := 1158) (by decide +kernel) rfl, vwX11_worlds.1, vwX11_worlds.2⟩
theorem mL_140 : jm_mv R_law 140 iX12_worlds 2 := ⟨cwX12_worlds, jm_tw (n := 1914) (by decide +kernel) rfl, vwX12_worlds.1, vwX12_worlds.2⟩
set_option maxHeartbeats 1000000 in
theorem lw_k29 (hi : i + 7 ≤ L) (hL : L ≤ 3584) (hC : jm_HC gC) (hR : jm_HR gR) (hI : Iv mu nu) (kk : ∀ m n : jm_M, Iv m n → lw_V l gC gR b L xs s below i 1324 [] m n) : lw_V l gC gR b L xs s below i 1141 [] mu nu := by
  refine lw_aldC (pc := 1141) dL_law_1141 ?_
  refine lw_arg (pc := 1142) (k := 1) hi hL (by omega) dL_law_1142 dL_law_1143 dL_law_1144 dL_law_1145 dL_law_1146 ?_
  refine lw_arg (pc := 1147) (k := 2) hi hL (by omega) dL_law_1147 dL_law_1148 dL_law_1149 dL_law_1150 dL_law_1151 ?_
  refine lw_cC (pc := 1152) (As := [jm_i (xs (i + 1)).toInt, jm_i (xs (i + 2)).toInt]) (st := []) iX11_worlds dL_law_1152 mL_137 ⟨_, rfl, rfl⟩ rfl rfl (Nat.le_of_ble_eq_true rfl) (by omega) hC (sim_worlds (d := 0) hC hR hI (lw_rg _) (lw_rg _)) (fun r m hq => ?_)
  obtain ⟨z, rfl, hz, hr⟩ := hq
  refine lw_aldR (pc := 1155) dL_law_1155 ?_
  refine lw_arg (pc := 1156) (k := 1) hi hL (by omega) dL_law_1156 dL_law_1157 dL_law_1158 dL_law_1159 dL_law_1160 ?_
  refine lw_arg (pc := 1161) (k := 2) hi hL (by omega) dL_law_1161 dL_law_1162 dL_law_1163 dL_law_1164 dL_law_1165 ?_
  refine lw_cR (pc := 1166) (As := [jm_i (xs (i + 1)).toInt, jm_i (xs (i + 2)).toInt]) (st := [jm_i z]) iX12_worlds dL_law_1166 mL_140 ⟨_, rfl, rfl⟩ rfl rfl (Nat.le_of_ble_eq_true rfl) (by omega) hR hr (fun r n hq => ?_)
  obtain ⟨y, rfl, hy, rfl, hJ1⟩ := hq
  exact lw_eq (pc := 1169) dL_law_1169 (by decide) (kk m n hJ1)
theorem mL_141 : jm_mv R_law 141 iX11_chord 6 := ⟨cwX11_chord, jm_tw (n := 1186) (by decide +kernel) rfl, vwX11_chord.1, vwX11_chord.2⟩
theorem mL_145 : jm_mv R_law 145 iX12_chord 6 := ⟨cwX12_chord, jm_tw (n := 1934) (by decide +kernel) rfl, vwX12_chord.1, vwX12_chord.2⟩
set_option maxHeartbeats 1000000 in
theorem lw_k30 (hi : i + 7 ≤ L) (hL : L ≤ 3584) (hC : jm_HC gC) (hR : jm_HR gR) (hI : Iv mu nu) (kk : ∀ m n : jm_M, Iv m n → lw_V l gC gR b L xs s below i 1324 [] m n) : lw_V l gC gR b L xs s below i 1174 [] mu nu := by
  refine lw_aldC (pc := 1174) dL_law_1174 ?_
  refine lw_arg (pc := 1175) (k := 1) hi hL (by omega) dL_law_1175 dL_law_1176 dL_law_1177 dL_law_1178 dL_law_1179 ?_
  refine lw_arg (pc := 1180) (k := 2) hi hL (by omega) dL_law_1180 dL_law_1181 dL_law_1182 dL_law_1183 dL_law_1184 ?_
  refine lw_arg (pc := 1185) (k := 3) hi hL (by omega) dL_law_1185 dL_law_1186 dL_law_1187 dL_law_1188 dL_law_1189 ?_
  refine lw_arg (pc := 1190) (k := 4) hi hL (by omega) dL_law_1190 dL_law_1191 dL_law_1192 dL_law_1193 dL_law_1194 ?_
  refine lw_arg (pc := 1195) (k := 5) hi hL (by omega) dL_law_1195 dL_law_1196 dL_law_1197 dL_law_1198 dL_law_1199 ?_
  refine lw_arg6 (pc := 1200) hi hL dL_law_1200 dL_law_1201 dL_law_1202 dL_law_1204 dL_law_1205 ?_
  refine lw_cC (pc := 1206) (As := [jm_i (xs (i + 1)).toInt, jm_i (xs (i + 2)).toInt, jm_i (xs (i + 3)).toInt, jm_i (xs (i + 4)).toInt, jm_i (xs (i + 5)).toInt, jm_i (xs (i + 6)).toInt]) (st := []) iX11_chord dL_law_1206 mL_141 ⟨_, rfl, rfl⟩ rfl rfl (Nat.le_of_ble_eq_true rfl) (by omega) hC (sim_chord (d := 0) hC hR hI (lw_rg _) (lw_rg _) (lw_rg _) (lw_rg _) (lw_rg _) (lw_rg _)) (fun r m hq => ?_)
  obtain ⟨z, rfl, hz, hr⟩ := hq
  refine lw_aldR (pc := 1209) dL_law_1209 ?_
  refine lw_arg (pc := 1210) (k := 1) hi hL (by omega) dL_law_1210 dL_law_1211 dL_law_1212 dL_law_1213 dL_law_1214 ?_
  refine lw_arg (pc := 1215) (k := 2) hi hL (by omega) dL_law_1215 dL_law_1216 dL_law_1217 dL_law_1218 dL_law_1219 ?_
  refine lw_arg (pc := 1220) (k := 3) hi hL (by omega) dL_law_1220 dL_law_1221 dL_law_1222 dL_law_1223 dL_law_1224 ?_
  refine lw_arg (pc := 1225) (k := 4) hi hL (by omega) dL_law_1225 dL_law_1226 dL_law_1227 dL_law_1228 dL_law_1229 ?_
  refine lw_arg (pc := 1230) (k := 5) hi hL (by omega) dL_law_1230 dL_law_1231 dL_law_1232 dL_law_1233 dL_law_1234 ?_
  refine lw_arg6 (pc := 1235) hi hL dL_law_1235 dL_law_1236 dL_law_1237 dL_law_1239 dL_law_1240 ?_
  refine lw_cR (pc := 1241) (As := [jm_i (xs (i + 1)).toInt, jm_i (xs (i + 2)).toInt, jm_i (xs (i + 3)).toInt, jm_i (xs (i + 4)).toInt, jm_i (xs (i + 5)).toInt, jm_i (xs (i + 6)).toInt]) (st := [jm_i z]) iX12_chord dL_law_1241 mL_145 ⟨_, rfl, rfl⟩ rfl rfl (Nat.le_of_ble_eq_true rfl) (by omega) hR hr (fun r n hq => ?_)
  obtain ⟨y, rfl, hy, rfl, hJ1⟩ := hq
  exact lw_eq (pc := 1244) dL_law_1244 (by decide) (kk m n hJ1)
theorem mL_146 : jm_mv R_law 146 iX11_undo 0 := ⟨cwX11_undo, jm_tw (n := 1218) (by decide +kernel) rfl, vwX11_undo.1, vwX11_undo.2⟩
theorem mL_150 : jm_mv R_law 150 iX12_undo 0 := ⟨cwX12_undo, jm_tw (n := 1422) (by decide +kernel) rfl, vwX12_undo.1, vwX12_undo.2⟩
set_option maxHeartbeats 1000000 in
theorem lw_k31 (hi : i + 7 ≤ L) (hL : L ≤ 3584) (hC : jm_HC gC) (hR : jm_HR gR) (hI : Iv mu nu) (kk : ∀ m n : jm_M, Iv m n → lw_V l gC gR b L xs s below i 1324 [] m n) : lw_V l gC gR b L xs s below i 1249 [] mu nu := by
  refine lw_aldC (pc := 1249) dL_law_1249 ?_
  refine lw_cC (pc := 1250) (As := []) (st := []) iX11_undo dL_law_1250 mL_146 ⟨_, rfl, rfl⟩ rfl rfl (Nat.le_of_ble_eq_true rfl) (by omega) hC (sim_undo (d := 0) hC hR hI) (fun r m hq => ?_)
  obtain ⟨z, rfl, hz, hr⟩ := hq
  refine lw_aldR (pc := 1253) dL_law_1253 ?_
  refine lw_cR (pc := 1254) (As := []) (st := [jm_i z]) iX12_undo dL_law_1254 mL_150 ⟨_, rfl, rfl⟩ rfl rfl (Nat.le_of_ble_eq_true rfl) (by omega) hR hr (fun r n hq => ?_)
  obtain ⟨y, rfl, hy, rfl, hJ1⟩ := hq
  exact lw_eq (pc := 1257) dL_law_1257 (by decide) (kk m n hJ1)
theorem mL_151 : jm_mv R_law 151 iX11_image 1 := ⟨cwX11_image, jm_tw (n := 1222) (by decide +kernel) rfl, vwX11_image.1, vwX11_image.2⟩
theorem mL_155 : jm_mv R_law 155 iX12_image 1 := ⟨cwX12_image, jm_tw (n := 1946) (by decide +kernel) rfl, vwX12_image.1, vwX12_image.2⟩
set_option maxHeartbeats 1000000 in
theorem lw_k32 (hi : i + 7 ≤ L) (hL : L ≤ 3584) (hC : jm_HC gC) (hR : jm_HR gR) (hI : Iv mu nu) (kk : ∀ m n : jm_M, Iv m n → lw_V l gC gR b L xs s below i 1324 [] m n) : lw_V l gC gR b L xs s below i 1262 [] mu nu := by
  refine lw_aldC (pc := 1262) dL_law_1262 ?_
  refine lw_arg (pc := 1263) (k := 1) hi hL (by omega) dL_law_1263 dL_law_1264 dL_law_1265 dL_law_1266 dL_law_1267 ?_
  refine lw_ne0 (pc := 1268) dL_law_1268 dL_law_1271 dL_law_1272 dL_law_1275 ?_
  refine lw_cC (pc := 1276) (As := [jm_i (lw_01 (xs (i + 1)))]) (st := []) iX11_image dL_law_1276 mL_151 ⟨_, rfl, rfl⟩ rfl rfl (Nat.le_of_ble_eq_true rfl) (by omega) hC (sim_image (d := 0) hC hR hI (lw_01c _)) (fun r m hq => ?_)
  obtain ⟨z, rfl, hz, hr⟩ := hq
  refine lw_aldR (pc := 1279) dL_law_1279 ?_
  refine lw_arg (pc := 1280) (k := 1) hi hL (by omega) dL_law_1280 dL_law_1281 dL_law_1282 dL_law_1283 dL_law_1284 ?_
  refine lw_ne0 (pc := 1285) dL_law_1285 dL_law_1288 dL_law_1289 dL_law_1292 ?_
  refine lw_cR (pc := 1293) (As := [jm_i (lw_01 (xs (i + 1)))]) (st := [jm_i z]) iX12_image dL_law_1293 mL_155 ⟨_, rfl, rfl⟩ rfl rfl (Nat.le_of_ble_eq_true rfl) (by omega) hR hr (fun r n hq => ?_)
  obtain ⟨y, rfl, hy, rfl, hJ1⟩ := hq
  exact lw_eq (pc := 1296) dL_law_1296 (by decide) (kk m n hJ1)
theorem mL_156 : jm_mv R_law 156 iX11_look 1 := ⟨cwX11_look, jm_tw (n := 1234) (by decide +kernel) rfl, vwX11_look.1, vwX11_look.2⟩
theorem mL_159 : jm_mv R_law 159 iX12_look 1 := ⟨cwX12_look, jm_tw (n := 1962) (by decide +kernel) rfl, vwX12_look.1, vwX12_look.2⟩
set_option maxHeartbeats 1000000 in
theorem lw_k33 (hi : i + 7 ≤ L) (hL : L ≤ 3584) (hC : jm_HC gC) (hR : jm_HR gR) (hI : Iv mu nu) (kk : ∀ m n : jm_M, Iv m n → lw_V l gC gR b L xs s below i 1324 [] m n) : lw_V l gC gR b L xs s below i 1301 [] mu nu := by
  refine lw_aldC (pc := 1301) dL_law_1301 ?_
  refine lw_arg (pc := 1302) (k := 1) hi hL (by omega) dL_law_1302 dL_law_1303 dL_law_1304 dL_law_1305 dL_law_1306 ?_
  refine lw_cC (pc := 1307) (As := [jm_i (xs (i + 1)).toInt]) (st := []) iX11_look dL_law_1307 mL_156 ⟨_, rfl, rfl⟩ rfl rfl (Nat.le_of_ble_eq_true rfl) (by omega) hC (sim_look (d := 0) hC hR hI (lw_rg _)) (fun r m hq => ?_)
  obtain ⟨z, rfl, hz, hr⟩ := hq
  refine lw_aldR (pc := 1310) dL_law_1310 ?_
  refine lw_arg (pc := 1311) (k := 1) hi hL (by omega) dL_law_1311 dL_law_1312 dL_law_1313 dL_law_1314 dL_law_1315 ?_
  refine lw_cR (pc := 1316) (As := [jm_i (xs (i + 1)).toInt]) (st := [jm_i z]) iX12_look dL_law_1316 mL_159 ⟨_, rfl, rfl⟩ rfl rfl (Nat.le_of_ble_eq_true rfl) (by omega) hR hr (fun r n hq => ?_)
  obtain ⟨y, rfl, hy, rfl, hJ1⟩ := hq
  exact lw_eq (pc := 1319) dL_law_1319 (by decide) (kk m n hJ1)
end LWC
