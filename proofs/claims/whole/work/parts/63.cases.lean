/-! THE LAW: each call -/
section LAWC
variable {p : Program} {l : Launch} {e : Env} {s : State} {m : MethodId} {below : List Frame} {meth : Method} {c : Code} {b L : Nat} {xs : Nat → Int32} {w : Wd} {M : Mm} {j : Nat}
set_option maxRecDepth 20000 in
theorem lc_0 (C : LC p s m meth c b L xs w) (hL : L ≤ 256) (hi : 4 * j + 4 ≤ L) (h : Inv j M) (hz : I_z M) (K : ∀ M2, Inv (j + 1) M2 → I_z M2 → GL p l e s m below meth c b w (4 * j) M2 901 []) : GL p l e s m below meth c b w (4 * j) M 164 [] := by
  obtain ⟨r, M1, M2, e1, e2, h3, h4⟩ := Bo_letter h hz (xs (4 * j + 1))
  refine gl_x C dL_law_164 ?_
  refine gl_arg C 1 1 hL (by omega) rfl dL_law_165 dL_law_166 dL_law_167 dL_law_168 dL_law_169 ?_
  refine gl_I C 0 [.int (xs (4 * j + 1))] [] kn_X10 rfl rfl (ct_X10_letter l w _ _) e1 cal_X10_letter km_L_13 ⟨rfl, rfl⟩ ⟨Nat.le_of_ble_eq_true rfl, Nat.le_of_ble_eq_true rfl⟩ rfl rfl (Nat.le_of_ble_eq_true rfl) dL_law_170 ?_
  refine gl_m C dL_law_173 ?_
  refine gl_arg C 1 1 hL (by omega) rfl dL_law_174 dL_law_175 dL_law_176 dL_law_177 dL_law_178 ?_
  refine gl_I C 32 [.int (xs (4 * j + 1))] [.int r] kn_X11 rfl rfl (ct_X11_letter l w _ _) e2 cal_X11_letter km_L_17 ⟨rfl, rfl⟩ ⟨Nat.le_of_ble_eq_true rfl, Nat.le_of_ble_eq_true rfl⟩ rfl rfl (Nat.le_of_ble_eq_true rfl) dL_law_179 ?_
  exact gl_eq C dL_law_182 (by decide) (K M2 h3 h4)
set_option maxRecDepth 20000 in
theorem lc_1 (C : LC p s m meth c b L xs w) (hL : L ≤ 256) (hi : 4 * j + 4 ≤ L) (h : Inv j M) (hz : I_z M) (K : ∀ M2, Inv (j + 1) M2 → I_z M2 → GL p l e s m below meth c b w (4 * j) M2 901 []) : GL p l e s m below meth c b w (4 * j) M 187 [] := by
  obtain ⟨r, M1, M2, e1, e2, h3, h4⟩ := Bo_blank h hz 
  refine gl_x C dL_law_187 ?_
  refine gl_I C 0 [] [] kn_X10 rfl rfl (ct_X10_blank l w  _) e1 cal_X10_blank km_L_18 ⟨rfl, rfl⟩ ⟨Nat.le_of_ble_eq_true rfl, Nat.le_of_ble_eq_true rfl⟩ rfl rfl (Nat.le_of_ble_eq_true rfl) dL_law_188 ?_
  refine gl_m C dL_law_191 ?_
  refine gl_I C 32 [] [.int r] kn_X11 rfl rfl (ct_X11_blank l w  _) e2 cal_X11_blank km_L_22 ⟨rfl, rfl⟩ ⟨Nat.le_of_ble_eq_true rfl, Nat.le_of_ble_eq_true rfl⟩ rfl rfl (Nat.le_of_ble_eq_true rfl) dL_law_192 ?_
  exact gl_eq C dL_law_195 (by decide) (K M2 h3 h4)
set_option maxRecDepth 20000 in
theorem lc_2 (C : LC p s m meth c b L xs w) (hL : L ≤ 256) (hi : 4 * j + 4 ≤ L) (h : Inv j M) (hz : I_z M) (K : ∀ M2, Inv (j + 1) M2 → I_z M2 → GL p l e s m below meth c b w (4 * j) M2 901 []) : GL p l e s m below meth c b w (4 * j) M 200 [] := by
  obtain ⟨r, M1, M2, e1, e2, h3, h4⟩ := Bo_fault h hz 
  refine gl_x C dL_law_200 ?_
  refine gl_I C 0 [] [] kn_X10 rfl rfl (ct_X10_fault l w  _) e1 cal_X10_fault km_L_23 ⟨rfl, rfl⟩ ⟨Nat.le_of_ble_eq_true rfl, Nat.le_of_ble_eq_true rfl⟩ rfl rfl (Nat.le_of_ble_eq_true rfl) dL_law_201 ?_
  refine gl_m C dL_law_204 ?_
  refine gl_I C 32 [] [.int r] kn_X11 rfl rfl (ct_X11_fault l w  _) e2 cal_X11_fault km_L_26 ⟨rfl, rfl⟩ ⟨Nat.le_of_ble_eq_true rfl, Nat.le_of_ble_eq_true rfl⟩ rfl rfl (Nat.le_of_ble_eq_true rfl) dL_law_205 ?_
  exact gl_eq C dL_law_208 (by decide) (K M2 h3 h4)
set_option maxRecDepth 20000 in
theorem lc_3 (C : LC p s m meth c b L xs w) (hL : L ≤ 256) (hi : 4 * j + 4 ≤ L) (h : Inv j M) (hz : I_z M) (K : ∀ M2, Inv (j + 1) M2 → I_z M2 → GL p l e s m below meth c b w (4 * j) M2 901 []) : GL p l e s m below meth c b w (4 * j) M 213 [] := by
  obtain ⟨r, M1, M2, e1, e2, h3, h4⟩ := Bo_night h hz (by omega) 
  refine gl_x C dL_law_213 ?_
  refine gl_I C 0 [] [] kn_X10 rfl rfl (ct_X10_night l w  _) e1 cal_X10_night km_L_27 ⟨rfl, rfl⟩ ⟨Nat.le_of_ble_eq_true rfl, Nat.le_of_ble_eq_true rfl⟩ rfl rfl (Nat.le_of_ble_eq_true rfl) dL_law_214 ?_
  refine gl_m C dL_law_217 ?_
  refine gl_I C 32 [] [.int r] kn_X11 rfl rfl (ct_X11_night l w  _) e2 cal_X11_night km_L_30 ⟨rfl, rfl⟩ ⟨Nat.le_of_ble_eq_true rfl, Nat.le_of_ble_eq_true rfl⟩ rfl rfl (Nat.le_of_ble_eq_true rfl) dL_law_218 ?_
  exact gl_eq C dL_law_221 (by decide) (K M2 h3 h4)
set_option maxRecDepth 20000 in
theorem lc_4 (C : LC p s m meth c b L xs w) (hL : L ≤ 256) (hi : 4 * j + 4 ≤ L) (h : Inv j M) (hz : I_z M) (K : ∀ M2, Inv (j + 1) M2 → I_z M2 → GL p l e s m below meth c b w (4 * j) M2 901 []) : GL p l e s m below meth c b w (4 * j) M 226 [] := by
  obtain ⟨r, M1, M2, e1, e2, h3, h4⟩ := Bo_sea h hz (by omega) (xs (4 * j + 1))
  refine gl_x C dL_law_226 ?_
  refine gl_arg C 1 1 hL (by omega) rfl dL_law_227 dL_law_228 dL_law_229 dL_law_230 dL_law_231 ?_
  refine gl_I C 0 [.int (xs (4 * j + 1))] [] kn_X10 rfl rfl (ct_X10_sea l w _ _) e1 cal_X10_sea km_L_31 ⟨rfl, rfl⟩ ⟨Nat.le_of_ble_eq_true rfl, Nat.le_of_ble_eq_true rfl⟩ rfl rfl (Nat.le_of_ble_eq_true rfl) dL_law_232 ?_
  refine gl_m C dL_law_235 ?_
  refine gl_arg C 1 1 hL (by omega) rfl dL_law_236 dL_law_237 dL_law_238 dL_law_239 dL_law_240 ?_
  refine gl_I C 32 [.int (xs (4 * j + 1))] [.int r] kn_X11 rfl rfl (ct_X11_sea l w _ _) e2 cal_X11_sea km_L_34 ⟨rfl, rfl⟩ ⟨Nat.le_of_ble_eq_true rfl, Nat.le_of_ble_eq_true rfl⟩ rfl rfl (Nat.le_of_ble_eq_true rfl) dL_law_241 ?_
  exact gl_eq C dL_law_244 (by decide) (K M2 h3 h4)
set_option maxRecDepth 20000 in
theorem lc_5 (C : LC p s m meth c b L xs w) (hL : L ≤ 256) (hi : 4 * j + 4 ≤ L) (h : Inv j M) (hz : I_z M) (K : ∀ M2, Inv (j + 1) M2 → I_z M2 → GL p l e s m below meth c b w (4 * j) M2 901 []) : GL p l e s m below meth c b w (4 * j) M 249 [] := by
  obtain ⟨r, M1, M2, e1, e2, h3, h4⟩ := Bo_rocket h hz (by omega) (xs (4 * j + 1)) (xs (4 * j + 2))
  refine gl_x C dL_law_249 ?_
  refine gl_arg C 1 1 hL (by omega) rfl dL_law_250 dL_law_251 dL_law_252 dL_law_253 dL_law_254 ?_
  refine gl_arg C 2 2 hL (by omega) rfl dL_law_255 dL_law_256 dL_law_257 dL_law_258 dL_law_259 ?_
  refine gl_I C 0 [.int (xs (4 * j + 1)), .int (xs (4 * j + 2))] [] kn_X10 rfl rfl (ct_X10_rocket l w _ _ _) e1 cal_X10_rocket km_L_35 ⟨rfl, rfl⟩ ⟨Nat.le_of_ble_eq_true rfl, Nat.le_of_ble_eq_true rfl⟩ rfl rfl (Nat.le_of_ble_eq_true rfl) dL_law_260 ?_
  refine gl_m C dL_law_263 ?_
  refine gl_arg C 1 1 hL (by omega) rfl dL_law_264 dL_law_265 dL_law_266 dL_law_267 dL_law_268 ?_
  refine gl_arg C 2 2 hL (by omega) rfl dL_law_269 dL_law_270 dL_law_271 dL_law_272 dL_law_273 ?_
  refine gl_I C 32 [.int (xs (4 * j + 1)), .int (xs (4 * j + 2))] [.int r] kn_X11 rfl rfl (ct_X11_rocket l w _ _ _) e2 cal_X11_rocket km_L_39 ⟨rfl, rfl⟩ ⟨Nat.le_of_ble_eq_true rfl, Nat.le_of_ble_eq_true rfl⟩ rfl rfl (Nat.le_of_ble_eq_true rfl) dL_law_274 ?_
  exact gl_eq C dL_law_277 (by decide) (K M2 h3 h4)
set_option maxRecDepth 20000 in
theorem lc_6 (C : LC p s m meth c b L xs w) (hL : L ≤ 256) (hi : 4 * j + 4 ≤ L) (h : Inv j M) (hz : I_z M) (K : ∀ M2, Inv (j + 1) M2 → I_z M2 → GL p l e s m below meth c b w (4 * j) M2 901 []) : GL p l e s m below meth c b w (4 * j) M 282 [] := by
  obtain ⟨r, M1, M2, e1, e2, h3, h4⟩ := Bo_fire h hz (xs (4 * j + 1)) (xs (4 * j + 2))
  refine gl_x C dL_law_282 ?_
  refine gl_arg C 1 1 hL (by omega) rfl dL_law_283 dL_law_284 dL_law_285 dL_law_286 dL_law_287 ?_
  refine gl_arg C 2 2 hL (by omega) rfl dL_law_288 dL_law_289 dL_law_290 dL_law_291 dL_law_292 ?_
  refine gl_I C 0 [.int (xs (4 * j + 1)), .int (xs (4 * j + 2))] [] kn_X10 rfl rfl (ct_X10_fire l w _ _ _) e1 cal_X10_fire km_L_40 ⟨rfl, rfl⟩ ⟨Nat.le_of_ble_eq_true rfl, Nat.le_of_ble_eq_true rfl⟩ rfl rfl (Nat.le_of_ble_eq_true rfl) dL_law_293 ?_
  refine gl_m C dL_law_296 ?_
  refine gl_arg C 1 1 hL (by omega) rfl dL_law_297 dL_law_298 dL_law_299 dL_law_300 dL_law_301 ?_
  refine gl_arg C 2 2 hL (by omega) rfl dL_law_302 dL_law_303 dL_law_304 dL_law_305 dL_law_306 ?_
  refine gl_I C 32 [.int (xs (4 * j + 1)), .int (xs (4 * j + 2))] [.int r] kn_X11 rfl rfl (ct_X11_fire l w _ _ _) e2 cal_X11_fire km_L_43 ⟨rfl, rfl⟩ ⟨Nat.le_of_ble_eq_true rfl, Nat.le_of_ble_eq_true rfl⟩ rfl rfl (Nat.le_of_ble_eq_true rfl) dL_law_307 ?_
  exact gl_eq C dL_law_310 (by decide) (K M2 h3 h4)
set_option maxRecDepth 20000 in
theorem lc_7 (C : LC p s m meth c b L xs w) (hL : L ≤ 256) (hi : 4 * j + 4 ≤ L) (h : Inv j M) (hz : I_z M) (K : ∀ M2, Inv (j + 1) M2 → I_z M2 → GL p l e s m below meth c b w (4 * j) M2 901 []) : GL p l e s m below meth c b w (4 * j) M 315 [] := by
  obtain ⟨r, M1, M2, e1, e2, h3, h4⟩ := Bo_hits h hz (xs (4 * j + 1)) (xs (4 * j + 2)) (xs (4 * j + 3))
  refine gl_x C dL_law_315 ?_
  refine gl_arg C 1 1 hL (by omega) rfl dL_law_316 dL_law_317 dL_law_318 dL_law_319 dL_law_320 ?_
  refine gl_arg C 2 2 hL (by omega) rfl dL_law_321 dL_law_322 dL_law_323 dL_law_324 dL_law_325 ?_
  refine gl_arg C 3 3 hL (by omega) rfl dL_law_326 dL_law_327 dL_law_328 dL_law_329 dL_law_330 ?_
  refine gl_J C 0 [.int (xs (4 * j + 1)), .int (xs (4 * j + 2)), .int (xs (4 * j + 3))] [] kn_X10 rfl rfl (ct_X10_hits l w _ _ _ _) e1 cal_X10_hits km_L_44 ⟨rfl, rfl⟩ ⟨Nat.le_of_ble_eq_true rfl, Nat.le_of_ble_eq_true rfl⟩ rfl rfl (Nat.le_of_ble_eq_true rfl) dL_law_331 ?_
  refine gl_m C dL_law_334 ?_
  refine gl_arg C 1 1 hL (by omega) rfl dL_law_335 dL_law_336 dL_law_337 dL_law_338 dL_law_339 ?_
  refine gl_arg C 2 2 hL (by omega) rfl dL_law_340 dL_law_341 dL_law_342 dL_law_343 dL_law_344 ?_
  refine gl_arg C 3 3 hL (by omega) rfl dL_law_345 dL_law_346 dL_law_347 dL_law_348 dL_law_349 ?_
  refine gl_J C 32 [.int (xs (4 * j + 1)), .int (xs (4 * j + 2)), .int (xs (4 * j + 3))] [.long r] kn_X11 rfl rfl (ct_X11_hits l w _ _ _ _) e2 cal_X11_hits km_L_48 ⟨rfl, rfl⟩ ⟨Nat.le_of_ble_eq_true rfl, Nat.le_of_ble_eq_true rfl⟩ rfl rfl (Nat.le_of_ble_eq_true rfl) dL_law_350 ?_
  exact gl_leq C dL_law_353 dL_law_354 (by decide) (K M2 h3 h4)
set_option maxRecDepth 20000 in
theorem lc_8 (C : LC p s m meth c b L xs w) (hL : L ≤ 256) (hi : 4 * j + 4 ≤ L) (h : Inv j M) (hz : I_z M) (K : ∀ M2, Inv (j + 1) M2 → I_z M2 → GL p l e s m below meth c b w (4 * j) M2 901 []) : GL p l e s m below meth c b w (4 * j) M 359 [] := by
  obtain ⟨r, M1, M2, e1, e2, h3, h4⟩ := Bo_aim h hz (by omega) (xs (4 * j + 1)) (xs (4 * j + 2))
  refine gl_x C dL_law_359 ?_
  refine gl_arg C 1 1 hL (by omega) rfl dL_law_360 dL_law_361 dL_law_362 dL_law_363 dL_law_364 ?_
  refine gl_arg C 2 2 hL (by omega) rfl dL_law_365 dL_law_366 dL_law_367 dL_law_368 dL_law_369 ?_
  refine gl_J C 0 [.int (xs (4 * j + 1)), .int (xs (4 * j + 2))] [] kn_X10 rfl rfl (ct_X10_aim l w _ _ _) e1 cal_X10_aim km_L_49 ⟨rfl, rfl⟩ ⟨Nat.le_of_ble_eq_true rfl, Nat.le_of_ble_eq_true rfl⟩ rfl rfl (Nat.le_of_ble_eq_true rfl) dL_law_370 ?_
  refine gl_m C dL_law_373 ?_
  refine gl_arg C 1 1 hL (by omega) rfl dL_law_374 dL_law_375 dL_law_376 dL_law_377 dL_law_378 ?_
  refine gl_arg C 2 2 hL (by omega) rfl dL_law_379 dL_law_380 dL_law_381 dL_law_382 dL_law_383 ?_
  refine gl_J C 32 [.int (xs (4 * j + 1)), .int (xs (4 * j + 2))] [.long r] kn_X11 rfl rfl (ct_X11_aim l w _ _ _) e2 cal_X11_aim km_L_53 ⟨rfl, rfl⟩ ⟨Nat.le_of_ble_eq_true rfl, Nat.le_of_ble_eq_true rfl⟩ rfl rfl (Nat.le_of_ble_eq_true rfl) dL_law_384 ?_
  exact gl_leq C dL_law_387 dL_law_388 (by decide) (K M2 h3 h4)
set_option maxRecDepth 20000 in
theorem lc_9 (C : LC p s m meth c b L xs w) (hL : L ≤ 256) (hi : 4 * j + 4 ≤ L) (h : Inv j M) (hz : I_z M) (K : ∀ M2, Inv (j + 1) M2 → I_z M2 → GL p l e s m below meth c b w (4 * j) M2 901 []) : GL p l e s m below meth c b w (4 * j) M 393 [] := by
  obtain ⟨r, M1, M2, e1, e2, h3, h4⟩ := Bo_which h hz (by omega) (xs (4 * j + 1))
  refine gl_x C dL_law_393 ?_
  refine gl_arg C 1 1 hL (by omega) rfl dL_law_394 dL_law_395 dL_law_396 dL_law_397 dL_law_398 ?_
  refine gl_I C 0 [.int (xs (4 * j + 1))] [] kn_X10 rfl rfl (ct_X10_which l w _ _) e1 cal_X10_which km_L_54 ⟨rfl, rfl⟩ ⟨Nat.le_of_ble_eq_true rfl, Nat.le_of_ble_eq_true rfl⟩ rfl rfl (Nat.le_of_ble_eq_true rfl) dL_law_399 ?_
  refine gl_m C dL_law_402 ?_
  refine gl_arg C 1 1 hL (by omega) rfl dL_law_403 dL_law_404 dL_law_405 dL_law_406 dL_law_407 ?_
  refine gl_I C 32 [.int (xs (4 * j + 1))] [.int r] kn_X11 rfl rfl (ct_X11_which l w _ _) e2 cal_X11_which km_L_57 ⟨rfl, rfl⟩ ⟨Nat.le_of_ble_eq_true rfl, Nat.le_of_ble_eq_true rfl⟩ rfl rfl (Nat.le_of_ble_eq_true rfl) dL_law_408 ?_
  exact gl_eq C dL_law_411 (by decide) (K M2 h3 h4)
set_option maxRecDepth 20000 in
theorem lc_10 (C : LC p s m meth c b L xs w) (hL : L ≤ 256) (hi : 4 * j + 4 ≤ L) (h : Inv j M) (hz : I_z M) (K : ∀ M2, Inv (j + 1) M2 → I_z M2 → GL p l e s m below meth c b w (4 * j) M2 901 []) : GL p l e s m below meth c b w (4 * j) M 416 [] := by
  obtain ⟨r, M1, M2, e1, e2, h3, h4⟩ := Bo_man h hz (by omega) (xs (4 * j + 1)) (xs (4 * j + 2))
  refine gl_x C dL_law_416 ?_
  refine gl_arg C 1 1 hL (by omega) rfl dL_law_417 dL_law_418 dL_law_419 dL_law_420 dL_law_421 ?_
  refine gl_arg C 2 2 hL (by omega) rfl dL_law_422 dL_law_423 dL_law_424 dL_law_425 dL_law_426 ?_
  refine gl_I C 0 [.int (xs (4 * j + 1)), .int (xs (4 * j + 2))] [] kn_X10 rfl rfl (ct_X10_man l w _ _ _) e1 cal_X10_man km_L_58 ⟨rfl, rfl⟩ ⟨Nat.le_of_ble_eq_true rfl, Nat.le_of_ble_eq_true rfl⟩ rfl rfl (Nat.le_of_ble_eq_true rfl) dL_law_427 ?_
  refine gl_m C dL_law_430 ?_
  refine gl_arg C 1 1 hL (by omega) rfl dL_law_431 dL_law_432 dL_law_433 dL_law_434 dL_law_435 ?_
  refine gl_arg C 2 2 hL (by omega) rfl dL_law_436 dL_law_437 dL_law_438 dL_law_439 dL_law_440 ?_
  refine gl_I C 32 [.int (xs (4 * j + 1)), .int (xs (4 * j + 2))] [.int r] kn_X11 rfl rfl (ct_X11_man l w _ _ _) e2 cal_X11_man km_L_61 ⟨rfl, rfl⟩ ⟨Nat.le_of_ble_eq_true rfl, Nat.le_of_ble_eq_true rfl⟩ rfl rfl (Nat.le_of_ble_eq_true rfl) dL_law_441 ?_
  exact gl_eq C dL_law_444 (by decide) (K M2 h3 h4)
set_option maxRecDepth 20000 in
theorem lc_11 (C : LC p s m meth c b L xs w) (hL : L ≤ 256) (hi : 4 * j + 4 ≤ L) (h : Inv j M) (hz : I_z M) (K : ∀ M2, Inv (j + 1) M2 → I_z M2 → GL p l e s m below meth c b w (4 * j) M2 901 []) : GL p l e s m below meth c b w (4 * j) M 449 [] := by
  obtain ⟨r, M1, M2, e1, e2, h3, h4⟩ := Bo_about h hz (xs (4 * j + 1)) (xs (4 * j + 2))
  refine gl_x C dL_law_449 ?_
  refine gl_arg C 1 1 hL (by omega) rfl dL_law_450 dL_law_451 dL_law_452 dL_law_453 dL_law_454 ?_
  refine gl_arg C 2 2 hL (by omega) rfl dL_law_455 dL_law_456 dL_law_457 dL_law_458 dL_law_459 ?_
  refine gl_I C 0 [.int (xs (4 * j + 1)), .int (xs (4 * j + 2))] [] kn_X10 rfl rfl (ct_X10_about l w _ _ _) e1 cal_X10_about km_L_62 ⟨rfl, rfl⟩ ⟨Nat.le_of_ble_eq_true rfl, Nat.le_of_ble_eq_true rfl⟩ rfl rfl (Nat.le_of_ble_eq_true rfl) dL_law_460 ?_
  refine gl_m C dL_law_463 ?_
  refine gl_arg C 1 1 hL (by omega) rfl dL_law_464 dL_law_465 dL_law_466 dL_law_467 dL_law_468 ?_
  refine gl_arg C 2 2 hL (by omega) rfl dL_law_469 dL_law_470 dL_law_471 dL_law_472 dL_law_473 ?_
  refine gl_I C 32 [.int (xs (4 * j + 1)), .int (xs (4 * j + 2))] [.int r] kn_X11 rfl rfl (ct_X11_about l w _ _ _) e2 cal_X11_about km_L_65 ⟨rfl, rfl⟩ ⟨Nat.le_of_ble_eq_true rfl, Nat.le_of_ble_eq_true rfl⟩ rfl rfl (Nat.le_of_ble_eq_true rfl) dL_law_474 ?_
  exact gl_eq C dL_law_477 (by decide) (K M2 h3 h4)
set_option maxRecDepth 20000 in
theorem lc_12 (C : LC p s m meth c b L xs w) (hL : L ≤ 256) (hi : 4 * j + 4 ≤ L) (h : Inv j M) (hz : I_z M) (K : ∀ M2, Inv (j + 1) M2 → I_z M2 → GL p l e s m below meth c b w (4 * j) M2 901 []) : GL p l e s m below meth c b w (4 * j) M 482 [] := by
  obtain ⟨r, M1, M2, e1, e2, h3, h4⟩ := Bo_as h hz (xs (4 * j + 1)) (xs (4 * j + 2))
  refine gl_x C dL_law_482 ?_
  refine gl_arg C 1 1 hL (by omega) rfl dL_law_483 dL_law_484 dL_law_485 dL_law_486 dL_law_487 ?_
  refine gl_arg C 2 2 hL (by omega) rfl dL_law_488 dL_law_489 dL_law_490 dL_law_491 dL_law_492 ?_
  refine gl_I C 0 [.int (xs (4 * j + 1)), .int (xs (4 * j + 2))] [] kn_X10 rfl rfl (ct_X10_as l w _ _ _) e1 cal_X10_as km_L_66 ⟨rfl, rfl⟩ ⟨Nat.le_of_ble_eq_true rfl, Nat.le_of_ble_eq_true rfl⟩ rfl rfl (Nat.le_of_ble_eq_true rfl) dL_law_493 ?_
  refine gl_m C dL_law_496 ?_
  refine gl_arg C 1 1 hL (by omega) rfl dL_law_497 dL_law_498 dL_law_499 dL_law_500 dL_law_501 ?_
  refine gl_arg C 2 2 hL (by omega) rfl dL_law_502 dL_law_503 dL_law_504 dL_law_505 dL_law_506 ?_
  refine gl_I C 32 [.int (xs (4 * j + 1)), .int (xs (4 * j + 2))] [.int r] kn_X11 rfl rfl (ct_X11_as l w _ _ _) e2 cal_X11_as km_L_69 ⟨rfl, rfl⟩ ⟨Nat.le_of_ble_eq_true rfl, Nat.le_of_ble_eq_true rfl⟩ rfl rfl (Nat.le_of_ble_eq_true rfl) dL_law_507 ?_
  exact gl_eq C dL_law_510 (by decide) (K M2 h3 h4)
set_option maxRecDepth 20000 in
theorem lc_13 (C : LC p s m meth c b L xs w) (hL : L ≤ 256) (hi : 4 * j + 4 ≤ L) (h : Inv j M) (hz : I_z M) (K : ∀ M2, Inv (j + 1) M2 → I_z M2 → GL p l e s m below meth c b w (4 * j) M2 901 []) : GL p l e s m below meth c b w (4 * j) M 515 [] := by
  obtain ⟨r, M1, M2, e1, e2, h3, h4⟩ := Bo_behind h hz (xs (4 * j + 1)) (xs (4 * j + 2)) ((if xs (4 * j + 3) = 0 then 0 else 1))
  refine gl_x C dL_law_515 ?_
  refine gl_arg C 1 1 hL (by omega) rfl dL_law_516 dL_law_517 dL_law_518 dL_law_519 dL_law_520 ?_
  refine gl_arg C 2 2 hL (by omega) rfl dL_law_521 dL_law_522 dL_law_523 dL_law_524 dL_law_525 ?_
  refine gl_arg C 3 3 hL (by omega) rfl dL_law_526 dL_law_527 dL_law_528 dL_law_529 dL_law_530 ?_
  refine gl_bo C dL_law_531 dL_law_534 dL_law_535 dL_law_538 ?_
  refine gl_I C 0 [.int (xs (4 * j + 1)), .int (xs (4 * j + 2)), .int ((if xs (4 * j + 3) = 0 then 0 else 1))] [] kn_X10 rfl rfl (ct_X10_behind l w _ _ _ _) e1 cal_X10_behind km_L_70 ⟨rfl, rfl⟩ ⟨Nat.le_of_ble_eq_true rfl, Nat.le_of_ble_eq_true rfl⟩ rfl rfl (Nat.le_of_ble_eq_true rfl) dL_law_539 ?_
  refine gl_m C dL_law_542 ?_
  refine gl_arg C 1 1 hL (by omega) rfl dL_law_543 dL_law_544 dL_law_545 dL_law_546 dL_law_547 ?_
  refine gl_arg C 2 2 hL (by omega) rfl dL_law_548 dL_law_549 dL_law_550 dL_law_551 dL_law_552 ?_
  refine gl_arg C 3 3 hL (by omega) rfl dL_law_553 dL_law_554 dL_law_555 dL_law_556 dL_law_557 ?_
  refine gl_bo C dL_law_558 dL_law_561 dL_law_562 dL_law_565 ?_
  refine gl_I C 32 [.int (xs (4 * j + 1)), .int (xs (4 * j + 2)), .int ((if xs (4 * j + 3) = 0 then 0 else 1))] [.int r] kn_X11 rfl rfl (ct_X11_behind l w _ _ _ _) e2 cal_X11_behind km_L_74 ⟨rfl, rfl⟩ ⟨Nat.le_of_ble_eq_true rfl, Nat.le_of_ble_eq_true rfl⟩ rfl rfl (Nat.le_of_ble_eq_true rfl) dL_law_566 ?_
  exact gl_eq C dL_law_569 (by decide) (K M2 h3 h4)
set_option maxRecDepth 20000 in
theorem lc_14 (C : LC p s m meth c b L xs w) (hL : L ≤ 256) (hi : 4 * j + 4 ≤ L) (h : Inv j M) (hz : I_z M) (K : ∀ M2, Inv (j + 1) M2 → I_z M2 → GL p l e s m below meth c b w (4 * j) M2 901 []) : GL p l e s m below meth c b w (4 * j) M 574 [] := by
  obtain ⟨r, M1, M2, e1, e2, h3, h4⟩ := Bo_hawser h hz (by omega) (xs (4 * j + 1))
  refine gl_x C dL_law_574 ?_
  refine gl_arg C 1 1 hL (by omega) rfl dL_law_575 dL_law_576 dL_law_577 dL_law_578 dL_law_579 ?_
  refine gl_I C 0 [.int (xs (4 * j + 1))] [] kn_X10 rfl rfl (ct_X10_hawser l w _ _) e1 cal_X10_hawser km_L_75 ⟨rfl, rfl⟩ ⟨Nat.le_of_ble_eq_true rfl, Nat.le_of_ble_eq_true rfl⟩ rfl rfl (Nat.le_of_ble_eq_true rfl) dL_law_580 ?_
  refine gl_m C dL_law_583 ?_
  refine gl_arg C 1 1 hL (by omega) rfl dL_law_584 dL_law_585 dL_law_586 dL_law_587 dL_law_588 ?_
  refine gl_I C 32 [.int (xs (4 * j + 1))] [.int r] kn_X11 rfl rfl (ct_X11_hawser l w _ _) e2 cal_X11_hawser km_L_78 ⟨rfl, rfl⟩ ⟨Nat.le_of_ble_eq_true rfl, Nat.le_of_ble_eq_true rfl⟩ rfl rfl (Nat.le_of_ble_eq_true rfl) dL_law_589 ?_
  exact gl_eq C dL_law_592 (by decide) (K M2 h3 h4)
set_option maxRecDepth 20000 in
theorem lc_15 (C : LC p s m meth c b L xs w) (hL : L ≤ 256) (hi : 4 * j + 4 ≤ L) (h : Inv j M) (hz : I_z M) (K : ∀ M2, Inv (j + 1) M2 → I_z M2 → GL p l e s m below meth c b w (4 * j) M2 901 []) : GL p l e s m below meth c b w (4 * j) M 597 [] := by
  obtain ⟨r, M1, M2, e1, e2, h3, h4⟩ := Bo_come h hz (xs (4 * j + 1))
  refine gl_x C dL_law_597 ?_
  refine gl_arg C 1 1 hL (by omega) rfl dL_law_598 dL_law_599 dL_law_600 dL_law_601 dL_law_602 ?_
  refine gl_I C 0 [.int (xs (4 * j + 1))] [] kn_X10 rfl rfl (ct_X10_come l w _ _) e1 cal_X10_come km_L_79 ⟨rfl, rfl⟩ ⟨Nat.le_of_ble_eq_true rfl, Nat.le_of_ble_eq_true rfl⟩ rfl rfl (Nat.le_of_ble_eq_true rfl) dL_law_603 ?_
  refine gl_m C dL_law_606 ?_
  refine gl_arg C 1 1 hL (by omega) rfl dL_law_607 dL_law_608 dL_law_609 dL_law_610 dL_law_611 ?_
  refine gl_I C 32 [.int (xs (4 * j + 1))] [.int r] kn_X11 rfl rfl (ct_X11_come l w _ _) e2 cal_X11_come km_L_82 ⟨rfl, rfl⟩ ⟨Nat.le_of_ble_eq_true rfl, Nat.le_of_ble_eq_true rfl⟩ rfl rfl (Nat.le_of_ble_eq_true rfl) dL_law_612 ?_
  exact gl_eq C dL_law_615 (by decide) (K M2 h3 h4)
set_option maxRecDepth 20000 in
theorem lc_16 (C : LC p s m meth c b L xs w) (hL : L ≤ 256) (hi : 4 * j + 4 ≤ L) (h : Inv j M) (hz : I_z M) (K : ∀ M2, Inv (j + 1) M2 → I_z M2 → GL p l e s m below meth c b w (4 * j) M2 901 []) : GL p l e s m below meth c b w (4 * j) M 620 [] := by
  obtain ⟨r, M1, M2, e1, e2, h3, h4⟩ := Bo_minutes h hz (by omega) (xs (4 * j + 1))
  refine gl_x C dL_law_620 ?_
  refine gl_arg C 1 1 hL (by omega) rfl dL_law_621 dL_law_622 dL_law_623 dL_law_624 dL_law_625 ?_
  refine gl_I C 0 [.int (xs (4 * j + 1))] [] kn_X10 rfl rfl (ct_X10_minutes l w _ _) e1 cal_X10_minutes km_L_83 ⟨rfl, rfl⟩ ⟨Nat.le_of_ble_eq_true rfl, Nat.le_of_ble_eq_true rfl⟩ rfl rfl (Nat.le_of_ble_eq_true rfl) dL_law_626 ?_
  refine gl_m C dL_law_629 ?_
  refine gl_arg C 1 1 hL (by omega) rfl dL_law_630 dL_law_631 dL_law_632 dL_law_633 dL_law_634 ?_
  refine gl_I C 32 [.int (xs (4 * j + 1))] [.int r] kn_X11 rfl rfl (ct_X11_minutes l w _ _) e2 cal_X11_minutes km_L_86 ⟨rfl, rfl⟩ ⟨Nat.le_of_ble_eq_true rfl, Nat.le_of_ble_eq_true rfl⟩ rfl rfl (Nat.le_of_ble_eq_true rfl) dL_law_635 ?_
  exact gl_eq C dL_law_638 (by decide) (K M2 h3 h4)
set_option maxRecDepth 20000 in
theorem lc_17 (C : LC p s m meth c b L xs w) (hL : L ≤ 256) (hi : 4 * j + 4 ≤ L) (h : Inv j M) (hz : I_z M) (K : ∀ M2, Inv (j + 1) M2 → I_z M2 → GL p l e s m below meth c b w (4 * j) M2 901 []) : GL p l e s m below meth c b w (4 * j) M 643 [] := by
  obtain ⟨r, M1, M2, e1, e2, h3, h4⟩ := Bo_breaks h hz (by omega) 
  refine gl_x C dL_law_643 ?_
  refine gl_I C 0 [] [] kn_X10 rfl rfl (ct_X10_breaks l w  _) e1 cal_X10_breaks km_L_87 ⟨rfl, rfl⟩ ⟨Nat.le_of_ble_eq_true rfl, Nat.le_of_ble_eq_true rfl⟩ rfl rfl (Nat.le_of_ble_eq_true rfl) dL_law_644 ?_
  refine gl_m C dL_law_647 ?_
  refine gl_I C 32 [] [.int r] kn_X11 rfl rfl (ct_X11_breaks l w  _) e2 cal_X11_breaks km_L_90 ⟨rfl, rfl⟩ ⟨Nat.le_of_ble_eq_true rfl, Nat.le_of_ble_eq_true rfl⟩ rfl rfl (Nat.le_of_ble_eq_true rfl) dL_law_648 ?_
  exact gl_eq C dL_law_651 (by decide) (K M2 h3 h4)
set_option maxRecDepth 20000 in
theorem lc_18 (C : LC p s m meth c b L xs w) (hL : L ≤ 256) (hi : 4 * j + 4 ≤ L) (h : Inv j M) (hz : I_z M) (K : ∀ M2, Inv (j + 1) M2 → I_z M2 → GL p l e s m below meth c b w (4 * j) M2 901 []) : GL p l e s m below meth c b w (4 * j) M 656 [] := by
  obtain ⟨r, M1, M2, e1, e2, h3, h4⟩ := Bo_order h hz (by omega) (xs (4 * j + 1))
  refine gl_x C dL_law_656 ?_
  refine gl_arg C 1 1 hL (by omega) rfl dL_law_657 dL_law_658 dL_law_659 dL_law_660 dL_law_661 ?_
  refine gl_J C 0 [.int (xs (4 * j + 1))] [] kn_X10 rfl rfl (ct_X10_order l w _ _) e1 cal_X10_order km_L_91 ⟨rfl, rfl⟩ ⟨Nat.le_of_ble_eq_true rfl, Nat.le_of_ble_eq_true rfl⟩ rfl rfl (Nat.le_of_ble_eq_true rfl) dL_law_662 ?_
  refine gl_m C dL_law_665 ?_
  refine gl_arg C 1 1 hL (by omega) rfl dL_law_666 dL_law_667 dL_law_668 dL_law_669 dL_law_670 ?_
  refine gl_J C 32 [.int (xs (4 * j + 1))] [.long r] kn_X11 rfl rfl (ct_X11_order l w _ _) e2 cal_X11_order km_L_95 ⟨rfl, rfl⟩ ⟨Nat.le_of_ble_eq_true rfl, Nat.le_of_ble_eq_true rfl⟩ rfl rfl (Nat.le_of_ble_eq_true rfl) dL_law_671 ?_
  exact gl_leq C dL_law_674 dL_law_675 (by decide) (K M2 h3 h4)
set_option maxRecDepth 20000 in
theorem lc_19 (C : LC p s m meth c b L xs w) (hL : L ≤ 256) (hi : 4 * j + 4 ≤ L) (h : Inv j M) (hz : I_z M) (K : ∀ M2, Inv (j + 1) M2 → I_z M2 → GL p l e s m below meth c b w (4 * j) M2 901 []) : GL p l e s m below meth c b w (4 * j) M 680 [] := by
  obtain ⟨r, M1, M2, e1, e2, h3, h4⟩ := Bo_said h hz (xs (4 * j + 1)) (xs (4 * j + 2))
  refine gl_x C dL_law_680 ?_
  refine gl_arg C 1 1 hL (by omega) rfl dL_law_681 dL_law_682 dL_law_683 dL_law_684 dL_law_685 ?_
  refine gl_arg C 2 2 hL (by omega) rfl dL_law_686 dL_law_687 dL_law_688 dL_law_689 dL_law_690 ?_
  refine gl_I C 0 [.int (xs (4 * j + 1)), .int (xs (4 * j + 2))] [] kn_X10 rfl rfl (ct_X10_said l w _ _ _) e1 cal_X10_said km_L_96 ⟨rfl, rfl⟩ ⟨Nat.le_of_ble_eq_true rfl, Nat.le_of_ble_eq_true rfl⟩ rfl rfl (Nat.le_of_ble_eq_true rfl) dL_law_691 ?_
  refine gl_m C dL_law_694 ?_
  refine gl_arg C 1 1 hL (by omega) rfl dL_law_695 dL_law_696 dL_law_697 dL_law_698 dL_law_699 ?_
  refine gl_arg C 2 2 hL (by omega) rfl dL_law_700 dL_law_701 dL_law_702 dL_law_703 dL_law_704 ?_
  refine gl_I C 32 [.int (xs (4 * j + 1)), .int (xs (4 * j + 2))] [.int r] kn_X11 rfl rfl (ct_X11_said l w _ _ _) e2 cal_X11_said km_L_99 ⟨rfl, rfl⟩ ⟨Nat.le_of_ble_eq_true rfl, Nat.le_of_ble_eq_true rfl⟩ rfl rfl (Nat.le_of_ble_eq_true rfl) dL_law_705 ?_
  exact gl_eq C dL_law_708 (by decide) (K M2 h3 h4)
set_option maxRecDepth 20000 in
theorem lc_20 (C : LC p s m meth c b L xs w) (hL : L ≤ 256) (hi : 4 * j + 4 ≤ L) (h : Inv j M) (hz : I_z M) (K : ∀ M2, Inv (j + 1) M2 → I_z M2 → GL p l e s m below meth c b w (4 * j) M2 901 []) : GL p l e s m below meth c b w (4 * j) M 713 [] := by
  obtain ⟨r, M1, M2, e1, e2, h3, h4⟩ := Bo_orders h hz 
  refine gl_x C dL_law_713 ?_
  refine gl_I C 0 [] [] kn_X10 rfl rfl (ct_X10_orders l w  _) e1 cal_X10_orders km_L_100 ⟨rfl, rfl⟩ ⟨Nat.le_of_ble_eq_true rfl, Nat.le_of_ble_eq_true rfl⟩ rfl rfl (Nat.le_of_ble_eq_true rfl) dL_law_714 ?_
  refine gl_m C dL_law_717 ?_
  refine gl_I C 32 [] [.int r] kn_X11 rfl rfl (ct_X11_orders l w  _) e2 cal_X11_orders km_L_103 ⟨rfl, rfl⟩ ⟨Nat.le_of_ble_eq_true rfl, Nat.le_of_ble_eq_true rfl⟩ rfl rfl (Nat.le_of_ble_eq_true rfl) dL_law_718 ?_
  exact gl_eq C dL_law_721 (by decide) (K M2 h3 h4)
set_option maxRecDepth 20000 in
theorem lc_21 (C : LC p s m meth c b L xs w) (hL : L ≤ 256) (hi : 4 * j + 4 ≤ L) (h : Inv j M) (hz : I_z M) (K : ∀ M2, Inv (j + 1) M2 → I_z M2 → GL p l e s m below meth c b w (4 * j) M2 901 []) : GL p l e s m below meth c b w (4 * j) M 726 [] := by
  obtain ⟨r, M1, M2, e1, e2, h3, h4⟩ := Bo_sure h hz (xs (4 * j + 1))
  refine gl_x C dL_law_726 ?_
  refine gl_arg C 1 1 hL (by omega) rfl dL_law_727 dL_law_728 dL_law_729 dL_law_730 dL_law_731 ?_
  refine gl_I C 0 [.int (xs (4 * j + 1))] [] kn_X10 rfl rfl (ct_X10_sure l w _ _) e1 cal_X10_sure km_L_104 ⟨rfl, rfl⟩ ⟨Nat.le_of_ble_eq_true rfl, Nat.le_of_ble_eq_true rfl⟩ rfl rfl (Nat.le_of_ble_eq_true rfl) dL_law_732 ?_
  refine gl_m C dL_law_735 ?_
  refine gl_arg C 1 1 hL (by omega) rfl dL_law_736 dL_law_737 dL_law_738 dL_law_739 dL_law_740 ?_
  refine gl_I C 32 [.int (xs (4 * j + 1))] [.int r] kn_X11 rfl rfl (ct_X11_sure l w _ _) e2 cal_X11_sure km_L_107 ⟨rfl, rfl⟩ ⟨Nat.le_of_ble_eq_true rfl, Nat.le_of_ble_eq_true rfl⟩ rfl rfl (Nat.le_of_ble_eq_true rfl) dL_law_741 ?_
  exact gl_eq C dL_law_744 (by decide) (K M2 h3 h4)
set_option maxRecDepth 20000 in
theorem lc_22 (C : LC p s m meth c b L xs w) (hL : L ≤ 256) (hi : 4 * j + 4 ≤ L) (h : Inv j M) (hz : I_z M) (K : ∀ M2, Inv (j + 1) M2 → I_z M2 → GL p l e s m below meth c b w (4 * j) M2 901 []) : GL p l e s m below meth c b w (4 * j) M 749 [] := by
  obtain ⟨r, M1, M2, e1, e2, h3, h4⟩ := Bo_wreck h hz (by omega) (xs (4 * j + 1))
  refine gl_x C dL_law_749 ?_
  refine gl_arg C 1 1 hL (by omega) rfl dL_law_750 dL_law_751 dL_law_752 dL_law_753 dL_law_754 ?_
  refine gl_I C 0 [.int (xs (4 * j + 1))] [] kn_X10 rfl rfl (ct_X10_wreck l w _ _) e1 cal_X10_wreck km_L_108 ⟨rfl, rfl⟩ ⟨Nat.le_of_ble_eq_true rfl, Nat.le_of_ble_eq_true rfl⟩ rfl rfl (Nat.le_of_ble_eq_true rfl) dL_law_755 ?_
  refine gl_m C dL_law_758 ?_
  refine gl_arg C 1 1 hL (by omega) rfl dL_law_759 dL_law_760 dL_law_761 dL_law_762 dL_law_763 ?_
  refine gl_I C 32 [.int (xs (4 * j + 1))] [.int r] kn_X11 rfl rfl (ct_X11_wreck l w _ _) e2 cal_X11_wreck km_L_111 ⟨rfl, rfl⟩ ⟨Nat.le_of_ble_eq_true rfl, Nat.le_of_ble_eq_true rfl⟩ rfl rfl (Nat.le_of_ble_eq_true rfl) dL_law_764 ?_
  exact gl_eq C dL_law_767 (by decide) (K M2 h3 h4)
set_option maxRecDepth 20000 in
theorem lc_23 (C : LC p s m meth c b L xs w) (hL : L ≤ 256) (hi : 4 * j + 4 ≤ L) (h : Inv j M) (hz : I_z M) (K : ∀ M2, Inv (j + 1) M2 → I_z M2 → GL p l e s m below meth c b w (4 * j) M2 901 []) : GL p l e s m below meth c b w (4 * j) M 772 [] := by
  obtain ⟨r, M1, M2, e1, e2, h3, h4⟩ := Bo_stations h hz (xs (4 * j + 1)) (xs (4 * j + 2))
  refine gl_x C dL_law_772 ?_
  refine gl_arg C 1 1 hL (by omega) rfl dL_law_773 dL_law_774 dL_law_775 dL_law_776 dL_law_777 ?_
  refine gl_arg C 2 2 hL (by omega) rfl dL_law_778 dL_law_779 dL_law_780 dL_law_781 dL_law_782 ?_
  refine gl_I C 0 [.int (xs (4 * j + 1)), .int (xs (4 * j + 2))] [] kn_X10 rfl rfl (ct_X10_stations l w _ _ _) e1 cal_X10_stations km_L_112 ⟨rfl, rfl⟩ ⟨Nat.le_of_ble_eq_true rfl, Nat.le_of_ble_eq_true rfl⟩ rfl rfl (Nat.le_of_ble_eq_true rfl) dL_law_783 ?_
  refine gl_m C dL_law_786 ?_
  refine gl_arg C 1 1 hL (by omega) rfl dL_law_787 dL_law_788 dL_law_789 dL_law_790 dL_law_791 ?_
  refine gl_arg C 2 2 hL (by omega) rfl dL_law_792 dL_law_793 dL_law_794 dL_law_795 dL_law_796 ?_
  refine gl_I C 32 [.int (xs (4 * j + 1)), .int (xs (4 * j + 2))] [.int r] kn_X11 rfl rfl (ct_X11_stations l w _ _ _) e2 cal_X11_stations km_L_115 ⟨rfl, rfl⟩ ⟨Nat.le_of_ble_eq_true rfl, Nat.le_of_ble_eq_true rfl⟩ rfl rfl (Nat.le_of_ble_eq_true rfl) dL_law_797 ?_
  exact gl_eq C dL_law_800 (by decide) (K M2 h3 h4)
set_option maxRecDepth 20000 in
theorem lc_24 (C : LC p s m meth c b L xs w) (hL : L ≤ 256) (hi : 4 * j + 4 ≤ L) (h : Inv j M) (hz : I_z M) (K : ∀ M2, Inv (j + 1) M2 → I_z M2 → GL p l e s m below meth c b w (4 * j) M2 901 []) : GL p l e s m below meth c b w (4 * j) M 805 [] := by
  obtain ⟨r, M1, M2, e1, e2, h3, h4⟩ := Bo_nights h hz (by omega) (xs (4 * j + 1)) (xs (4 * j + 2))
  refine gl_x C dL_law_805 ?_
  refine gl_arg C 1 1 hL (by omega) rfl dL_law_806 dL_law_807 dL_law_808 dL_law_809 dL_law_810 ?_
  refine gl_arg C 2 2 hL (by omega) rfl dL_law_811 dL_law_812 dL_law_813 dL_law_814 dL_law_815 ?_
  refine gl_I C 0 [.int (xs (4 * j + 1)), .int (xs (4 * j + 2))] [] kn_X10 rfl rfl (ct_X10_nights l w _ _ _) e1 cal_X10_nights km_L_116 ⟨rfl, rfl⟩ ⟨Nat.le_of_ble_eq_true rfl, Nat.le_of_ble_eq_true rfl⟩ rfl rfl (Nat.le_of_ble_eq_true rfl) dL_law_816 ?_
  refine gl_m C dL_law_819 ?_
  refine gl_arg C 1 1 hL (by omega) rfl dL_law_820 dL_law_821 dL_law_822 dL_law_823 dL_law_824 ?_
  refine gl_arg C 2 2 hL (by omega) rfl dL_law_825 dL_law_826 dL_law_827 dL_law_828 dL_law_829 ?_
  refine gl_I C 32 [.int (xs (4 * j + 1)), .int (xs (4 * j + 2))] [.int r] kn_X11 rfl rfl (ct_X11_nights l w _ _ _) e2 cal_X11_nights km_L_119 ⟨rfl, rfl⟩ ⟨Nat.le_of_ble_eq_true rfl, Nat.le_of_ble_eq_true rfl⟩ rfl rfl (Nat.le_of_ble_eq_true rfl) dL_law_830 ?_
  exact gl_eq C dL_law_833 (by decide) (K M2 h3 h4)
set_option maxRecDepth 20000 in
theorem lc_25 (C : LC p s m meth c b L xs w) (hL : L ≤ 256) (hi : 4 * j + 4 ≤ L) (h : Inv j M) (hz : I_z M) (K : ∀ M2, Inv (j + 1) M2 → I_z M2 → GL p l e s m below meth c b w (4 * j) M2 901 []) : GL p l e s m below meth c b w (4 * j) M 838 [] := by
  obtain ⟨r, M1, M2, e1, e2, h3, h4⟩ := Bo_image h hz (by omega) 
  refine gl_x C dL_law_838 ?_
  refine gl_I C 0 [] [] kn_X10 rfl rfl (ct_X10_image l w  _) e1 cal_X10_image km_L_120 ⟨rfl, rfl⟩ ⟨Nat.le_of_ble_eq_true rfl, Nat.le_of_ble_eq_true rfl⟩ rfl rfl (Nat.le_of_ble_eq_true rfl) dL_law_839 ?_
  refine gl_m C dL_law_842 ?_
  refine gl_I C 32 [] [.int r] kn_X11 rfl rfl (ct_X11_image l w  _) e2 cal_X11_image km_L_123 ⟨rfl, rfl⟩ ⟨Nat.le_of_ble_eq_true rfl, Nat.le_of_ble_eq_true rfl⟩ rfl rfl (Nat.le_of_ble_eq_true rfl) dL_law_843 ?_
  exact gl_eq C dL_law_846 (by decide) (K M2 h3 h4)
set_option maxRecDepth 20000 in
theorem lc_26 (C : LC p s m meth c b L xs w) (hL : L ≤ 256) (hi : 4 * j + 4 ≤ L) (h : Inv j M) (hz : I_z M) (K : ∀ M2, Inv (j + 1) M2 → I_z M2 → GL p l e s m below meth c b w (4 * j) M2 901 []) : GL p l e s m below meth c b w (4 * j) M 851 [] := by
  obtain ⟨r, M1, M2, e1, e2, h3, h4⟩ := Bo_restore h hz (by omega) 
  refine gl_x C dL_law_851 ?_
  refine gl_I C 0 [] [] kn_X10 rfl rfl (ct_X10_restore l w  _) e1 cal_X10_restore km_L_124 ⟨rfl, rfl⟩ ⟨Nat.le_of_ble_eq_true rfl, Nat.le_of_ble_eq_true rfl⟩ rfl rfl (Nat.le_of_ble_eq_true rfl) dL_law_852 ?_
  refine gl_m C dL_law_855 ?_
  refine gl_I C 32 [] [.int r] kn_X11 rfl rfl (ct_X11_restore l w  _) e2 cal_X11_restore km_L_127 ⟨rfl, rfl⟩ ⟨Nat.le_of_ble_eq_true rfl, Nat.le_of_ble_eq_true rfl⟩ rfl rfl (Nat.le_of_ble_eq_true rfl) dL_law_856 ?_
  exact gl_eq C dL_law_859 (by decide) (K M2 h3 h4)
set_option maxRecDepth 20000 in
theorem lc_27 (C : LC p s m meth c b L xs w) (hL : L ≤ 256) (hi : 4 * j + 4 ≤ L) (h : Inv j M) (hz : I_z M) (K : ∀ M2, Inv (j + 1) M2 → I_z M2 → GL p l e s m below meth c b w (4 * j) M2 901 []) : GL p l e s m below meth c b w (4 * j) M 864 [] := by
  obtain ⟨r, M1, M2, e1, e2, h3, h4⟩ := Bo_count h hz (xs (4 * j + 1))
  refine gl_x C dL_law_864 ?_
  refine gl_arg C 1 1 hL (by omega) rfl dL_law_865 dL_law_866 dL_law_867 dL_law_868 dL_law_869 ?_
  refine gl_I C 0 [.int (xs (4 * j + 1))] [] kn_X10 rfl rfl (ct_X10_count l w _ _) e1 cal_X10_count km_L_128 ⟨rfl, rfl⟩ ⟨Nat.le_of_ble_eq_true rfl, Nat.le_of_ble_eq_true rfl⟩ rfl rfl (Nat.le_of_ble_eq_true rfl) dL_law_870 ?_
  refine gl_m C dL_law_873 ?_
  refine gl_arg C 1 1 hL (by omega) rfl dL_law_874 dL_law_875 dL_law_876 dL_law_877 dL_law_878 ?_
  refine gl_I C 32 [.int (xs (4 * j + 1))] [.int r] kn_X11 rfl rfl (ct_X11_count l w _ _) e2 cal_X11_count km_L_131 ⟨rfl, rfl⟩ ⟨Nat.le_of_ble_eq_true rfl, Nat.le_of_ble_eq_true rfl⟩ rfl rfl (Nat.le_of_ble_eq_true rfl) dL_law_879 ?_
  exact gl_eq C dL_law_882 (by decide) (K M2 h3 h4)
set_option maxRecDepth 20000 in
theorem lc_28 (C : LC p s m meth c b L xs w) (hL : L ≤ 256) (hi : 4 * j + 4 ≤ L) (h : Inv j M) (hz : I_z M) (K : ∀ M2, Inv (j + 1) M2 → I_z M2 → GL p l e s m below meth c b w (4 * j) M2 901 []) : GL p l e s m below meth c b w (4 * j) M 887 [] := by
  obtain ⟨r, M1, M2, e1, e2, h3, h4⟩ := Bo_digest h hz (by omega) 
  refine gl_x C dL_law_887 ?_
  refine gl_J C 0 [] [] kn_X10 rfl rfl (ct_X10_digest l w  _) e1 cal_X10_digest km_L_132 ⟨rfl, rfl⟩ ⟨Nat.le_of_ble_eq_true rfl, Nat.le_of_ble_eq_true rfl⟩ rfl rfl (Nat.le_of_ble_eq_true rfl) dL_law_888 ?_
  refine gl_m C dL_law_891 ?_
  refine gl_J C 32 [] [.long r] kn_X11 rfl rfl (ct_X11_digest l w  _) e2 cal_X11_digest km_L_136 ⟨rfl, rfl⟩ ⟨Nat.le_of_ble_eq_true rfl, Nat.le_of_ble_eq_true rfl⟩ rfl rfl (Nat.le_of_ble_eq_true rfl) dL_law_892 ?_
  exact gl_leq C dL_law_895 dL_law_896 (by decide) (K M2 h3 h4)
end LAWC
