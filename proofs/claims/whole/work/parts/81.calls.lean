section LK
variable {p : Program} {l : Launch} {e : Env} {s : State} {m : MethodId} {below : List Frame} {meth : Method} {c : Code} {b L : Nat} {xs : Nat → Int32} {GS GM : Gx} {σ μ : MM} {t : Nat} {S : St}
theorem lk_sort (C : LC p l s m meth c b L xs GS GM) (hL : L ≤ 2048) (ht : t + 4 ≤ L) (hS : RelS S σ) (hM : RelM S μ) (K : ∀ (S' : St) (σ' μ' : MM), RelS S' σ' → RelM S' μ' → LJ p l e s m below meth c b GS GM σ' μ' (nI t) 981 []) : LJ p l e s m below meth c b GS GM σ μ (nI t) 176 [] := by
  obtain ⟨r, S', σ', μ', e1, e2, hS', hM'⟩ := al_sort hS hM (xs (t + 1)) (xs (t + 2)) (xs (t + 3))
  refine y_aload1 C dL_law_176 ?_
  refine y_arg (j := 1) C hL (by omega) dL_law_177 dL_law_178 dL_law_179 rfl dL_law_180 dL_law_181 ?_
  refine y_arg (j := 2) C hL (by omega) dL_law_182 dL_law_183 dL_law_184 rfl dL_law_185 dL_law_186 ?_
  refine y_arg (j := 3) C hL (by omega) dL_law_187 dL_law_188 dL_law_189 rfl dL_law_190 dL_law_191 ?_
  refine y_callS (na := 3) (As := [.int (xs (t + 1)), .int (xs (t + 2)), .int (xs (t + 3))]) (st := []) (res := some (.int r)) C (c_X6_sort GS (xs (t + 1)) (xs (t + 2)) (xs (t + 3)) σ r σ' e1) wq_123 wq_120 wq_121 wq_122 wq_2 rfl rfl (by decide) ⟨Nat.le_of_ble_eq_true rfl, Nat.le_of_ble_eq_true rfl⟩ rfl rfl (Nat.le_of_ble_eq_true rfl) dL_law_192 ?_
  refine y_aload2 C dL_law_195 ?_
  refine y_arg (j := 1) C hL (by omega) dL_law_196 dL_law_197 dL_law_198 rfl dL_law_199 dL_law_200 ?_
  refine y_arg (j := 2) C hL (by omega) dL_law_201 dL_law_202 dL_law_203 rfl dL_law_204 dL_law_205 ?_
  refine y_arg (j := 3) C hL (by omega) dL_law_206 dL_law_207 dL_law_208 rfl dL_law_209 dL_law_210 ?_
  refine y_callM (na := 3) (As := [.int (xs (t + 1)), .int (xs (t + 2)), .int (xs (t + 3))]) (st := [.int r]) (res := some (.int r)) C (c_X7_sort GM (xs (t + 1)) (xs (t + 2)) (xs (t + 3)) μ r μ' e2) wq_144 wq_141 wq_142 wq_143 wq_5 rfl rfl (by decide) ⟨Nat.le_of_ble_eq_true rfl, Nat.le_of_ble_eq_true rfl⟩ rfl rfl (Nat.le_of_ble_eq_true rfl) dL_law_211 ?_
  exact y_same C dL_law_214 rfl (K _ _ _ hS' hM')
theorem lk_person (C : LC p l s m meth c b L xs GS GM) (hL : L ≤ 2048) (ht : t + 4 ≤ L) (hS : RelS S σ) (hM : RelM S μ) (K : ∀ (S' : St) (σ' μ' : MM), RelS S' σ' → RelM S' μ' → LJ p l e s m below meth c b GS GM σ' μ' (nI t) 981 []) : LJ p l e s m below meth c b GS GM σ μ (nI t) 219 [] := by
  obtain ⟨r, S', σ', μ', e1, e2, hS', hM'⟩ := al_person hS hM (xs (t + 1))
  refine y_aload1 C dL_law_219 ?_
  refine y_arg (j := 1) C hL (by omega) dL_law_220 dL_law_221 dL_law_222 rfl dL_law_223 dL_law_224 ?_
  refine y_callS (na := 1) (As := [.int (xs (t + 1))]) (st := []) (res := some (.int r)) C (c_X6_person GS (xs (t + 1)) σ r σ' e1) wq_155 wq_152 wq_153 wq_154 wq_2 rfl rfl (by decide) ⟨Nat.le_of_ble_eq_true rfl, Nat.le_of_ble_eq_true rfl⟩ rfl rfl (Nat.le_of_ble_eq_true rfl) dL_law_225 ?_
  refine y_aload2 C dL_law_228 ?_
  refine y_arg (j := 1) C hL (by omega) dL_law_229 dL_law_230 dL_law_231 rfl dL_law_232 dL_law_233 ?_
  refine y_callM (na := 1) (As := [.int (xs (t + 1))]) (st := [.int r]) (res := some (.int r)) C (c_X7_person GM (xs (t + 1)) μ r μ' e2) wq_163 wq_160 wq_161 wq_162 wq_5 rfl rfl (by decide) ⟨Nat.le_of_ble_eq_true rfl, Nat.le_of_ble_eq_true rfl⟩ rfl rfl (Nat.le_of_ble_eq_true rfl) dL_law_234 ?_
  exact y_same C dL_law_237 rfl (K _ _ _ hS' hM')
theorem lk_takeBack (C : LC p l s m meth c b L xs GS GM) (hL : L ≤ 2048) (ht : t + 4 ≤ L) (hS : RelS S σ) (hM : RelM S μ) (K : ∀ (S' : St) (σ' μ' : MM), RelS S' σ' → RelM S' μ' → LJ p l e s m below meth c b GS GM σ' μ' (nI t) 981 []) : LJ p l e s m below meth c b GS GM σ μ (nI t) 242 [] := by
  obtain ⟨r, S', σ', μ', e1, e2, hS', hM'⟩ := al_takeBack hS hM
  refine y_aload1 C dL_law_242 ?_
  refine y_callS (na := 0) (As := []) (st := []) (res := some (.int r)) C (c_X6_takeBack GS σ r σ' e1) wq_168 wq_165 wq_166 wq_167 wq_2 rfl rfl (by decide) ⟨Nat.le_of_ble_eq_true rfl, Nat.le_of_ble_eq_true rfl⟩ rfl rfl (Nat.le_of_ble_eq_true rfl) dL_law_243 ?_
  refine y_aload2 C dL_law_246 ?_
  refine y_callM (na := 0) (As := []) (st := [.int r]) (res := some (.int r)) C (c_X7_takeBack GM μ r μ' e2) wq_172 wq_169 wq_170 wq_171 wq_5 rfl rfl (by decide) ⟨Nat.le_of_ble_eq_true rfl, Nat.le_of_ble_eq_true rfl⟩ rfl rfl (Nat.le_of_ble_eq_true rfl) dL_law_247 ?_
  exact y_same C dL_law_250 rfl (K _ _ _ hS' hM')
theorem lk_set (C : LC p l s m meth c b L xs GS GM) (hL : L ≤ 2048) (ht : t + 4 ≤ L) (hS : RelS S σ) (hM : RelM S μ) (K : ∀ (S' : St) (σ' μ' : MM), RelS S' σ' → RelM S' μ' → LJ p l e s m below meth c b GS GM σ' μ' (nI t) 981 []) : LJ p l e s m below meth c b GS GM σ μ (nI t) 255 [] := by
  obtain ⟨r, S', σ', μ', e1, e2, hS', hM'⟩ := al_set hS hM (xs (t + 1)) (xs (t + 2))
  refine y_aload1 C dL_law_255 ?_
  refine y_arg (j := 1) C hL (by omega) dL_law_256 dL_law_257 dL_law_258 rfl dL_law_259 dL_law_260 ?_
  refine y_arg (j := 2) C hL (by omega) dL_law_261 dL_law_262 dL_law_263 rfl dL_law_264 dL_law_265 ?_
  refine y_callS (na := 2) (As := [.int (xs (t + 1)), .int (xs (t + 2))]) (st := []) (res := some (.int r)) C (c_X6_set GS (xs (t + 1)) (xs (t + 2)) σ r σ' e1) wq_176 wq_173 wq_174 wq_175 wq_2 rfl rfl (by decide) ⟨Nat.le_of_ble_eq_true rfl, Nat.le_of_ble_eq_true rfl⟩ rfl rfl (Nat.le_of_ble_eq_true rfl) dL_law_266 ?_
  refine y_aload2 C dL_law_269 ?_
  refine y_arg (j := 1) C hL (by omega) dL_law_270 dL_law_271 dL_law_272 rfl dL_law_273 dL_law_274 ?_
  refine y_arg (j := 2) C hL (by omega) dL_law_275 dL_law_276 dL_law_277 rfl dL_law_278 dL_law_279 ?_
  refine y_callM (na := 2) (As := [.int (xs (t + 1)), .int (xs (t + 2))]) (st := [.int r]) (res := some (.int r)) C (c_X7_set GM (xs (t + 1)) (xs (t + 2)) μ r μ' e2) wq_182 wq_179 wq_180 wq_181 wq_5 rfl rfl (by decide) ⟨Nat.le_of_ble_eq_true rfl, Nat.le_of_ble_eq_true rfl⟩ rfl rfl (Nat.le_of_ble_eq_true rfl) dL_law_280 ?_
  exact y_same C dL_law_283 rfl (K _ _ _ hS' hM')
theorem lk_feed (C : LC p l s m meth c b L xs GS GM) (hL : L ≤ 2048) (ht : t + 4 ≤ L) (hS : RelS S σ) (hM : RelM S μ) (K : ∀ (S' : St) (σ' μ' : MM), RelS S' σ' → RelM S' μ' → LJ p l e s m below meth c b GS GM σ' μ' (nI t) 981 []) : LJ p l e s m below meth c b GS GM σ μ (nI t) 288 [] := by
  obtain ⟨r, S', σ', μ', e1, e2, hS', hM'⟩ := al_feed hS hM (xs (t + 1)) (((xs (t + 2)).toInt64 <<< ((32 : Int32).toInt64 &&& 63)) ||| ((xs (t + 3)).toInt64 &&& 4294967295))
  refine y_aload1 C dL_law_288 ?_
  refine y_arg (j := 1) C hL (by omega) dL_law_289 dL_law_290 dL_law_291 rfl dL_law_292 dL_law_293 ?_
  refine y_arg (j := 2) C hL (by omega) dL_law_294 dL_law_295 dL_law_296 rfl dL_law_297 dL_law_298 ?_
  refine y_i2l C dL_law_299 ?_
  refine y_bipush (v := 32) C dL_law_300 rfl ?_
  refine y_lshl C dL_law_302 ?_
  refine y_arg (j := 3) C hL (by omega) dL_law_303 dL_law_304 dL_law_305 rfl dL_law_306 dL_law_307 ?_
  refine y_i2l C dL_law_308 ?_
  refine y_ldc2 (v := 4294967295) C wq_6 dL_law_309 ?_
  refine y_land C dL_law_312 ?_
  refine y_lor C dL_law_313 ?_
  refine y_callS (na := 2) (As := [.int (xs (t + 1)), .long (((xs (t + 2)).toInt64 <<< ((32 : Int32).toInt64 &&& 63)) ||| ((xs (t + 3)).toInt64 &&& 4294967295))]) (st := []) (res := some (.int r)) C (c_X6_feed GS (xs (t + 1)) (((xs (t + 2)).toInt64 <<< ((32 : Int32).toInt64 &&& 63)) ||| ((xs (t + 3)).toInt64 &&& 4294967295)) σ r σ' e1) wq_192 wq_189 wq_190 wq_191 wq_2 rfl rfl (by decide) ⟨Nat.le_of_ble_eq_true rfl, Nat.le_of_ble_eq_true rfl⟩ rfl rfl (Nat.le_of_ble_eq_true rfl) dL_law_314 ?_
  refine y_aload2 C dL_law_317 ?_
  refine y_arg (j := 1) C hL (by omega) dL_law_318 dL_law_319 dL_law_320 rfl dL_law_321 dL_law_322 ?_
  refine y_arg (j := 2) C hL (by omega) dL_law_323 dL_law_324 dL_law_325 rfl dL_law_326 dL_law_327 ?_
  refine y_i2l C dL_law_328 ?_
  refine y_bipush (v := 32) C dL_law_329 rfl ?_
  refine y_lshl C dL_law_331 ?_
  refine y_arg (j := 3) C hL (by omega) dL_law_332 dL_law_333 dL_law_334 rfl dL_law_335 dL_law_336 ?_
  refine y_i2l C dL_law_337 ?_
  refine y_ldc2 (v := 4294967295) C wq_6 dL_law_338 ?_
  refine y_land C dL_law_341 ?_
  refine y_lor C dL_law_342 ?_
  refine y_callM (na := 2) (As := [.int (xs (t + 1)), .long (((xs (t + 2)).toInt64 <<< ((32 : Int32).toInt64 &&& 63)) ||| ((xs (t + 3)).toInt64 &&& 4294967295))]) (st := [.int r]) (res := some (.int r)) C (c_X7_feed GM (xs (t + 1)) (((xs (t + 2)).toInt64 <<< ((32 : Int32).toInt64 &&& 63)) ||| ((xs (t + 3)).toInt64 &&& 4294967295)) μ r μ' e2) wq_200 wq_197 wq_198 wq_199 wq_5 rfl rfl (by decide) ⟨Nat.le_of_ble_eq_true rfl, Nat.le_of_ble_eq_true rfl⟩ rfl rfl (Nat.le_of_ble_eq_true rfl) dL_law_343 ?_
  exact y_same C dL_law_346 rfl (K _ _ _ hS' hM')
theorem lk_court (C : LC p l s m meth c b L xs GS GM) (hL : L ≤ 2048) (ht : t + 4 ≤ L) (hS : RelS S σ) (hM : RelM S μ) (K : ∀ (S' : St) (σ' μ' : MM), RelS S' σ' → RelM S' μ' → LJ p l e s m below meth c b GS GM σ' μ' (nI t) 981 []) : LJ p l e s m below meth c b GS GM σ μ (nI t) 351 [] := by
  obtain ⟨r, S', σ', μ', e1, e2, hS', hM'⟩ := al_court hS hM
  refine y_aload1 C dL_law_351 ?_
  refine y_callS (na := 0) (As := []) (st := []) (res := some (.int r)) C (c_X6_court GS σ r σ' e1) wq_206 wq_203 wq_204 wq_205 wq_2 rfl rfl (by decide) ⟨Nat.le_of_ble_eq_true rfl, Nat.le_of_ble_eq_true rfl⟩ rfl rfl (Nat.le_of_ble_eq_true rfl) dL_law_352 ?_
  refine y_aload2 C dL_law_355 ?_
  refine y_callM (na := 0) (As := []) (st := [.int r]) (res := some (.int r)) C (c_X7_court GM μ r μ' e2) wq_259 wq_256 wq_257 wq_258 wq_5 rfl rfl (by decide) ⟨Nat.le_of_ble_eq_true rfl, Nat.le_of_ble_eq_true rfl⟩ rfl rfl (Nat.le_of_ble_eq_true rfl) dL_law_356 ?_
  exact y_same C dL_law_359 rfl (K _ _ _ hS' hM')
theorem lk_chance (C : LC p l s m meth c b L xs GS GM) (hL : L ≤ 2048) (ht : t + 4 ≤ L) (hS : RelS S σ) (hM : RelM S μ) (K : ∀ (S' : St) (σ' μ' : MM), RelS S' σ' → RelM S' μ' → LJ p l e s m below meth c b GS GM σ' μ' (nI t) 981 []) : LJ p l e s m below meth c b GS GM σ μ (nI t) 364 [] := by
  obtain ⟨r, S', σ', μ', e1, e2, hS', hM'⟩ := al_chance hS hM (xs (t + 1))
  refine y_aload1 C dL_law_364 ?_
  refine y_arg (j := 1) C hL (by omega) dL_law_365 dL_law_366 dL_law_367 rfl dL_law_368 dL_law_369 ?_
  refine y_callS (na := 1) (As := [.int (xs (t + 1))]) (st := []) (res := some (.long r)) C (c_X6_chance GS (xs (t + 1)) σ r σ' e1) wq_296 wq_293 wq_294 wq_295 wq_2 rfl rfl (by decide) ⟨Nat.le_of_ble_eq_true rfl, Nat.le_of_ble_eq_true rfl⟩ rfl rfl (Nat.le_of_ble_eq_true rfl) dL_law_370 ?_
  refine y_aload2 C dL_law_373 ?_
  refine y_arg (j := 1) C hL (by omega) dL_law_374 dL_law_375 dL_law_376 rfl dL_law_377 dL_law_378 ?_
  refine y_callM (na := 1) (As := [.int (xs (t + 1))]) (st := [.long r]) (res := some (.long r)) C (c_X7_chance GM (xs (t + 1)) μ r μ' e2) wq_337 wq_334 wq_335 wq_336 wq_5 rfl rfl (by decide) ⟨Nat.le_of_ble_eq_true rfl, Nat.le_of_ble_eq_true rfl⟩ rfl rfl (Nat.le_of_ble_eq_true rfl) dL_law_379 ?_
  exact y_sameL C dL_law_382 dL_law_383 rfl (K _ _ _ hS' hM')
theorem lk_right (C : LC p l s m meth c b L xs GS GM) (hL : L ≤ 2048) (ht : t + 4 ≤ L) (hS : RelS S σ) (hM : RelM S μ) (K : ∀ (S' : St) (σ' μ' : MM), RelS S' σ' → RelM S' μ' → LJ p l e s m below meth c b GS GM σ' μ' (nI t) 981 []) : LJ p l e s m below meth c b GS GM σ μ (nI t) 388 [] := by
  obtain ⟨r, S', σ', μ', e1, e2, hS', hM'⟩ := al_right hS hM (xs (t + 1))
  refine y_aload1 C dL_law_388 ?_
  refine y_arg (j := 1) C hL (by omega) dL_law_389 dL_law_390 dL_law_391 rfl dL_law_392 dL_law_393 ?_
  refine y_callS (na := 1) (As := [.int (xs (t + 1))]) (st := []) (res := some (.long r)) C (c_X6_right GS (xs (t + 1)) σ r σ' e1) wq_373 wq_370 wq_371 wq_372 wq_2 rfl rfl (by decide) ⟨Nat.le_of_ble_eq_true rfl, Nat.le_of_ble_eq_true rfl⟩ rfl rfl (Nat.le_of_ble_eq_true rfl) dL_law_394 ?_
  refine y_aload2 C dL_law_397 ?_
  refine y_arg (j := 1) C hL (by omega) dL_law_398 dL_law_399 dL_law_400 rfl dL_law_401 dL_law_402 ?_
  refine y_callM (na := 1) (As := [.int (xs (t + 1))]) (st := [.long r]) (res := some (.long r)) C (c_X7_right GM (xs (t + 1)) μ r μ' e2) wq_384 wq_381 wq_382 wq_383 wq_5 rfl rfl (by decide) ⟨Nat.le_of_ble_eq_true rfl, Nat.le_of_ble_eq_true rfl⟩ rfl rfl (Nat.le_of_ble_eq_true rfl) dL_law_403 ?_
  exact y_sameL C dL_law_406 dL_law_407 rfl (K _ _ _ hS' hM')
theorem lk_best (C : LC p l s m meth c b L xs GS GM) (hL : L ≤ 2048) (ht : t + 4 ≤ L) (hS : RelS S σ) (hM : RelM S μ) (K : ∀ (S' : St) (σ' μ' : MM), RelS S' σ' → RelM S' μ' → LJ p l e s m below meth c b GS GM σ' μ' (nI t) 981 []) : LJ p l e s m below meth c b GS GM σ μ (nI t) 412 [] := by
  obtain ⟨r, S', σ', μ', e1, e2, hS', hM'⟩ := al_best hS hM (xs (t + 1)) (xs (t + 2)) (xs (t + 3))
  refine y_aload1 C dL_law_412 ?_
  refine y_arg (j := 1) C hL (by omega) dL_law_413 dL_law_414 dL_law_415 rfl dL_law_416 dL_law_417 ?_
  refine y_arg (j := 2) C hL (by omega) dL_law_418 dL_law_419 dL_law_420 rfl dL_law_421 dL_law_422 ?_
  refine y_arg (j := 3) C hL (by omega) dL_law_423 dL_law_424 dL_law_425 rfl dL_law_426 dL_law_427 ?_
  refine y_callS (na := 3) (As := [.int (xs (t + 1)), .int (xs (t + 2)), .int (xs (t + 3))]) (st := []) (res := some (.long r)) C (c_X6_best GS (xs (t + 1)) (xs (t + 2)) (xs (t + 3)) σ r σ' e1) wq_392 wq_389 wq_390 wq_391 wq_2 rfl rfl (by decide) ⟨Nat.le_of_ble_eq_true rfl, Nat.le_of_ble_eq_true rfl⟩ rfl rfl (Nat.le_of_ble_eq_true rfl) dL_law_428 ?_
  refine y_aload2 C dL_law_431 ?_
  refine y_arg (j := 1) C hL (by omega) dL_law_432 dL_law_433 dL_law_434 rfl dL_law_435 dL_law_436 ?_
  refine y_arg (j := 2) C hL (by omega) dL_law_437 dL_law_438 dL_law_439 rfl dL_law_440 dL_law_441 ?_
  refine y_arg (j := 3) C hL (by omega) dL_law_442 dL_law_443 dL_law_444 rfl dL_law_445 dL_law_446 ?_
  refine y_callM (na := 3) (As := [.int (xs (t + 1)), .int (xs (t + 2)), .int (xs (t + 3))]) (st := [.long r]) (res := some (.long r)) C (c_X7_best GM (xs (t + 1)) (xs (t + 2)) (xs (t + 3)) μ r μ' e2) wq_444 wq_441 wq_442 wq_443 wq_5 rfl rfl (by decide) ⟨Nat.le_of_ble_eq_true rfl, Nat.le_of_ble_eq_true rfl⟩ rfl rfl (Nat.le_of_ble_eq_true rfl) dL_law_447 ?_
  exact y_sameL C dL_law_450 dL_law_451 rfl (K _ _ _ hS' hM')
theorem lk_strike (C : LC p l s m meth c b L xs GS GM) (hL : L ≤ 2048) (ht : t + 4 ≤ L) (hS : RelS S σ) (hM : RelM S μ) (K : ∀ (S' : St) (σ' μ' : MM), RelS S' σ' → RelM S' μ' → LJ p l e s m below meth c b GS GM σ' μ' (nI t) 981 []) : LJ p l e s m below meth c b GS GM σ μ (nI t) 456 [] := by
  obtain ⟨r, S', σ', μ', e1, e2, hS', hM'⟩ := al_strike hS hM (xs (t + 1)) (xs (t + 2)) (xs (t + 3))
  refine y_aload1 C dL_law_456 ?_
  refine y_arg (j := 1) C hL (by omega) dL_law_457 dL_law_458 dL_law_459 rfl dL_law_460 dL_law_461 ?_
  refine y_arg (j := 2) C hL (by omega) dL_law_462 dL_law_463 dL_law_464 rfl dL_law_465 dL_law_466 ?_
  refine y_arg (j := 3) C hL (by omega) dL_law_467 dL_law_468 dL_law_469 rfl dL_law_470 dL_law_471 ?_
  refine y_callS (na := 3) (As := [.int (xs (t + 1)), .int (xs (t + 2)), .int (xs (t + 3))]) (st := []) (res := some (.int r)) C (c_X6_strike GS (xs (t + 1)) (xs (t + 2)) (xs (t + 3)) σ r σ' e1) wq_470 wq_467 wq_468 wq_469 wq_2 rfl rfl (by decide) ⟨Nat.le_of_ble_eq_true rfl, Nat.le_of_ble_eq_true rfl⟩ rfl rfl (Nat.le_of_ble_eq_true rfl) dL_law_472 ?_
  refine y_aload2 C dL_law_475 ?_
  refine y_arg (j := 1) C hL (by omega) dL_law_476 dL_law_477 dL_law_478 rfl dL_law_479 dL_law_480 ?_
  refine y_arg (j := 2) C hL (by omega) dL_law_481 dL_law_482 dL_law_483 rfl dL_law_484 dL_law_485 ?_
  refine y_arg (j := 3) C hL (by omega) dL_law_486 dL_law_487 dL_law_488 rfl dL_law_489 dL_law_490 ?_
  refine y_callM (na := 3) (As := [.int (xs (t + 1)), .int (xs (t + 2)), .int (xs (t + 3))]) (st := [.int r]) (res := some (.int r)) C (c_X7_strike GM (xs (t + 1)) (xs (t + 2)) (xs (t + 3)) μ r μ' e2) wq_477 wq_474 wq_475 wq_476 wq_5 rfl rfl (by decide) ⟨Nat.le_of_ble_eq_true rfl, Nat.le_of_ble_eq_true rfl⟩ rfl rfl (Nat.le_of_ble_eq_true rfl) dL_law_491 ?_
  exact y_same C dL_law_494 rfl (K _ _ _ hS' hM')
theorem lk_turns (C : LC p l s m meth c b L xs GS GM) (hL : L ≤ 2048) (ht : t + 4 ≤ L) (hS : RelS S σ) (hM : RelM S μ) (K : ∀ (S' : St) (σ' μ' : MM), RelS S' σ' → RelM S' μ' → LJ p l e s m below meth c b GS GM σ' μ' (nI t) 981 []) : LJ p l e s m below meth c b GS GM σ μ (nI t) 499 [] := by
  obtain ⟨r, S', σ', μ', e1, e2, hS', hM'⟩ := al_turns hS hM
  refine y_aload1 C dL_law_499 ?_
  refine y_callS (na := 0) (As := []) (st := []) (res := some (.long r)) C (c_X6_turns GS σ r σ' e1) wq_485 wq_482 wq_483 wq_484 wq_2 rfl rfl (by decide) ⟨Nat.le_of_ble_eq_true rfl, Nat.le_of_ble_eq_true rfl⟩ rfl rfl (Nat.le_of_ble_eq_true rfl) dL_law_500 ?_
  refine y_aload2 C dL_law_503 ?_
  refine y_callM (na := 0) (As := []) (st := [.long r]) (res := some (.long r)) C (c_X7_turns GM μ r μ' e2) wq_512 wq_509 wq_510 wq_511 wq_5 rfl rfl (by decide) ⟨Nat.le_of_ble_eq_true rfl, Nat.le_of_ble_eq_true rfl⟩ rfl rfl (Nat.le_of_ble_eq_true rfl) dL_law_504 ?_
  exact y_sameL C dL_law_507 dL_law_508 rfl (K _ _ _ hS' hM')
theorem lk_order (C : LC p l s m meth c b L xs GS GM) (hL : L ≤ 2048) (ht : t + 4 ≤ L) (hS : RelS S σ) (hM : RelM S μ) (K : ∀ (S' : St) (σ' μ' : MM), RelS S' σ' → RelM S' μ' → LJ p l e s m below meth c b GS GM σ' μ' (nI t) 981 []) : LJ p l e s m below meth c b GS GM σ μ (nI t) 513 [] := by
  obtain ⟨r, S', σ', μ', e1, e2, hS', hM'⟩ := al_order hS hM (xs (t + 1))
  refine y_aload1 C dL_law_513 ?_
  refine y_arg (j := 1) C hL (by omega) dL_law_514 dL_law_515 dL_law_516 rfl dL_law_517 dL_law_518 ?_
  refine y_callS (na := 1) (As := [.int (xs (t + 1))]) (st := []) (res := some (.int r)) C (c_X6_order GS (xs (t + 1)) σ r σ' e1) wq_536 wq_533 wq_534 wq_535 wq_2 rfl rfl (by decide) ⟨Nat.le_of_ble_eq_true rfl, Nat.le_of_ble_eq_true rfl⟩ rfl rfl (Nat.le_of_ble_eq_true rfl) dL_law_519 ?_
  refine y_aload2 C dL_law_522 ?_
  refine y_arg (j := 1) C hL (by omega) dL_law_523 dL_law_524 dL_law_525 rfl dL_law_526 dL_law_527 ?_
  refine y_callM (na := 1) (As := [.int (xs (t + 1))]) (st := [.int r]) (res := some (.int r)) C (c_X7_order GM (xs (t + 1)) μ r μ' e2) wq_540 wq_537 wq_538 wq_539 wq_5 rfl rfl (by decide) ⟨Nat.le_of_ble_eq_true rfl, Nat.le_of_ble_eq_true rfl⟩ rfl rfl (Nat.le_of_ble_eq_true rfl) dL_law_528 ?_
  exact y_same C dL_law_531 rfl (K _ _ _ hS' hM')
theorem lk_put (C : LC p l s m meth c b L xs GS GM) (hL : L ≤ 2048) (ht : t + 4 ≤ L) (hS : RelS S σ) (hM : RelM S μ) (K : ∀ (S' : St) (σ' μ' : MM), RelS S' σ' → RelM S' μ' → LJ p l e s m below meth c b GS GM σ' μ' (nI t) 981 []) : LJ p l e s m below meth c b GS GM σ μ (nI t) 536 [] := by
  obtain ⟨r, S', σ', μ', e1, e2, hS', hM'⟩ := al_put hS hM (xs (t + 1))
  refine y_aload1 C dL_law_536 ?_
  refine y_arg (j := 1) C hL (by omega) dL_law_537 dL_law_538 dL_law_539 rfl dL_law_540 dL_law_541 ?_
  refine y_callS (na := 1) (As := [.int (xs (t + 1))]) (st := []) (res := some (.int r)) C (c_X6_put GS (xs (t + 1)) σ r σ' e1) wq_550 wq_547 wq_548 wq_549 wq_2 rfl rfl (by decide) ⟨Nat.le_of_ble_eq_true rfl, Nat.le_of_ble_eq_true rfl⟩ rfl rfl (Nat.le_of_ble_eq_true rfl) dL_law_542 ?_
  refine y_aload2 C dL_law_545 ?_
  refine y_arg (j := 1) C hL (by omega) dL_law_546 dL_law_547 dL_law_548 rfl dL_law_549 dL_law_550 ?_
  refine y_callM (na := 1) (As := [.int (xs (t + 1))]) (st := [.int r]) (res := some (.int r)) C (c_X7_put GM (xs (t + 1)) μ r μ' e2) wq_555 wq_552 wq_553 wq_554 wq_5 rfl rfl (by decide) ⟨Nat.le_of_ble_eq_true rfl, Nat.le_of_ble_eq_true rfl⟩ rfl rfl (Nat.le_of_ble_eq_true rfl) dL_law_551 ?_
  exact y_same C dL_law_554 rfl (K _ _ _ hS' hM')
theorem lk_unput (C : LC p l s m meth c b L xs GS GM) (hL : L ≤ 2048) (ht : t + 4 ≤ L) (hS : RelS S σ) (hM : RelM S μ) (K : ∀ (S' : St) (σ' μ' : MM), RelS S' σ' → RelM S' μ' → LJ p l e s m below meth c b GS GM σ' μ' (nI t) 981 []) : LJ p l e s m below meth c b GS GM σ μ (nI t) 559 [] := by
  obtain ⟨r, S', σ', μ', e1, e2, hS', hM'⟩ := al_unput hS hM
  refine y_aload1 C dL_law_559 ?_
  refine y_callS (na := 0) (As := []) (st := []) (res := some (.int r)) C (c_X6_unput GS σ r σ' e1) wq_560 wq_557 wq_558 wq_559 wq_2 rfl rfl (by decide) ⟨Nat.le_of_ble_eq_true rfl, Nat.le_of_ble_eq_true rfl⟩ rfl rfl (Nat.le_of_ble_eq_true rfl) dL_law_560 ?_
  refine y_aload2 C dL_law_563 ?_
  refine y_callM (na := 0) (As := []) (st := [.int r]) (res := some (.int r)) C (c_X7_unput GM μ r μ' e2) wq_564 wq_561 wq_562 wq_563 wq_5 rfl rfl (by decide) ⟨Nat.le_of_ble_eq_true rfl, Nat.le_of_ble_eq_true rfl⟩ rfl rfl (Nat.le_of_ble_eq_true rfl) dL_law_564 ?_
  exact y_same C dL_law_567 rfl (K _ _ _ hS' hM')
theorem lk_lawful (C : LC p l s m meth c b L xs GS GM) (hL : L ≤ 2048) (ht : t + 4 ≤ L) (hS : RelS S σ) (hM : RelM S μ) (K : ∀ (S' : St) (σ' μ' : MM), RelS S' σ' → RelM S' μ' → LJ p l e s m below meth c b GS GM σ' μ' (nI t) 981 []) : LJ p l e s m below meth c b GS GM σ μ (nI t) 572 [] := by
  obtain ⟨r, S', σ', μ', e1, e2, hS', hM'⟩ := al_lawful hS hM
  refine y_aload1 C dL_law_572 ?_
  refine y_callS (na := 0) (As := []) (st := []) (res := some (.int r)) C (c_X6_lawful GS σ r σ' e1) wq_568 wq_565 wq_566 wq_567 wq_2 rfl rfl (by decide) ⟨Nat.le_of_ble_eq_true rfl, Nat.le_of_ble_eq_true rfl⟩ rfl rfl (Nat.le_of_ble_eq_true rfl) dL_law_573 ?_
  refine y_aload2 C dL_law_576 ?_
  refine y_callM (na := 0) (As := []) (st := [.int r]) (res := some (.int r)) C (c_X7_lawful GM μ r μ' e2) wq_576 wq_573 wq_574 wq_575 wq_5 rfl rfl (by decide) ⟨Nat.le_of_ble_eq_true rfl, Nat.le_of_ble_eq_true rfl⟩ rfl rfl (Nat.le_of_ble_eq_true rfl) dL_law_577 ?_
  exact y_same C dL_law_580 rfl (K _ _ _ hS' hM')
theorem lk_slip (C : LC p l s m meth c b L xs GS GM) (hL : L ≤ 2048) (ht : t + 4 ≤ L) (hS : RelS S σ) (hM : RelM S μ) (K : ∀ (S' : St) (σ' μ' : MM), RelS S' σ' → RelM S' μ' → LJ p l e s m below meth c b GS GM σ' μ' (nI t) 981 []) : LJ p l e s m below meth c b GS GM σ μ (nI t) 585 [] := by
  obtain ⟨r, S', σ', μ', e1, e2, hS', hM'⟩ := al_slip hS hM (if xs (t + 1) = 0 then 0 else 1)
  refine y_aload1 C dL_law_585 ?_
  refine y_arg (j := 1) C hL (by omega) dL_law_586 dL_law_587 dL_law_588 rfl dL_law_589 dL_law_590 ?_
  have hB591 : LJ p l e s m below meth c b GS GM σ μ (nI t) 599 (.int (if xs (t + 1) = 0 then 0 else 1) :: [.ref (gad GS 0)]) := by
    refine y_callS (na := 1) (As := [.int (if xs (t + 1) = 0 then 0 else 1)]) (st := []) (res := some (.long r)) C (c_X6_slip GS (if xs (t + 1) = 0 then 0 else 1) σ r σ' e1) wq_584 wq_581 wq_582 wq_583 wq_2 rfl rfl (by decide) ⟨Nat.le_of_ble_eq_true rfl, Nat.le_of_ble_eq_true rfl⟩ rfl rfl (Nat.le_of_ble_eq_true rfl) dL_law_599 ?_
    refine y_aload2 C dL_law_602 ?_
    refine y_arg (j := 1) C hL (by omega) dL_law_603 dL_law_604 dL_law_605 rfl dL_law_606 dL_law_607 ?_
    have hC608 : LJ p l e s m below meth c b GS GM σ' μ (nI t) 616 (.int (if xs (t + 1) = 0 then 0 else 1) :: [.ref (gad GM 0), .long r]) := by
      refine y_callM (na := 1) (As := [.int (if xs (t + 1) = 0 then 0 else 1)]) (st := [.long r]) (res := some (.long r)) C (c_X7_slip GM (if xs (t + 1) = 0 then 0 else 1) μ r μ' e2) wq_592 wq_589 wq_590 wq_591 wq_5 rfl rfl (by decide) ⟨Nat.le_of_ble_eq_true rfl, Nat.le_of_ble_eq_true rfl⟩ rfl rfl (Nat.le_of_ble_eq_true rfl) dL_law_616 ?_
      exact y_sameL C dL_law_619 dL_law_620 rfl (K _ _ _ hS' hM')
    refine y_if_eq (tgt := 615) C dL_law_608 rfl (fun q => ?_) (fun q => ?_)
    · rw [if_pos q] at hC608; exact y_iconst (v := 0) C dL_law_615 rfl hC608
    · rw [if_neg q] at hC608; exact y_iconst (v := 1) C dL_law_611 rfl (y_goto (tgt := 616) C dL_law_612 rfl hC608)
  refine y_if_eq (tgt := 598) C dL_law_591 rfl (fun q => ?_) (fun q => ?_)
  · rw [if_pos q] at hB591; exact y_iconst (v := 0) C dL_law_598 rfl hB591
  · rw [if_neg q] at hB591; exact y_iconst (v := 1) C dL_law_594 rfl (y_goto (tgt := 599) C dL_law_595 rfl hB591)
theorem lk_second (C : LC p l s m meth c b L xs GS GM) (hL : L ≤ 2048) (ht : t + 4 ≤ L) (hS : RelS S σ) (hM : RelM S μ) (K : ∀ (S' : St) (σ' μ' : MM), RelS S' σ' → RelM S' μ' → LJ p l e s m below meth c b GS GM σ' μ' (nI t) 981 []) : LJ p l e s m below meth c b GS GM σ μ (nI t) 625 [] := by
  obtain ⟨r, S', σ', μ', e1, e2, hS', hM'⟩ := al_second hS hM
  refine y_aload1 C dL_law_625 ?_
  refine y_callS (na := 0) (As := []) (st := []) (res := some (.long r)) C (c_X6_second GS σ r σ' e1) wq_602 wq_599 wq_600 wq_601 wq_2 rfl rfl (by decide) ⟨Nat.le_of_ble_eq_true rfl, Nat.le_of_ble_eq_true rfl⟩ rfl rfl (Nat.le_of_ble_eq_true rfl) dL_law_626 ?_
  refine y_aload2 C dL_law_629 ?_
  refine y_callM (na := 0) (As := []) (st := [.long r]) (res := some (.long r)) C (c_X7_second GM μ r μ' e2) wq_611 wq_608 wq_609 wq_610 wq_5 rfl rfl (by decide) ⟨Nat.le_of_ble_eq_true rfl, Nat.le_of_ble_eq_true rfl⟩ rfl rfl (Nat.le_of_ble_eq_true rfl) dL_law_630 ?_
  exact y_sameL C dL_law_633 dL_law_634 rfl (K _ _ _ hS' hM')
theorem lk_more (C : LC p l s m meth c b L xs GS GM) (hL : L ≤ 2048) (ht : t + 4 ≤ L) (hS : RelS S σ) (hM : RelM S μ) (K : ∀ (S' : St) (σ' μ' : MM), RelS S' σ' → RelM S' μ' → LJ p l e s m below meth c b GS GM σ' μ' (nI t) 981 []) : LJ p l e s m below meth c b GS GM σ μ (nI t) 639 [] := by
  obtain ⟨r, S', σ', μ', e1, e2, hS', hM'⟩ := al_more hS hM (xs (t + 1))
  refine y_aload1 C dL_law_639 ?_
  refine y_arg (j := 1) C hL (by omega) dL_law_640 dL_law_641 dL_law_642 rfl dL_law_643 dL_law_644 ?_
  refine y_callS (na := 1) (As := [.int (xs (t + 1))]) (st := []) (res := some (.long r)) C (c_X6_more GS (xs (t + 1)) σ r σ' e1) wq_615 wq_612 wq_613 wq_614 wq_2 rfl rfl (by decide) ⟨Nat.le_of_ble_eq_true rfl, Nat.le_of_ble_eq_true rfl⟩ rfl rfl (Nat.le_of_ble_eq_true rfl) dL_law_645 ?_
  refine y_aload2 C dL_law_648 ?_
  refine y_arg (j := 1) C hL (by omega) dL_law_649 dL_law_650 dL_law_651 rfl dL_law_652 dL_law_653 ?_
  refine y_callM (na := 1) (As := [.int (xs (t + 1))]) (st := [.long r]) (res := some (.long r)) C (c_X7_more GM (xs (t + 1)) μ r μ' e2) wq_619 wq_616 wq_617 wq_618 wq_5 rfl rfl (by decide) ⟨Nat.le_of_ble_eq_true rfl, Nat.le_of_ble_eq_true rfl⟩ rfl rfl (Nat.le_of_ble_eq_true rfl) dL_law_654 ?_
  exact y_sameL C dL_law_657 dL_law_658 rfl (K _ _ _ hS' hM')
theorem lk_rests (C : LC p l s m meth c b L xs GS GM) (hL : L ≤ 2048) (ht : t + 4 ≤ L) (hS : RelS S σ) (hM : RelM S μ) (K : ∀ (S' : St) (σ' μ' : MM), RelS S' σ' → RelM S' μ' → LJ p l e s m below meth c b GS GM σ' μ' (nI t) 981 []) : LJ p l e s m below meth c b GS GM σ μ (nI t) 663 [] := by
  obtain ⟨r, S', σ', μ', e1, e2, hS', hM'⟩ := al_rests hS hM
  refine y_aload1 C dL_law_663 ?_
  refine y_callS (na := 0) (As := []) (st := []) (res := some (.int r)) C (c_X6_rests GS σ r σ' e1) wq_623 wq_620 wq_621 wq_622 wq_2 rfl rfl (by decide) ⟨Nat.le_of_ble_eq_true rfl, Nat.le_of_ble_eq_true rfl⟩ rfl rfl (Nat.le_of_ble_eq_true rfl) dL_law_664 ?_
  refine y_aload2 C dL_law_667 ?_
  refine y_callM (na := 0) (As := []) (st := [.int r]) (res := some (.int r)) C (c_X7_rests GM μ r μ' e2) wq_658 wq_655 wq_656 wq_657 wq_5 rfl rfl (by decide) ⟨Nat.le_of_ble_eq_true rfl, Nat.le_of_ble_eq_true rfl⟩ rfl rfl (Nat.le_of_ble_eq_true rfl) dL_law_668 ?_
  exact y_same C dL_law_671 rfl (K _ _ _ hS' hM')
theorem lk_rest (C : LC p l s m meth c b L xs GS GM) (hL : L ≤ 2048) (ht : t + 4 ≤ L) (hS : RelS S σ) (hM : RelM S μ) (K : ∀ (S' : St) (σ' μ' : MM), RelS S' σ' → RelM S' μ' → LJ p l e s m below meth c b GS GM σ' μ' (nI t) 981 []) : LJ p l e s m below meth c b GS GM σ μ (nI t) 676 [] := by
  obtain ⟨r, S', σ', μ', e1, e2, hS', hM'⟩ := al_rest hS hM (xs (t + 1))
  refine y_aload1 C dL_law_676 ?_
  refine y_arg (j := 1) C hL (by omega) dL_law_677 dL_law_678 dL_law_679 rfl dL_law_680 dL_law_681 ?_
  refine y_callS (na := 1) (As := [.int (xs (t + 1))]) (st := []) (res := some (.int r)) C (c_X6_rest GS (xs (t + 1)) σ r σ' e1) wq_681 wq_678 wq_679 wq_680 wq_2 rfl rfl (by decide) ⟨Nat.le_of_ble_eq_true rfl, Nat.le_of_ble_eq_true rfl⟩ rfl rfl (Nat.le_of_ble_eq_true rfl) dL_law_682 ?_
  refine y_aload2 C dL_law_685 ?_
  refine y_arg (j := 1) C hL (by omega) dL_law_686 dL_law_687 dL_law_688 rfl dL_law_689 dL_law_690 ?_
  refine y_callM (na := 1) (As := [.int (xs (t + 1))]) (st := [.int r]) (res := some (.int r)) C (c_X7_rest GM (xs (t + 1)) μ r μ' e2) wq_691 wq_688 wq_689 wq_690 wq_5 rfl rfl (by decide) ⟨Nat.le_of_ble_eq_true rfl, Nat.le_of_ble_eq_true rfl⟩ rfl rfl (Nat.le_of_ble_eq_true rfl) dL_law_691 ?_
  exact y_same C dL_law_694 rfl (K _ _ _ hS' hM')
theorem lk_paper (C : LC p l s m meth c b L xs GS GM) (hL : L ≤ 2048) (ht : t + 4 ≤ L) (hS : RelS S σ) (hM : RelM S μ) (K : ∀ (S' : St) (σ' μ' : MM), RelS S' σ' → RelM S' μ' → LJ p l e s m below meth c b GS GM σ' μ' (nI t) 981 []) : LJ p l e s m below meth c b GS GM σ μ (nI t) 699 [] := by
  obtain ⟨r, S', σ', μ', e1, e2, hS', hM'⟩ := al_paper hS hM (xs (t + 1)) (xs (t + 2))
  refine y_aload1 C dL_law_699 ?_
  refine y_arg (j := 1) C hL (by omega) dL_law_700 dL_law_701 dL_law_702 rfl dL_law_703 dL_law_704 ?_
  refine y_arg (j := 2) C hL (by omega) dL_law_705 dL_law_706 dL_law_707 rfl dL_law_708 dL_law_709 ?_
  refine y_callS (na := 2) (As := [.int (xs (t + 1)), .int (xs (t + 2))]) (st := []) (res := some (.long r)) C (c_X6_paper GS (xs (t + 1)) (xs (t + 2)) σ r σ' e1) wq_695 wq_692 wq_693 wq_694 wq_2 rfl rfl (by decide) ⟨Nat.le_of_ble_eq_true rfl, Nat.le_of_ble_eq_true rfl⟩ rfl rfl (Nat.le_of_ble_eq_true rfl) dL_law_710 ?_
  refine y_aload2 C dL_law_713 ?_
  refine y_arg (j := 1) C hL (by omega) dL_law_714 dL_law_715 dL_law_716 rfl dL_law_717 dL_law_718 ?_
  refine y_arg (j := 2) C hL (by omega) dL_law_719 dL_law_720 dL_law_721 rfl dL_law_722 dL_law_723 ?_
  refine y_callM (na := 2) (As := [.int (xs (t + 1)), .int (xs (t + 2))]) (st := [.long r]) (res := some (.long r)) C (c_X7_paper GM (xs (t + 1)) (xs (t + 2)) μ r μ' e2) wq_702 wq_699 wq_700 wq_701 wq_5 rfl rfl (by decide) ⟨Nat.le_of_ble_eq_true rfl, Nat.le_of_ble_eq_true rfl⟩ rfl rfl (Nat.le_of_ble_eq_true rfl) dL_law_724 ?_
  exact y_sameL C dL_law_727 dL_law_728 rfl (K _ _ _ hS' hM')
theorem lk_coming (C : LC p l s m meth c b L xs GS GM) (hL : L ≤ 2048) (ht : t + 4 ≤ L) (hS : RelS S σ) (hM : RelM S μ) (K : ∀ (S' : St) (σ' μ' : MM), RelS S' σ' → RelM S' μ' → LJ p l e s m below meth c b GS GM σ' μ' (nI t) 981 []) : LJ p l e s m below meth c b GS GM σ μ (nI t) 733 [] := by
  obtain ⟨r, S', σ', μ', e1, e2, hS', hM'⟩ := al_coming hS hM
  refine y_aload1 C dL_law_733 ?_
  refine y_callS (na := 0) (As := []) (st := []) (res := some (.long r)) C (c_X6_coming GS σ r σ' e1) wq_706 wq_703 wq_704 wq_705 wq_2 rfl rfl (by decide) ⟨Nat.le_of_ble_eq_true rfl, Nat.le_of_ble_eq_true rfl⟩ rfl rfl (Nat.le_of_ble_eq_true rfl) dL_law_734 ?_
  refine y_aload2 C dL_law_737 ?_
  refine y_callM (na := 0) (As := []) (st := [.long r]) (res := some (.long r)) C (c_X7_coming GM μ r μ' e2) wq_750 wq_747 wq_748 wq_749 wq_5 rfl rfl (by decide) ⟨Nat.le_of_ble_eq_true rfl, Nat.le_of_ble_eq_true rfl⟩ rfl rfl (Nat.le_of_ble_eq_true rfl) dL_law_738 ?_
  exact y_sameL C dL_law_741 dL_law_742 rfl (K _ _ _ hS' hM')
theorem lk_come (C : LC p l s m meth c b L xs GS GM) (hL : L ≤ 2048) (ht : t + 4 ≤ L) (hS : RelS S σ) (hM : RelM S μ) (K : ∀ (S' : St) (σ' μ' : MM), RelS S' σ' → RelM S' μ' → LJ p l e s m below meth c b GS GM σ' μ' (nI t) 981 []) : LJ p l e s m below meth c b GS GM σ μ (nI t) 747 [] := by
  obtain ⟨r, S', σ', μ', e1, e2, hS', hM'⟩ := al_come hS hM (xs (t + 1))
  refine y_aload1 C dL_law_747 ?_
  refine y_arg (j := 1) C hL (by omega) dL_law_748 dL_law_749 dL_law_750 rfl dL_law_751 dL_law_752 ?_
  refine y_callS (na := 1) (As := [.int (xs (t + 1))]) (st := []) (res := some (.int r)) C (c_X6_come GS (xs (t + 1)) σ r σ' e1) wq_786 wq_783 wq_784 wq_785 wq_2 rfl rfl (by decide) ⟨Nat.le_of_ble_eq_true rfl, Nat.le_of_ble_eq_true rfl⟩ rfl rfl (Nat.le_of_ble_eq_true rfl) dL_law_753 ?_
  refine y_aload2 C dL_law_756 ?_
  refine y_arg (j := 1) C hL (by omega) dL_law_757 dL_law_758 dL_law_759 rfl dL_law_760 dL_law_761 ?_
  refine y_callM (na := 1) (As := [.int (xs (t + 1))]) (st := [.int r]) (res := some (.int r)) C (c_X7_come GM (xs (t + 1)) μ r μ' e2) wq_793 wq_790 wq_791 wq_792 wq_5 rfl rfl (by decide) ⟨Nat.le_of_ble_eq_true rfl, Nat.le_of_ble_eq_true rfl⟩ rfl rfl (Nat.le_of_ble_eq_true rfl) dL_law_762 ?_
  exact y_same C dL_law_765 rfl (K _ _ _ hS' hM')
theorem lk_seldom (C : LC p l s m meth c b L xs GS GM) (hL : L ≤ 2048) (ht : t + 4 ≤ L) (hS : RelS S σ) (hM : RelM S μ) (K : ∀ (S' : St) (σ' μ' : MM), RelS S' σ' → RelM S' μ' → LJ p l e s m below meth c b GS GM σ' μ' (nI t) 981 []) : LJ p l e s m below meth c b GS GM σ μ (nI t) 770 [] := by
  obtain ⟨r, S', σ', μ', e1, e2, hS', hM'⟩ := al_seldom hS hM (xs (t + 1)) (xs (t + 2))
  refine y_aload1 C dL_law_770 ?_
  refine y_arg (j := 1) C hL (by omega) dL_law_771 dL_law_772 dL_law_773 rfl dL_law_774 dL_law_775 ?_
  refine y_arg (j := 2) C hL (by omega) dL_law_776 dL_law_777 dL_law_778 rfl dL_law_779 dL_law_780 ?_
  refine y_callS (na := 2) (As := [.int (xs (t + 1)), .int (xs (t + 2))]) (st := []) (res := some (.long r)) C (c_X6_seldom GS (xs (t + 1)) (xs (t + 2)) σ r σ' e1) wq_804 wq_801 wq_802 wq_803 wq_2 rfl rfl (by decide) ⟨Nat.le_of_ble_eq_true rfl, Nat.le_of_ble_eq_true rfl⟩ rfl rfl (Nat.le_of_ble_eq_true rfl) dL_law_781 ?_
  refine y_aload2 C dL_law_784 ?_
  refine y_arg (j := 1) C hL (by omega) dL_law_785 dL_law_786 dL_law_787 rfl dL_law_788 dL_law_789 ?_
  refine y_arg (j := 2) C hL (by omega) dL_law_790 dL_law_791 dL_law_792 rfl dL_law_793 dL_law_794 ?_
  refine y_callM (na := 2) (As := [.int (xs (t + 1)), .int (xs (t + 2))]) (st := [.long r]) (res := some (.long r)) C (c_X7_seldom GM (xs (t + 1)) (xs (t + 2)) μ r μ' e2) wq_822 wq_819 wq_820 wq_821 wq_5 rfl rfl (by decide) ⟨Nat.le_of_ble_eq_true rfl, Nat.le_of_ble_eq_true rfl⟩ rfl rfl (Nat.le_of_ble_eq_true rfl) dL_law_795 ?_
  exact y_sameL C dL_law_798 dL_law_799 rfl (K _ _ _ hS' hM')
theorem lk_finest (C : LC p l s m meth c b L xs GS GM) (hL : L ≤ 2048) (ht : t + 4 ≤ L) (hS : RelS S σ) (hM : RelM S μ) (K : ∀ (S' : St) (σ' μ' : MM), RelS S' σ' → RelM S' μ' → LJ p l e s m below meth c b GS GM σ' μ' (nI t) 981 []) : LJ p l e s m below meth c b GS GM σ μ (nI t) 804 [] := by
  obtain ⟨r, S', σ', μ', e1, e2, hS', hM'⟩ := al_finest hS hM
  refine y_aload1 C dL_law_804 ?_
  refine y_callS (na := 0) (As := []) (st := []) (res := some (.int r)) C (c_X6_finest GS σ r σ' e1) wq_829 wq_826 wq_827 wq_828 wq_2 rfl rfl (by decide) ⟨Nat.le_of_ble_eq_true rfl, Nat.le_of_ble_eq_true rfl⟩ rfl rfl (Nat.le_of_ble_eq_true rfl) dL_law_805 ?_
  refine y_aload2 C dL_law_808 ?_
  refine y_callM (na := 0) (As := []) (st := [.int r]) (res := some (.int r)) C (c_X7_finest GM μ r μ' e2) wq_837 wq_834 wq_835 wq_836 wq_5 rfl rfl (by decide) ⟨Nat.le_of_ble_eq_true rfl, Nat.le_of_ble_eq_true rfl⟩ rfl rfl (Nat.le_of_ble_eq_true rfl) dL_law_809 ?_
  exact y_same C dL_law_812 rfl (K _ _ _ hS' hM')
theorem lk_lot (C : LC p l s m meth c b L xs GS GM) (hL : L ≤ 2048) (ht : t + 4 ≤ L) (hS : RelS S σ) (hM : RelM S μ) (K : ∀ (S' : St) (σ' μ' : MM), RelS S' σ' → RelM S' μ' → LJ p l e s m below meth c b GS GM σ' μ' (nI t) 981 []) : LJ p l e s m below meth c b GS GM σ μ (nI t) 817 [] := by
  obtain ⟨r, S', σ', μ', e1, e2, hS', hM'⟩ := al_lot hS hM (xs (t + 1))
  refine y_aload1 C dL_law_817 ?_
  refine y_arg (j := 1) C hL (by omega) dL_law_818 dL_law_819 dL_law_820 rfl dL_law_821 dL_law_822 ?_
  refine y_callS (na := 1) (As := [.int (xs (t + 1))]) (st := []) (res := some (.long r)) C (c_X6_lot GS (xs (t + 1)) σ r σ' e1) wq_841 wq_838 wq_839 wq_840 wq_2 rfl rfl (by decide) ⟨Nat.le_of_ble_eq_true rfl, Nat.le_of_ble_eq_true rfl⟩ rfl rfl (Nat.le_of_ble_eq_true rfl) dL_law_823 ?_
  refine y_aload2 C dL_law_826 ?_
  refine y_arg (j := 1) C hL (by omega) dL_law_827 dL_law_828 dL_law_829 rfl dL_law_830 dL_law_831 ?_
  refine y_callM (na := 1) (As := [.int (xs (t + 1))]) (st := [.long r]) (res := some (.long r)) C (c_X7_lot GM (xs (t + 1)) μ r μ' e2) wq_852 wq_849 wq_850 wq_851 wq_5 rfl rfl (by decide) ⟨Nat.le_of_ble_eq_true rfl, Nat.le_of_ble_eq_true rfl⟩ rfl rfl (Nat.le_of_ble_eq_true rfl) dL_law_832 ?_
  exact y_sameL C dL_law_835 dL_law_836 rfl (K _ _ _ hS' hM')
theorem lk_trade (C : LC p l s m meth c b L xs GS GM) (hL : L ≤ 2048) (ht : t + 4 ≤ L) (hS : RelS S σ) (hM : RelM S μ) (K : ∀ (S' : St) (σ' μ' : MM), RelS S' σ' → RelM S' μ' → LJ p l e s m below meth c b GS GM σ' μ' (nI t) 981 []) : LJ p l e s m below meth c b GS GM σ μ (nI t) 841 [] := by
  obtain ⟨r, S', σ', μ', e1, e2, hS', hM'⟩ := al_trade hS hM
  refine y_aload1 C dL_law_841 ?_
  refine y_callS (na := 0) (As := []) (st := []) (res := some (.int r)) C (c_X6_trade GS σ r σ' e1) wq_856 wq_853 wq_854 wq_855 wq_2 rfl rfl (by decide) ⟨Nat.le_of_ble_eq_true rfl, Nat.le_of_ble_eq_true rfl⟩ rfl rfl (Nat.le_of_ble_eq_true rfl) dL_law_842 ?_
  refine y_aload2 C dL_law_845 ?_
  refine y_callM (na := 0) (As := []) (st := [.int r]) (res := some (.int r)) C (c_X7_trade GM μ r μ' e2) wq_860 wq_857 wq_858 wq_859 wq_5 rfl rfl (by decide) ⟨Nat.le_of_ble_eq_true rfl, Nat.le_of_ble_eq_true rfl⟩ rfl rfl (Nat.le_of_ble_eq_true rfl) dL_law_846 ?_
  exact y_same C dL_law_849 rfl (K _ _ _ hS' hM')
theorem lk_wrongly (C : LC p l s m meth c b L xs GS GM) (hL : L ≤ 2048) (ht : t + 4 ≤ L) (hS : RelS S σ) (hM : RelM S μ) (K : ∀ (S' : St) (σ' μ' : MM), RelS S' σ' → RelM S' μ' → LJ p l e s m below meth c b GS GM σ' μ' (nI t) 981 []) : LJ p l e s m below meth c b GS GM σ μ (nI t) 854 [] := by
  obtain ⟨r, S', σ', μ', e1, e2, hS', hM'⟩ := al_wrongly hS hM (xs (t + 1)) (xs (t + 2)) (xs (t + 3))
  refine y_aload1 C dL_law_854 ?_
  refine y_arg (j := 1) C hL (by omega) dL_law_855 dL_law_856 dL_law_857 rfl dL_law_858 dL_law_859 ?_
  refine y_arg (j := 2) C hL (by omega) dL_law_860 dL_law_861 dL_law_862 rfl dL_law_863 dL_law_864 ?_
  refine y_arg (j := 3) C hL (by omega) dL_law_865 dL_law_866 dL_law_867 rfl dL_law_868 dL_law_869 ?_
  refine y_callS (na := 3) (As := [.int (xs (t + 1)), .int (xs (t + 2)), .int (xs (t + 3))]) (st := []) (res := some (.long r)) C (c_X6_wrongly GS (xs (t + 1)) (xs (t + 2)) (xs (t + 3)) σ r σ' e1) wq_864 wq_861 wq_862 wq_863 wq_2 rfl rfl (by decide) ⟨Nat.le_of_ble_eq_true rfl, Nat.le_of_ble_eq_true rfl⟩ rfl rfl (Nat.le_of_ble_eq_true rfl) dL_law_870 ?_
  refine y_aload2 C dL_law_873 ?_
  refine y_arg (j := 1) C hL (by omega) dL_law_874 dL_law_875 dL_law_876 rfl dL_law_877 dL_law_878 ?_
  refine y_arg (j := 2) C hL (by omega) dL_law_879 dL_law_880 dL_law_881 rfl dL_law_882 dL_law_883 ?_
  refine y_arg (j := 3) C hL (by omega) dL_law_884 dL_law_885 dL_law_886 rfl dL_law_887 dL_law_888 ?_
  refine y_callM (na := 3) (As := [.int (xs (t + 1)), .int (xs (t + 2)), .int (xs (t + 3))]) (st := [.long r]) (res := some (.long r)) C (c_X7_wrongly GM (xs (t + 1)) (xs (t + 2)) (xs (t + 3)) μ r μ' e2) wq_875 wq_872 wq_873 wq_874 wq_5 rfl rfl (by decide) ⟨Nat.le_of_ble_eq_true rfl, Nat.le_of_ble_eq_true rfl⟩ rfl rfl (Nat.le_of_ble_eq_true rfl) dL_law_889 ?_
  exact y_sameL C dL_law_892 dL_law_893 rfl (K _ _ _ hS' hM')
theorem lk_asked (C : LC p l s m meth c b L xs GS GM) (hL : L ≤ 2048) (ht : t + 4 ≤ L) (hS : RelS S σ) (hM : RelM S μ) (K : ∀ (S' : St) (σ' μ' : MM), RelS S' σ' → RelM S' μ' → LJ p l e s m below meth c b GS GM σ' μ' (nI t) 981 []) : LJ p l e s m below meth c b GS GM σ μ (nI t) 898 [] := by
  obtain ⟨r, S', σ', μ', e1, e2, hS', hM'⟩ := al_asked hS hM (xs (t + 1)) (xs (t + 2))
  refine y_aload1 C dL_law_898 ?_
  refine y_arg (j := 1) C hL (by omega) dL_law_899 dL_law_900 dL_law_901 rfl dL_law_902 dL_law_903 ?_
  refine y_arg (j := 2) C hL (by omega) dL_law_904 dL_law_905 dL_law_906 rfl dL_law_907 dL_law_908 ?_
  refine y_callS (na := 2) (As := [.int (xs (t + 1)), .int (xs (t + 2))]) (st := []) (res := some (.long r)) C (c_X6_asked GS (xs (t + 1)) (xs (t + 2)) σ r σ' e1) wq_883 wq_880 wq_881 wq_882 wq_2 rfl rfl (by decide) ⟨Nat.le_of_ble_eq_true rfl, Nat.le_of_ble_eq_true rfl⟩ rfl rfl (Nat.le_of_ble_eq_true rfl) dL_law_909 ?_
  refine y_aload2 C dL_law_912 ?_
  refine y_arg (j := 1) C hL (by omega) dL_law_913 dL_law_914 dL_law_915 rfl dL_law_916 dL_law_917 ?_
  refine y_arg (j := 2) C hL (by omega) dL_law_918 dL_law_919 dL_law_920 rfl dL_law_921 dL_law_922 ?_
  refine y_callM (na := 2) (As := [.int (xs (t + 1)), .int (xs (t + 2))]) (st := [.long r]) (res := some (.long r)) C (c_X7_asked GM (xs (t + 1)) (xs (t + 2)) μ r μ' e2) wq_897 wq_894 wq_895 wq_896 wq_5 rfl rfl (by decide) ⟨Nat.le_of_ble_eq_true rfl, Nat.le_of_ble_eq_true rfl⟩ rfl rfl (Nat.le_of_ble_eq_true rfl) dL_law_923 ?_
  exact y_sameL C dL_law_926 dL_law_927 rfl (K _ _ _ hS' hM')
theorem lk_image (C : LC p l s m meth c b L xs GS GM) (hL : L ≤ 2048) (ht : t + 4 ≤ L) (hS : RelS S σ) (hM : RelM S μ) (K : ∀ (S' : St) (σ' μ' : MM), RelS S' σ' → RelM S' μ' → LJ p l e s m below meth c b GS GM σ' μ' (nI t) 981 []) : LJ p l e s m below meth c b GS GM σ μ (nI t) 932 [] := by
  obtain ⟨r, S', σ', μ', e1, e2, hS', hM'⟩ := al_image hS hM
  refine y_aload1 C dL_law_932 ?_
  refine y_callS (na := 0) (As := []) (st := []) (res := some (.int r)) C (c_X6_image GS σ r σ' e1) wq_906 wq_903 wq_904 wq_905 wq_2 rfl rfl (by decide) ⟨Nat.le_of_ble_eq_true rfl, Nat.le_of_ble_eq_true rfl⟩ rfl rfl (Nat.le_of_ble_eq_true rfl) dL_law_933 ?_
  refine y_aload2 C dL_law_936 ?_
  refine y_callM (na := 0) (As := []) (st := [.int r]) (res := some (.int r)) C (c_X7_image GM μ r μ' e2) wq_918 wq_915 wq_916 wq_917 wq_5 rfl rfl (by decide) ⟨Nat.le_of_ble_eq_true rfl, Nat.le_of_ble_eq_true rfl⟩ rfl rfl (Nat.le_of_ble_eq_true rfl) dL_law_937 ?_
  exact y_same C dL_law_940 rfl (K _ _ _ hS' hM')
theorem lk_restore (C : LC p l s m meth c b L xs GS GM) (hL : L ≤ 2048) (ht : t + 4 ≤ L) (hS : RelS S σ) (hM : RelM S μ) (K : ∀ (S' : St) (σ' μ' : MM), RelS S' σ' → RelM S' μ' → LJ p l e s m below meth c b GS GM σ' μ' (nI t) 981 []) : LJ p l e s m below meth c b GS GM σ μ (nI t) 945 [] := by
  obtain ⟨r, S', σ', μ', e1, e2, hS', hM'⟩ := al_restore hS hM
  refine y_aload1 C dL_law_945 ?_
  refine y_callS (na := 0) (As := []) (st := []) (res := some (.int r)) C (c_X6_restore GS σ r σ' e1) wq_924 wq_921 wq_922 wq_923 wq_2 rfl rfl (by decide) ⟨Nat.le_of_ble_eq_true rfl, Nat.le_of_ble_eq_true rfl⟩ rfl rfl (Nat.le_of_ble_eq_true rfl) dL_law_946 ?_
  refine y_aload2 C dL_law_949 ?_
  refine y_callM (na := 0) (As := []) (st := [.int r]) (res := some (.int r)) C (c_X7_restore GM μ r μ' e2) wq_928 wq_925 wq_926 wq_927 wq_5 rfl rfl (by decide) ⟨Nat.le_of_ble_eq_true rfl, Nat.le_of_ble_eq_true rfl⟩ rfl rfl (Nat.le_of_ble_eq_true rfl) dL_law_950 ?_
  exact y_same C dL_law_953 rfl (K _ _ _ hS' hM')
theorem lk_count (C : LC p l s m meth c b L xs GS GM) (hL : L ≤ 2048) (ht : t + 4 ≤ L) (hS : RelS S σ) (hM : RelM S μ) (K : ∀ (S' : St) (σ' μ' : MM), RelS S' σ' → RelM S' μ' → LJ p l e s m below meth c b GS GM σ' μ' (nI t) 981 []) : LJ p l e s m below meth c b GS GM σ μ (nI t) 958 [] := by
  obtain ⟨r, e1, e2⟩ := al_count hS hM (xs (t + 1))
  have hS' := hS
  have hM' := hM
  refine y_aload1 C dL_law_958 ?_
  refine y_arg (j := 1) C hL (by omega) dL_law_959 dL_law_960 dL_law_961 rfl dL_law_962 dL_law_963 ?_
  refine y_callS (na := 1) (As := [.int (xs (t + 1))]) (st := []) (res := some (.int r)) C (c_X6_count GS (xs (t + 1)) σ r e1) wq_932 wq_929 wq_930 wq_931 wq_2 rfl rfl (by decide) ⟨Nat.le_of_ble_eq_true rfl, Nat.le_of_ble_eq_true rfl⟩ rfl rfl (Nat.le_of_ble_eq_true rfl) dL_law_964 ?_
  refine y_aload2 C dL_law_967 ?_
  refine y_arg (j := 1) C hL (by omega) dL_law_968 dL_law_969 dL_law_970 rfl dL_law_971 dL_law_972 ?_
  refine y_callM (na := 1) (As := [.int (xs (t + 1))]) (st := [.int r]) (res := some (.int r)) C (c_X7_count GM (xs (t + 1)) μ r e2) wq_936 wq_933 wq_934 wq_935 wq_5 rfl rfl (by decide) ⟨Nat.le_of_ble_eq_true rfl, Nat.le_of_ble_eq_true rfl⟩ rfl rfl (Nat.le_of_ble_eq_true rfl) dL_law_973 ?_
  exact y_same C dL_law_976 rfl (K _ _ _ hS' hM')
end LK
