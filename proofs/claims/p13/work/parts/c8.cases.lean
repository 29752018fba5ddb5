/-! the law's thirty cases, the class at S, the model at Z (written by genlaw.py) -/
section Cases
variable {p : Program} {l : Launch} {e : Env} {s : State} {m : MethodId} {below : List Frame} {meth : Method} {c : Code} {b L k : Nat} {xs : Nat → Int32} {g : mG} {h : mMem} {S Z : sS}
theorem la_c0 (C : lCx p l e s m below meth c b L xs g) (hL : L ≤ 2048) (hk : k + 4 ≤ L) (oK : sA S) (oM : sA Z) (eC : RC h S) (eM : RM h Z) (ok : mMok h) (nx : ∀ (h2 : mMem) (S2 Z2 : sS), sA S2 → sA Z2 → RC h2 S2 → RM h2 Z2 → mMok h2 → lGo p l e s m below meth c b g k h2 908 []) : lGo p l e s m below meth c b g k h 168 [] := by
  refine la_self C dL_168 ?_
  refine la_arg (j := 1) C hL (by omega) dL_169 dL_170 dL_171 dL_172 dL_173 ?_
  refine la_arg (j := 2) C hL (by omega) dL_174 dL_175 dL_176 dL_177 dL_178 ?_
  refine la_call (i := 13) (z := 336) (m' := n_K_net) (r := (8, 0)) (as := [.inl (xs (k + 1)).toInt, .inl (xs (k + 2)).toInt]) (rest := []) C dL_179 (by decide +kernel) (by decide +kernel) rfl rfl (Nat.le_of_ble_eq_true rfl) (la_ok (by decide +kernel) (la_args2 ((xs (k + 1)).toInt) ((xs (k + 2)).toInt))) ok (Nat.le_of_ble_eq_true rfl) (u_K_net h S oK eC ((xs (k + 1)).toInt) ((xs (k + 2)).toInt)) ?_
  rintro v h1 ⟨rfl, eC1, q1⟩ ok1
  have eM1 := RM_onlyC eM q1
  refine la_pop C dL_182 ?_
  show lGo p l e s m below meth c b g k h1 183 []
  refine la_twin C dL_183 ?_
  refine la_arg (j := 1) C hL (by omega) dL_184 dL_185 dL_186 dL_187 dL_188 ?_
  refine la_arg (j := 2) C hL (by omega) dL_189 dL_190 dL_191 dL_192 dL_193 ?_
  refine la_call (i := 17) (z := 977) (m' := n_M_net) (r := (9, 0)) (as := [.inl (xs (k + 1)).toInt, .inl (xs (k + 2)).toInt]) (rest := []) C dL_194 (by decide +kernel) (by decide +kernel) rfl rfl (Nat.le_of_ble_eq_true rfl) (la_ok (by decide +kernel) (la_args2 ((xs (k + 1)).toInt) ((xs (k + 2)).toInt))) ok1 (Nat.le_of_ble_eq_true rfl) (u_M_net h1 Z oM eM1 ((xs (k + 1)).toInt) ((xs (k + 2)).toInt)) ?_
  rintro v h2 ⟨rfl, eM2, q2⟩ ok2
  have eC2 := RC_onlyM eC1 q2
  refine la_pop C dL_197 ?_
  show lGo p l e s m below meth c b g k h2 198 []
  refine la_goto (tgt := 908) C dL_198 (by decide) ?_
  exact nx h2 _ _ (sA_net oK ((xs (k + 1)).toInt) ((xs (k + 2)).toInt)) (sA_net oM ((xs (k + 1)).toInt) ((xs (k + 2)).toInt)) eC2 eM2 ok2
theorem la_c1 (C : lCx p l e s m below meth c b L xs g) (hL : L ≤ 2048) (hk : k + 4 ≤ L) (oK : sA S) (oM : sA Z) (eC : RC h S) (eM : RM h Z) (ok : mMok h) (nx : ∀ (h2 : mMem) (S2 Z2 : sS), sA S2 → sA Z2 → RC h2 S2 → RM h2 Z2 → mMok h2 → lGo p l e s m below meth c b g k h2 908 []) : lGo p l e s m below meth c b g k h 201 [] := by
  refine la_self C dL_201 ?_
  refine la_arg (j := 1) C hL (by omega) dL_202 dL_203 dL_204 dL_205 dL_206 ?_
  refine la_arg (j := 2) C hL (by omega) dL_207 dL_208 dL_209 dL_210 dL_211 ?_
  refine la_arg (j := 3) C hL (by omega) dL_212 dL_213 dL_214 dL_215 dL_216 ?_
  refine la_call (i := 18) (z := 371) (m' := n_K_target) (r := (8, 0)) (as := [.inl (xs (k + 1)).toInt, .inl (xs (k + 2)).toInt, .inl (xs (k + 3)).toInt]) (rest := []) C dL_217 (by decide +kernel) (by decide +kernel) rfl rfl (Nat.le_of_ble_eq_true rfl) (la_ok (by decide +kernel) (la_args3 ((xs (k + 1)).toInt) ((xs (k + 2)).toInt) ((xs (k + 3)).toInt))) ok (Nat.le_of_ble_eq_true rfl) (u_K_target h S oK eC ((xs (k + 1)).toInt) ((xs (k + 2)).toInt) ((xs (k + 3)).toInt)) ?_
  rintro v h1 ⟨rfl, eC1, q1⟩ ok1
  have eM1 := RM_onlyC eM q1
  refine la_pop C dL_220 ?_
  show lGo p l e s m below meth c b g k h1 221 []
  refine la_twin C dL_221 ?_
  refine la_arg (j := 1) C hL (by omega) dL_222 dL_223 dL_224 dL_225 dL_226 ?_
  refine la_arg (j := 2) C hL (by omega) dL_227 dL_228 dL_229 dL_230 dL_231 ?_
  refine la_arg (j := 3) C hL (by omega) dL_232 dL_233 dL_234 dL_235 dL_236 ?_
  refine la_call (i := 22) (z := 992) (m' := n_M_target) (r := (9, 0)) (as := [.inl (xs (k + 1)).toInt, .inl (xs (k + 2)).toInt, .inl (xs (k + 3)).toInt]) (rest := []) C dL_237 (by decide +kernel) (by decide +kernel) rfl rfl (Nat.le_of_ble_eq_true rfl) (la_ok (by decide +kernel) (la_args3 ((xs (k + 1)).toInt) ((xs (k + 2)).toInt) ((xs (k + 3)).toInt))) ok1 (Nat.le_of_ble_eq_true rfl) (u_M_target h1 Z oM eM1 ((xs (k + 1)).toInt) ((xs (k + 2)).toInt) ((xs (k + 3)).toInt)) ?_
  rintro v h2 ⟨rfl, eM2, q2⟩ ok2
  have eC2 := RC_onlyM eC1 q2
  refine la_pop C dL_240 ?_
  show lGo p l e s m below meth c b g k h2 241 []
  refine la_goto (tgt := 908) C dL_241 (by decide) ?_
  exact nx h2 _ _ (sA_target oK ((xs (k + 1)).toInt) ((xs (k + 2)).toInt) ((xs (k + 3)).toInt)) (sA_target oM ((xs (k + 1)).toInt) ((xs (k + 2)).toInt) ((xs (k + 3)).toInt)) eC2 eM2 ok2
theorem la_c2 (C : lCx p l e s m below meth c b L xs g) (hL : L ≤ 2048) (hk : k + 4 ≤ L) (oK : sA S) (oM : sA Z) (eC : RC h S) (eM : RM h Z) (ok : mMok h) (nx : ∀ (h2 : mMem) (S2 Z2 : sS), sA S2 → sA Z2 → RC h2 S2 → RM h2 Z2 → mMok h2 → lGo p l e s m below meth c b g k h2 908 []) : lGo p l e s m below meth c b g k h 244 [] := by
  refine la_self C dL_244 ?_
  refine la_arg (j := 1) C hL (by omega) dL_245 dL_246 dL_247 dL_248 dL_249 ?_
  refine la_arg (j := 2) C hL (by omega) dL_250 dL_251 dL_252 dL_253 dL_254 ?_
  refine la_arg (j := 3) C hL (by omega) dL_255 dL_256 dL_257 dL_258 dL_259 ?_
  refine la_call (i := 23) (z := 383) (m' := n_K_paint) (r := (8, 0)) (as := [.inl (xs (k + 1)).toInt, .inl (xs (k + 2)).toInt, .inl (xs (k + 3)).toInt]) (rest := []) C dL_260 (by decide +kernel) (by decide +kernel) rfl rfl (Nat.le_of_ble_eq_true rfl) (la_ok (by decide +kernel) (la_args3 ((xs (k + 1)).toInt) ((xs (k + 2)).toInt) ((xs (k + 3)).toInt))) ok (Nat.le_of_ble_eq_true rfl) (u_K_paint h S oK eC ((xs (k + 1)).toInt) ((xs (k + 2)).toInt) ((xs (k + 3)).toInt)) ?_
  rintro v h1 ⟨rfl, eC1, q1⟩ ok1
  have eM1 := RM_onlyC eM q1
  refine la_pop C dL_263 ?_
  show lGo p l e s m below meth c b g k h1 264 []
  refine la_twin C dL_264 ?_
  refine la_arg (j := 1) C hL (by omega) dL_265 dL_266 dL_267 dL_268 dL_269 ?_
  refine la_arg (j := 2) C hL (by omega) dL_270 dL_271 dL_272 dL_273 dL_274 ?_
  refine la_arg (j := 3) C hL (by omega) dL_275 dL_276 dL_277 dL_278 dL_279 ?_
  refine la_call (i := 26) (z := 1003) (m' := n_M_paint) (r := (9, 0)) (as := [.inl (xs (k + 1)).toInt, .inl (xs (k + 2)).toInt, .inl (xs (k + 3)).toInt]) (rest := []) C dL_280 (by decide +kernel) (by decide +kernel) rfl rfl (Nat.le_of_ble_eq_true rfl) (la_ok (by decide +kernel) (la_args3 ((xs (k + 1)).toInt) ((xs (k + 2)).toInt) ((xs (k + 3)).toInt))) ok1 (Nat.le_of_ble_eq_true rfl) (u_M_paint h1 Z oM eM1 ((xs (k + 1)).toInt) ((xs (k + 2)).toInt) ((xs (k + 3)).toInt)) ?_
  rintro v h2 ⟨rfl, eM2, q2⟩ ok2
  have eC2 := RC_onlyM eC1 q2
  refine la_pop C dL_283 ?_
  show lGo p l e s m below meth c b g k h2 284 []
  refine la_goto (tgt := 908) C dL_284 (by decide) ?_
  exact nx h2 _ _ (sA_paint oK ((xs (k + 1)).toInt) ((xs (k + 2)).toInt) ((xs (k + 3)).toInt)) (sA_paint oM ((xs (k + 1)).toInt) ((xs (k + 2)).toInt) ((xs (k + 3)).toInt)) eC2 eM2 ok2
theorem la_c3 (C : lCx p l e s m below meth c b L xs g) (hL : L ≤ 2048) (hk : k + 4 ≤ L) (oK : sA S) (oM : sA Z) (eC : RC h S) (eM : RM h Z) (ok : mMok h) (nx : ∀ (h2 : mMem) (S2 Z2 : sS), sA S2 → sA Z2 → RC h2 S2 → RM h2 Z2 → mMok h2 → lGo p l e s m below meth c b g k h2 908 []) : lGo p l e s m below meth c b g k h 287 [] := by
  refine la_self C dL_287 ?_
  refine la_arg (j := 1) C hL (by omega) dL_288 dL_289 dL_290 dL_291 dL_292 ?_
  refine la_arg (j := 2) C hL (by omega) dL_293 dL_294 dL_295 dL_296 dL_297 ?_
  refine la_call (i := 27) (z := 415) (m' := n_K_colour) (r := (8, 0)) (as := [.inl (xs (k + 1)).toInt, .inl (xs (k + 2)).toInt]) (rest := []) C dL_298 (by decide +kernel) (by decide +kernel) rfl rfl (Nat.le_of_ble_eq_true rfl) (la_ok (by decide +kernel) (la_args2 ((xs (k + 1)).toInt) ((xs (k + 2)).toInt))) ok (Nat.le_of_ble_eq_true rfl) (u_K_colour h S oK eC ((xs (k + 1)).toInt) ((xs (k + 2)).toInt)) ?_
  rintro v h1 ⟨rfl, eC1, q1⟩ ok1
  have eM1 := RM_onlyC eM q1
  refine la_pop C dL_301 ?_
  show lGo p l e s m below meth c b g k h1 302 []
  refine la_twin C dL_302 ?_
  refine la_arg (j := 1) C hL (by omega) dL_303 dL_304 dL_305 dL_306 dL_307 ?_
  refine la_arg (j := 2) C hL (by omega) dL_308 dL_309 dL_310 dL_311 dL_312 ?_
  refine la_call (i := 30) (z := 1018) (m' := n_M_colour) (r := (9, 0)) (as := [.inl (xs (k + 1)).toInt, .inl (xs (k + 2)).toInt]) (rest := []) C dL_313 (by decide +kernel) (by decide +kernel) rfl rfl (Nat.le_of_ble_eq_true rfl) (la_ok (by decide +kernel) (la_args2 ((xs (k + 1)).toInt) ((xs (k + 2)).toInt))) ok1 (Nat.le_of_ble_eq_true rfl) (u_M_colour h1 Z oM eM1 ((xs (k + 1)).toInt) ((xs (k + 2)).toInt)) ?_
  rintro v h2 ⟨rfl, eM2, q2⟩ ok2
  have eC2 := RC_onlyM eC1 q2
  refine la_pop C dL_316 ?_
  show lGo p l e s m below meth c b g k h2 317 []
  refine la_goto (tgt := 908) C dL_317 (by decide) ?_
  exact nx h2 _ _ (oK) (oM) eC2 eM2 ok2
theorem la_c4 (C : lCx p l e s m below meth c b L xs g) (hL : L ≤ 2048) (hk : k + 4 ≤ L) (oK : sA S) (oM : sA Z) (eC : RC h S) (eM : RM h Z) (ok : mMok h) (nx : ∀ (h2 : mMem) (S2 Z2 : sS), sA S2 → sA Z2 → RC h2 S2 → RM h2 Z2 → mMok h2 → lGo p l e s m below meth c b g k h2 908 []) : lGo p l e s m below meth c b g k h 320 [] := by
  refine la_self C dL_320 ?_
  refine la_arg (j := 1) C hL (by omega) dL_321 dL_322 dL_323 dL_324 dL_325 ?_
  refine la_arg (j := 2) C hL (by omega) dL_326 dL_327 dL_328 dL_329 dL_330 ?_
  refine la_call (i := 31) (z := 419) (m' := n_K_aim) (r := (8, 0)) (as := [.inl (xs (k + 1)).toInt, .inl (xs (k + 2)).toInt]) (rest := []) C dL_331 (by decide +kernel) (by decide +kernel) rfl rfl (Nat.le_of_ble_eq_true rfl) (la_ok (by decide +kernel) (la_args2 ((xs (k + 1)).toInt) ((xs (k + 2)).toInt))) ok (Nat.le_of_ble_eq_true rfl) (u_K_aim h S oK eC ((xs (k + 1)).toInt) ((xs (k + 2)).toInt)) ?_
  rintro v h1 ⟨rfl, eC1, q1⟩ ok1
  have eM1 := RM_onlyC eM q1
  refine la_pop C dL_334 ?_
  show lGo p l e s m below meth c b g k h1 335 []
  refine la_twin C dL_335 ?_
  refine la_arg (j := 1) C hL (by omega) dL_336 dL_337 dL_338 dL_339 dL_340 ?_
  refine la_arg (j := 2) C hL (by omega) dL_341 dL_342 dL_343 dL_344 dL_345 ?_
  refine la_call (i := 34) (z := 1022) (m' := n_M_aim) (r := (9, 0)) (as := [.inl (xs (k + 1)).toInt, .inl (xs (k + 2)).toInt]) (rest := []) C dL_346 (by decide +kernel) (by decide +kernel) rfl rfl (Nat.le_of_ble_eq_true rfl) (la_ok (by decide +kernel) (la_args2 ((xs (k + 1)).toInt) ((xs (k + 2)).toInt))) ok1 (Nat.le_of_ble_eq_true rfl) (u_M_aim h1 Z oM eM1 ((xs (k + 1)).toInt) ((xs (k + 2)).toInt)) ?_
  rintro v h2 ⟨rfl, eM2, q2⟩ ok2
  have eC2 := RC_onlyM eC1 q2
  refine la_pop C dL_349 ?_
  show lGo p l e s m below meth c b g k h2 350 []
  refine la_goto (tgt := 908) C dL_350 (by decide) ?_
  exact nx h2 _ _ (oK) (oM) eC2 eM2 ok2
theorem la_c5 (C : lCx p l e s m below meth c b L xs g) (hL : L ≤ 2048) (hk : k + 4 ≤ L) (oK : sA S) (oM : sA Z) (eC : RC h S) (eM : RM h Z) (ok : mMok h) (nx : ∀ (h2 : mMem) (S2 Z2 : sS), sA S2 → sA Z2 → RC h2 S2 → RM h2 Z2 → mMok h2 → lGo p l e s m below meth c b g k h2 908 []) : lGo p l e s m below meth c b g k h 353 [] := by
  refine la_self C dL_353 ?_
  refine la_arg (j := 1) C hL (by omega) dL_354 dL_355 dL_356 dL_357 dL_358 ?_
  refine la_arg (j := 2) C hL (by omega) dL_359 dL_360 dL_361 dL_362 dL_363 ?_
  refine la_call (i := 35) (z := 423) (m' := n_K_isOf) (r := (8, 0)) (as := [.inl (xs (k + 1)).toInt, .inl (xs (k + 2)).toInt]) (rest := []) C dL_364 (by decide +kernel) (by decide +kernel) rfl rfl (Nat.le_of_ble_eq_true rfl) (la_ok (by decide +kernel) (la_args2 ((xs (k + 1)).toInt) ((xs (k + 2)).toInt))) ok (Nat.le_of_ble_eq_true rfl) (u_K_isOf h S oK eC ((xs (k + 1)).toInt) ((xs (k + 2)).toInt)) ?_
  rintro v h1 ⟨rfl, eC1, q1⟩ ok1
  have eM1 := RM_onlyC eM q1
  refine la_pop C dL_367 ?_
  show lGo p l e s m below meth c b g k h1 368 []
  refine la_twin C dL_368 ?_
  refine la_arg (j := 1) C hL (by omega) dL_369 dL_370 dL_371 dL_372 dL_373 ?_
  refine la_arg (j := 2) C hL (by omega) dL_374 dL_375 dL_376 dL_377 dL_378 ?_
  refine la_call (i := 38) (z := 1026) (m' := n_M_isOf) (r := (9, 0)) (as := [.inl (xs (k + 1)).toInt, .inl (xs (k + 2)).toInt]) (rest := []) C dL_379 (by decide +kernel) (by decide +kernel) rfl rfl (Nat.le_of_ble_eq_true rfl) (la_ok (by decide +kernel) (la_args2 ((xs (k + 1)).toInt) ((xs (k + 2)).toInt))) ok1 (Nat.le_of_ble_eq_true rfl) (u_M_isOf h1 Z oM eM1 ((xs (k + 1)).toInt) ((xs (k + 2)).toInt)) ?_
  rintro v h2 ⟨rfl, eM2, q2⟩ ok2
  have eC2 := RC_onlyM eC1 q2
  refine la_pop C dL_382 ?_
  show lGo p l e s m below meth c b g k h2 383 []
  refine la_goto (tgt := 908) C dL_383 (by decide) ?_
  exact nx h2 _ _ (oK) (oM) eC2 eM2 ok2
theorem la_c6 (C : lCx p l e s m below meth c b L xs g) (hL : L ≤ 2048) (hk : k + 4 ≤ L) (oK : sA S) (oM : sA Z) (eC : RC h S) (eM : RM h Z) (ok : mMok h) (nx : ∀ (h2 : mMem) (S2 Z2 : sS), sA S2 → sA Z2 → RC h2 S2 → RM h2 Z2 → mMok h2 → lGo p l e s m below meth c b g k h2 908 []) : lGo p l e s m below meth c b g k h 386 [] := by
  refine la_self C dL_386 ?_
  refine la_call (i := 39) (z := 427) (m' := n_K_clear) (r := (8, 0)) (as := []) (rest := []) C dL_387 (by decide +kernel) (by decide +kernel) rfl rfl (Nat.le_of_ble_eq_true rfl) (la_ok (by decide +kernel) (la_args0 )) ok (Nat.le_of_ble_eq_true rfl) (u_K_clear h S oK eC ) ?_
  rintro v h1 ⟨rfl, eC1, q1⟩ ok1
  have eM1 := RM_onlyC eM q1
  refine la_pop C dL_390 ?_
  show lGo p l e s m below meth c b g k h1 391 []
  refine la_twin C dL_391 ?_
  refine la_call (i := 43) (z := 1030) (m' := n_M_clear) (r := (9, 0)) (as := []) (rest := []) C dL_392 (by decide +kernel) (by decide +kernel) rfl rfl (Nat.le_of_ble_eq_true rfl) (la_ok (by decide +kernel) (la_args0 )) ok1 (Nat.le_of_ble_eq_true rfl) (u_M_clear h1 Z oM eM1 ) ?_
  rintro v h2 ⟨rfl, eM2, q2⟩ ok2
  have eC2 := RC_onlyM eC1 q2
  refine la_pop C dL_395 ?_
  show lGo p l e s m below meth c b g k h2 396 []
  refine la_goto (tgt := 908) C dL_396 (by decide) ?_
  exact nx h2 _ _ (oK) (oM) eC2 eM2 ok2
theorem la_c7 (C : lCx p l e s m below meth c b L xs g) (hL : L ≤ 2048) (hk : k + 4 ≤ L) (oK : sA S) (oM : sA Z) (eC : RC h S) (eM : RM h Z) (ok : mMok h) (nx : ∀ (h2 : mMem) (S2 Z2 : sS), sA S2 → sA Z2 → RC h2 S2 → RM h2 Z2 → mMok h2 → lGo p l e s m below meth c b g k h2 908 []) : lGo p l e s m below meth c b g k h 399 [] := by
  refine la_self C dL_399 ?_
  refine la_arg (j := 1) C hL (by omega) dL_400 dL_401 dL_402 dL_403 dL_404 ?_
  refine la_call (i := 44) (z := 476) (m' := n_K_copies) (r := (8, 0)) (as := [.inl (xs (k + 1)).toInt]) (rest := []) C dL_405 (by decide +kernel) (by decide +kernel) rfl rfl (Nat.le_of_ble_eq_true rfl) (la_ok (by decide +kernel) (la_args1 ((xs (k + 1)).toInt))) ok (Nat.le_of_ble_eq_true rfl) (u_K_copies h S oK eC ((xs (k + 1)).toInt)) ?_
  rintro v h1 ⟨rfl, eC1, q1⟩ ok1
  have eM1 := RM_onlyC eM q1
  refine la_pop C dL_408 ?_
  show lGo p l e s m below meth c b g k h1 409 []
  refine la_twin C dL_409 ?_
  refine la_arg (j := 1) C hL (by omega) dL_410 dL_411 dL_412 dL_413 dL_414 ?_
  refine la_call (i := 48) (z := 1070) (m' := n_M_copies) (r := (9, 0)) (as := [.inl (xs (k + 1)).toInt]) (rest := []) C dL_415 (by decide +kernel) (by decide +kernel) rfl rfl (Nat.le_of_ble_eq_true rfl) (la_ok (by decide +kernel) (la_args1 ((xs (k + 1)).toInt))) ok1 (Nat.le_of_ble_eq_true rfl) (u_M_copies h1 Z oM eM1 ((xs (k + 1)).toInt)) ?_
  rintro v h2 ⟨rfl, eM2, q2⟩ ok2
  have eC2 := RC_onlyM eC1 q2
  refine la_pop C dL_418 ?_
  show lGo p l e s m below meth c b g k h2 419 []
  refine la_goto (tgt := 908) C dL_419 (by decide) ?_
  exact nx h2 _ _ (oK) (oM) eC2 eM2 ok2
theorem la_c8 (C : lCx p l e s m below meth c b L xs g) (hL : L ≤ 2048) (hk : k + 4 ≤ L) (oK : sA S) (oM : sA Z) (eC : RC h S) (eM : RM h Z) (ok : mMok h) (nx : ∀ (h2 : mMem) (S2 Z2 : sS), sA S2 → sA Z2 → RC h2 S2 → RM h2 Z2 → mMok h2 → lGo p l e s m below meth c b g k h2 908 []) : lGo p l e s m below meth c b g k h 422 [] := by
  refine la_self C dL_422 ?_
  refine la_arg (j := 1) C hL (by omega) dL_423 dL_424 dL_425 dL_426 dL_427 ?_
  refine la_arg (j := 2) C hL (by omega) dL_428 dL_429 dL_430 dL_431 dL_432 ?_
  refine la_call (i := 49) (z := 497) (m' := n_K_copy) (r := (8, 0)) (as := [.inl (xs (k + 1)).toInt, .inl (xs (k + 2)).toInt]) (rest := []) C dL_433 (by decide +kernel) (by decide +kernel) rfl rfl (Nat.le_of_ble_eq_true rfl) (la_ok (by decide +kernel) (la_args2 ((xs (k + 1)).toInt) ((xs (k + 2)).toInt))) ok (Nat.le_of_ble_eq_true rfl) (u_K_copy h S oK eC ((xs (k + 1)).toInt) ((xs (k + 2)).toInt)) ?_
  rintro v h1 ⟨rfl, eC1, q1⟩ ok1
  have eM1 := RM_onlyC eM q1
  refine la_pop C dL_436 ?_
  show lGo p l e s m below meth c b g k h1 437 []
  refine la_twin C dL_437 ?_
  refine la_arg (j := 1) C hL (by omega) dL_438 dL_439 dL_440 dL_441 dL_442 ?_
  refine la_arg (j := 2) C hL (by omega) dL_443 dL_444 dL_445 dL_446 dL_447 ?_
  refine la_call (i := 52) (z := 1078) (m' := n_M_copy) (r := (9, 0)) (as := [.inl (xs (k + 1)).toInt, .inl (xs (k + 2)).toInt]) (rest := []) C dL_448 (by decide +kernel) (by decide +kernel) rfl rfl (Nat.le_of_ble_eq_true rfl) (la_ok (by decide +kernel) (la_args2 ((xs (k + 1)).toInt) ((xs (k + 2)).toInt))) ok1 (Nat.le_of_ble_eq_true rfl) (u_M_copy h1 Z oM eM1 ((xs (k + 1)).toInt) ((xs (k + 2)).toInt)) ?_
  rintro v h2 ⟨rfl, eM2, q2⟩ ok2
  have eC2 := RC_onlyM eC1 q2
  refine la_pop C dL_451 ?_
  show lGo p l e s m below meth c b g k h2 452 []
  refine la_goto (tgt := 908) C dL_452 (by decide) ?_
  exact nx h2 _ _ (oK) (oM) eC2 eM2 ok2
theorem la_c9 (C : lCx p l e s m below meth c b L xs g) (hL : L ≤ 2048) (hk : k + 4 ≤ L) (oK : sA S) (oM : sA Z) (eC : RC h S) (eM : RM h Z) (ok : mMok h) (nx : ∀ (h2 : mMem) (S2 Z2 : sS), sA S2 → sA Z2 → RC h2 S2 → RM h2 Z2 → mMok h2 → lGo p l e s m below meth c b g k h2 908 []) : lGo p l e s m below meth c b g k h 455 [] := by
  refine la_self C dL_455 ?_
  refine la_arg (j := 1) C hL (by omega) dL_456 dL_457 dL_458 dL_459 dL_460 ?_
  refine la_arg (j := 2) C hL (by omega) dL_461 dL_462 dL_463 dL_464 dL_465 ?_
  refine la_call (i := 53) (z := 503) (m' := n_K_degree) (r := (8, 0)) (as := [.inl (xs (k + 1)).toInt, .inl (xs (k + 2)).toInt]) (rest := []) C dL_466 (by decide +kernel) (by decide +kernel) rfl rfl (Nat.le_of_ble_eq_true rfl) (la_ok (by decide +kernel) (la_args2 ((xs (k + 1)).toInt) ((xs (k + 2)).toInt))) ok (Nat.le_of_ble_eq_true rfl) (u_K_degree h S oK eC ((xs (k + 1)).toInt) ((xs (k + 2)).toInt)) ?_
  rintro v h1 ⟨rfl, eC1, q1⟩ ok1
  have eM1 := RM_onlyC eM q1
  refine la_pop C dL_469 ?_
  show lGo p l e s m below meth c b g k h1 470 []
  refine la_twin C dL_470 ?_
  refine la_arg (j := 1) C hL (by omega) dL_471 dL_472 dL_473 dL_474 dL_475 ?_
  refine la_arg (j := 2) C hL (by omega) dL_476 dL_477 dL_478 dL_479 dL_480 ?_
  refine la_call (i := 56) (z := 1083) (m' := n_M_degree) (r := (9, 0)) (as := [.inl (xs (k + 1)).toInt, .inl (xs (k + 2)).toInt]) (rest := []) C dL_481 (by decide +kernel) (by decide +kernel) rfl rfl (Nat.le_of_ble_eq_true rfl) (la_ok (by decide +kernel) (la_args2 ((xs (k + 1)).toInt) ((xs (k + 2)).toInt))) ok1 (Nat.le_of_ble_eq_true rfl) (u_M_degree h1 Z oM eM1 ((xs (k + 1)).toInt) ((xs (k + 2)).toInt)) ?_
  rintro v h2 ⟨rfl, eM2, q2⟩ ok2
  have eC2 := RC_onlyM eC1 q2
  refine la_pop C dL_484 ?_
  show lGo p l e s m below meth c b g k h2 485 []
  refine la_goto (tgt := 908) C dL_485 (by decide) ?_
  exact nx h2 _ _ (oK) (oM) eC2 eM2 ok2
theorem la_c10 (C : lCx p l e s m below meth c b L xs g) (hL : L ≤ 2048) (hk : k + 4 ≤ L) (oK : sA S) (oM : sA Z) (eC : RC h S) (eM : RM h Z) (ok : mMok h) (nx : ∀ (h2 : mMem) (S2 Z2 : sS), sA S2 → sA Z2 → RC h2 S2 → RM h2 Z2 → mMok h2 → lGo p l e s m below meth c b g k h2 908 []) : lGo p l e s m below meth c b g k h 488 [] := by
  refine la_self C dL_488 ?_
  refine la_call (i := 57) (z := 508) (m' := n_K_triangles) (r := (8, 0)) (as := []) (rest := []) C dL_489 (by decide +kernel) (by decide +kernel) rfl rfl (Nat.le_of_ble_eq_true rfl) (la_ok (by decide +kernel) (la_args0 )) ok (Nat.le_of_ble_eq_true rfl) (u_K_triangles h S oK eC ) ?_
  rintro v h1 ⟨rfl, eC1, q1⟩ ok1
  have eM1 := RM_onlyC eM q1
  refine la_pop C dL_492 ?_
  show lGo p l e s m below meth c b g k h1 493 []
  refine la_twin C dL_493 ?_
  refine la_call (i := 60) (z := 1087) (m' := n_M_triangles) (r := (9, 0)) (as := []) (rest := []) C dL_494 (by decide +kernel) (by decide +kernel) rfl rfl (Nat.le_of_ble_eq_true rfl) (la_ok (by decide +kernel) (la_args0 )) ok1 (Nat.le_of_ble_eq_true rfl) (u_M_triangles h1 Z oM eM1 ) ?_
  rintro v h2 ⟨rfl, eM2, q2⟩ ok2
  have eC2 := RC_onlyM eC1 q2
  refine la_pop C dL_497 ?_
  show lGo p l e s m below meth c b g k h2 498 []
  refine la_goto (tgt := 908) C dL_498 (by decide) ?_
  exact nx h2 _ _ (oK) (oM) eC2 eM2 ok2
theorem la_c11 (C : lCx p l e s m below meth c b L xs g) (hL : L ≤ 2048) (hk : k + 4 ≤ L) (oK : sA S) (oM : sA Z) (eC : RC h S) (eM : RM h Z) (ok : mMok h) (nx : ∀ (h2 : mMem) (S2 Z2 : sS), sA S2 → sA Z2 → RC h2 S2 → RM h2 Z2 → mMok h2 → lGo p l e s m below meth c b g k h2 908 []) : lGo p l e s m below meth c b g k h 501 [] := by
  refine la_self C dL_501 ?_
  refine la_arg (j := 1) C hL (by omega) dL_502 dL_503 dL_504 dL_505 dL_506 ?_
  refine la_call (i := 61) (z := 514) (m' := n_K_least) (r := (8, 0)) (as := [.inl (xs (k + 1)).toInt]) (rest := []) C dL_507 (by decide +kernel) (by decide +kernel) rfl rfl (Nat.le_of_ble_eq_true rfl) (la_ok (by decide +kernel) (la_args1 ((xs (k + 1)).toInt))) ok (Nat.le_of_ble_eq_true rfl) (u_K_least h S oK eC ((xs (k + 1)).toInt)) ?_
  rintro v h1 ⟨rfl, eC1, q1⟩ ok1
  have eM1 := RM_onlyC eM q1
  refine la_twin C dL_510 ?_
  refine la_arg (j := 1) C hL (by omega) dL_511 dL_512 dL_513 dL_514 dL_515 ?_
  refine la_call (i := 64) (z := 1091) (m' := n_M_least) (r := (9, 0)) (as := [.inl (xs (k + 1)).toInt]) (rest := [_]) C dL_516 (by decide +kernel) (by decide +kernel) rfl rfl (Nat.le_of_ble_eq_true rfl) (la_ok (by decide +kernel) (la_args1 ((xs (k + 1)).toInt))) ok1 (Nat.le_of_ble_eq_true rfl) (u_M_least h1 Z oM eM1 ((xs (k + 1)).toInt)) ?_
  rintro v h2 ⟨rfl, eM2, q2⟩ ok2
  have eC2 := RC_onlyM eC1 q2
  exact la_eq C dL_519 (by decide) (nx h2 _ _ (oK) (oM) eC2 eM2 ok2)
theorem la_c12 (C : lCx p l e s m below meth c b L xs g) (hL : L ≤ 2048) (hk : k + 4 ≤ L) (oK : sA S) (oM : sA Z) (eC : RC h S) (eM : RM h Z) (ok : mMok h) (nx : ∀ (h2 : mMem) (S2 Z2 : sS), sA S2 → sA Z2 → RC h2 S2 → RM h2 Z2 → mMok h2 → lGo p l e s m below meth c b g k h2 908 []) : lGo p l e s m below meth c b g k h 524 [] := by
  refine la_self C dL_524 ?_
  refine la_arg (j := 1) C hL (by omega) dL_525 dL_526 dL_527 dL_528 dL_529 ?_
  refine la_call (i := 65) (z := 518) (m' := n_K_turned) (r := (8, 0)) (as := [.inl (xs (k + 1)).toInt]) (rest := []) C dL_530 (by decide +kernel) (by decide +kernel) rfl rfl (Nat.le_of_ble_eq_true rfl) (la_ok (by decide +kernel) (la_args1 ((xs (k + 1)).toInt))) ok (Nat.le_of_ble_eq_true rfl) (u_K_turned h S oK eC ((xs (k + 1)).toInt)) ?_
  rintro v h1 ⟨rfl, eC1, q1⟩ ok1
  have eM1 := RM_onlyC eM q1
  refine la_pop C dL_533 ?_
  show lGo p l e s m below meth c b g k h1 534 []
  refine la_twin C dL_534 ?_
  refine la_arg (j := 1) C hL (by omega) dL_535 dL_536 dL_537 dL_538 dL_539 ?_
  refine la_call (i := 68) (z := 1095) (m' := n_M_turned) (r := (9, 0)) (as := [.inl (xs (k + 1)).toInt]) (rest := []) C dL_540 (by decide +kernel) (by decide +kernel) rfl rfl (Nat.le_of_ble_eq_true rfl) (la_ok (by decide +kernel) (la_args1 ((xs (k + 1)).toInt))) ok1 (Nat.le_of_ble_eq_true rfl) (u_M_turned h1 Z oM eM1 ((xs (k + 1)).toInt)) ?_
  rintro v h2 ⟨rfl, eM2, q2⟩ ok2
  have eC2 := RC_onlyM eC1 q2
  refine la_pop C dL_543 ?_
  show lGo p l e s m below meth c b g k h2 544 []
  refine la_goto (tgt := 908) C dL_544 (by decide) ?_
  exact nx h2 _ _ (sA_turned oK ((xs (k + 1)).toInt)) (sA_turned oM ((xs (k + 1)).toInt)) eC2 eM2 ok2
theorem la_c13 (C : lCx p l e s m below meth c b L xs g) (hL : L ≤ 2048) (hk : k + 4 ≤ L) (oK : sA S) (oM : sA Z) (eC : RC h S) (eM : RM h Z) (ok : mMok h) (nx : ∀ (h2 : mMem) (S2 Z2 : sS), sA S2 → sA Z2 → RC h2 S2 → RM h2 Z2 → mMok h2 → lGo p l e s m below meth c b g k h2 908 []) : lGo p l e s m below meth c b g k h 547 [] := by
  refine la_self C dL_547 ?_
  refine la_arg (j := 1) C hL (by omega) dL_548 dL_549 dL_550 dL_551 dL_552 ?_
  refine la_call (i := 69) (z := 542) (m' := n_K_turns) (r := (8, 0)) (as := [.inl (xs (k + 1)).toInt]) (rest := []) C dL_553 (by decide +kernel) (by decide +kernel) rfl rfl (Nat.le_of_ble_eq_true rfl) (la_ok (by decide +kernel) (la_args1 ((xs (k + 1)).toInt))) ok (Nat.le_of_ble_eq_true rfl) (u_K_turns h S oK eC ((xs (k + 1)).toInt)) ?_
  rintro v h1 ⟨rfl, eC1, q1⟩ ok1
  have eM1 := RM_onlyC eM q1
  refine la_pop C dL_556 ?_
  show lGo p l e s m below meth c b g k h1 557 []
  refine la_twin C dL_557 ?_
  refine la_arg (j := 1) C hL (by omega) dL_558 dL_559 dL_560 dL_561 dL_562 ?_
  refine la_call (i := 72) (z := 1110) (m' := n_M_turns) (r := (9, 0)) (as := [.inl (xs (k + 1)).toInt]) (rest := []) C dL_563 (by decide +kernel) (by decide +kernel) rfl rfl (Nat.le_of_ble_eq_true rfl) (la_ok (by decide +kernel) (la_args1 ((xs (k + 1)).toInt))) ok1 (Nat.le_of_ble_eq_true rfl) (u_M_turns h1 Z oM eM1 ((xs (k + 1)).toInt)) ?_
  rintro v h2 ⟨rfl, eM2, q2⟩ ok2
  have eC2 := RC_onlyM eC1 q2
  refine la_pop C dL_566 ?_
  show lGo p l e s m below meth c b g k h2 567 []
  refine la_goto (tgt := 908) C dL_567 (by decide) ?_
  exact nx h2 _ _ (oK) (oM) eC2 eM2 ok2
theorem la_c14 (C : lCx p l e s m below meth c b L xs g) (hL : L ≤ 2048) (hk : k + 4 ≤ L) (oK : sA S) (oM : sA Z) (eC : RC h S) (eM : RM h Z) (ok : mMok h) (nx : ∀ (h2 : mMem) (S2 Z2 : sS), sA S2 → sA Z2 → RC h2 S2 → RM h2 Z2 → mMok h2 → lGo p l e s m below meth c b g k h2 908 []) : lGo p l e s m below meth c b g k h 570 [] := by
  refine la_self C dL_570 ?_
  refine la_arg (j := 1) C hL (by omega) dL_571 dL_572 dL_573 dL_574 dL_575 ?_
  refine la_arg (j := 2) C hL (by omega) dL_576 dL_577 dL_578 dL_579 dL_580 ?_
  refine la_call (i := 73) (z := 547) (m' := n_K_list) (r := (8, 0)) (as := [.inl (xs (k + 1)).toInt, .inl (xs (k + 2)).toInt]) (rest := []) C dL_581 (by decide +kernel) (by decide +kernel) rfl rfl (Nat.le_of_ble_eq_true rfl) (la_ok (by decide +kernel) (la_args2 ((xs (k + 1)).toInt) ((xs (k + 2)).toInt))) ok (Nat.le_of_ble_eq_true rfl) (u_K_list h S oK eC ((xs (k + 1)).toInt) ((xs (k + 2)).toInt)) ?_
  rintro v h1 ⟨rfl, eC1, q1⟩ ok1
  have eM1 := RM_onlyC eM q1
  refine la_pop C dL_584 ?_
  show lGo p l e s m below meth c b g k h1 585 []
  refine la_twin C dL_585 ?_
  refine la_arg (j := 1) C hL (by omega) dL_586 dL_587 dL_588 dL_589 dL_590 ?_
  refine la_arg (j := 2) C hL (by omega) dL_591 dL_592 dL_593 dL_594 dL_595 ?_
  refine la_call (i := 76) (z := 1122) (m' := n_M_list) (r := (9, 0)) (as := [.inl (xs (k + 1)).toInt, .inl (xs (k + 2)).toInt]) (rest := []) C dL_596 (by decide +kernel) (by decide +kernel) rfl rfl (Nat.le_of_ble_eq_true rfl) (la_ok (by decide +kernel) (la_args2 ((xs (k + 1)).toInt) ((xs (k + 2)).toInt))) ok1 (Nat.le_of_ble_eq_true rfl) (u_M_list h1 Z oM eM1 ((xs (k + 1)).toInt) ((xs (k + 2)).toInt)) ?_
  rintro v h2 ⟨rfl, eM2, q2⟩ ok2
  have eC2 := RC_onlyM eC1 q2
  refine la_pop C dL_599 ?_
  show lGo p l e s m below meth c b g k h2 600 []
  refine la_goto (tgt := 908) C dL_600 (by decide) ?_
  exact nx h2 _ _ (oK) (oM) eC2 eM2 ok2
theorem la_c15 (C : lCx p l e s m below meth c b L xs g) (hL : L ≤ 2048) (hk : k + 4 ≤ L) (oK : sA S) (oM : sA Z) (eC : RC h S) (eM : RM h Z) (ok : mMok h) (nx : ∀ (h2 : mMem) (S2 Z2 : sS), sA S2 → sA Z2 → RC h2 S2 → RM h2 Z2 → mMok h2 → lGo p l e s m below meth c b g k h2 908 []) : lGo p l e s m below meth c b g k h 603 [] := by
  refine la_self C dL_603 ?_
  refine la_arg (j := 1) C hL (by omega) dL_604 dL_605 dL_606 dL_607 dL_608 ?_
  refine la_arg (j := 2) C hL (by omega) dL_609 dL_610 dL_611 dL_612 dL_613 ?_
  refine la_call (i := 77) (z := 671) (m' := n_K_listed) (r := (8, 0)) (as := [.inl (xs (k + 1)).toInt, .inl (xs (k + 2)).toInt]) (rest := []) C dL_614 (by decide +kernel) (by decide +kernel) rfl rfl (Nat.le_of_ble_eq_true rfl) (la_ok (by decide +kernel) (la_args2 ((xs (k + 1)).toInt) ((xs (k + 2)).toInt))) ok (Nat.le_of_ble_eq_true rfl) (u_K_listed h S oK eC ((xs (k + 1)).toInt) ((xs (k + 2)).toInt)) ?_
  rintro v h1 ⟨rfl, eC1, q1⟩ ok1
  have eM1 := RM_onlyC eM q1
  refine la_pop C dL_617 ?_
  show lGo p l e s m below meth c b g k h1 618 []
  refine la_twin C dL_618 ?_
  refine la_arg (j := 1) C hL (by omega) dL_619 dL_620 dL_621 dL_622 dL_623 ?_
  refine la_arg (j := 2) C hL (by omega) dL_624 dL_625 dL_626 dL_627 dL_628 ?_
  refine la_call (i := 80) (z := 1151) (m' := n_M_listed) (r := (9, 0)) (as := [.inl (xs (k + 1)).toInt, .inl (xs (k + 2)).toInt]) (rest := []) C dL_629 (by decide +kernel) (by decide +kernel) rfl rfl (Nat.le_of_ble_eq_true rfl) (la_ok (by decide +kernel) (la_args2 ((xs (k + 1)).toInt) ((xs (k + 2)).toInt))) ok1 (Nat.le_of_ble_eq_true rfl) (u_M_listed h1 Z oM eM1 ((xs (k + 1)).toInt) ((xs (k + 2)).toInt)) ?_
  rintro v h2 ⟨rfl, eM2, q2⟩ ok2
  have eC2 := RC_onlyM eC1 q2
  refine la_pop C dL_632 ?_
  show lGo p l e s m below meth c b g k h2 633 []
  refine la_goto (tgt := 908) C dL_633 (by decide) ?_
  exact nx h2 _ _ (sA_listedK oK ((xs (k + 1)).toInt) ((xs (k + 2)).toInt)) (sA_listed oM ((xs (k + 1)).toInt) ((xs (k + 2)).toInt)) eC2 eM2 ok2
theorem la_c16 (C : lCx p l e s m below meth c b L xs g) (hL : L ≤ 2048) (hk : k + 4 ≤ L) (oK : sA S) (oM : sA Z) (eC : RC h S) (eM : RM h Z) (ok : mMok h) (nx : ∀ (h2 : mMem) (S2 Z2 : sS), sA S2 → sA Z2 → RC h2 S2 → RM h2 Z2 → mMok h2 → lGo p l e s m below meth c b g k h2 908 []) : lGo p l e s m below meth c b g k h 636 [] := by
  refine la_self C dL_636 ?_
  refine la_arg (j := 1) C hL (by omega) dL_637 dL_638 dL_639 dL_640 dL_641 ?_
  refine la_call (i := 81) (z := 683) (m' := n_K_form) (r := (8, 0)) (as := [.inl (xs (k + 1)).toInt]) (rest := []) C dL_642 (by decide +kernel) (by decide +kernel) rfl rfl (Nat.le_of_ble_eq_true rfl) (la_ok (by decide +kernel) (la_args1 ((xs (k + 1)).toInt))) ok (Nat.le_of_ble_eq_true rfl) (u_K_form h S oK eC ((xs (k + 1)).toInt)) ?_
  rintro v h1 ⟨rfl, eC1, q1⟩ ok1
  have eM1 := RM_onlyC eM q1
  refine la_pop C dL_645 ?_
  show lGo p l e s m below meth c b g k h1 646 []
  refine la_twin C dL_646 ?_
  refine la_arg (j := 1) C hL (by omega) dL_647 dL_648 dL_649 dL_650 dL_651 ?_
  refine la_call (i := 84) (z := 1155) (m' := n_M_form) (r := (9, 0)) (as := [.inl (xs (k + 1)).toInt]) (rest := []) C dL_652 (by decide +kernel) (by decide +kernel) rfl rfl (Nat.le_of_ble_eq_true rfl) (la_ok (by decide +kernel) (la_args1 ((xs (k + 1)).toInt))) ok1 (Nat.le_of_ble_eq_true rfl) (u_M_form h1 Z oM eM1 ((xs (k + 1)).toInt)) ?_
  rintro v h2 ⟨rfl, eM2, q2⟩ ok2
  have eC2 := RC_onlyM eC1 q2
  refine la_pop C dL_655 ?_
  show lGo p l e s m below meth c b g k h2 656 []
  refine la_goto (tgt := 908) C dL_656 (by decide) ?_
  exact nx h2 _ _ (oK) (oM) eC2 eM2 ok2
theorem la_c17 (C : lCx p l e s m below meth c b L xs g) (hL : L ≤ 2048) (hk : k + 4 ≤ L) (oK : sA S) (oM : sA Z) (eC : RC h S) (eM : RM h Z) (ok : mMok h) (nx : ∀ (h2 : mMem) (S2 Z2 : sS), sA S2 → sA Z2 → RC h2 S2 → RM h2 Z2 → mMok h2 → lGo p l e s m below meth c b g k h2 908 []) : lGo p l e s m below meth c b g k h 659 [] := by
  refine la_self C dL_659 ?_
  refine la_call (i := 85) (z := 691) (m' := n_K_same) (r := (8, 0)) (as := []) (rest := []) C dL_660 (by decide +kernel) (by decide +kernel) rfl rfl (Nat.le_of_ble_eq_true rfl) (la_ok (by decide +kernel) (la_args0 )) ok (Nat.le_of_ble_eq_true rfl) (u_K_same h S oK eC ) ?_
  rintro v h1 ⟨rfl, eC1, q1⟩ ok1
  have eM1 := RM_onlyC eM q1
  refine la_pop C dL_663 ?_
  show lGo p l e s m below meth c b g k h1 664 []
  refine la_twin C dL_664 ?_
  refine la_call (i := 88) (z := 1171) (m' := n_M_same) (r := (9, 0)) (as := []) (rest := []) C dL_665 (by decide +kernel) (by decide +kernel) rfl rfl (Nat.le_of_ble_eq_true rfl) (la_ok (by decide +kernel) (la_args0 )) ok1 (Nat.le_of_ble_eq_true rfl) (u_M_same h1 Z oM eM1 ) ?_
  rintro v h2 ⟨rfl, eM2, q2⟩ ok2
  have eC2 := RC_onlyM eC1 q2
  refine la_pop C dL_668 ?_
  show lGo p l e s m below meth c b g k h2 669 []
  refine la_goto (tgt := 908) C dL_669 (by decide) ?_
  exact nx h2 _ _ (oK) (oM) eC2 eM2 ok2
theorem la_c18 (C : lCx p l e s m below meth c b L xs g) (hL : L ≤ 2048) (hk : k + 4 ≤ L) (oK : sA S) (oM : sA Z) (eC : RC h S) (eM : RM h Z) (ok : mMok h) (nx : ∀ (h2 : mMem) (S2 Z2 : sS), sA S2 → sA Z2 → RC h2 S2 → RM h2 Z2 → mMok h2 → lGo p l e s m below meth c b g k h2 908 []) : lGo p l e s m below meth c b g k h 672 [] := by
  refine la_self C dL_672 ?_
  refine la_call (i := 89) (z := 695) (m' := n_K_puts) (r := (8, 0)) (as := []) (rest := []) C dL_673 (by decide +kernel) (by decide +kernel) rfl rfl (Nat.le_of_ble_eq_true rfl) (la_ok (by decide +kernel) (la_args0 )) ok (Nat.le_of_ble_eq_true rfl) (u_K_puts h S oK eC ) ?_
  rintro v h1 ⟨rfl, eC1, q1⟩ ok1
  have eM1 := RM_onlyC eM q1
  refine la_pop C dL_676 ?_
  show lGo p l e s m below meth c b g k h1 677 []
  refine la_twin C dL_677 ?_
  refine la_call (i := 92) (z := 1175) (m' := n_M_puts) (r := (9, 0)) (as := []) (rest := []) C dL_678 (by decide +kernel) (by decide +kernel) rfl rfl (Nat.le_of_ble_eq_true rfl) (la_ok (by decide +kernel) (la_args0 )) ok1 (Nat.le_of_ble_eq_true rfl) (u_M_puts h1 Z oM eM1 ) ?_
  rintro v h2 ⟨rfl, eM2, q2⟩ ok2
  have eC2 := RC_onlyM eC1 q2
  refine la_pop C dL_681 ?_
  show lGo p l e s m below meth c b g k h2 682 []
  refine la_goto (tgt := 908) C dL_682 (by decide) ?_
  exact nx h2 _ _ (oK) (oM) eC2 eM2 ok2
theorem la_c19 (C : lCx p l e s m below meth c b L xs g) (hL : L ≤ 2048) (hk : k + 4 ≤ L) (oK : sA S) (oM : sA Z) (eC : RC h S) (eM : RM h Z) (ok : mMok h) (nx : ∀ (h2 : mMem) (S2 Z2 : sS), sA S2 → sA Z2 → RC h2 S2 → RM h2 Z2 → mMok h2 → lGo p l e s m below meth c b g k h2 908 []) : lGo p l e s m below meth c b g k h 685 [] := by
  refine la_self C dL_685 ?_
  refine la_arg (j := 1) C hL (by omega) dL_686 dL_687 dL_688 dL_689 dL_690 ?_
  refine la_call (i := 93) (z := 713) (m' := n_K_put) (r := (8, 0)) (as := [.inl (xs (k + 1)).toInt]) (rest := []) C dL_691 (by decide +kernel) (by decide +kernel) rfl rfl (Nat.le_of_ble_eq_true rfl) (la_ok (by decide +kernel) (la_args1 ((xs (k + 1)).toInt))) ok (Nat.le_of_ble_eq_true rfl) (u_K_put h S oK eC ((xs (k + 1)).toInt)) ?_
  rintro v h1 ⟨rfl, eC1, q1⟩ ok1
  have eM1 := RM_onlyC eM q1
  refine la_pop C dL_694 ?_
  show lGo p l e s m below meth c b g k h1 695 []
  refine la_twin C dL_695 ?_
  refine la_arg (j := 1) C hL (by omega) dL_696 dL_697 dL_698 dL_699 dL_700 ?_
  refine la_call (i := 96) (z := 1192) (m' := n_M_put) (r := (9, 0)) (as := [.inl (xs (k + 1)).toInt]) (rest := []) C dL_701 (by decide +kernel) (by decide +kernel) rfl rfl (Nat.le_of_ble_eq_true rfl) (la_ok (by decide +kernel) (la_args1 ((xs (k + 1)).toInt))) ok1 (Nat.le_of_ble_eq_true rfl) (u_M_put h1 Z oM eM1 ((xs (k + 1)).toInt)) ?_
  rintro v h2 ⟨rfl, eM2, q2⟩ ok2
  have eC2 := RC_onlyM eC1 q2
  refine la_pop C dL_704 ?_
  show lGo p l e s m below meth c b g k h2 705 []
  refine la_goto (tgt := 908) C dL_705 (by decide) ?_
  exact nx h2 _ _ (sA_putK oK ((xs (k + 1)).toInt)) (sA_put oM ((xs (k + 1)).toInt)) eC2 eM2 ok2
theorem la_c20 (C : lCx p l e s m below meth c b L xs g) (hL : L ≤ 2048) (hk : k + 4 ≤ L) (oK : sA S) (oM : sA Z) (eC : RC h S) (eM : RM h Z) (ok : mMok h) (nx : ∀ (h2 : mMem) (S2 Z2 : sS), sA S2 → sA Z2 → RC h2 S2 → RM h2 Z2 → mMok h2 → lGo p l e s m below meth c b g k h2 908 []) : lGo p l e s m below meth c b g k h 708 [] := by
  refine la_self C dL_708 ?_
  refine la_call (i := 97) (z := 717) (m' := n_K_drop) (r := (8, 0)) (as := []) (rest := []) C dL_709 (by decide +kernel) (by decide +kernel) rfl rfl (Nat.le_of_ble_eq_true rfl) (la_ok (by decide +kernel) (la_args0 )) ok (Nat.le_of_ble_eq_true rfl) (u_K_drop h S oK eC ) ?_
  rintro v h1 ⟨rfl, eC1, q1⟩ ok1
  have eM1 := RM_onlyC eM q1
  refine la_pop C dL_712 ?_
  show lGo p l e s m below meth c b g k h1 713 []
  refine la_twin C dL_713 ?_
  refine la_call (i := 100) (z := 1196) (m' := n_M_drop) (r := (9, 0)) (as := []) (rest := []) C dL_714 (by decide +kernel) (by decide +kernel) rfl rfl (Nat.le_of_ble_eq_true rfl) (la_ok (by decide +kernel) (la_args0 )) ok1 (Nat.le_of_ble_eq_true rfl) (u_M_drop h1 Z oM eM1 ) ?_
  rintro v h2 ⟨rfl, eM2, q2⟩ ok2
  have eC2 := RC_onlyM eC1 q2
  refine la_pop C dL_717 ?_
  show lGo p l e s m below meth c b g k h2 718 []
  refine la_goto (tgt := 908) C dL_718 (by decide) ?_
  exact nx h2 _ _ (sA_drop oK) (sA_drop oM) eC2 eM2 ok2
theorem la_c21 (C : lCx p l e s m below meth c b L xs g) (hL : L ≤ 2048) (hk : k + 4 ≤ L) (oK : sA S) (oM : sA Z) (eC : RC h S) (eM : RM h Z) (ok : mMok h) (nx : ∀ (h2 : mMem) (S2 Z2 : sS), sA S2 → sA Z2 → RC h2 S2 → RM h2 Z2 → mMok h2 → lGo p l e s m below meth c b g k h2 908 []) : lGo p l e s m below meth c b g k h 721 [] := by
  refine la_self C dL_721 ?_
  refine la_arg (j := 1) C hL (by omega) dL_722 dL_723 dL_724 dL_725 dL_726 ?_
  refine la_call (i := 101) (z := 726) (m' := n_K_fill) (r := (8, 0)) (as := [.inl (xs (k + 1)).toInt]) (rest := []) C dL_727 (by decide +kernel) (by decide +kernel) rfl rfl (Nat.le_of_ble_eq_true rfl) (la_ok (by decide +kernel) (la_args1 ((xs (k + 1)).toInt))) ok (Nat.le_of_ble_eq_true rfl) (u_K_fill h S oK eC ((xs (k + 1)).toInt)) ?_
  rintro v h1 ⟨rfl, eC1, q1⟩ ok1
  have eM1 := RM_onlyC eM q1
  refine la_pop C dL_730 ?_
  show lGo p l e s m below meth c b g k h1 731 []
  refine la_twin C dL_731 ?_
  refine la_arg (j := 1) C hL (by omega) dL_732 dL_733 dL_734 dL_735 dL_736 ?_
  refine la_call (i := 104) (z := 1200) (m' := n_M_fill) (r := (9, 0)) (as := [.inl (xs (k + 1)).toInt]) (rest := []) C dL_737 (by decide +kernel) (by decide +kernel) rfl rfl (Nat.le_of_ble_eq_true rfl) (la_ok (by decide +kernel) (la_args1 ((xs (k + 1)).toInt))) ok1 (Nat.le_of_ble_eq_true rfl) (u_M_fill h1 Z oM eM1 ((xs (k + 1)).toInt)) ?_
  rintro v h2 ⟨rfl, eM2, q2⟩ ok2
  have eC2 := RC_onlyM eC1 q2
  refine la_pop C dL_740 ?_
  show lGo p l e s m below meth c b g k h2 741 []
  refine la_goto (tgt := 908) C dL_741 (by decide) ?_
  exact nx h2 _ _ (sA_fill oK ((xs (k + 1)).toInt)) (sA_fill oM ((xs (k + 1)).toInt)) eC2 eM2 ok2
theorem la_c22 (C : lCx p l e s m below meth c b L xs g) (hL : L ≤ 2048) (hk : k + 4 ≤ L) (oK : sA S) (oM : sA Z) (eC : RC h S) (eM : RM h Z) (ok : mMok h) (nx : ∀ (h2 : mMem) (S2 Z2 : sS), sA S2 → sA Z2 → RC h2 S2 → RM h2 Z2 → mMok h2 → lGo p l e s m below meth c b g k h2 908 []) : lGo p l e s m below meth c b g k h 744 [] := by
  refine la_self C dL_744 ?_
  refine la_call (i := 105) (z := 736) (m' := n_K_tries) (r := (8, 0)) (as := []) (rest := []) C dL_745 (by decide +kernel) (by decide +kernel) rfl rfl (Nat.le_of_ble_eq_true rfl) (la_ok (by decide +kernel) (la_args0 )) ok (Nat.le_of_ble_eq_true rfl) (u_K_tries h S oK eC ) ?_
  rintro v h1 ⟨rfl, eC1, q1⟩ ok1
  have eM1 := RM_onlyC eM q1
  refine la_pop C dL_748 ?_
  show lGo p l e s m below meth c b g k h1 749 []
  refine la_twin C dL_749 ?_
  refine la_call (i := 108) (z := 1221) (m' := n_M_tries) (r := (9, 0)) (as := []) (rest := []) C dL_750 (by decide +kernel) (by decide +kernel) rfl rfl (Nat.le_of_ble_eq_true rfl) (la_ok (by decide +kernel) (la_args0 )) ok1 (Nat.le_of_ble_eq_true rfl) (u_M_tries h1 Z oM eM1 ) ?_
  rintro v h2 ⟨rfl, eM2, q2⟩ ok2
  have eC2 := RC_onlyM eC1 q2
  refine la_pop C dL_753 ?_
  show lGo p l e s m below meth c b g k h2 754 []
  refine la_goto (tgt := 908) C dL_754 (by decide) ?_
  exact nx h2 _ _ (oK) (oM) eC2 eM2 ok2
theorem la_c23 (C : lCx p l e s m below meth c b L xs g) (hL : L ≤ 2048) (hk : k + 4 ≤ L) (oK : sA S) (oM : sA Z) (eC : RC h S) (eM : RM h Z) (ok : mMok h) (nx : ∀ (h2 : mMem) (S2 Z2 : sS), sA S2 → sA Z2 → RC h2 S2 → RM h2 Z2 → mMok h2 → lGo p l e s m below meth c b g k h2 908 []) : lGo p l e s m below meth c b g k h 757 [] := by
  refine la_self C dL_757 ?_
  refine la_call (i := 109) (z := 740) (m' := n_K_prove) (r := (8, 0)) (as := []) (rest := []) C dL_758 (by decide +kernel) (by decide +kernel) rfl rfl (Nat.le_of_ble_eq_true rfl) (la_ok (by decide +kernel) (la_args0 )) ok (Nat.le_of_ble_eq_true rfl) (u_K_prove h S oK eC ) ?_
  rintro v h1 ⟨rfl, eC1, q1⟩ ok1
  have eM1 := RM_onlyC eM q1
  refine la_pop C dL_761 ?_
  show lGo p l e s m below meth c b g k h1 762 []
  refine la_twin C dL_762 ?_
  refine la_call (i := 112) (z := 1225) (m' := n_M_prove) (r := (9, 0)) (as := []) (rest := []) C dL_763 (by decide +kernel) (by decide +kernel) rfl rfl (Nat.le_of_ble_eq_true rfl) (la_ok (by decide +kernel) (la_args0 )) ok1 (Nat.le_of_ble_eq_true rfl) (u_M_prove h1 Z oM eM1 ) ?_
  rintro v h2 ⟨rfl, eM2, q2⟩ ok2
  have eC2 := RC_onlyM eC1 q2
  refine la_pop C dL_766 ?_
  show lGo p l e s m below meth c b g k h2 767 []
  refine la_goto (tgt := 908) C dL_767 (by decide) ?_
  exact nx h2 _ _ (sA_prove oK) (sA_prove oM) eC2 eM2 ok2
theorem la_c24 (C : lCx p l e s m below meth c b L xs g) (hL : L ≤ 2048) (hk : k + 4 ≤ L) (oK : sA S) (oM : sA Z) (eC : RC h S) (eM : RM h Z) (ok : mMok h) (nx : ∀ (h2 : mMem) (S2 Z2 : sS), sA S2 → sA Z2 → RC h2 S2 → RM h2 Z2 → mMok h2 → lGo p l e s m below meth c b g k h2 908 []) : lGo p l e s m below meth c b g k h 770 [] := by
  refine la_self C dL_770 ?_
  refine la_arg (j := 1) C hL (by omega) dL_771 dL_772 dL_773 dL_774 dL_775 ?_
  refine la_arg (j := 2) C hL (by omega) dL_776 dL_777 dL_778 dL_779 dL_780 ?_
  refine la_call (i := 113) (z := 763) (m' := n_K_row) (r := (8, 0)) (as := [.inl (xs (k + 1)).toInt, .inl (xs (k + 2)).toInt]) (rest := []) C dL_781 (by decide +kernel) (by decide +kernel) rfl rfl (Nat.le_of_ble_eq_true rfl) (la_ok (by decide +kernel) (la_args2 ((xs (k + 1)).toInt) ((xs (k + 2)).toInt))) ok (Nat.le_of_ble_eq_true rfl) (u_K_row h S oK eC ((xs (k + 1)).toInt) ((xs (k + 2)).toInt)) ?_
  rintro v h1 ⟨rfl, eC1, q1⟩ ok1
  have eM1 := RM_onlyC eM q1
  refine la_pop C dL_784 ?_
  show lGo p l e s m below meth c b g k h1 785 []
  refine la_twin C dL_785 ?_
  refine la_arg (j := 1) C hL (by omega) dL_786 dL_787 dL_788 dL_789 dL_790 ?_
  refine la_arg (j := 2) C hL (by omega) dL_791 dL_792 dL_793 dL_794 dL_795 ?_
  refine la_call (i := 116) (z := 1229) (m' := n_M_row) (r := (9, 0)) (as := [.inl (xs (k + 1)).toInt, .inl (xs (k + 2)).toInt]) (rest := []) C dL_796 (by decide +kernel) (by decide +kernel) rfl rfl (Nat.le_of_ble_eq_true rfl) (la_ok (by decide +kernel) (la_args2 ((xs (k + 1)).toInt) ((xs (k + 2)).toInt))) ok1 (Nat.le_of_ble_eq_true rfl) (u_M_row h1 Z oM eM1 ((xs (k + 1)).toInt) ((xs (k + 2)).toInt)) ?_
  rintro v h2 ⟨rfl, eM2, q2⟩ ok2
  have eC2 := RC_onlyM eC1 q2
  refine la_pop C dL_799 ?_
  show lGo p l e s m below meth c b g k h2 800 []
  refine la_goto (tgt := 908) C dL_800 (by decide) ?_
  exact nx h2 _ _ (oK) (oM) eC2 eM2 ok2
theorem la_c25 (C : lCx p l e s m below meth c b L xs g) (hL : L ≤ 2048) (hk : k + 4 ≤ L) (oK : sA S) (oM : sA Z) (eC : RC h S) (eM : RM h Z) (ok : mMok h) (nx : ∀ (h2 : mMem) (S2 Z2 : sS), sA S2 → sA Z2 → RC h2 S2 → RM h2 Z2 → mMok h2 → lGo p l e s m below meth c b g k h2 908 []) : lGo p l e s m below meth c b g k h 803 [] := by
  refine la_self C dL_803 ?_
  refine la_arg (j := 1) C hL (by omega) dL_804 dL_805 dL_806 dL_807 dL_808 ?_
  refine la_arg (j := 2) C hL (by omega) dL_809 dL_810 dL_811 dL_812 dL_813 ?_
  refine la_call (i := 117) (z := 767) (m' := n_K_forge) (r := (8, 0)) (as := [.inl (xs (k + 1)).toInt, .inl (xs (k + 2)).toInt]) (rest := []) C dL_814 (by decide +kernel) (by decide +kernel) rfl rfl (Nat.le_of_ble_eq_true rfl) (la_ok (by decide +kernel) (la_args2 ((xs (k + 1)).toInt) ((xs (k + 2)).toInt))) ok (Nat.le_of_ble_eq_true rfl) (u_K_forge h S oK eC ((xs (k + 1)).toInt) ((xs (k + 2)).toInt)) ?_
  rintro v h1 ⟨rfl, eC1, q1⟩ ok1
  have eM1 := RM_onlyC eM q1
  refine la_pop C dL_817 ?_
  show lGo p l e s m below meth c b g k h1 818 []
  refine la_twin C dL_818 ?_
  refine la_arg (j := 1) C hL (by omega) dL_819 dL_820 dL_821 dL_822 dL_823 ?_
  refine la_arg (j := 2) C hL (by omega) dL_824 dL_825 dL_826 dL_827 dL_828 ?_
  refine la_call (i := 120) (z := 1233) (m' := n_M_forge) (r := (9, 0)) (as := [.inl (xs (k + 1)).toInt, .inl (xs (k + 2)).toInt]) (rest := []) C dL_829 (by decide +kernel) (by decide +kernel) rfl rfl (Nat.le_of_ble_eq_true rfl) (la_ok (by decide +kernel) (la_args2 ((xs (k + 1)).toInt) ((xs (k + 2)).toInt))) ok1 (Nat.le_of_ble_eq_true rfl) (u_M_forge h1 Z oM eM1 ((xs (k + 1)).toInt) ((xs (k + 2)).toInt)) ?_
  rintro v h2 ⟨rfl, eM2, q2⟩ ok2
  have eC2 := RC_onlyM eC1 q2
  refine la_pop C dL_832 ?_
  show lGo p l e s m below meth c b g k h2 833 []
  refine la_goto (tgt := 908) C dL_833 (by decide) ?_
  exact nx h2 _ _ (sA_forge oK ((xs (k + 1)).toInt) ((xs (k + 2)).toInt)) (sA_forge oM ((xs (k + 1)).toInt) ((xs (k + 2)).toInt)) eC2 eM2 ok2
theorem la_c26 (C : lCx p l e s m below meth c b L xs g) (hL : L ≤ 2048) (hk : k + 4 ≤ L) (oK : sA S) (oM : sA Z) (eC : RC h S) (eM : RM h Z) (ok : mMok h) (nx : ∀ (h2 : mMem) (S2 Z2 : sS), sA S2 → sA Z2 → RC h2 S2 → RM h2 Z2 → mMok h2 → lGo p l e s m below meth c b g k h2 908 []) : lGo p l e s m below meth c b g k h 836 [] := by
  refine la_self C dL_836 ?_
  refine la_call (i := 121) (z := 771) (m' := n_K_check) (r := (8, 0)) (as := []) (rest := []) C dL_837 (by decide +kernel) (by decide +kernel) rfl rfl (Nat.le_of_ble_eq_true rfl) (la_ok (by decide +kernel) (la_args0 )) ok (Nat.le_of_ble_eq_true rfl) (u_K_check h S oK eC ) ?_
  rintro v h1 ⟨rfl, eC1, q1⟩ ok1
  have eM1 := RM_onlyC eM q1
  refine la_pop C dL_840 ?_
  show lGo p l e s m below meth c b g k h1 841 []
  refine la_twin C dL_841 ?_
  refine la_call (i := 124) (z := 1237) (m' := n_M_check) (r := (9, 0)) (as := []) (rest := []) C dL_842 (by decide +kernel) (by decide +kernel) rfl rfl (Nat.le_of_ble_eq_true rfl) (la_ok (by decide +kernel) (la_args0 )) ok1 (Nat.le_of_ble_eq_true rfl) (u_M_check h1 Z oM eM1 ) ?_
  rintro v h2 ⟨rfl, eM2, q2⟩ ok2
  have eC2 := RC_onlyM eC1 q2
  refine la_pop C dL_845 ?_
  show lGo p l e s m below meth c b g k h2 846 []
  refine la_goto (tgt := 908) C dL_846 (by decide) ?_
  exact nx h2 _ _ (oK) (oM) eC2 eM2 ok2
theorem la_c27 (C : lCx p l e s m below meth c b L xs g) (hL : L ≤ 2048) (hk : k + 4 ≤ L) (oK : sA S) (oM : sA Z) (eC : RC h S) (eM : RM h Z) (ok : mMok h) (nx : ∀ (h2 : mMem) (S2 Z2 : sS), sA S2 → sA Z2 → RC h2 S2 → RM h2 Z2 → mMok h2 → lGo p l e s m below meth c b g k h2 908 []) : lGo p l e s m below meth c b g k h 849 [] := by
  refine la_self C dL_849 ?_
  refine la_arg (j := 1) C hL (by omega) dL_850 dL_851 dL_852 dL_853 dL_854 ?_
  refine la_call (i := 125) (z := 788) (m' := n_K_step) (r := (8, 0)) (as := [.inl (xs (k + 1)).toInt]) (rest := []) C dL_855 (by decide +kernel) (by decide +kernel) rfl rfl (Nat.le_of_ble_eq_true rfl) (la_ok (by decide +kernel) (la_args1 ((xs (k + 1)).toInt))) ok (Nat.le_of_ble_eq_true rfl) (u_K_step h S oK eC ((xs (k + 1)).toInt)) ?_
  rintro v h1 ⟨rfl, eC1, q1⟩ ok1
  have eM1 := RM_onlyC eM q1
  refine la_pop C dL_858 ?_
  show lGo p l e s m below meth c b g k h1 859 []
  refine la_twin C dL_859 ?_
  refine la_arg (j := 1) C hL (by omega) dL_860 dL_861 dL_862 dL_863 dL_864 ?_
  refine la_call (i := 128) (z := 1245) (m' := n_M_step) (r := (9, 0)) (as := [.inl (xs (k + 1)).toInt]) (rest := []) C dL_865 (by decide +kernel) (by decide +kernel) rfl rfl (Nat.le_of_ble_eq_true rfl) (la_ok (by decide +kernel) (la_args1 ((xs (k + 1)).toInt))) ok1 (Nat.le_of_ble_eq_true rfl) (u_M_step h1 Z oM eM1 ((xs (k + 1)).toInt)) ?_
  rintro v h2 ⟨rfl, eM2, q2⟩ ok2
  have eC2 := RC_onlyM eC1 q2
  refine la_pop C dL_868 ?_
  show lGo p l e s m below meth c b g k h2 869 []
  refine la_goto (tgt := 908) C dL_869 (by decide) ?_
  exact nx h2 _ _ (sA_step oK ((xs (k + 1)).toInt)) (sA_step oM ((xs (k + 1)).toInt)) eC2 eM2 ok2
theorem la_c28 (C : lCx p l e s m below meth c b L xs g) (hL : L ≤ 2048) (hk : k + 4 ≤ L) (oK : sA S) (oM : sA Z) (eC : RC h S) (eM : RM h Z) (ok : mMok h) (nx : ∀ (h2 : mMem) (S2 Z2 : sS), sA S2 → sA Z2 → RC h2 S2 → RM h2 Z2 → mMok h2 → lGo p l e s m below meth c b g k h2 908 []) : lGo p l e s m below meth c b g k h 872 [] := by
  refine la_self C dL_872 ?_
  refine la_call (i := 129) (z := 803) (m' := n_K_undo) (r := (8, 0)) (as := []) (rest := []) C dL_873 (by decide +kernel) (by decide +kernel) rfl rfl (Nat.le_of_ble_eq_true rfl) (la_ok (by decide +kernel) (la_args0 )) ok (Nat.le_of_ble_eq_true rfl) (u_K_undo h S oK eC ) ?_
  rintro v h1 ⟨rfl, eC1, q1⟩ ok1
  have eM1 := RM_onlyC eM q1
  refine la_pop C dL_876 ?_
  show lGo p l e s m below meth c b g k h1 877 []
  refine la_twin C dL_877 ?_
  refine la_call (i := 132) (z := 972) (m' := n_M_undo) (r := (9, 0)) (as := []) (rest := []) C dL_878 (by decide +kernel) (by decide +kernel) rfl rfl (Nat.le_of_ble_eq_true rfl) (la_ok (by decide +kernel) (la_args0 )) ok1 (Nat.le_of_ble_eq_true rfl) (u_M_undo h1 Z oM eM1 ) ?_
  rintro v h2 ⟨rfl, eM2, q2⟩ ok2
  have eC2 := RC_onlyM eC1 q2
  refine la_pop C dL_881 ?_
  show lGo p l e s m below meth c b g k h2 882 []
  refine la_goto (tgt := 908) C dL_882 (by decide) ?_
  exact nx h2 _ _ (sA_undo oK) (sA_undo oM) eC2 eM2 ok2
theorem la_c29 (C : lCx p l e s m below meth c b L xs g) (hL : L ≤ 2048) (hk : k + 4 ≤ L) (oK : sA S) (oM : sA Z) (eC : RC h S) (eM : RM h Z) (ok : mMok h) (nx : ∀ (h2 : mMem) (S2 Z2 : sS), sA S2 → sA Z2 → RC h2 S2 → RM h2 Z2 → mMok h2 → lGo p l e s m below meth c b g k h2 908 []) : lGo p l e s m below meth c b g k h 885 [] := by
  refine la_self C dL_885 ?_
  refine la_arg (j := 1) C hL (by omega) dL_886 dL_887 dL_888 dL_889 dL_890 ?_
  refine la_call (i := 133) (z := 811) (m' := n_K_count) (r := (8, 0)) (as := [.inl (xs (k + 1)).toInt]) (rest := []) C dL_891 (by decide +kernel) (by decide +kernel) rfl rfl (Nat.le_of_ble_eq_true rfl) (la_ok (by decide +kernel) (la_args1 ((xs (k + 1)).toInt))) ok (Nat.le_of_ble_eq_true rfl) (u_K_count h S oK eC ((xs (k + 1)).toInt)) ?_
  rintro v h1 ⟨rfl, eC1, q1⟩ ok1
  have eM1 := RM_onlyC eM q1
  refine la_pop C dL_894 ?_
  show lGo p l e s m below meth c b g k h1 895 []
  refine la_twin C dL_895 ?_
  refine la_arg (j := 1) C hL (by omega) dL_896 dL_897 dL_898 dL_899 dL_900 ?_
  refine la_call (i := 136) (z := 1257) (m' := n_M_count) (r := (9, 0)) (as := [.inl (xs (k + 1)).toInt]) (rest := []) C dL_901 (by decide +kernel) (by decide +kernel) rfl rfl (Nat.le_of_ble_eq_true rfl) (la_ok (by decide +kernel) (la_args1 ((xs (k + 1)).toInt))) ok1 (Nat.le_of_ble_eq_true rfl) (u_M_count h1 Z oM eM1 ((xs (k + 1)).toInt)) ?_
  rintro v h2 ⟨rfl, eM2, q2⟩ ok2
  have eC2 := RC_onlyM eC1 q2
  refine la_pop C dL_904 ?_
  show lGo p l e s m below meth c b g k h2 905 []
  refine la_goto (tgt := 908) C dL_905 (by decide) ?_
  exact nx h2 _ _ (oK) (oM) eC2 eM2 ok2
end Cases
