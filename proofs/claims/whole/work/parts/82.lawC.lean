/-! the law's cases -/
section CASES
variable {p : Program} {l : Launch} {e : Env} {s : State} {m : MethodId} {args : Array Value} {below : List Frame} {meth : Method} {c : Code} {dC : Nat → ClassId} {dI : Nat → Nat → Nat} {dA : Nat → ClassId} {A : Nat → Prop} {α : Nat → Nat} {Q : State → Prop} {cells slots b L : Nat} {xs : Nat → Int32} {X : Nat → q_St} {M : q_St}
theorem lx_c0 {i : Nat} (C : lx_Cx p s m args meth c dC dI dA A α b L xs cells slots) (hi : i + 6 ≤ L) (hr : p_Rel X M) (k : ∀ X' M', p_Rel X' M' → q_S p l e room_1 s m args below meth c 4 dC dI dA A α Q cells slots (some ()) () 1421 (lx_lv i) [] (lx_w X' M')) : q_S p l e room_1 s m args below meth c 4 dC dI dA A α Q cells slots (some ()) () 232 (lx_lv i) [] (lx_w X M) := by
  obtain ⟨u, eu, v, ev, er, hr1⟩ := w_doll hr (xs (i + 1))
  refine r_aload_n C.1 2 (x := 50) dL_law_232 rfl ?_
  refine lx_arg C 1 (by omega) rfl dL_law_233 dL_law_234 dL_law_235 dL_law_236 dL_law_237 ?_
  refine lx_call5 C.1 [xs (i + 1)] (o_X5_doll l X (xs (i + 1))) v_X5_doll rfl m_199 eu (.int u.1) rfl (fun _ => rfl) [] rfl rfl (by decide) ⟨Nat.le_of_ble_eq_true rfl, Nat.le_of_ble_eq_true rfl⟩ C.2.2.2.2.2.2.1 dL_law_238 ?_
  refine r_aload_n C.1 1 (x := 91) dL_law_241 rfl ?_
  refine lx_arg C 1 (by omega) rfl dL_law_242 dL_law_243 dL_law_244 dL_law_245 dL_law_246 ?_
  refine lx_call6 C.1 [xs (i + 1)] (o_X6_doll l M (xs (i + 1))) v_X6_doll rfl m_992 ev (.int v.1) rfl (fun _ => rfl) [.int u.1] rfl rfl (by simp [Value.category]) ⟨Nat.le_of_ble_eq_true rfl, Nat.le_of_ble_eq_true rfl⟩ C.2.2.2.2.2.2.1 dL_law_247 ?_
  rw [er]
  exact lx_eq 1421 C.1 dL_law_250 (by decide) (k u.2 v.2 hr1)
theorem lx_c1 {i : Nat} (C : lx_Cx p s m args meth c dC dI dA A α b L xs cells slots) (hi : i + 6 ≤ L) (hr : p_Rel X M) (k : ∀ X' M', p_Rel X' M' → q_S p l e room_1 s m args below meth c 4 dC dI dA A α Q cells slots (some ()) () 1421 (lx_lv i) [] (lx_w X' M')) : q_S p l e room_1 s m args below meth c 4 dC dI dA A α Q cells slots (some ()) () 255 (lx_lv i) [] (lx_w X M) := by
  obtain ⟨u, eu, v, ev, er, hr1⟩ := w_of hr (xs (i + 1)) (xs (i + 2))
  refine r_aload_n C.1 2 (x := 50) dL_law_255 rfl ?_
  refine lx_arg C 1 (by omega) rfl dL_law_256 dL_law_257 dL_law_258 dL_law_259 dL_law_260 ?_
  refine lx_arg C 2 (by omega) rfl dL_law_261 dL_law_262 dL_law_263 dL_law_264 dL_law_265 ?_
  refine lx_call5 C.1 [xs (i + 1), xs (i + 2)] (o_X5_of l X (xs (i + 1)) (xs (i + 2))) v_X5_of rfl m_216 eu (.int u.1) rfl (fun _ => rfl) [] rfl rfl (by decide) ⟨Nat.le_of_ble_eq_true rfl, Nat.le_of_ble_eq_true rfl⟩ C.2.2.2.2.2.2.1 dL_law_266 ?_
  refine r_aload_n C.1 1 (x := 91) dL_law_269 rfl ?_
  refine lx_arg C 1 (by omega) rfl dL_law_270 dL_law_271 dL_law_272 dL_law_273 dL_law_274 ?_
  refine lx_arg C 2 (by omega) rfl dL_law_275 dL_law_276 dL_law_277 dL_law_278 dL_law_279 ?_
  refine lx_call6 C.1 [xs (i + 1), xs (i + 2)] (o_X6_of l M (xs (i + 1)) (xs (i + 2))) v_X6_of rfl m_1015 ev (.int v.1) rfl (fun _ => rfl) [.int u.1] rfl rfl (by simp [Value.category]) ⟨Nat.le_of_ble_eq_true rfl, Nat.le_of_ble_eq_true rfl⟩ C.2.2.2.2.2.2.1 dL_law_280 ?_
  rw [er]
  exact lx_eq 1421 C.1 dL_law_283 (by decide) (k u.2 v.2 hr1)
theorem lx_c2 {i : Nat} (C : lx_Cx p s m args meth c dC dI dA A α b L xs cells slots) (hi : i + 6 ≤ L) (hr : p_Rel X M) (k : ∀ X' M', p_Rel X' M' → q_S p l e room_1 s m args below meth c 4 dC dI dA A α Q cells slots (some ()) () 1421 (lx_lv i) [] (lx_w X' M')) : q_S p l e room_1 s m args below meth c 4 dC dI dA A α Q cells slots (some ()) () 288 (lx_lv i) [] (lx_w X M) := by
  obtain ⟨u, eu, v, ev, er, hr1⟩ := w_change hr (xs (i + 1)) (xs (i + 2)) (xs (i + 3))
  refine r_aload_n C.1 2 (x := 50) dL_law_288 rfl ?_
  refine lx_arg C 1 (by omega) rfl dL_law_289 dL_law_290 dL_law_291 dL_law_292 dL_law_293 ?_
  refine lx_arg C 2 (by omega) rfl dL_law_294 dL_law_295 dL_law_296 dL_law_297 dL_law_298 ?_
  refine lx_arg C 3 (by omega) rfl dL_law_299 dL_law_300 dL_law_301 dL_law_302 dL_law_303 ?_
  refine lx_call5 C.1 [xs (i + 1), xs (i + 2), xs (i + 3)] (o_X5_change l X (xs (i + 1)) (xs (i + 2)) (xs (i + 3))) v_X5_change rfl m_258 eu (.int u.1) rfl (fun _ => rfl) [] rfl rfl (by decide) ⟨Nat.le_of_ble_eq_true rfl, Nat.le_of_ble_eq_true rfl⟩ C.2.2.2.2.2.2.1 dL_law_304 ?_
  refine r_aload_n C.1 1 (x := 91) dL_law_307 rfl ?_
  refine lx_arg C 1 (by omega) rfl dL_law_308 dL_law_309 dL_law_310 dL_law_311 dL_law_312 ?_
  refine lx_arg C 2 (by omega) rfl dL_law_313 dL_law_314 dL_law_315 dL_law_316 dL_law_317 ?_
  refine lx_arg C 3 (by omega) rfl dL_law_318 dL_law_319 dL_law_320 dL_law_321 dL_law_322 ?_
  refine lx_call6 C.1 [xs (i + 1), xs (i + 2), xs (i + 3)] (o_X6_change l M (xs (i + 1)) (xs (i + 2)) (xs (i + 3))) v_X6_change rfl m_1046 ev (.int v.1) rfl (fun _ => rfl) [.int u.1] rfl rfl (by simp [Value.category]) ⟨Nat.le_of_ble_eq_true rfl, Nat.le_of_ble_eq_true rfl⟩ C.2.2.2.2.2.2.1 dL_law_323 ?_
  rw [er]
  exact lx_eq 1421 C.1 dL_law_326 (by decide) (k u.2 v.2 hr1)
theorem lx_c3 {i : Nat} (C : lx_Cx p s m args meth c dC dI dA A α b L xs cells slots) (hi : i + 6 ≤ L) (hr : p_Rel X M) (k : ∀ X' M', p_Rel X' M' → q_S p l e room_1 s m args below meth c 4 dC dI dA A α Q cells slots (some ()) () 1421 (lx_lv i) [] (lx_w X' M')) : q_S p l e room_1 s m args below meth c 4 dC dI dA A α Q cells slots (some ()) () 331 (lx_lv i) [] (lx_w X M) := by
  obtain ⟨u, eu, v, ev, er, hr1⟩ := w_hooks hr (xs (i + 1)) (xs (i + 2))
  refine r_aload_n C.1 2 (x := 50) dL_law_331 rfl ?_
  refine lx_arg C 1 (by omega) rfl dL_law_332 dL_law_333 dL_law_334 dL_law_335 dL_law_336 ?_
  refine lx_arg C 2 (by omega) rfl dL_law_337 dL_law_338 dL_law_339 dL_law_340 dL_law_341 ?_
  refine lx_call5 C.1 [xs (i + 1), xs (i + 2)] (o_X5_hooks l X (xs (i + 1)) (xs (i + 2))) v_X5_hooks rfl m_273 eu (.int u.1) rfl (fun _ => rfl) [] rfl rfl (by decide) ⟨Nat.le_of_ble_eq_true rfl, Nat.le_of_ble_eq_true rfl⟩ C.2.2.2.2.2.2.1 dL_law_342 ?_
  refine r_aload_n C.1 1 (x := 91) dL_law_345 rfl ?_
  refine lx_arg C 1 (by omega) rfl dL_law_346 dL_law_347 dL_law_348 dL_law_349 dL_law_350 ?_
  refine lx_arg C 2 (by omega) rfl dL_law_351 dL_law_352 dL_law_353 dL_law_354 dL_law_355 ?_
  refine lx_call6 C.1 [xs (i + 1), xs (i + 2)] (o_X6_hooks l M (xs (i + 1)) (xs (i + 2))) v_X6_hooks rfl m_1054 ev (.int v.1) rfl (fun _ => rfl) [.int u.1] rfl rfl (by simp [Value.category]) ⟨Nat.le_of_ble_eq_true rfl, Nat.le_of_ble_eq_true rfl⟩ C.2.2.2.2.2.2.1 dL_law_356 ?_
  rw [er]
  exact lx_eq 1421 C.1 dL_law_359 (by decide) (k u.2 v.2 hr1)
theorem lx_c4 {i : Nat} (C : lx_Cx p s m args meth c dC dI dA A α b L xs cells slots) (hi : i + 6 ≤ L) (hr : p_Rel X M) (k : ∀ X' M', p_Rel X' M' → q_S p l e room_1 s m args below meth c 4 dC dI dA A α Q cells slots (some ()) () 1421 (lx_lv i) [] (lx_w X' M')) : q_S p l e room_1 s m args below meth c 4 dC dI dA A α Q cells slots (some ()) () 364 (lx_lv i) [] (lx_w X M) := by
  obtain ⟨u, eu, v, ev, er, hr1⟩ := w_leaves hr (xs (i + 1))
  refine r_aload_n C.1 2 (x := 50) dL_law_364 rfl ?_
  refine lx_arg C 1 (by omega) rfl dL_law_365 dL_law_366 dL_law_367 dL_law_368 dL_law_369 ?_
  refine lx_call5 C.1 [xs (i + 1)] (o_X5_leaves l X (xs (i + 1))) v_X5_leaves rfl m_281 eu (.int u.1) rfl (fun _ => rfl) [] rfl rfl (by decide) ⟨Nat.le_of_ble_eq_true rfl, Nat.le_of_ble_eq_true rfl⟩ C.2.2.2.2.2.2.1 dL_law_370 ?_
  refine r_aload_n C.1 1 (x := 91) dL_law_373 rfl ?_
  refine lx_arg C 1 (by omega) rfl dL_law_374 dL_law_375 dL_law_376 dL_law_377 dL_law_378 ?_
  refine lx_call6 C.1 [xs (i + 1)] (o_X6_leaves l M (xs (i + 1))) v_X6_leaves rfl m_1062 ev (.int v.1) rfl (fun _ => rfl) [.int u.1] rfl rfl (by simp [Value.category]) ⟨Nat.le_of_ble_eq_true rfl, Nat.le_of_ble_eq_true rfl⟩ C.2.2.2.2.2.2.1 dL_law_379 ?_
  rw [er]
  exact lx_eq 1421 C.1 dL_law_382 (by decide) (k u.2 v.2 hr1)
theorem lx_c5 {i : Nat} (C : lx_Cx p s m args meth c dC dI dA A α b L xs cells slots) (hi : i + 6 ≤ L) (hr : p_Rel X M) (k : ∀ X' M', p_Rel X' M' → q_S p l e room_1 s m args below meth c 4 dC dI dA A α Q cells slots (some ()) () 1421 (lx_lv i) [] (lx_w X' M')) : q_S p l e room_1 s m args below meth c 4 dC dI dA A α Q cells slots (some ()) () 387 (lx_lv i) [] (lx_w X M) := by
  obtain ⟨u, eu, v, ev, er, hr1⟩ := w_beat hr (xs (i + 1)) (xs (i + 2))
  refine r_aload_n C.1 2 (x := 50) dL_law_387 rfl ?_
  refine lx_arg C 1 (by omega) rfl dL_law_388 dL_law_389 dL_law_390 dL_law_391 dL_law_392 ?_
  refine lx_arg C 2 (by omega) rfl dL_law_393 dL_law_394 dL_law_395 dL_law_396 dL_law_397 ?_
  refine lx_call5 C.1 [xs (i + 1), xs (i + 2)] (o_X5_beat l X (xs (i + 1)) (xs (i + 2))) v_X5_beat rfl m_285 eu (.int u.1) rfl (fun _ => rfl) [] rfl rfl (by decide) ⟨Nat.le_of_ble_eq_true rfl, Nat.le_of_ble_eq_true rfl⟩ C.2.2.2.2.2.2.1 dL_law_398 ?_
  refine r_aload_n C.1 1 (x := 91) dL_law_401 rfl ?_
  refine lx_arg C 1 (by omega) rfl dL_law_402 dL_law_403 dL_law_404 dL_law_405 dL_law_406 ?_
  refine lx_arg C 2 (by omega) rfl dL_law_407 dL_law_408 dL_law_409 dL_law_410 dL_law_411 ?_
  refine lx_call6 C.1 [xs (i + 1), xs (i + 2)] (o_X6_beat l M (xs (i + 1)) (xs (i + 2))) v_X6_beat rfl m_1066 ev (.int v.1) rfl (fun _ => rfl) [.int u.1] rfl rfl (by simp [Value.category]) ⟨Nat.le_of_ble_eq_true rfl, Nat.le_of_ble_eq_true rfl⟩ C.2.2.2.2.2.2.1 dL_law_412 ?_
  rw [er]
  exact lx_eq 1421 C.1 dL_law_415 (by decide) (k u.2 v.2 hr1)
theorem lx_c6 {i : Nat} (C : lx_Cx p s m args meth c dC dI dA A α b L xs cells slots) (hi : i + 6 ≤ L) (hr : p_Rel X M) (k : ∀ X' M', p_Rel X' M' → q_S p l e room_1 s m args below meth c 4 dC dI dA A α Q cells slots (some ()) () 1421 (lx_lv i) [] (lx_w X' M')) : q_S p l e room_1 s m args below meth c 4 dC dI dA A α Q cells slots (some ()) () 420 (lx_lv i) [] (lx_w X M) := by
  obtain ⟨u, eu, v, ev, er, hr1⟩ := w_told hr (xs (i + 1)) (xs (i + 2))
  refine r_aload_n C.1 2 (x := 50) dL_law_420 rfl ?_
  refine lx_arg C 1 (by omega) rfl dL_law_421 dL_law_422 dL_law_423 dL_law_424 dL_law_425 ?_
  refine lx_arg C 2 (by omega) rfl dL_law_426 dL_law_427 dL_law_428 dL_law_429 dL_law_430 ?_
  refine lx_call5 C.1 [xs (i + 1), xs (i + 2)] (o_X5_told l X (xs (i + 1)) (xs (i + 2))) v_X5_told rfl m_301 eu (.int u.1) rfl (fun _ => rfl) [] rfl rfl (by decide) ⟨Nat.le_of_ble_eq_true rfl, Nat.le_of_ble_eq_true rfl⟩ C.2.2.2.2.2.2.1 dL_law_431 ?_
  refine r_aload_n C.1 1 (x := 91) dL_law_434 rfl ?_
  refine lx_arg C 1 (by omega) rfl dL_law_435 dL_law_436 dL_law_437 dL_law_438 dL_law_439 ?_
  refine lx_arg C 2 (by omega) rfl dL_law_440 dL_law_441 dL_law_442 dL_law_443 dL_law_444 ?_
  refine lx_call6 C.1 [xs (i + 1), xs (i + 2)] (o_X6_told l M (xs (i + 1)) (xs (i + 2))) v_X6_told rfl m_1082 ev (.int v.1) rfl (fun _ => rfl) [.int u.1] rfl rfl (by simp [Value.category]) ⟨Nat.le_of_ble_eq_true rfl, Nat.le_of_ble_eq_true rfl⟩ C.2.2.2.2.2.2.1 dL_law_445 ?_
  rw [er]
  exact lx_eq 1421 C.1 dL_law_448 (by decide) (k u.2 v.2 hr1)
theorem lx_c7 {i : Nat} (C : lx_Cx p s m args meth c dC dI dA A α b L xs cells slots) (hi : i + 6 ≤ L) (hr : p_Rel X M) (k : ∀ X' M', p_Rel X' M' → q_S p l e room_1 s m args below meth c 4 dC dI dA A α Q cells slots (some ()) () 1421 (lx_lv i) [] (lx_w X' M')) : q_S p l e room_1 s m args below meth c 4 dC dI dA A α Q cells slots (some ()) () 453 (lx_lv i) [] (lx_w X M) := by
  obtain ⟨u, eu, v, ev, er, hr1⟩ := w_tell hr (xs (i + 1)) (xs (i + 2)) (xs (i + 3))
  refine r_aload_n C.1 2 (x := 50) dL_law_453 rfl ?_
  refine lx_arg C 1 (by omega) rfl dL_law_454 dL_law_455 dL_law_456 dL_law_457 dL_law_458 ?_
  refine lx_arg C 2 (by omega) rfl dL_law_459 dL_law_460 dL_law_461 dL_law_462 dL_law_463 ?_
  refine lx_arg C 3 (by omega) rfl dL_law_464 dL_law_465 dL_law_466 dL_law_467 dL_law_468 ?_
  refine lx_call5 C.1 [xs (i + 1), xs (i + 2), xs (i + 3)] (o_X5_tell l X (xs (i + 1)) (xs (i + 2)) (xs (i + 3))) v_X5_tell rfl m_341 eu (.int u.1) rfl (fun _ => rfl) [] rfl rfl (by decide) ⟨Nat.le_of_ble_eq_true rfl, Nat.le_of_ble_eq_true rfl⟩ C.2.2.2.2.2.2.1 dL_law_469 ?_
  refine r_aload_n C.1 1 (x := 91) dL_law_472 rfl ?_
  refine lx_arg C 1 (by omega) rfl dL_law_473 dL_law_474 dL_law_475 dL_law_476 dL_law_477 ?_
  refine lx_arg C 2 (by omega) rfl dL_law_478 dL_law_479 dL_law_480 dL_law_481 dL_law_482 ?_
  refine lx_arg C 3 (by omega) rfl dL_law_483 dL_law_484 dL_law_485 dL_law_486 dL_law_487 ?_
  refine lx_call6 C.1 [xs (i + 1), xs (i + 2), xs (i + 3)] (o_X6_tell l M (xs (i + 1)) (xs (i + 2)) (xs (i + 3))) v_X6_tell rfl m_1100 ev (.int v.1) rfl (fun _ => rfl) [.int u.1] rfl rfl (by simp [Value.category]) ⟨Nat.le_of_ble_eq_true rfl, Nat.le_of_ble_eq_true rfl⟩ C.2.2.2.2.2.2.1 dL_law_488 ?_
  rw [er]
  exact lx_eq 1421 C.1 dL_law_491 (by decide) (k u.2 v.2 hr1)
theorem lx_c8 {i : Nat} (C : lx_Cx p s m args meth c dC dI dA A α b L xs cells slots) (hi : i + 6 ≤ L) (hr : p_Rel X M) (k : ∀ X' M', p_Rel X' M' → q_S p l e room_1 s m args below meth c 4 dC dI dA A α Q cells slots (some ()) () 1421 (lx_lv i) [] (lx_w X' M')) : q_S p l e room_1 s m args below meth c 4 dC dI dA A α Q cells slots (some ()) () 496 (lx_lv i) [] (lx_w X M) := by
  obtain ⟨u, eu, v, ev, er, hr1⟩ := w_cut hr (xs (i + 1))
  refine r_aload_n C.1 2 (x := 50) dL_law_496 rfl ?_
  refine lx_arg C 1 (by omega) rfl dL_law_497 dL_law_498 dL_law_499 dL_law_500 dL_law_501 ?_
  refine lx_call5 C.1 [xs (i + 1)] (o_X5_cut l X (xs (i + 1))) v_X5_cut rfl m_353 eu (.int u.1) rfl (fun _ => rfl) [] rfl rfl (by decide) ⟨Nat.le_of_ble_eq_true rfl, Nat.le_of_ble_eq_true rfl⟩ C.2.2.2.2.2.2.1 dL_law_502 ?_
  refine r_aload_n C.1 1 (x := 91) dL_law_505 rfl ?_
  refine lx_arg C 1 (by omega) rfl dL_law_506 dL_law_507 dL_law_508 dL_law_509 dL_law_510 ?_
  refine lx_call6 C.1 [xs (i + 1)] (o_X6_cut l M (xs (i + 1))) v_X6_cut rfl m_1104 ev (.int v.1) rfl (fun _ => rfl) [.int u.1] rfl rfl (by simp [Value.category]) ⟨Nat.le_of_ble_eq_true rfl, Nat.le_of_ble_eq_true rfl⟩ C.2.2.2.2.2.2.1 dL_law_511 ?_
  rw [er]
  exact lx_eq 1421 C.1 dL_law_514 (by decide) (k u.2 v.2 hr1)
theorem lx_c9 {i : Nat} (C : lx_Cx p s m args meth c dC dI dA A α b L xs cells slots) (hi : i + 6 ≤ L) (hr : p_Rel X M) (k : ∀ X' M', p_Rel X' M' → q_S p l e room_1 s m args below meth c 4 dC dI dA A α Q cells slots (some ()) () 1421 (lx_lv i) [] (lx_w X' M')) : q_S p l e room_1 s m args below meth c 4 dC dI dA A α Q cells slots (some ()) () 519 (lx_lv i) [] (lx_w X M) := by
  obtain ⟨r, eu, ev⟩ := w_wrong hr
  refine r_aload_n C.1 2 (x := 50) dL_law_519 rfl ?_
  refine lx_call5 C.1 [] (o_X5_wrong l X) v_X5_wrong rfl m_363 eu (.int r) rfl (fun _ => rfl) [] rfl rfl (by decide) ⟨Nat.le_of_ble_eq_true rfl, Nat.le_of_ble_eq_true rfl⟩ C.2.2.2.2.2.2.1 dL_law_520 ?_
  refine r_aload_n C.1 1 (x := 91) dL_law_523 rfl ?_
  refine lx_call6 C.1 [] (o_X6_wrong l M) v_X6_wrong rfl m_1112 ev (.int r) rfl (fun _ => rfl) [.int r] rfl rfl (by simp [Value.category]) ⟨Nat.le_of_ble_eq_true rfl, Nat.le_of_ble_eq_true rfl⟩ C.2.2.2.2.2.2.1 dL_law_524 ?_
  exact lx_eq 1421 C.1 dL_law_527 (by decide) (k X M hr)
theorem lx_c10 {i : Nat} (C : lx_Cx p s m args meth c dC dI dA A α b L xs cells slots) (hi : i + 6 ≤ L) (hr : p_Rel X M) (k : ∀ X' M', p_Rel X' M' → q_S p l e room_1 s m args below meth c 4 dC dI dA A α Q cells slots (some ()) () 1421 (lx_lv i) [] (lx_w X' M')) : q_S p l e room_1 s m args below meth c 4 dC dI dA A α Q cells slots (some ()) () 532 (lx_lv i) [] (lx_w X M) := by
  obtain ⟨r, eu, ev⟩ := w_whistle hr
  refine r_aload_n C.1 2 (x := 50) dL_law_532 rfl ?_
  refine lx_call5 C.1 [] (o_X5_whistle l X) v_X5_whistle rfl m_372 eu (.int r) rfl (fun _ => rfl) [] rfl rfl (by decide) ⟨Nat.le_of_ble_eq_true rfl, Nat.le_of_ble_eq_true rfl⟩ C.2.2.2.2.2.2.1 dL_law_533 ?_
  refine r_aload_n C.1 1 (x := 91) dL_law_536 rfl ?_
  refine lx_call6 C.1 [] (o_X6_whistle l M) v_X6_whistle rfl m_1120 ev (.int r) rfl (fun _ => rfl) [.int r] rfl rfl (by simp [Value.category]) ⟨Nat.le_of_ble_eq_true rfl, Nat.le_of_ble_eq_true rfl⟩ C.2.2.2.2.2.2.1 dL_law_537 ?_
  exact lx_eq 1421 C.1 dL_law_540 (by decide) (k X M hr)
theorem lx_c11 {i : Nat} (C : lx_Cx p s m args meth c dC dI dA A α b L xs cells slots) (hi : i + 6 ≤ L) (hr : p_Rel X M) (k : ∀ X' M', p_Rel X' M' → q_S p l e room_1 s m args below meth c 4 dC dI dA A α Q cells slots (some ()) () 1421 (lx_lv i) [] (lx_w X' M')) : q_S p l e room_1 s m args below meth c 4 dC dI dA A α Q cells slots (some ()) () 545 (lx_lv i) [] (lx_w X M) := by
  obtain ⟨u, eu, v, ev, er, hr1⟩ := w_puts hr (xs (i + 1)) (xs (i + 2))
  refine r_aload_n C.1 2 (x := 50) dL_law_545 rfl ?_
  refine lx_arg C 1 (by omega) rfl dL_law_546 dL_law_547 dL_law_548 dL_law_549 dL_law_550 ?_
  refine lx_arg C 2 (by omega) rfl dL_law_551 dL_law_552 dL_law_553 dL_law_554 dL_law_555 ?_
  refine lx_call5 C.1 [xs (i + 1), xs (i + 2)] (o_X5_puts l X (xs (i + 1)) (xs (i + 2))) v_X5_puts rfl m_376 eu (.int u.1) rfl (fun _ => rfl) [] rfl rfl (by decide) ⟨Nat.le_of_ble_eq_true rfl, Nat.le_of_ble_eq_true rfl⟩ C.2.2.2.2.2.2.1 dL_law_556 ?_
  refine r_aload_n C.1 1 (x := 91) dL_law_559 rfl ?_
  refine lx_arg C 1 (by omega) rfl dL_law_560 dL_law_561 dL_law_562 dL_law_563 dL_law_564 ?_
  refine lx_arg C 2 (by omega) rfl dL_law_565 dL_law_566 dL_law_567 dL_law_568 dL_law_569 ?_
  refine lx_call6 C.1 [xs (i + 1), xs (i + 2)] (o_X6_puts l M (xs (i + 1)) (xs (i + 2))) v_X6_puts rfl m_1124 ev (.int v.1) rfl (fun _ => rfl) [.int u.1] rfl rfl (by simp [Value.category]) ⟨Nat.le_of_ble_eq_true rfl, Nat.le_of_ble_eq_true rfl⟩ C.2.2.2.2.2.2.1 dL_law_570 ?_
  rw [er]
  exact lx_eq 1421 C.1 dL_law_573 (by decide) (k u.2 v.2 hr1)
theorem lx_c12 {i : Nat} (C : lx_Cx p s m args meth c dC dI dA A α b L xs cells slots) (hi : i + 6 ≤ L) (hr : p_Rel X M) (k : ∀ X' M', p_Rel X' M' → q_S p l e room_1 s m args below meth c 4 dC dI dA A α Q cells slots (some ()) () 1421 (lx_lv i) [] (lx_w X' M')) : q_S p l e room_1 s m args below meth c 4 dC dI dA A α Q cells slots (some ()) () 578 (lx_lv i) [] (lx_w X M) := by
  obtain ⟨u, eu, v, ev, er, hr1⟩ := w_hand hr (xs (i + 1))
  refine r_aload_n C.1 2 (x := 50) dL_law_578 rfl ?_
  refine lx_arg C 1 (by omega) rfl dL_law_579 dL_law_580 dL_law_581 dL_law_582 dL_law_583 ?_
  refine lx_call5 C.1 [xs (i + 1)] (o_X5_hand l X (xs (i + 1))) v_X5_hand rfl m_399 eu (.int u.1) rfl (fun _ => rfl) [] rfl rfl (by decide) ⟨Nat.le_of_ble_eq_true rfl, Nat.le_of_ble_eq_true rfl⟩ C.2.2.2.2.2.2.1 dL_law_584 ?_
  refine r_aload_n C.1 1 (x := 91) dL_law_587 rfl ?_
  refine lx_arg C 1 (by omega) rfl dL_law_588 dL_law_589 dL_law_590 dL_law_591 dL_law_592 ?_
  refine lx_call6 C.1 [xs (i + 1)] (o_X6_hand l M (xs (i + 1))) v_X6_hand rfl m_1140 ev (.int v.1) rfl (fun _ => rfl) [.int u.1] rfl rfl (by simp [Value.category]) ⟨Nat.le_of_ble_eq_true rfl, Nat.le_of_ble_eq_true rfl⟩ C.2.2.2.2.2.2.1 dL_law_593 ?_
  rw [er]
  exact lx_eq 1421 C.1 dL_law_596 (by decide) (k u.2 v.2 hr1)
theorem lx_c13 {i : Nat} (C : lx_Cx p s m args meth c dC dI dA A α b L xs cells slots) (hi : i + 6 ≤ L) (hr : p_Rel X M) (k : ∀ X' M', p_Rel X' M' → q_S p l e room_1 s m args below meth c 4 dC dI dA A α Q cells slots (some ()) () 1421 (lx_lv i) [] (lx_w X' M')) : q_S p l e room_1 s m args below meth c 4 dC dI dA A α Q cells slots (some ()) () 601 (lx_lv i) [] (lx_w X M) := by
  obtain ⟨u, eu, v, ev, er, hr1⟩ := w_suits hr (xs (i + 1))
  refine r_aload_n C.1 2 (x := 50) dL_law_601 rfl ?_
  refine lx_arg C 1 (by omega) rfl dL_law_602 dL_law_603 dL_law_604 dL_law_605 dL_law_606 ?_
  refine lx_call5 C.1 [xs (i + 1)] (o_X5_suits l X (xs (i + 1))) v_X5_suits rfl m_403 eu (.int u.1) rfl (fun _ => rfl) [] rfl rfl (by decide) ⟨Nat.le_of_ble_eq_true rfl, Nat.le_of_ble_eq_true rfl⟩ C.2.2.2.2.2.2.1 dL_law_607 ?_
  refine r_aload_n C.1 1 (x := 91) dL_law_610 rfl ?_
  refine lx_arg C 1 (by omega) rfl dL_law_611 dL_law_612 dL_law_613 dL_law_614 dL_law_615 ?_
  refine lx_call6 C.1 [xs (i + 1)] (o_X6_suits l M (xs (i + 1))) v_X6_suits rfl m_1144 ev (.int v.1) rfl (fun _ => rfl) [.int u.1] rfl rfl (by simp [Value.category]) ⟨Nat.le_of_ble_eq_true rfl, Nat.le_of_ble_eq_true rfl⟩ C.2.2.2.2.2.2.1 dL_law_616 ?_
  rw [er]
  exact lx_eq 1421 C.1 dL_law_619 (by decide) (k u.2 v.2 hr1)
theorem lx_c14 {i : Nat} (C : lx_Cx p s m args meth c dC dI dA A α b L xs cells slots) (hi : i + 6 ≤ L) (hr : p_Rel X M) (k : ∀ X' M', p_Rel X' M' → q_S p l e room_1 s m args below meth c 4 dC dI dA A α Q cells slots (some ()) () 1421 (lx_lv i) [] (lx_w X' M')) : q_S p l e room_1 s m args below meth c 4 dC dI dA A α Q cells slots (some ()) () 624 (lx_lv i) [] (lx_w X M) := by
  obtain ⟨u, eu, v, ev, er, hr1⟩ := w_now hr (xs (i + 1))
  refine r_aload_n C.1 2 (x := 50) dL_law_624 rfl ?_
  refine lx_arg C 1 (by omega) rfl dL_law_625 dL_law_626 dL_law_627 dL_law_628 dL_law_629 ?_
  refine lx_call5 C.1 [xs (i + 1)] (o_X5_now l X (xs (i + 1))) v_X5_now rfl m_420 eu (.int u.1) rfl (fun _ => rfl) [] rfl rfl (by decide) ⟨Nat.le_of_ble_eq_true rfl, Nat.le_of_ble_eq_true rfl⟩ C.2.2.2.2.2.2.1 dL_law_630 ?_
  refine r_aload_n C.1 1 (x := 91) dL_law_633 rfl ?_
  refine lx_arg C 1 (by omega) rfl dL_law_634 dL_law_635 dL_law_636 dL_law_637 dL_law_638 ?_
  refine lx_call6 C.1 [xs (i + 1)] (o_X6_now l M (xs (i + 1))) v_X6_now rfl m_1152 ev (.int v.1) rfl (fun _ => rfl) [.int u.1] rfl rfl (by simp [Value.category]) ⟨Nat.le_of_ble_eq_true rfl, Nat.le_of_ble_eq_true rfl⟩ C.2.2.2.2.2.2.1 dL_law_639 ?_
  rw [er]
  exact lx_eq 1421 C.1 dL_law_642 (by decide) (k u.2 v.2 hr1)
theorem lx_c15 {i : Nat} (C : lx_Cx p s m args meth c dC dI dA A α b L xs cells slots) (hi : i + 6 ≤ L) (hr : p_Rel X M) (k : ∀ X' M', p_Rel X' M' → q_S p l e room_1 s m args below meth c 4 dC dI dA A α Q cells slots (some ()) () 1421 (lx_lv i) [] (lx_w X' M')) : q_S p l e room_1 s m args below meth c 4 dC dI dA A α Q cells slots (some ()) () 647 (lx_lv i) [] (lx_w X M) := by
  obtain ⟨u, eu, v, ev, er, hr1⟩ := w_least hr (xs (i + 1))
  refine r_aload_n C.1 2 (x := 50) dL_law_647 rfl ?_
  refine lx_arg C 1 (by omega) rfl dL_law_648 dL_law_649 dL_law_650 dL_law_651 dL_law_652 ?_
  refine lx_call5 C.1 [xs (i + 1)] (o_X5_least l X (xs (i + 1))) v_X5_least rfl m_424 eu (.int u.1) rfl (fun _ => rfl) [] rfl rfl (by decide) ⟨Nat.le_of_ble_eq_true rfl, Nat.le_of_ble_eq_true rfl⟩ C.2.2.2.2.2.2.1 dL_law_653 ?_
  refine r_aload_n C.1 1 (x := 91) dL_law_656 rfl ?_
  refine lx_arg C 1 (by omega) rfl dL_law_657 dL_law_658 dL_law_659 dL_law_660 dL_law_661 ?_
  refine lx_call6 C.1 [xs (i + 1)] (o_X6_least l M (xs (i + 1))) v_X6_least rfl m_1156 ev (.int v.1) rfl (fun _ => rfl) [.int u.1] rfl rfl (by simp [Value.category]) ⟨Nat.le_of_ble_eq_true rfl, Nat.le_of_ble_eq_true rfl⟩ C.2.2.2.2.2.2.1 dL_law_662 ?_
  rw [er]
  exact lx_eq 1421 C.1 dL_law_665 (by decide) (k u.2 v.2 hr1)
theorem lx_c16 {i : Nat} (C : lx_Cx p s m args meth c dC dI dA A α b L xs cells slots) (hi : i + 6 ≤ L) (hr : p_Rel X M) (k : ∀ X' M', p_Rel X' M' → q_S p l e room_1 s m args below meth c 4 dC dI dA A α Q cells slots (some ()) () 1421 (lx_lv i) [] (lx_w X' M')) : q_S p l e room_1 s m args below meth c 4 dC dI dA A α Q cells slots (some ()) () 670 (lx_lv i) [] (lx_w X M) := by
  obtain ⟨u, eu, v, ev, er, hr1⟩ := w_held hr (xs (i + 1)) (xs (i + 2)) (xs (i + 3))
  refine r_aload_n C.1 2 (x := 50) dL_law_670 rfl ?_
  refine lx_arg C 1 (by omega) rfl dL_law_671 dL_law_672 dL_law_673 dL_law_674 dL_law_675 ?_
  refine lx_arg C 2 (by omega) rfl dL_law_676 dL_law_677 dL_law_678 dL_law_679 dL_law_680 ?_
  refine lx_arg C 3 (by omega) rfl dL_law_681 dL_law_682 dL_law_683 dL_law_684 dL_law_685 ?_
  refine lx_call5 C.1 [xs (i + 1), xs (i + 2), xs (i + 3)] (o_X5_held l X (xs (i + 1)) (xs (i + 2)) (xs (i + 3))) v_X5_held rfl m_471 eu (.int u.1) rfl (fun _ => rfl) [] rfl rfl (by decide) ⟨Nat.le_of_ble_eq_true rfl, Nat.le_of_ble_eq_true rfl⟩ C.2.2.2.2.2.2.1 dL_law_686 ?_
  refine r_aload_n C.1 1 (x := 91) dL_law_689 rfl ?_
  refine lx_arg C 1 (by omega) rfl dL_law_690 dL_law_691 dL_law_692 dL_law_693 dL_law_694 ?_
  refine lx_arg C 2 (by omega) rfl dL_law_695 dL_law_696 dL_law_697 dL_law_698 dL_law_699 ?_
  refine lx_arg C 3 (by omega) rfl dL_law_700 dL_law_701 dL_law_702 dL_law_703 dL_law_704 ?_
  refine lx_call6 C.1 [xs (i + 1), xs (i + 2), xs (i + 3)] (o_X6_held l M (xs (i + 1)) (xs (i + 2)) (xs (i + 3))) v_X6_held rfl m_1195 ev (.int v.1) rfl (fun _ => rfl) [.int u.1] rfl rfl (by simp [Value.category]) ⟨Nat.le_of_ble_eq_true rfl, Nat.le_of_ble_eq_true rfl⟩ C.2.2.2.2.2.2.1 dL_law_705 ?_
  rw [er]
  exact lx_eq 1421 C.1 dL_law_708 (by decide) (k u.2 v.2 hr1)
theorem lx_c17 {i : Nat} (C : lx_Cx p s m args meth c dC dI dA A α b L xs cells slots) (hi : i + 6 ≤ L) (hr : p_Rel X M) (k : ∀ X' M', p_Rel X' M' → q_S p l e room_1 s m args below meth c 4 dC dI dA A α Q cells slots (some ()) () 1421 (lx_lv i) [] (lx_w X' M')) : q_S p l e room_1 s m args below meth c 4 dC dI dA A α Q cells slots (some ()) () 713 (lx_lv i) [] (lx_w X M) := by
  obtain ⟨u, eu, v, ev, er, hr1⟩ := w_part hr (xs (i + 1)) (xs (i + 2)) (xs (i + 3))
  refine r_aload_n C.1 2 (x := 50) dL_law_713 rfl ?_
  refine lx_arg C 1 (by omega) rfl dL_law_714 dL_law_715 dL_law_716 dL_law_717 dL_law_718 ?_
  refine lx_arg C 2 (by omega) rfl dL_law_719 dL_law_720 dL_law_721 dL_law_722 dL_law_723 ?_
  refine lx_arg C 3 (by omega) rfl dL_law_724 dL_law_725 dL_law_726 dL_law_727 dL_law_728 ?_
  refine lx_call5 C.1 [xs (i + 1), xs (i + 2), xs (i + 3)] (o_X5_part l X (xs (i + 1)) (xs (i + 2)) (xs (i + 3))) v_X5_part rfl m_497 eu (.int u.1) rfl (fun _ => rfl) [] rfl rfl (by decide) ⟨Nat.le_of_ble_eq_true rfl, Nat.le_of_ble_eq_true rfl⟩ C.2.2.2.2.2.2.1 dL_law_729 ?_
  refine r_aload_n C.1 1 (x := 91) dL_law_732 rfl ?_
  refine lx_arg C 1 (by omega) rfl dL_law_733 dL_law_734 dL_law_735 dL_law_736 dL_law_737 ?_
  refine lx_arg C 2 (by omega) rfl dL_law_738 dL_law_739 dL_law_740 dL_law_741 dL_law_742 ?_
  refine lx_arg C 3 (by omega) rfl dL_law_743 dL_law_744 dL_law_745 dL_law_746 dL_law_747 ?_
  refine lx_call6 C.1 [xs (i + 1), xs (i + 2), xs (i + 3)] (o_X6_part l M (xs (i + 1)) (xs (i + 2)) (xs (i + 3))) v_X6_part rfl m_1203 ev (.int v.1) rfl (fun _ => rfl) [.int u.1] rfl rfl (by simp [Value.category]) ⟨Nat.le_of_ble_eq_true rfl, Nat.le_of_ble_eq_true rfl⟩ C.2.2.2.2.2.2.1 dL_law_748 ?_
  rw [er]
  exact lx_eq 1421 C.1 dL_law_751 (by decide) (k u.2 v.2 hr1)
theorem lx_c18 {i : Nat} (C : lx_Cx p s m args meth c dC dI dA A α b L xs cells slots) (hi : i + 6 ≤ L) (hr : p_Rel X M) (k : ∀ X' M', p_Rel X' M' → q_S p l e room_1 s m args below meth c 4 dC dI dA A α Q cells slots (some ()) () 1421 (lx_lv i) [] (lx_w X' M')) : q_S p l e room_1 s m args below meth c 4 dC dI dA A α Q cells slots (some ()) () 756 (lx_lv i) [] (lx_w X M) := by
  obtain ⟨u, eu, v, ev, er, hr1⟩ := w_dear hr
  refine r_aload_n C.1 2 (x := 50) dL_law_756 rfl ?_
  refine lx_call5 C.1 [] (o_X5_dear l X) v_X5_dear rfl m_513 eu (.int u.1) rfl (fun _ => rfl) [] rfl rfl (by decide) ⟨Nat.le_of_ble_eq_true rfl, Nat.le_of_ble_eq_true rfl⟩ C.2.2.2.2.2.2.1 dL_law_757 ?_
  refine r_aload_n C.1 1 (x := 91) dL_law_760 rfl ?_
  refine lx_call6 C.1 [] (o_X6_dear l M) v_X6_dear rfl m_1207 ev (.int v.1) rfl (fun _ => rfl) [.int u.1] rfl rfl (by simp [Value.category]) ⟨Nat.le_of_ble_eq_true rfl, Nat.le_of_ble_eq_true rfl⟩ C.2.2.2.2.2.2.1 dL_law_761 ?_
  rw [er]
  exact lx_eq 1421 C.1 dL_law_764 (by decide) (k u.2 v.2 hr1)
theorem lx_c19 {i : Nat} (C : lx_Cx p s m args meth c dC dI dA A α b L xs cells slots) (hi : i + 6 ≤ L) (hr : p_Rel X M) (k : ∀ X' M', p_Rel X' M' → q_S p l e room_1 s m args below meth c 4 dC dI dA A α Q cells slots (some ()) () 1421 (lx_lv i) [] (lx_w X' M')) : q_S p l e room_1 s m args below meth c 4 dC dI dA A α Q cells slots (some ()) () 769 (lx_lv i) [] (lx_w X M) := by
  obtain ⟨u, eu, v, ev, er, hr1⟩ := w_rehang hr
  refine r_aload_n C.1 2 (x := 50) dL_law_769 rfl ?_
  refine lx_call5 C.1 [] (o_X5_rehang l X) v_X5_rehang rfl m_519 eu (.int u.1) rfl (fun _ => rfl) [] rfl rfl (by decide) ⟨Nat.le_of_ble_eq_true rfl, Nat.le_of_ble_eq_true rfl⟩ C.2.2.2.2.2.2.1 dL_law_770 ?_
  refine r_aload_n C.1 1 (x := 91) dL_law_773 rfl ?_
  refine lx_call6 C.1 [] (o_X6_rehang l M) v_X6_rehang rfl m_1212 ev (.int v.1) rfl (fun _ => rfl) [.int u.1] rfl rfl (by simp [Value.category]) ⟨Nat.le_of_ble_eq_true rfl, Nat.le_of_ble_eq_true rfl⟩ C.2.2.2.2.2.2.1 dL_law_774 ?_
  rw [er]
  exact lx_eq 1421 C.1 dL_law_777 (by decide) (k u.2 v.2 hr1)
theorem lx_c20 {i : Nat} (C : lx_Cx p s m args meth c dC dI dA A α b L xs cells slots) (hi : i + 6 ≤ L) (hr : p_Rel X M) (k : ∀ X' M', p_Rel X' M' → q_S p l e room_1 s m args below meth c 4 dC dI dA A α Q cells slots (some ()) () 1421 (lx_lv i) [] (lx_w X' M')) : q_S p l e room_1 s m args below meth c 4 dC dI dA A α Q cells slots (some ()) () 782 (lx_lv i) [] (lx_w X M) := by
  obtain ⟨u, eu, v, ev, er, hr1⟩ := w_rehung hr
  refine r_aload_n C.1 2 (x := 50) dL_law_782 rfl ?_
  refine lx_call5 C.1 [] (o_X5_rehung l X) v_X5_rehung rfl m_531 eu (.int u.1) rfl (fun _ => rfl) [] rfl rfl (by decide) ⟨Nat.le_of_ble_eq_true rfl, Nat.le_of_ble_eq_true rfl⟩ C.2.2.2.2.2.2.1 dL_law_783 ?_
  refine r_aload_n C.1 1 (x := 91) dL_law_786 rfl ?_
  refine lx_call6 C.1 [] (o_X6_rehung l M) v_X6_rehung rfl m_1220 ev (.int v.1) rfl (fun _ => rfl) [.int u.1] rfl rfl (by simp [Value.category]) ⟨Nat.le_of_ble_eq_true rfl, Nat.le_of_ble_eq_true rfl⟩ C.2.2.2.2.2.2.1 dL_law_787 ?_
  rw [er]
  exact lx_eq 1421 C.1 dL_law_790 (by decide) (k u.2 v.2 hr1)
theorem lx_c21 {i : Nat} (C : lx_Cx p s m args meth c dC dI dA A α b L xs cells slots) (hi : i + 6 ≤ L) (hr : p_Rel X M) (k : ∀ X' M', p_Rel X' M' → q_S p l e room_1 s m args below meth c 4 dC dI dA A α Q cells slots (some ()) () 1421 (lx_lv i) [] (lx_w X' M')) : q_S p l e room_1 s m args below meth c 4 dC dI dA A α Q cells slots (some ()) () 795 (lx_lv i) [] (lx_w X M) := by
  obtain ⟨u, eu, v, ev, er, hr1⟩ := w_kindFor hr (xs (i + 1))
  refine r_aload_n C.1 2 (x := 50) dL_law_795 rfl ?_
  refine lx_arg C 1 (by omega) rfl dL_law_796 dL_law_797 dL_law_798 dL_law_799 dL_law_800 ?_
  refine lx_call5 C.1 [xs (i + 1)] (o_X5_kindFor l X (xs (i + 1))) v_X5_kindFor rfl m_535 eu (.int u.1) rfl (fun _ => rfl) [] rfl rfl (by decide) ⟨Nat.le_of_ble_eq_true rfl, Nat.le_of_ble_eq_true rfl⟩ C.2.2.2.2.2.2.1 dL_law_801 ?_
  refine r_aload_n C.1 1 (x := 91) dL_law_804 rfl ?_
  refine lx_arg C 1 (by omega) rfl dL_law_805 dL_law_806 dL_law_807 dL_law_808 dL_law_809 ?_
  refine lx_call6 C.1 [xs (i + 1)] (o_X6_kindFor l M (xs (i + 1))) v_X6_kindFor rfl m_1224 ev (.int v.1) rfl (fun _ => rfl) [.int u.1] rfl rfl (by simp [Value.category]) ⟨Nat.le_of_ble_eq_true rfl, Nat.le_of_ble_eq_true rfl⟩ C.2.2.2.2.2.2.1 dL_law_810 ?_
  rw [er]
  exact lx_eq 1421 C.1 dL_law_813 (by decide) (k u.2 v.2 hr1)
theorem lx_c22 {i : Nat} (C : lx_Cx p s m args meth c dC dI dA A α b L xs cells slots) (hi : i + 6 ≤ L) (hr : p_Rel X M) (k : ∀ X' M', p_Rel X' M' → q_S p l e room_1 s m args below meth c 4 dC dI dA A α Q cells slots (some ()) () 1421 (lx_lv i) [] (lx_w X' M')) : q_S p l e room_1 s m args below meth c 4 dC dI dA A α Q cells slots (some ()) () 818 (lx_lv i) [] (lx_w X M) := by
  obtain ⟨u, eu, v, ev, er, hr1⟩ := w_mayor hr (xs (i + 1))
  refine r_aload_n C.1 2 (x := 50) dL_law_818 rfl ?_
  refine lx_arg C 1 (by omega) rfl dL_law_819 dL_law_820 dL_law_821 dL_law_822 dL_law_823 ?_
  refine lx_call5 C.1 [xs (i + 1)] (o_X5_mayor l X (xs (i + 1))) v_X5_mayor rfl m_543 eu (.int u.1) rfl (fun _ => rfl) [] rfl rfl (by decide) ⟨Nat.le_of_ble_eq_true rfl, Nat.le_of_ble_eq_true rfl⟩ C.2.2.2.2.2.2.1 dL_law_824 ?_
  refine r_aload_n C.1 1 (x := 91) dL_law_827 rfl ?_
  refine lx_arg C 1 (by omega) rfl dL_law_828 dL_law_829 dL_law_830 dL_law_831 dL_law_832 ?_
  refine lx_call6 C.1 [xs (i + 1)] (o_X6_mayor l M (xs (i + 1))) v_X6_mayor rfl m_1228 ev (.int v.1) rfl (fun _ => rfl) [.int u.1] rfl rfl (by simp [Value.category]) ⟨Nat.le_of_ble_eq_true rfl, Nat.le_of_ble_eq_true rfl⟩ C.2.2.2.2.2.2.1 dL_law_833 ?_
  rw [er]
  exact lx_eq 1421 C.1 dL_law_836 (by decide) (k u.2 v.2 hr1)
theorem lx_c23 {i : Nat} (C : lx_Cx p s m args meth c dC dI dA A α b L xs cells slots) (hi : i + 6 ≤ L) (hr : p_Rel X M) (k : ∀ X' M', p_Rel X' M' → q_S p l e room_1 s m args below meth c 4 dC dI dA A α Q cells slots (some ()) () 1421 (lx_lv i) [] (lx_w X' M')) : q_S p l e room_1 s m args below meth c 4 dC dI dA A α Q cells slots (some ()) () 841 (lx_lv i) [] (lx_w X M) := by
  obtain ⟨u, eu, v, ev, er, hr1⟩ := w_leave hr (xs (i + 1))
  refine r_aload_n C.1 2 (x := 50) dL_law_841 rfl ?_
  refine lx_arg C 1 (by omega) rfl dL_law_842 dL_law_843 dL_law_844 dL_law_845 dL_law_846 ?_
  refine lx_call5 C.1 [xs (i + 1)] (o_X5_leave l X (xs (i + 1))) v_X5_leave rfl m_555 eu (.int u.1) rfl (fun _ => rfl) [] rfl rfl (by decide) ⟨Nat.le_of_ble_eq_true rfl, Nat.le_of_ble_eq_true rfl⟩ C.2.2.2.2.2.2.1 dL_law_847 ?_
  refine r_aload_n C.1 1 (x := 91) dL_law_850 rfl ?_
  refine lx_arg C 1 (by omega) rfl dL_law_851 dL_law_852 dL_law_853 dL_law_854 dL_law_855 ?_
  refine lx_call6 C.1 [xs (i + 1)] (o_X6_leave l M (xs (i + 1))) v_X6_leave rfl m_1243 ev (.int v.1) rfl (fun _ => rfl) [.int u.1] rfl rfl (by simp [Value.category]) ⟨Nat.le_of_ble_eq_true rfl, Nat.le_of_ble_eq_true rfl⟩ C.2.2.2.2.2.2.1 dL_law_856 ?_
  rw [er]
  exact lx_eq 1421 C.1 dL_law_859 (by decide) (k u.2 v.2 hr1)
theorem lx_c24 {i : Nat} (C : lx_Cx p s m args meth c dC dI dA A α b L xs cells slots) (hi : i + 6 ≤ L) (hr : p_Rel X M) (k : ∀ X' M', p_Rel X' M' → q_S p l e room_1 s m args below meth c 4 dC dI dA A α Q cells slots (some ()) () 1421 (lx_lv i) [] (lx_w X' M')) : q_S p l e room_1 s m args below meth c 4 dC dI dA A α Q cells slots (some ()) () 864 (lx_lv i) [] (lx_w X M) := by
  obtain ⟨u, eu, v, ev, er, hr1⟩ := w_fits hr (xs (i + 1))
  refine r_aload_n C.1 2 (x := 50) dL_law_864 rfl ?_
  refine lx_arg C 1 (by omega) rfl dL_law_865 dL_law_866 dL_law_867 dL_law_868 dL_law_869 ?_
  refine lx_call5 C.1 [xs (i + 1)] (o_X5_fits l X (xs (i + 1))) v_X5_fits rfl m_569 eu (.int u.1) rfl (fun _ => rfl) [] rfl rfl (by decide) ⟨Nat.le_of_ble_eq_true rfl, Nat.le_of_ble_eq_true rfl⟩ C.2.2.2.2.2.2.1 dL_law_870 ?_
  refine r_aload_n C.1 1 (x := 91) dL_law_873 rfl ?_
  refine lx_arg C 1 (by omega) rfl dL_law_874 dL_law_875 dL_law_876 dL_law_877 dL_law_878 ?_
  refine lx_call6 C.1 [xs (i + 1)] (o_X6_fits l M (xs (i + 1))) v_X6_fits rfl m_1247 ev (.int v.1) rfl (fun _ => rfl) [.int u.1] rfl rfl (by simp [Value.category]) ⟨Nat.le_of_ble_eq_true rfl, Nat.le_of_ble_eq_true rfl⟩ C.2.2.2.2.2.2.1 dL_law_879 ?_
  rw [er]
  exact lx_eq 1421 C.1 dL_law_882 (by decide) (k u.2 v.2 hr1)
theorem lx_c25 {i : Nat} (C : lx_Cx p s m args meth c dC dI dA A α b L xs cells slots) (hi : i + 6 ≤ L) (hr : p_Rel X M) (k : ∀ X' M', p_Rel X' M' → q_S p l e room_1 s m args below meth c 4 dC dI dA A α Q cells slots (some ()) () 1421 (lx_lv i) [] (lx_w X' M')) : q_S p l e room_1 s m args below meth c 4 dC dI dA A α Q cells slots (some ()) () 887 (lx_lv i) [] (lx_w X M) := by
  obtain ⟨u, eu, v, ev, er, hr1⟩ := w_maybe hr (xs (i + 1)) (xs (i + 2))
  refine r_aload_n C.1 2 (x := 50) dL_law_887 rfl ?_
  refine lx_arg C 1 (by omega) rfl dL_law_888 dL_law_889 dL_law_890 dL_law_891 dL_law_892 ?_
  refine lx_arg C 2 (by omega) rfl dL_law_893 dL_law_894 dL_law_895 dL_law_896 dL_law_897 ?_
  refine lx_call5 C.1 [xs (i + 1), xs (i + 2)] (o_X5_maybe l X (xs (i + 1)) (xs (i + 2))) v_X5_maybe rfl m_607 eu (.int u.1) rfl (fun _ => rfl) [] rfl rfl (by decide) ⟨Nat.le_of_ble_eq_true rfl, Nat.le_of_ble_eq_true rfl⟩ C.2.2.2.2.2.2.1 dL_law_898 ?_
  refine r_aload_n C.1 1 (x := 91) dL_law_901 rfl ?_
  refine lx_arg C 1 (by omega) rfl dL_law_902 dL_law_903 dL_law_904 dL_law_905 dL_law_906 ?_
  refine lx_arg C 2 (by omega) rfl dL_law_907 dL_law_908 dL_law_909 dL_law_910 dL_law_911 ?_
  refine lx_call6 C.1 [xs (i + 1), xs (i + 2)] (o_X6_maybe l M (xs (i + 1)) (xs (i + 2))) v_X6_maybe rfl m_1271 ev (.int v.1) rfl (fun _ => rfl) [.int u.1] rfl rfl (by simp [Value.category]) ⟨Nat.le_of_ble_eq_true rfl, Nat.le_of_ble_eq_true rfl⟩ C.2.2.2.2.2.2.1 dL_law_912 ?_
  rw [er]
  exact lx_eq 1421 C.1 dL_law_915 (by decide) (k u.2 v.2 hr1)
theorem lx_c26 {i : Nat} (C : lx_Cx p s m args meth c dC dI dA A α b L xs cells slots) (hi : i + 6 ≤ L) (hr : p_Rel X M) (k : ∀ X' M', p_Rel X' M' → q_S p l e room_1 s m args below meth c 4 dC dI dA A α Q cells slots (some ()) () 1421 (lx_lv i) [] (lx_w X' M')) : q_S p l e room_1 s m args below meth c 4 dC dI dA A α Q cells slots (some ()) () 920 (lx_lv i) [] (lx_w X M) := by
  obtain ⟨r, eu, ev⟩ := w_dogs hr
  refine r_aload_n C.1 2 (x := 50) dL_law_920 rfl ?_
  refine lx_call5 C.1 [] (o_X5_dogs l X) v_X5_dogs rfl m_615 eu (.int r) rfl (fun _ => rfl) [] rfl rfl (by decide) ⟨Nat.le_of_ble_eq_true rfl, Nat.le_of_ble_eq_true rfl⟩ C.2.2.2.2.2.2.1 dL_law_921 ?_
  refine r_aload_n C.1 1 (x := 91) dL_law_924 rfl ?_
  refine lx_call6 C.1 [] (o_X6_dogs l M) v_X6_dogs rfl m_1275 ev (.int r) rfl (fun _ => rfl) [.int r] rfl rfl (by simp [Value.category]) ⟨Nat.le_of_ble_eq_true rfl, Nat.le_of_ble_eq_true rfl⟩ C.2.2.2.2.2.2.1 dL_law_925 ?_
  exact lx_eq 1421 C.1 dL_law_928 (by decide) (k X M hr)
theorem lx_c27 {i : Nat} (C : lx_Cx p s m args meth c dC dI dA A α b L xs cells slots) (hi : i + 6 ≤ L) (hr : p_Rel X M) (k : ∀ X' M', p_Rel X' M' → q_S p l e room_1 s m args below meth c 4 dC dI dA A α Q cells slots (some ()) () 1421 (lx_lv i) [] (lx_w X' M')) : q_S p l e room_1 s m args below meth c 4 dC dI dA A α Q cells slots (some ()) () 933 (lx_lv i) [] (lx_w X M) := by
  obtain ⟨u, eu, v, ev, er, hr1⟩ := w_stays hr (xs (i + 1))
  refine r_aload_n C.1 2 (x := 50) dL_law_933 rfl ?_
  refine lx_arg C 1 (by omega) rfl dL_law_934 dL_law_935 dL_law_936 dL_law_937 dL_law_938 ?_
  refine lx_call5 C.1 [xs (i + 1)] (o_X5_stays l X (xs (i + 1))) v_X5_stays rfl m_630 eu (.long u.1) rfl (fun _ => rfl) [] rfl rfl (by decide) ⟨Nat.le_of_ble_eq_true rfl, Nat.le_of_ble_eq_true rfl⟩ C.2.2.2.2.2.2.1 dL_law_939 ?_
  refine r_aload_n C.1 1 (x := 91) dL_law_942 rfl ?_
  refine lx_arg C 1 (by omega) rfl dL_law_943 dL_law_944 dL_law_945 dL_law_946 dL_law_947 ?_
  refine lx_call6 C.1 [xs (i + 1)] (o_X6_stays l M (xs (i + 1))) v_X6_stays rfl m_1283 ev (.long v.1) rfl (fun _ => rfl) [.long u.1] rfl rfl (by simp [Value.category]) ⟨Nat.le_of_ble_eq_true rfl, Nat.le_of_ble_eq_true rfl⟩ C.2.2.2.2.2.2.1 dL_law_948 ?_
  rw [er]
  exact lx_eql 1421 C.1 dL_law_951 dL_law_952 (by decide) (k u.2 v.2 hr1)
theorem lx_c28 {i : Nat} (C : lx_Cx p s m args meth c dC dI dA A α b L xs cells slots) (hi : i + 6 ≤ L) (hr : p_Rel X M) (k : ∀ X' M', p_Rel X' M' → q_S p l e room_1 s m args below meth c 4 dC dI dA A α Q cells slots (some ()) () 1421 (lx_lv i) [] (lx_w X' M')) : q_S p l e room_1 s m args below meth c 4 dC dI dA A α Q cells slots (some ()) () 957 (lx_lv i) [] (lx_w X M) := by
  obtain ⟨u, eu, v, ev, er, hr1⟩ := w_plays hr
  refine r_aload_n C.1 2 (x := 50) dL_law_957 rfl ?_
  refine lx_call5 C.1 [] (o_X5_plays l X) v_X5_plays rfl m_640 eu (.int u.1) rfl (fun _ => rfl) [] rfl rfl (by decide) ⟨Nat.le_of_ble_eq_true rfl, Nat.le_of_ble_eq_true rfl⟩ C.2.2.2.2.2.2.1 dL_law_958 ?_
  refine r_aload_n C.1 1 (x := 91) dL_law_961 rfl ?_
  refine lx_call6 C.1 [] (o_X6_plays l M) v_X6_plays rfl m_1292 ev (.int v.1) rfl (fun _ => rfl) [.int u.1] rfl rfl (by simp [Value.category]) ⟨Nat.le_of_ble_eq_true rfl, Nat.le_of_ble_eq_true rfl⟩ C.2.2.2.2.2.2.1 dL_law_962 ?_
  rw [er]
  exact lx_eq 1421 C.1 dL_law_965 (by decide) (k u.2 v.2 hr1)
theorem lx_c29 {i : Nat} (C : lx_Cx p s m args meth c dC dI dA A α b L xs cells slots) (hi : i + 6 ≤ L) (hr : p_Rel X M) (k : ∀ X' M', p_Rel X' M' → q_S p l e room_1 s m args below meth c 4 dC dI dA A α Q cells slots (some ()) () 1421 (lx_lv i) [] (lx_w X' M')) : q_S p l e room_1 s m args below meth c 4 dC dI dA A α Q cells slots (some ()) () 970 (lx_lv i) [] (lx_w X M) := by
  obtain ⟨u, eu, v, ev, er, hr1⟩ := w_ahead hr (xs (i + 1))
  refine r_aload_n C.1 2 (x := 50) dL_law_970 rfl ?_
  refine lx_arg C 1 (by omega) rfl dL_law_971 dL_law_972 dL_law_973 dL_law_974 dL_law_975 ?_
  refine lx_call5 C.1 [xs (i + 1)] (o_X5_ahead l X (xs (i + 1))) v_X5_ahead rfl m_653 eu (.int u.1) rfl (fun _ => rfl) [] rfl rfl (by decide) ⟨Nat.le_of_ble_eq_true rfl, Nat.le_of_ble_eq_true rfl⟩ C.2.2.2.2.2.2.1 dL_law_976 ?_
  refine r_aload_n C.1 1 (x := 91) dL_law_979 rfl ?_
  refine lx_arg C 1 (by omega) rfl dL_law_980 dL_law_981 dL_law_982 dL_law_983 dL_law_984 ?_
  refine lx_call6 C.1 [xs (i + 1)] (o_X6_ahead l M (xs (i + 1))) v_X6_ahead rfl m_1309 ev (.int v.1) rfl (fun _ => rfl) [.int u.1] rfl rfl (by simp [Value.category]) ⟨Nat.le_of_ble_eq_true rfl, Nat.le_of_ble_eq_true rfl⟩ C.2.2.2.2.2.2.1 dL_law_985 ?_
  rw [er]
  exact lx_eq 1421 C.1 dL_law_988 (by decide) (k u.2 v.2 hr1)
theorem lx_c30 {i : Nat} (C : lx_Cx p s m args meth c dC dI dA A α b L xs cells slots) (hi : i + 6 ≤ L) (hr : p_Rel X M) (k : ∀ X' M', p_Rel X' M' → q_S p l e room_1 s m args below meth c 4 dC dI dA A α Q cells slots (some ()) () 1421 (lx_lv i) [] (lx_w X' M')) : q_S p l e room_1 s m args below meth c 4 dC dI dA A α Q cells slots (some ()) () 993 (lx_lv i) [] (lx_w X M) := by
  obtain ⟨u, eu, v, ev, er, hr1⟩ := w_seed hr (xs (i + 1))
  refine r_aload_n C.1 2 (x := 50) dL_law_993 rfl ?_
  refine lx_arg C 1 (by omega) rfl dL_law_994 dL_law_995 dL_law_996 dL_law_997 dL_law_998 ?_
  refine lx_call5 C.1 [xs (i + 1)] (o_X5_seed l X (xs (i + 1))) v_X5_seed rfl m_657 eu (.int u.1) rfl (fun _ => rfl) [] rfl rfl (by decide) ⟨Nat.le_of_ble_eq_true rfl, Nat.le_of_ble_eq_true rfl⟩ C.2.2.2.2.2.2.1 dL_law_999 ?_
  refine r_aload_n C.1 1 (x := 91) dL_law_1002 rfl ?_
  refine lx_arg C 1 (by omega) rfl dL_law_1003 dL_law_1004 dL_law_1005 dL_law_1006 dL_law_1007 ?_
  refine lx_call6 C.1 [xs (i + 1)] (o_X6_seed l M (xs (i + 1))) v_X6_seed rfl m_1317 ev (.int v.1) rfl (fun _ => rfl) [.int u.1] rfl rfl (by simp [Value.category]) ⟨Nat.le_of_ble_eq_true rfl, Nat.le_of_ble_eq_true rfl⟩ C.2.2.2.2.2.2.1 dL_law_1008 ?_
  rw [er]
  exact lx_eq 1421 C.1 dL_law_1011 (by decide) (k u.2 v.2 hr1)
theorem lx_c31 {i : Nat} (C : lx_Cx p s m args meth c dC dI dA A α b L xs cells slots) (hi : i + 6 ≤ L) (hr : p_Rel X M) (k : ∀ X' M', p_Rel X' M' → q_S p l e room_1 s m args below meth c 4 dC dI dA A α Q cells slots (some ()) () 1421 (lx_lv i) [] (lx_w X' M')) : q_S p l e room_1 s m args below meth c 4 dC dI dA A α Q cells slots (some ()) () 1016 (lx_lv i) [] (lx_w X M) := by
  obtain ⟨u, eu, v, ev, er, hr1⟩ := w_feed hr (xs (i + 1)) (xs (i + 2))
  refine r_aload_n C.1 2 (x := 50) dL_law_1016 rfl ?_
  refine lx_arg C 1 (by omega) rfl dL_law_1017 dL_law_1018 dL_law_1019 dL_law_1020 dL_law_1021 ?_
  refine lx_arg C 2 (by omega) rfl dL_law_1022 dL_law_1023 dL_law_1024 dL_law_1025 dL_law_1026 ?_
  refine lx_call5 C.1 [xs (i + 1), xs (i + 2)] (o_X5_feed l X (xs (i + 1)) (xs (i + 2))) v_X5_feed rfl m_661 eu (.int u.1) rfl (fun _ => rfl) [] rfl rfl (by decide) ⟨Nat.le_of_ble_eq_true rfl, Nat.le_of_ble_eq_true rfl⟩ C.2.2.2.2.2.2.1 dL_law_1027 ?_
  refine r_aload_n C.1 1 (x := 91) dL_law_1030 rfl ?_
  refine lx_arg C 1 (by omega) rfl dL_law_1031 dL_law_1032 dL_law_1033 dL_law_1034 dL_law_1035 ?_
  refine lx_arg C 2 (by omega) rfl dL_law_1036 dL_law_1037 dL_law_1038 dL_law_1039 dL_law_1040 ?_
  refine lx_call6 C.1 [xs (i + 1), xs (i + 2)] (o_X6_feed l M (xs (i + 1)) (xs (i + 2))) v_X6_feed rfl m_1321 ev (.int v.1) rfl (fun _ => rfl) [.int u.1] rfl rfl (by simp [Value.category]) ⟨Nat.le_of_ble_eq_true rfl, Nat.le_of_ble_eq_true rfl⟩ C.2.2.2.2.2.2.1 dL_law_1041 ?_
  rw [er]
  exact lx_eq 1421 C.1 dL_law_1044 (by decide) (k u.2 v.2 hr1)
theorem lx_c32 {i : Nat} (C : lx_Cx p s m args meth c dC dI dA A α b L xs cells slots) (hi : i + 6 ≤ L) (hr : p_Rel X M) (k : ∀ X' M', p_Rel X' M' → q_S p l e room_1 s m args below meth c 4 dC dI dA A α Q cells slots (some ()) () 1421 (lx_lv i) [] (lx_w X' M')) : q_S p l e room_1 s m args below meth c 4 dC dI dA A α Q cells slots (some ()) () 1049 (lx_lv i) [] (lx_w X M) := by
  obtain ⟨u, eu, v, ev, er, hr1⟩ := w_wipe hr
  refine r_aload_n C.1 2 (x := 50) dL_law_1049 rfl ?_
  refine lx_call5 C.1 [] (o_X5_wipe l X) v_X5_wipe rfl m_669 eu (.int u.1) rfl (fun _ => rfl) [] rfl rfl (by decide) ⟨Nat.le_of_ble_eq_true rfl, Nat.le_of_ble_eq_true rfl⟩ C.2.2.2.2.2.2.1 dL_law_1050 ?_
  refine r_aload_n C.1 1 (x := 91) dL_law_1053 rfl ?_
  refine lx_call6 C.1 [] (o_X6_wipe l M) v_X6_wipe rfl m_1325 ev (.int v.1) rfl (fun _ => rfl) [.int u.1] rfl rfl (by simp [Value.category]) ⟨Nat.le_of_ble_eq_true rfl, Nat.le_of_ble_eq_true rfl⟩ C.2.2.2.2.2.2.1 dL_law_1054 ?_
  rw [er]
  exact lx_eq 1421 C.1 dL_law_1057 (by decide) (k u.2 v.2 hr1)
theorem lx_c33 {i : Nat} (C : lx_Cx p s m args meth c dC dI dA A α b L xs cells slots) (hi : i + 6 ≤ L) (hr : p_Rel X M) (k : ∀ X' M', p_Rel X' M' → q_S p l e room_1 s m args below meth c 4 dC dI dA A α Q cells slots (some ()) () 1421 (lx_lv i) [] (lx_w X' M')) : q_S p l e room_1 s m args below meth c 4 dC dI dA A α Q cells slots (some ()) () 1062 (lx_lv i) [] (lx_w X M) := by
  obtain ⟨u, eu, v, ev, er, hr1⟩ := w_text hr
  refine r_aload_n C.1 2 (x := 50) dL_law_1062 rfl ?_
  refine lx_call5 C.1 [] (o_X5_text l X) v_X5_text rfl m_673 eu (.int u.1) rfl (fun _ => rfl) [] rfl rfl (by decide) ⟨Nat.le_of_ble_eq_true rfl, Nat.le_of_ble_eq_true rfl⟩ C.2.2.2.2.2.2.1 dL_law_1063 ?_
  refine r_aload_n C.1 1 (x := 91) dL_law_1066 rfl ?_
  refine lx_call6 C.1 [] (o_X6_text l M) v_X6_text rfl m_1329 ev (.int v.1) rfl (fun _ => rfl) [.int u.1] rfl rfl (by simp [Value.category]) ⟨Nat.le_of_ble_eq_true rfl, Nat.le_of_ble_eq_true rfl⟩ C.2.2.2.2.2.2.1 dL_law_1067 ?_
  rw [er]
  exact lx_eq 1421 C.1 dL_law_1070 (by decide) (k u.2 v.2 hr1)
theorem lx_c34 {i : Nat} (C : lx_Cx p s m args meth c dC dI dA A α b L xs cells slots) (hi : i + 6 ≤ L) (hr : p_Rel X M) (k : ∀ X' M', p_Rel X' M' → q_S p l e room_1 s m args below meth c 4 dC dI dA A α Q cells slots (some ()) () 1421 (lx_lv i) [] (lx_w X' M')) : q_S p l e room_1 s m args below meth c 4 dC dI dA A α Q cells slots (some ()) () 1075 (lx_lv i) [] (lx_w X M) := by
  obtain ⟨u, eu, v, ev, er, hr1⟩ := w_hold hr (xs (i + 1)) (xs (i + 2))
  refine r_aload_n C.1 2 (x := 50) dL_law_1075 rfl ?_
  refine lx_arg C 1 (by omega) rfl dL_law_1076 dL_law_1077 dL_law_1078 dL_law_1079 dL_law_1080 ?_
  refine lx_arg C 2 (by omega) rfl dL_law_1081 dL_law_1082 dL_law_1083 dL_law_1084 dL_law_1085 ?_
  refine lx_call5 C.1 [xs (i + 1), xs (i + 2)] (o_X5_hold l X (xs (i + 1)) (xs (i + 2))) v_X5_hold rfl m_808 eu (.int u.1) rfl (fun _ => rfl) [] rfl rfl (by decide) ⟨Nat.le_of_ble_eq_true rfl, Nat.le_of_ble_eq_true rfl⟩ C.2.2.2.2.2.2.1 dL_law_1086 ?_
  refine r_aload_n C.1 1 (x := 91) dL_law_1089 rfl ?_
  refine lx_arg C 1 (by omega) rfl dL_law_1090 dL_law_1091 dL_law_1092 dL_law_1093 dL_law_1094 ?_
  refine lx_arg C 2 (by omega) rfl dL_law_1095 dL_law_1096 dL_law_1097 dL_law_1098 dL_law_1099 ?_
  refine lx_call6 C.1 [xs (i + 1), xs (i + 2)] (o_X6_hold l M (xs (i + 1)) (xs (i + 2))) v_X6_hold rfl m_1380 ev (.int v.1) rfl (fun _ => rfl) [.int u.1] rfl rfl (by simp [Value.category]) ⟨Nat.le_of_ble_eq_true rfl, Nat.le_of_ble_eq_true rfl⟩ C.2.2.2.2.2.2.1 dL_law_1100 ?_
  rw [er]
  exact lx_eq 1421 C.1 dL_law_1103 (by decide) (k u.2 v.2 hr1)
theorem lx_c35 {i : Nat} (C : lx_Cx p s m args meth c dC dI dA A α b L xs cells slots) (hi : i + 6 ≤ L) (hr : p_Rel X M) (k : ∀ X' M', p_Rel X' M' → q_S p l e room_1 s m args below meth c 4 dC dI dA A α Q cells slots (some ()) () 1421 (lx_lv i) [] (lx_w X' M')) : q_S p l e room_1 s m args below meth c 4 dC dI dA A α Q cells slots (some ()) () 1108 (lx_lv i) [] (lx_w X M) := by
  obtain ⟨u, eu, v, ev, er, hr1⟩ := w_as hr (xs (i + 1)) (xs (i + 2))
  refine r_aload_n C.1 2 (x := 50) dL_law_1108 rfl ?_
  refine lx_arg C 1 (by omega) rfl dL_law_1109 dL_law_1110 dL_law_1111 dL_law_1112 dL_law_1113 ?_
  refine lx_arg C 2 (by omega) rfl dL_law_1114 dL_law_1115 dL_law_1116 dL_law_1117 dL_law_1118 ?_
  refine lx_call5 C.1 [xs (i + 1), xs (i + 2)] (o_X5_as l X (xs (i + 1)) (xs (i + 2))) v_X5_as rfl m_821 eu (.int u.1) rfl (fun _ => rfl) [] rfl rfl (by decide) ⟨Nat.le_of_ble_eq_true rfl, Nat.le_of_ble_eq_true rfl⟩ C.2.2.2.2.2.2.1 dL_law_1119 ?_
  refine r_aload_n C.1 1 (x := 91) dL_law_1122 rfl ?_
  refine lx_arg C 1 (by omega) rfl dL_law_1123 dL_law_1124 dL_law_1125 dL_law_1126 dL_law_1127 ?_
  refine lx_arg C 2 (by omega) rfl dL_law_1128 dL_law_1129 dL_law_1130 dL_law_1131 dL_law_1132 ?_
  refine lx_call6 C.1 [xs (i + 1), xs (i + 2)] (o_X6_as l M (xs (i + 1)) (xs (i + 2))) v_X6_as rfl m_1387 ev (.int v.1) rfl (fun _ => rfl) [.int u.1] rfl rfl (by simp [Value.category]) ⟨Nat.le_of_ble_eq_true rfl, Nat.le_of_ble_eq_true rfl⟩ C.2.2.2.2.2.2.1 dL_law_1133 ?_
  rw [er]
  exact lx_eq 1421 C.1 dL_law_1136 (by decide) (k u.2 v.2 hr1)
theorem lx_c36 {i : Nat} (C : lx_Cx p s m args meth c dC dI dA A α b L xs cells slots) (hi : i + 6 ≤ L) (hr : p_Rel X M) (k : ∀ X' M', p_Rel X' M' → q_S p l e room_1 s m args below meth c 4 dC dI dA A α Q cells slots (some ()) () 1421 (lx_lv i) [] (lx_w X' M')) : q_S p l e room_1 s m args below meth c 4 dC dI dA A α Q cells slots (some ()) () 1141 (lx_lv i) [] (lx_w X M) := by
  obtain ⟨u, eu, v, ev, er, hr1⟩ := w_sheet hr (xs (i + 1)) (xs (i + 2)) (xs (i + 3))
  refine r_aload_n C.1 2 (x := 50) dL_law_1141 rfl ?_
  refine lx_arg C 1 (by omega) rfl dL_law_1142 dL_law_1143 dL_law_1144 dL_law_1145 dL_law_1146 ?_
  refine lx_arg C 2 (by omega) rfl dL_law_1147 dL_law_1148 dL_law_1149 dL_law_1150 dL_law_1151 ?_
  refine lx_arg C 3 (by omega) rfl dL_law_1152 dL_law_1153 dL_law_1154 dL_law_1155 dL_law_1156 ?_
  refine lx_call5 C.1 [xs (i + 1), xs (i + 2), xs (i + 3)] (o_X5_sheet l X (xs (i + 1)) (xs (i + 2)) (xs (i + 3))) v_X5_sheet rfl m_831 eu (.int u.1) rfl (fun _ => rfl) [] rfl rfl (by decide) ⟨Nat.le_of_ble_eq_true rfl, Nat.le_of_ble_eq_true rfl⟩ C.2.2.2.2.2.2.1 dL_law_1157 ?_
  refine r_aload_n C.1 1 (x := 91) dL_law_1160 rfl ?_
  refine lx_arg C 1 (by omega) rfl dL_law_1161 dL_law_1162 dL_law_1163 dL_law_1164 dL_law_1165 ?_
  refine lx_arg C 2 (by omega) rfl dL_law_1166 dL_law_1167 dL_law_1168 dL_law_1169 dL_law_1170 ?_
  refine lx_arg C 3 (by omega) rfl dL_law_1171 dL_law_1172 dL_law_1173 dL_law_1174 dL_law_1175 ?_
  refine lx_call6 C.1 [xs (i + 1), xs (i + 2), xs (i + 3)] (o_X6_sheet l M (xs (i + 1)) (xs (i + 2)) (xs (i + 3))) v_X6_sheet rfl m_1392 ev (.int v.1) rfl (fun _ => rfl) [.int u.1] rfl rfl (by simp [Value.category]) ⟨Nat.le_of_ble_eq_true rfl, Nat.le_of_ble_eq_true rfl⟩ C.2.2.2.2.2.2.1 dL_law_1176 ?_
  rw [er]
  exact lx_eq 1421 C.1 dL_law_1179 (by decide) (k u.2 v.2 hr1)
theorem lx_c37 {i : Nat} (C : lx_Cx p s m args meth c dC dI dA A α b L xs cells slots) (hi : i + 6 ≤ L) (hr : p_Rel X M) (k : ∀ X' M', p_Rel X' M' → q_S p l e room_1 s m args below meth c 4 dC dI dA A α Q cells slots (some ()) () 1421 (lx_lv i) [] (lx_w X' M')) : q_S p l e room_1 s m args below meth c 4 dC dI dA A α Q cells slots (some ()) () 1184 (lx_lv i) [] (lx_w X M) := by
  obtain ⟨u, eu, v, ev, er, hr1⟩ := w_write hr (xs (i + 1)) (xs (i + 2)) (xs (i + 3))
  refine r_aload_n C.1 2 (x := 50) dL_law_1184 rfl ?_
  refine lx_arg C 1 (by omega) rfl dL_law_1185 dL_law_1186 dL_law_1187 dL_law_1188 dL_law_1189 ?_
  refine lx_arg C 2 (by omega) rfl dL_law_1190 dL_law_1191 dL_law_1192 dL_law_1193 dL_law_1194 ?_
  refine lx_arg C 3 (by omega) rfl dL_law_1195 dL_law_1196 dL_law_1197 dL_law_1198 dL_law_1199 ?_
  refine lx_call5 C.1 [xs (i + 1), xs (i + 2), xs (i + 3)] (o_X5_write l X (xs (i + 1)) (xs (i + 2)) (xs (i + 3))) v_X5_write rfl m_846 eu (.int u.1) rfl (fun _ => rfl) [] rfl rfl (by decide) ⟨Nat.le_of_ble_eq_true rfl, Nat.le_of_ble_eq_true rfl⟩ C.2.2.2.2.2.2.1 dL_law_1200 ?_
  refine r_aload_n C.1 1 (x := 91) dL_law_1203 rfl ?_
  refine lx_arg C 1 (by omega) rfl dL_law_1204 dL_law_1205 dL_law_1206 dL_law_1207 dL_law_1208 ?_
  refine lx_arg C 2 (by omega) rfl dL_law_1209 dL_law_1210 dL_law_1211 dL_law_1212 dL_law_1213 ?_
  refine lx_arg C 3 (by omega) rfl dL_law_1214 dL_law_1215 dL_law_1216 dL_law_1217 dL_law_1218 ?_
  refine lx_call6 C.1 [xs (i + 1), xs (i + 2), xs (i + 3)] (o_X6_write l M (xs (i + 1)) (xs (i + 2)) (xs (i + 3))) v_X6_write rfl m_1396 ev (.int v.1) rfl (fun _ => rfl) [.int u.1] rfl rfl (by simp [Value.category]) ⟨Nat.le_of_ble_eq_true rfl, Nat.le_of_ble_eq_true rfl⟩ C.2.2.2.2.2.2.1 dL_law_1219 ?_
  rw [er]
  exact lx_eq 1421 C.1 dL_law_1222 (by decide) (k u.2 v.2 hr1)
theorem lx_c38 {i : Nat} (C : lx_Cx p s m args meth c dC dI dA A α b L xs cells slots) (hi : i + 6 ≤ L) (hr : p_Rel X M) (k : ∀ X' M', p_Rel X' M' → q_S p l e room_1 s m args below meth c 4 dC dI dA A α Q cells slots (some ()) () 1421 (lx_lv i) [] (lx_w X' M')) : q_S p l e room_1 s m args below meth c 4 dC dI dA A α Q cells slots (some ()) () 1227 (lx_lv i) [] (lx_w X M) := by
  obtain ⟨u, eu, v, ev, er, hr1⟩ := w_copy hr (xs (i + 1)) (xs (i + 2)) (xs (i + 3)) (xs (i + 4)) (xs (i + 5))
  refine r_aload_n C.1 2 (x := 50) dL_law_1227 rfl ?_
  refine lx_arg C 1 (by omega) rfl dL_law_1228 dL_law_1229 dL_law_1230 dL_law_1231 dL_law_1232 ?_
  refine lx_arg C 2 (by omega) rfl dL_law_1233 dL_law_1234 dL_law_1235 dL_law_1236 dL_law_1237 ?_
  refine lx_arg C 3 (by omega) rfl dL_law_1238 dL_law_1239 dL_law_1240 dL_law_1241 dL_law_1242 ?_
  refine lx_arg C 4 (by omega) rfl dL_law_1243 dL_law_1244 dL_law_1245 dL_law_1246 dL_law_1247 ?_
  refine lx_arg C 5 (by omega) rfl dL_law_1248 dL_law_1249 dL_law_1250 dL_law_1251 dL_law_1252 ?_
  refine lx_call5 C.1 [xs (i + 1), xs (i + 2), xs (i + 3), xs (i + 4), xs (i + 5)] (o_X5_copy l X (xs (i + 1)) (xs (i + 2)) (xs (i + 3)) (xs (i + 4)) (xs (i + 5))) v_X5_copy rfl m_854 eu (.int u.1) rfl (fun _ => rfl) [] rfl rfl (by decide) ⟨Nat.le_of_ble_eq_true rfl, Nat.le_of_ble_eq_true rfl⟩ C.2.2.2.2.2.2.1 dL_law_1253 ?_
  refine r_aload_n C.1 1 (x := 91) dL_law_1256 rfl ?_
  refine lx_arg C 1 (by omega) rfl dL_law_1257 dL_law_1258 dL_law_1259 dL_law_1260 dL_law_1261 ?_
  refine lx_arg C 2 (by omega) rfl dL_law_1262 dL_law_1263 dL_law_1264 dL_law_1265 dL_law_1266 ?_
  refine lx_arg C 3 (by omega) rfl dL_law_1267 dL_law_1268 dL_law_1269 dL_law_1270 dL_law_1271 ?_
  refine lx_arg C 4 (by omega) rfl dL_law_1272 dL_law_1273 dL_law_1274 dL_law_1275 dL_law_1276 ?_
  refine lx_arg C 5 (by omega) rfl dL_law_1277 dL_law_1278 dL_law_1279 dL_law_1280 dL_law_1281 ?_
  refine lx_call6 C.1 [xs (i + 1), xs (i + 2), xs (i + 3), xs (i + 4), xs (i + 5)] (o_X6_copy l M (xs (i + 1)) (xs (i + 2)) (xs (i + 3)) (xs (i + 4)) (xs (i + 5))) v_X6_copy rfl m_1403 ev (.int v.1) rfl (fun _ => rfl) [.int u.1] rfl rfl (by simp [Value.category]) ⟨Nat.le_of_ble_eq_true rfl, Nat.le_of_ble_eq_true rfl⟩ C.2.2.2.2.2.2.1 dL_law_1282 ?_
  rw [er]
  exact lx_eq 1421 C.1 dL_law_1285 (by decide) (k u.2 v.2 hr1)
theorem lx_c39 {i : Nat} (C : lx_Cx p s m args meth c dC dI dA A α b L xs cells slots) (hi : i + 6 ≤ L) (hr : p_Rel X M) (k : ∀ X' M', p_Rel X' M' → q_S p l e room_1 s m args below meth c 4 dC dI dA A α Q cells slots (some ()) () 1421 (lx_lv i) [] (lx_w X' M')) : q_S p l e room_1 s m args below meth c 4 dC dI dA A α Q cells slots (some ()) () 1290 (lx_lv i) [] (lx_w X M) := by
  obtain ⟨u, eu, v, ev, er, hr1⟩ := w_load hr (xs (i + 1))
  refine r_aload_n C.1 2 (x := 50) dL_law_1290 rfl ?_
  refine lx_arg C 1 (by omega) rfl dL_law_1291 dL_law_1292 dL_law_1293 dL_law_1294 dL_law_1295 ?_
  refine lx_call5 C.1 [xs (i + 1)] (o_X5_load l X (xs (i + 1))) v_X5_load rfl m_863 eu (.int u.1) rfl (fun _ => rfl) [] rfl rfl (by decide) ⟨Nat.le_of_ble_eq_true rfl, Nat.le_of_ble_eq_true rfl⟩ C.2.2.2.2.2.2.1 dL_law_1296 ?_
  refine r_aload_n C.1 1 (x := 91) dL_law_1299 rfl ?_
  refine lx_arg C 1 (by omega) rfl dL_law_1300 dL_law_1301 dL_law_1302 dL_law_1303 dL_law_1304 ?_
  refine lx_call6 C.1 [xs (i + 1)] (o_X6_load l M (xs (i + 1))) v_X6_load rfl m_1407 ev (.int v.1) rfl (fun _ => rfl) [.int u.1] rfl rfl (by simp [Value.category]) ⟨Nat.le_of_ble_eq_true rfl, Nat.le_of_ble_eq_true rfl⟩ C.2.2.2.2.2.2.1 dL_law_1305 ?_
  rw [er]
  exact lx_eq 1421 C.1 dL_law_1308 (by decide) (k u.2 v.2 hr1)
theorem lx_c40 {i : Nat} (C : lx_Cx p s m args meth c dC dI dA A α b L xs cells slots) (hi : i + 6 ≤ L) (hr : p_Rel X M) (k : ∀ X' M', p_Rel X' M' → q_S p l e room_1 s m args below meth c 4 dC dI dA A α Q cells slots (some ()) () 1421 (lx_lv i) [] (lx_w X' M')) : q_S p l e room_1 s m args below meth c 4 dC dI dA A α Q cells slots (some ()) () 1313 (lx_lv i) [] (lx_w X M) := by
  obtain ⟨u, eu, v, ev, er, hr1⟩ := w_judge hr (xs (i + 1))
  refine r_aload_n C.1 2 (x := 50) dL_law_1313 rfl ?_
  refine lx_arg C 1 (by omega) rfl dL_law_1314 dL_law_1315 dL_law_1316 dL_law_1317 dL_law_1318 ?_
  refine lx_call5 C.1 [xs (i + 1)] (o_X5_judge l X (xs (i + 1))) v_X5_judge rfl m_867 eu (.int u.1) rfl (fun _ => rfl) [] rfl rfl (by decide) ⟨Nat.le_of_ble_eq_true rfl, Nat.le_of_ble_eq_true rfl⟩ C.2.2.2.2.2.2.1 dL_law_1319 ?_
  refine r_aload_n C.1 1 (x := 91) dL_law_1322 rfl ?_
  refine lx_arg C 1 (by omega) rfl dL_law_1323 dL_law_1324 dL_law_1325 dL_law_1326 dL_law_1327 ?_
  refine lx_call6 C.1 [xs (i + 1)] (o_X6_judge l M (xs (i + 1))) v_X6_judge rfl m_1411 ev (.int v.1) rfl (fun _ => rfl) [.int u.1] rfl rfl (by simp [Value.category]) ⟨Nat.le_of_ble_eq_true rfl, Nat.le_of_ble_eq_true rfl⟩ C.2.2.2.2.2.2.1 dL_law_1328 ?_
  rw [er]
  exact lx_eq 1421 C.1 dL_law_1331 (by decide) (k u.2 v.2 hr1)
theorem lx_c41 {i : Nat} (C : lx_Cx p s m args meth c dC dI dA A α b L xs cells slots) (hi : i + 6 ≤ L) (hr : p_Rel X M) (k : ∀ X' M', p_Rel X' M' → q_S p l e room_1 s m args below meth c 4 dC dI dA A α Q cells slots (some ()) () 1421 (lx_lv i) [] (lx_w X' M')) : q_S p l e room_1 s m args below meth c 4 dC dI dA A α Q cells slots (some ()) () 1336 (lx_lv i) [] (lx_w X M) := by
  obtain ⟨u, eu, v, ev, er, hr1⟩ := w_image hr
  refine r_aload_n C.1 2 (x := 50) dL_law_1336 rfl ?_
  refine lx_call5 C.1 [] (o_X5_image l X) v_X5_image rfl m_871 eu (.int u.1) rfl (fun _ => rfl) [] rfl rfl (by decide) ⟨Nat.le_of_ble_eq_true rfl, Nat.le_of_ble_eq_true rfl⟩ C.2.2.2.2.2.2.1 dL_law_1337 ?_
  refine r_aload_n C.1 1 (x := 91) dL_law_1340 rfl ?_
  refine lx_call6 C.1 [] (o_X6_image l M) v_X6_image rfl m_1415 ev (.int v.1) rfl (fun _ => rfl) [.int u.1] rfl rfl (by simp [Value.category]) ⟨Nat.le_of_ble_eq_true rfl, Nat.le_of_ble_eq_true rfl⟩ C.2.2.2.2.2.2.1 dL_law_1341 ?_
  rw [er]
  exact lx_eq 1421 C.1 dL_law_1344 (by decide) (k u.2 v.2 hr1)
theorem lx_c42 {i : Nat} (C : lx_Cx p s m args meth c dC dI dA A α b L xs cells slots) (hi : i + 6 ≤ L) (hr : p_Rel X M) (k : ∀ X' M', p_Rel X' M' → q_S p l e room_1 s m args below meth c 4 dC dI dA A α Q cells slots (some ()) () 1421 (lx_lv i) [] (lx_w X' M')) : q_S p l e room_1 s m args below meth c 4 dC dI dA A α Q cells slots (some ()) () 1349 (lx_lv i) [] (lx_w X M) := by
  obtain ⟨u, eu, v, ev, er, hr1⟩ := w_undo hr
  refine r_aload_n C.1 2 (x := 50) dL_law_1349 rfl ?_
  refine lx_call5 C.1 [] (o_X5_undo l X) v_X5_undo rfl m_875 eu (.int u.1) rfl (fun _ => rfl) [] rfl rfl (by decide) ⟨Nat.le_of_ble_eq_true rfl, Nat.le_of_ble_eq_true rfl⟩ C.2.2.2.2.2.2.1 dL_law_1350 ?_
  refine r_aload_n C.1 1 (x := 91) dL_law_1353 rfl ?_
  refine lx_call6 C.1 [] (o_X6_undo l M) v_X6_undo rfl m_1419 ev (.int v.1) rfl (fun _ => rfl) [.int u.1] rfl rfl (by simp [Value.category]) ⟨Nat.le_of_ble_eq_true rfl, Nat.le_of_ble_eq_true rfl⟩ C.2.2.2.2.2.2.1 dL_law_1354 ?_
  rw [er]
  exact lx_eq 1421 C.1 dL_law_1357 (by decide) (k u.2 v.2 hr1)
theorem lx_c43 {i : Nat} (C : lx_Cx p s m args meth c dC dI dA A α b L xs cells slots) (hi : i + 6 ≤ L) (hr : p_Rel X M) (k : ∀ X' M', p_Rel X' M' → q_S p l e room_1 s m args below meth c 4 dC dI dA A α Q cells slots (some ()) () 1421 (lx_lv i) [] (lx_w X' M')) : q_S p l e room_1 s m args below meth c 4 dC dI dA A α Q cells slots (some ()) () 1362 (lx_lv i) [] (lx_w X M) := by
  obtain ⟨u, eu, v, ev, er, hr1⟩ := w_tear hr
  refine r_aload_n C.1 2 (x := 50) dL_law_1362 rfl ?_
  refine lx_call5 C.1 [] (o_X5_tear l X) v_X5_tear rfl m_879 eu (.int u.1) rfl (fun _ => rfl) [] rfl rfl (by decide) ⟨Nat.le_of_ble_eq_true rfl, Nat.le_of_ble_eq_true rfl⟩ C.2.2.2.2.2.2.1 dL_law_1363 ?_
  refine r_aload_n C.1 1 (x := 91) dL_law_1366 rfl ?_
  refine lx_call6 C.1 [] (o_X6_tear l M) v_X6_tear rfl m_1423 ev (.int v.1) rfl (fun _ => rfl) [.int u.1] rfl rfl (by simp [Value.category]) ⟨Nat.le_of_ble_eq_true rfl, Nat.le_of_ble_eq_true rfl⟩ C.2.2.2.2.2.2.1 dL_law_1367 ?_
  rw [er]
  exact lx_eq 1421 C.1 dL_law_1370 (by decide) (k u.2 v.2 hr1)
theorem lx_c44 {i : Nat} (C : lx_Cx p s m args meth c dC dI dA A α b L xs cells slots) (hi : i + 6 ≤ L) (hr : p_Rel X M) (k : ∀ X' M', p_Rel X' M' → q_S p l e room_1 s m args below meth c 4 dC dI dA A α Q cells slots (some ()) () 1421 (lx_lv i) [] (lx_w X' M')) : q_S p l e room_1 s m args below meth c 4 dC dI dA A α Q cells slots (some ()) () 1375 (lx_lv i) [] (lx_w X M) := by
  obtain ⟨u, eu, v, ev, er, hr1⟩ := w_count hr (xs (i + 1))
  refine r_aload_n C.1 2 (x := 50) dL_law_1375 rfl ?_
  refine lx_arg C 1 (by omega) rfl dL_law_1376 dL_law_1377 dL_law_1378 dL_law_1379 dL_law_1380 ?_
  refine lx_call5 C.1 [xs (i + 1)] (o_X5_count l X (xs (i + 1))) v_X5_count rfl m_883 eu (.int u.1) rfl (fun _ => rfl) [] rfl rfl (by decide) ⟨Nat.le_of_ble_eq_true rfl, Nat.le_of_ble_eq_true rfl⟩ C.2.2.2.2.2.2.1 dL_law_1381 ?_
  refine r_aload_n C.1 1 (x := 91) dL_law_1384 rfl ?_
  refine lx_arg C 1 (by omega) rfl dL_law_1385 dL_law_1386 dL_law_1387 dL_law_1388 dL_law_1389 ?_
  refine lx_call6 C.1 [xs (i + 1)] (o_X6_count l M (xs (i + 1))) v_X6_count rfl m_1427 ev (.int v.1) rfl (fun _ => rfl) [.int u.1] rfl rfl (by simp [Value.category]) ⟨Nat.le_of_ble_eq_true rfl, Nat.le_of_ble_eq_true rfl⟩ C.2.2.2.2.2.2.1 dL_law_1390 ?_
  rw [er]
  exact lx_eq 1421 C.1 dL_law_1393 (by decide) (k u.2 v.2 hr1)
theorem lx_c45 {i : Nat} (C : lx_Cx p s m args meth c dC dI dA A α b L xs cells slots) (hi : i + 6 ≤ L) (hr : p_Rel X M) (k : ∀ X' M', p_Rel X' M' → q_S p l e room_1 s m args below meth c 4 dC dI dA A α Q cells slots (some ()) () 1421 (lx_lv i) [] (lx_w X' M')) : q_S p l e room_1 s m args below meth c 4 dC dI dA A α Q cells slots (some ()) () 1398 (lx_lv i) [] (lx_w X M) := by
  obtain ⟨u, eu, v, ev, er, hr1⟩ := w_status hr (xs (i + 1))
  refine r_aload_n C.1 2 (x := 50) dL_law_1398 rfl ?_
  refine lx_arg C 1 (by omega) rfl dL_law_1399 dL_law_1400 dL_law_1401 dL_law_1402 dL_law_1403 ?_
  refine lx_call5 C.1 [xs (i + 1)] (o_X5_status l X (xs (i + 1))) v_X5_status rfl m_896 eu (.int u.1) rfl (fun _ => rfl) [] rfl rfl (by decide) ⟨Nat.le_of_ble_eq_true rfl, Nat.le_of_ble_eq_true rfl⟩ C.2.2.2.2.2.2.1 dL_law_1404 ?_
  refine r_aload_n C.1 1 (x := 91) dL_law_1407 rfl ?_
  refine lx_arg C 1 (by omega) rfl dL_law_1408 dL_law_1409 dL_law_1410 dL_law_1411 dL_law_1412 ?_
  refine lx_call6 C.1 [xs (i + 1)] (o_X6_status l M (xs (i + 1))) v_X6_status rfl m_1431 ev (.int v.1) rfl (fun _ => rfl) [.int u.1] rfl rfl (by simp [Value.category]) ⟨Nat.le_of_ble_eq_true rfl, Nat.le_of_ble_eq_true rfl⟩ C.2.2.2.2.2.2.1 dL_law_1413 ?_
  rw [er]
  exact lx_eq 1421 C.1 dL_law_1416 (by decide) (k u.2 v.2 hr1)
end CASES
