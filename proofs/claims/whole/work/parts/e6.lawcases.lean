/-! the law's cases -/
theorem lc_0 {G : XG} {p : Program} {l : Launch} {e : Env} {s : State} {m : MethodId} {b : Nat} {below : List Frame} {meth : Method} {c : Code} {Q : State → Prop} {cells slots L i n : Nat} {xs : Nat → Int32} {σ : LwS} (C : XC G 1 599 p s m #[.ref b] c code 7 R_Lw) (hX : va_X b L xs s s.heap) (hbl : b < s.heap.size) (hbA : ¬ xA G 1 599 b) (hcs : cells ≤ room_1.cells ∧ slots ≤ room_1.slots) (hi : i + 6 ≤ L) (hL : L ≤ 3072) (hn : n + 1 < 2 ^ 20) (h : NV Vb n σ.1 σ.2.1) (K : ∀ σ' : LwS, NV Vb (n + 1) σ'.1 σ'.2.1 → LJ G p l e room_1 s m #[.ref b] below meth c 7 Q (cells + 1) (slots + 6) 1461 (lvL G b i) [] σ') : LJ G p l e room_1 s m #[.ref b] below meth c 7 Q cells slots 208 (lvL G b i) [] σ := by
  obtain ⟨r, σ1, τ1, q1, q2, q3⟩ := (w_feed Vb_cl h (xs (i + 1)) (xs (i + 2)) (xs (i + 3)) (xs (i + 4)) (xs (i + 5))).up
  refine l_aload_n C dl_208 1 rfl ?_
  refine l_arg (k := 1) C hX hbl hbA hi hL (by decide) rfl rfl dl_209 dl_210 dl_212 dl_213 dl_214 ?_
  refine l_arg (k := 2) C hX hbl hbA hi hL (by decide) rfl rfl dl_215 dl_216 dl_218 dl_219 dl_220 ?_
  refine l_arg (k := 3) C hX hbl hbA hi hL (by decide) rfl rfl dl_221 dl_222 dl_224 dl_225 dl_226 ?_
  refine l_arg (k := 4) C hX hbl hbA hi hL (by decide) rfl rfl dl_227 dl_228 dl_230 dl_231 dl_232 ?_
  refine l_arg (k := 5) C hX hbl hbA hi hL (by decide) rfl rfl dl_233 dl_234 dl_236 dl_237 dl_238 ?_
  refine l_callC (d := 200) C ⟨by decide, by decide⟩ (c_Main_feed (d := 200) (by omega) q1) cl_19 rfl rfl rfl (Nat.le_of_ble_eq_true rfl) hcs dl_239 ?_
  refine l_aload_n C dl_242 2 rfl ?_
  refine l_arg (k := 1) C hX hbl hbA hi hL (by decide) rfl rfl dl_243 dl_244 dl_246 dl_247 dl_248 ?_
  refine l_arg (k := 2) C hX hbl hbA hi hL (by decide) rfl rfl dl_249 dl_250 dl_252 dl_253 dl_254 ?_
  refine l_arg (k := 3) C hX hbl hbA hi hL (by decide) rfl rfl dl_255 dl_256 dl_258 dl_259 dl_260 ?_
  refine l_arg (k := 4) C hX hbl hbA hi hL (by decide) rfl rfl dl_261 dl_262 dl_264 dl_265 dl_266 ?_
  refine l_arg (k := 5) C hX hbl hbA hi hL (by decide) rfl rfl dl_267 dl_268 dl_270 dl_271 dl_272 ?_
  refine l_callM (d := 200) C ⟨by decide, by decide⟩ (c_Model_feed (d := 200) (by omega) q2) cl_23 rfl rfl rfl (Nat.le_of_ble_eq_true rfl) hcs dl_273 ?_
  exact l_icmp_eq C 1461 dl_276 (by decide) (fun _ => l_widen (by omega) (by omega) (K (σ1, τ1, σ.2.2) q3)) (fun q => absurd rfl q)
theorem lc_1 {G : XG} {p : Program} {l : Launch} {e : Env} {s : State} {m : MethodId} {b : Nat} {below : List Frame} {meth : Method} {c : Code} {Q : State → Prop} {cells slots L i n : Nat} {xs : Nat → Int32} {σ : LwS} (C : XC G 1 599 p s m #[.ref b] c code 7 R_Lw) (hX : va_X b L xs s s.heap) (hbl : b < s.heap.size) (hbA : ¬ xA G 1 599 b) (hcs : cells ≤ room_1.cells ∧ slots ≤ room_1.slots) (hi : i + 6 ≤ L) (hL : L ≤ 3072) (hn : n + 1 < 2 ^ 20) (h : NV Vb n σ.1 σ.2.1) (K : ∀ σ' : LwS, NV Vb (n + 1) σ'.1 σ'.2.1 → LJ G p l e room_1 s m #[.ref b] below meth c 7 Q (cells + 1) (slots + 6) 1461 (lvL G b i) [] σ') : LJ G p l e room_1 s m #[.ref b] below meth c 7 Q cells slots 281 (lvL G b i) [] σ := by
  obtain ⟨r, σ1, τ1, q1, q2, q3⟩ := (w_end Vb_cl h (xs (i + 1))).up
  refine l_aload_n C dl_281 1 rfl ?_
  refine l_arg (k := 1) C hX hbl hbA hi hL (by decide) rfl rfl dl_282 dl_283 dl_285 dl_286 dl_287 ?_
  refine l_callC (d := 200) C ⟨by decide, by decide⟩ (c_Main_end (d := 200) (by omega) q1) cl_24 rfl rfl rfl (Nat.le_of_ble_eq_true rfl) hcs dl_288 ?_
  refine l_aload_n C dl_291 2 rfl ?_
  refine l_arg (k := 1) C hX hbl hbA hi hL (by decide) rfl rfl dl_292 dl_293 dl_295 dl_296 dl_297 ?_
  refine l_callM (d := 200) C ⟨by decide, by decide⟩ (c_Model_end (d := 200) (by omega) q2) cl_28 rfl rfl rfl (Nat.le_of_ble_eq_true rfl) hcs dl_298 ?_
  exact l_icmp_eq C 1461 dl_301 (by decide) (fun _ => l_widen (by omega) (by omega) (K (σ1, τ1, σ.2.2) q3)) (fun q => absurd rfl q)
theorem lc_2 {G : XG} {p : Program} {l : Launch} {e : Env} {s : State} {m : MethodId} {b : Nat} {below : List Frame} {meth : Method} {c : Code} {Q : State → Prop} {cells slots L i n : Nat} {xs : Nat → Int32} {σ : LwS} (C : XC G 1 599 p s m #[.ref b] c code 7 R_Lw) (hX : va_X b L xs s s.heap) (hbl : b < s.heap.size) (hbA : ¬ xA G 1 599 b) (hcs : cells ≤ room_1.cells ∧ slots ≤ room_1.slots) (hi : i + 6 ≤ L) (hL : L ≤ 3072) (hn : n + 1 < 2 ^ 20) (h : NV Vb n σ.1 σ.2.1) (K : ∀ σ' : LwS, NV Vb (n + 1) σ'.1 σ'.2.1 → LJ G p l e room_1 s m #[.ref b] below meth c 7 Q (cells + 1) (slots + 6) 1461 (lvL G b i) [] σ') : LJ G p l e room_1 s m #[.ref b] below meth c 7 Q cells slots 306 (lvL G b i) [] σ := by
  obtain ⟨r, σ1, τ1, q1, q2, q3⟩ := (w_fault Vb_cl h (xs (i + 1))).up
  refine l_aload_n C dl_306 1 rfl ?_
  refine l_arg (k := 1) C hX hbl hbA hi hL (by decide) rfl rfl dl_307 dl_308 dl_310 dl_311 dl_312 ?_
  refine l_callC (d := 200) C ⟨by decide, by decide⟩ (c_Main_fault (d := 200) (by omega) q1) cl_29 rfl rfl rfl (Nat.le_of_ble_eq_true rfl) hcs dl_313 ?_
  refine l_aload_n C dl_316 2 rfl ?_
  refine l_arg (k := 1) C hX hbl hbA hi hL (by decide) rfl rfl dl_317 dl_318 dl_320 dl_321 dl_322 ?_
  refine l_callM (d := 200) C ⟨by decide, by decide⟩ (c_Model_fault (d := 200) (by omega) q2) cl_33 rfl rfl rfl (Nat.le_of_ble_eq_true rfl) hcs dl_323 ?_
  exact l_icmp_eq C 1461 dl_326 (by decide) (fun _ => l_widen (by omega) (by omega) (K (σ1, τ1, σ.2.2) q3)) (fun q => absurd rfl q)
theorem lc_3 {G : XG} {p : Program} {l : Launch} {e : Env} {s : State} {m : MethodId} {b : Nat} {below : List Frame} {meth : Method} {c : Code} {Q : State → Prop} {cells slots L i n : Nat} {xs : Nat → Int32} {σ : LwS} (C : XC G 1 599 p s m #[.ref b] c code 7 R_Lw) (hX : va_X b L xs s s.heap) (hbl : b < s.heap.size) (hbA : ¬ xA G 1 599 b) (hcs : cells ≤ room_1.cells ∧ slots ≤ room_1.slots) (hi : i + 6 ≤ L) (hL : L ≤ 3072) (hn : n + 1 < 2 ^ 20) (h : NV Vb n σ.1 σ.2.1) (K : ∀ σ' : LwS, NV Vb (n + 1) σ'.1 σ'.2.1 → LJ G p l e room_1 s m #[.ref b] below meth c 7 Q (cells + 1) (slots + 6) 1461 (lvL G b i) [] σ') : LJ G p l e room_1 s m #[.ref b] below meth c 7 Q cells slots 331 (lvL G b i) [] σ := by
  obtain ⟨r, σ1, τ1, q1, q2, q3⟩ := (w_text Vb_cl Vb_ren hn h (xs (i + 1)))
  refine l_aload_n C dl_331 1 rfl ?_
  refine l_arg (k := 1) C hX hbl hbA hi hL (by decide) rfl rfl dl_332 dl_333 dl_335 dl_336 dl_337 ?_
  refine l_callC (d := 200) C ⟨by decide, by decide⟩ (c_Main_text (d := 200) (by omega) q1) cl_34 rfl rfl rfl (Nat.le_of_ble_eq_true rfl) hcs dl_338 ?_
  refine l_aload_n C dl_341 2 rfl ?_
  refine l_arg (k := 1) C hX hbl hbA hi hL (by decide) rfl rfl dl_342 dl_343 dl_345 dl_346 dl_347 ?_
  refine l_callM (d := 200) C ⟨by decide, by decide⟩ (c_Model_text (d := 200) (by omega) q2) cl_37 rfl rfl rfl (Nat.le_of_ble_eq_true rfl) hcs dl_348 ?_
  exact l_icmp_eq C 1461 dl_351 (by decide) (fun _ => l_widen (by omega) (by omega) (K (σ1, τ1, σ.2.2) q3)) (fun q => absurd rfl q)
theorem lc_4 {G : XG} {p : Program} {l : Launch} {e : Env} {s : State} {m : MethodId} {b : Nat} {below : List Frame} {meth : Method} {c : Code} {Q : State → Prop} {cells slots L i n : Nat} {xs : Nat → Int32} {σ : LwS} (C : XC G 1 599 p s m #[.ref b] c code 7 R_Lw) (hX : va_X b L xs s s.heap) (hbl : b < s.heap.size) (hbA : ¬ xA G 1 599 b) (hcs : cells ≤ room_1.cells ∧ slots ≤ room_1.slots) (hi : i + 6 ≤ L) (hL : L ≤ 3072) (hn : n + 1 < 2 ^ 20) (h : NV Vb n σ.1 σ.2.1) (K : ∀ σ' : LwS, NV Vb (n + 1) σ'.1 σ'.2.1 → LJ G p l e room_1 s m #[.ref b] below meth c 7 Q (cells + 1) (slots + 6) 1461 (lvL G b i) [] σ') : LJ G p l e room_1 s m #[.ref b] below meth c 7 Q cells slots 356 (lvL G b i) [] σ := by
  obtain ⟨r, σ1, τ1, q1, q2, q3⟩ := (w_seat Vb_cl h (xs (i + 1)) (xs (i + 2))).up
  refine l_aload_n C dl_356 1 rfl ?_
  refine l_arg (k := 1) C hX hbl hbA hi hL (by decide) rfl rfl dl_357 dl_358 dl_360 dl_361 dl_362 ?_
  refine l_arg (k := 2) C hX hbl hbA hi hL (by decide) rfl rfl dl_363 dl_364 dl_366 dl_367 dl_368 ?_
  refine l_callC (d := 200) C ⟨by decide, by decide⟩ (c_Main_seat (d := 200) (by omega) q1) cl_38 rfl rfl rfl (Nat.le_of_ble_eq_true rfl) hcs dl_369 ?_
  refine l_aload_n C dl_372 2 rfl ?_
  refine l_arg (k := 1) C hX hbl hbA hi hL (by decide) rfl rfl dl_373 dl_374 dl_376 dl_377 dl_378 ?_
  refine l_arg (k := 2) C hX hbl hbA hi hL (by decide) rfl rfl dl_379 dl_380 dl_382 dl_383 dl_384 ?_
  refine l_callM (d := 200) C ⟨by decide, by decide⟩ (c_Model_seat (d := 200) (by omega) q2) cl_41 rfl rfl rfl (Nat.le_of_ble_eq_true rfl) hcs dl_385 ?_
  exact l_icmp_eq C 1461 dl_388 (by decide) (fun _ => l_widen (by omega) (by omega) (K (σ1, τ1, σ.2.2) q3)) (fun q => absurd rfl q)
theorem lc_6 {G : XG} {p : Program} {l : Launch} {e : Env} {s : State} {m : MethodId} {b : Nat} {below : List Frame} {meth : Method} {c : Code} {Q : State → Prop} {cells slots L i n : Nat} {xs : Nat → Int32} {σ : LwS} (C : XC G 1 599 p s m #[.ref b] c code 7 R_Lw) (hX : va_X b L xs s s.heap) (hbl : b < s.heap.size) (hbA : ¬ xA G 1 599 b) (hcs : cells ≤ room_1.cells ∧ slots ≤ room_1.slots) (hi : i + 6 ≤ L) (hL : L ≤ 3072) (hn : n + 1 < 2 ^ 20) (h : NV Vb n σ.1 σ.2.1) (K : ∀ σ' : LwS, NV Vb (n + 1) σ'.1 σ'.2.1 → LJ G p l e room_1 s m #[.ref b] below meth c 7 Q (cells + 1) (slots + 6) 1461 (lvL G b i) [] σ') : LJ G p l e room_1 s m #[.ref b] below meth c 7 Q cells slots 461 (lvL G b i) [] σ := by
  obtain ⟨r, σ1, τ1, q1, q2, q3⟩ := (w_going Vb_cl h (xs (i + 1)) (xs (i + 2))).up
  refine l_aload_n C dl_461 1 rfl ?_
  refine l_arg (k := 1) C hX hbl hbA hi hL (by decide) rfl rfl dl_462 dl_463 dl_465 dl_466 dl_467 ?_
  refine l_arg (k := 2) C hX hbl hbA hi hL (by decide) rfl rfl dl_468 dl_469 dl_471 dl_472 dl_473 ?_
  refine l_callC (d := 200) C ⟨by decide, by decide⟩ (c_Main_going (d := 200) (by omega) q1) cl_52 rfl rfl rfl (Nat.le_of_ble_eq_true rfl) hcs dl_474 ?_
  refine l_aload_n C dl_477 2 rfl ?_
  refine l_arg (k := 1) C hX hbl hbA hi hL (by decide) rfl rfl dl_478 dl_479 dl_481 dl_482 dl_483 ?_
  refine l_arg (k := 2) C hX hbl hbA hi hL (by decide) rfl rfl dl_484 dl_485 dl_487 dl_488 dl_489 ?_
  refine l_callM (d := 200) C ⟨by decide, by decide⟩ (c_Model_going (d := 200) (by omega) q2) cl_55 rfl rfl rfl (Nat.le_of_ble_eq_true rfl) hcs dl_490 ?_
  exact l_icmp_eq C 1461 dl_493 (by decide) (fun _ => l_widen (by omega) (by omega) (K (σ1, τ1, σ.2.2) q3)) (fun q => absurd rfl q)
theorem lc_7 {G : XG} {p : Program} {l : Launch} {e : Env} {s : State} {m : MethodId} {b : Nat} {below : List Frame} {meth : Method} {c : Code} {Q : State → Prop} {cells slots L i n : Nat} {xs : Nat → Int32} {σ : LwS} (C : XC G 1 599 p s m #[.ref b] c code 7 R_Lw) (hX : va_X b L xs s s.heap) (hbl : b < s.heap.size) (hbA : ¬ xA G 1 599 b) (hcs : cells ≤ room_1.cells ∧ slots ≤ room_1.slots) (hi : i + 6 ≤ L) (hL : L ≤ 3072) (hn : n + 1 < 2 ^ 20) (h : NV Vb n σ.1 σ.2.1) (K : ∀ σ' : LwS, NV Vb (n + 1) σ'.1 σ'.2.1 → LJ G p l e room_1 s m #[.ref b] below meth c 7 Q (cells + 1) (slots + 6) 1461 (lvL G b i) [] σ') : LJ G p l e room_1 s m #[.ref b] below meth c 7 Q cells slots 498 (lvL G b i) [] σ := by
  obtain ⟨r, σ1, τ1, q1, q2, q3⟩ := (w_taste Vb_cl Vb_ren hn h (xs (i + 1)))
  refine l_aload_n C dl_498 1 rfl ?_
  refine l_arg (k := 1) C hX hbl hbA hi hL (by decide) rfl rfl dl_499 dl_500 dl_502 dl_503 dl_504 ?_
  refine l_callC (d := 200) C ⟨by decide, by decide⟩ (c_Main_taste (d := 200) (by omega) q1) cl_56 rfl rfl rfl (Nat.le_of_ble_eq_true rfl) hcs dl_505 ?_
  refine l_aload_n C dl_508 2 rfl ?_
  refine l_arg (k := 1) C hX hbl hbA hi hL (by decide) rfl rfl dl_509 dl_510 dl_512 dl_513 dl_514 ?_
  refine l_callM (d := 200) C ⟨by decide, by decide⟩ (c_Model_taste (d := 200) (by omega) q2) cl_59 rfl rfl rfl (Nat.le_of_ble_eq_true rfl) hcs dl_515 ?_
  exact l_icmp_eq C 1461 dl_518 (by decide) (fun _ => l_widen (by omega) (by omega) (K (σ1, τ1, σ.2.2) q3)) (fun q => absurd rfl q)
theorem lc_8 {G : XG} {p : Program} {l : Launch} {e : Env} {s : State} {m : MethodId} {b : Nat} {below : List Frame} {meth : Method} {c : Code} {Q : State → Prop} {cells slots L i n : Nat} {xs : Nat → Int32} {σ : LwS} (C : XC G 1 599 p s m #[.ref b] c code 7 R_Lw) (hX : va_X b L xs s s.heap) (hbl : b < s.heap.size) (hbA : ¬ xA G 1 599 b) (hcs : cells ≤ room_1.cells ∧ slots ≤ room_1.slots) (hi : i + 6 ≤ L) (hL : L ≤ 3072) (hn : n + 1 < 2 ^ 20) (h : NV Vb n σ.1 σ.2.1) (K : ∀ σ' : LwS, NV Vb (n + 1) σ'.1 σ'.2.1 → LJ G p l e room_1 s m #[.ref b] below meth c 7 Q (cells + 1) (slots + 6) 1461 (lvL G b i) [] σ') : LJ G p l e room_1 s m #[.ref b] below meth c 7 Q cells slots 523 (lvL G b i) [] σ := by
  obtain ⟨r, σ1, τ1, q1, q2, q3⟩ := (w_restless Vb_cl h (xs (i + 1))).up
  refine l_aload_n C dl_523 1 rfl ?_
  refine l_arg (k := 1) C hX hbl hbA hi hL (by decide) rfl rfl dl_524 dl_525 dl_527 dl_528 dl_529 ?_
  refine l_callC (d := 200) C ⟨by decide, by decide⟩ (c_Main_restless (d := 200) (by omega) q1) cl_60 rfl rfl rfl (Nat.le_of_ble_eq_true rfl) hcs dl_530 ?_
  refine l_aload_n C dl_533 2 rfl ?_
  refine l_arg (k := 1) C hX hbl hbA hi hL (by decide) rfl rfl dl_534 dl_535 dl_537 dl_538 dl_539 ?_
  refine l_callM (d := 200) C ⟨by decide, by decide⟩ (c_Model_restless (d := 200) (by omega) q2) cl_63 rfl rfl rfl (Nat.le_of_ble_eq_true rfl) hcs dl_540 ?_
  exact l_icmp_eq C 1461 dl_543 (by decide) (fun _ => l_widen (by omega) (by omega) (K (σ1, τ1, σ.2.2) q3)) (fun q => absurd rfl q)
theorem lc_9 {G : XG} {p : Program} {l : Launch} {e : Env} {s : State} {m : MethodId} {b : Nat} {below : List Frame} {meth : Method} {c : Code} {Q : State → Prop} {cells slots L i n : Nat} {xs : Nat → Int32} {σ : LwS} (C : XC G 1 599 p s m #[.ref b] c code 7 R_Lw) (hX : va_X b L xs s s.heap) (hbl : b < s.heap.size) (hbA : ¬ xA G 1 599 b) (hcs : cells ≤ room_1.cells ∧ slots ≤ room_1.slots) (hi : i + 6 ≤ L) (hL : L ≤ 3072) (hn : n + 1 < 2 ^ 20) (h : NV Vb n σ.1 σ.2.1) (K : ∀ σ' : LwS, NV Vb (n + 1) σ'.1 σ'.2.1 → LJ G p l e room_1 s m #[.ref b] below meth c 7 Q (cells + 1) (slots + 6) 1461 (lvL G b i) [] σ') : LJ G p l e room_1 s m #[.ref b] below meth c 7 Q cells slots 548 (lvL G b i) [] σ := by
  obtain ⟨r, σ1, τ1, q1, q2, q3⟩ := (w_likes Vb_cl h (xs (i + 1)) (xs (i + 2))).up
  refine l_aload_n C dl_548 1 rfl ?_
  refine l_arg (k := 1) C hX hbl hbA hi hL (by decide) rfl rfl dl_549 dl_550 dl_552 dl_553 dl_554 ?_
  refine l_arg (k := 2) C hX hbl hbA hi hL (by decide) rfl rfl dl_555 dl_556 dl_558 dl_559 dl_560 ?_
  refine l_callC (d := 200) C ⟨by decide, by decide⟩ (c_Main_likes (d := 200) (by omega) q1) cl_64 rfl rfl rfl (Nat.le_of_ble_eq_true rfl) hcs dl_561 ?_
  refine l_aload_n C dl_564 2 rfl ?_
  refine l_arg (k := 1) C hX hbl hbA hi hL (by decide) rfl rfl dl_565 dl_566 dl_568 dl_569 dl_570 ?_
  refine l_arg (k := 2) C hX hbl hbA hi hL (by decide) rfl rfl dl_571 dl_572 dl_574 dl_575 dl_576 ?_
  refine l_callM (d := 200) C ⟨by decide, by decide⟩ (c_Model_likes (d := 200) (by omega) q2) cl_67 rfl rfl rfl (Nat.le_of_ble_eq_true rfl) hcs dl_577 ?_
  exact l_icmp_eq C 1461 dl_580 (by decide) (fun _ => l_widen (by omega) (by omega) (K (σ1, τ1, σ.2.2) q3)) (fun q => absurd rfl q)
theorem lc_10 {G : XG} {p : Program} {l : Launch} {e : Env} {s : State} {m : MethodId} {b : Nat} {below : List Frame} {meth : Method} {c : Code} {Q : State → Prop} {cells slots L i n : Nat} {xs : Nat → Int32} {σ : LwS} (C : XC G 1 599 p s m #[.ref b] c code 7 R_Lw) (hX : va_X b L xs s s.heap) (hbl : b < s.heap.size) (hbA : ¬ xA G 1 599 b) (hcs : cells ≤ room_1.cells ∧ slots ≤ room_1.slots) (hi : i + 6 ≤ L) (hL : L ≤ 3072) (hn : n + 1 < 2 ^ 20) (h : NV Vb n σ.1 σ.2.1) (K : ∀ σ' : LwS, NV Vb (n + 1) σ'.1 σ'.2.1 → LJ G p l e room_1 s m #[.ref b] below meth c 7 Q (cells + 1) (slots + 6) 1461 (lvL G b i) [] σ') : LJ G p l e room_1 s m #[.ref b] below meth c 7 Q cells slots 585 (lvL G b i) [] σ := by
  obtain ⟨r, σ1, τ1, q1, q2, q3⟩ := (w_up Vb_cl h (xs (i + 1)) (xs (i + 2))).up
  refine l_aload_n C dl_585 1 rfl ?_
  refine l_arg (k := 1) C hX hbl hbA hi hL (by decide) rfl rfl dl_586 dl_587 dl_589 dl_590 dl_591 ?_
  refine l_arg (k := 2) C hX hbl hbA hi hL (by decide) rfl rfl dl_592 dl_593 dl_595 dl_596 dl_597 ?_
  refine l_callC (d := 200) C ⟨by decide, by decide⟩ (c_Main_up (d := 200) (by omega) q1) cl_68 rfl rfl rfl (Nat.le_of_ble_eq_true rfl) hcs dl_598 ?_
  refine l_aload_n C dl_601 2 rfl ?_
  refine l_arg (k := 1) C hX hbl hbA hi hL (by decide) rfl rfl dl_602 dl_603 dl_605 dl_606 dl_607 ?_
  refine l_arg (k := 2) C hX hbl hbA hi hL (by decide) rfl rfl dl_608 dl_609 dl_611 dl_612 dl_613 ?_
  refine l_callM (d := 200) C ⟨by decide, by decide⟩ (c_Model_up (d := 200) (by omega) q2) cl_71 rfl rfl rfl (Nat.le_of_ble_eq_true rfl) hcs dl_614 ?_
  exact l_icmp_eq C 1461 dl_617 (by decide) (fun _ => l_widen (by omega) (by omega) (K (σ1, τ1, σ.2.2) q3)) (fun q => absurd rfl q)
theorem lc_11 {G : XG} {p : Program} {l : Launch} {e : Env} {s : State} {m : MethodId} {b : Nat} {below : List Frame} {meth : Method} {c : Code} {Q : State → Prop} {cells slots L i n : Nat} {xs : Nat → Int32} {σ : LwS} (C : XC G 1 599 p s m #[.ref b] c code 7 R_Lw) (hX : va_X b L xs s s.heap) (hbl : b < s.heap.size) (hbA : ¬ xA G 1 599 b) (hcs : cells ≤ room_1.cells ∧ slots ≤ room_1.slots) (hi : i + 6 ≤ L) (hL : L ≤ 3072) (hn : n + 1 < 2 ^ 20) (h : NV Vb n σ.1 σ.2.1) (K : ∀ σ' : LwS, NV Vb (n + 1) σ'.1 σ'.2.1 → LJ G p l e room_1 s m #[.ref b] below meth c 7 Q (cells + 1) (slots + 6) 1461 (lvL G b i) [] σ') : LJ G p l e room_1 s m #[.ref b] below meth c 7 Q cells slots 622 (lvL G b i) [] σ := by
  obtain ⟨r, σ1, τ1, q1, q2, q3⟩ := (w_keeps Vb_cl h (xs (i + 1)) (xs (i + 2))).up
  refine l_aload_n C dl_622 1 rfl ?_
  refine l_arg (k := 1) C hX hbl hbA hi hL (by decide) rfl rfl dl_623 dl_624 dl_626 dl_627 dl_628 ?_
  refine l_arg (k := 2) C hX hbl hbA hi hL (by decide) rfl rfl dl_629 dl_630 dl_632 dl_633 dl_634 ?_
  refine l_callC (d := 200) C ⟨by decide, by decide⟩ (c_Main_keeps (d := 200) (by omega) q1) cl_72 rfl rfl rfl (Nat.le_of_ble_eq_true rfl) hcs dl_635 ?_
  refine l_aload_n C dl_638 2 rfl ?_
  refine l_arg (k := 1) C hX hbl hbA hi hL (by decide) rfl rfl dl_639 dl_640 dl_642 dl_643 dl_644 ?_
  refine l_arg (k := 2) C hX hbl hbA hi hL (by decide) rfl rfl dl_645 dl_646 dl_648 dl_649 dl_650 ?_
  refine l_callM (d := 200) C ⟨by decide, by decide⟩ (c_Model_keeps (d := 200) (by omega) q2) cl_75 rfl rfl rfl (Nat.le_of_ble_eq_true rfl) hcs dl_651 ?_
  exact l_icmp_eq C 1461 dl_654 (by decide) (fun _ => l_widen (by omega) (by omega) (K (σ1, τ1, σ.2.2) q3)) (fun q => absurd rfl q)
theorem lc_12 {G : XG} {p : Program} {l : Launch} {e : Env} {s : State} {m : MethodId} {b : Nat} {below : List Frame} {meth : Method} {c : Code} {Q : State → Prop} {cells slots L i n : Nat} {xs : Nat → Int32} {σ : LwS} (C : XC G 1 599 p s m #[.ref b] c code 7 R_Lw) (hX : va_X b L xs s s.heap) (hbl : b < s.heap.size) (hbA : ¬ xA G 1 599 b) (hcs : cells ≤ room_1.cells ∧ slots ≤ room_1.slots) (hi : i + 6 ≤ L) (hL : L ≤ 3072) (hn : n + 1 < 2 ^ 20) (h : NV Vb n σ.1 σ.2.1) (K : ∀ σ' : LwS, NV Vb (n + 1) σ'.1 σ'.2.1 → LJ G p l e room_1 s m #[.ref b] below meth c 7 Q (cells + 1) (slots + 6) 1461 (lvL G b i) [] σ') : LJ G p l e room_1 s m #[.ref b] below meth c 7 Q cells slots 659 (lvL G b i) [] σ := by
  obtain ⟨r, σ1, τ1, q1, q2, q3⟩ := (w_swap Vb_cl h (xs (i + 1)) (xs (i + 2))).up
  refine l_aload_n C dl_659 1 rfl ?_
  refine l_arg (k := 1) C hX hbl hbA hi hL (by decide) rfl rfl dl_660 dl_661 dl_663 dl_664 dl_665 ?_
  refine l_arg (k := 2) C hX hbl hbA hi hL (by decide) rfl rfl dl_666 dl_667 dl_669 dl_670 dl_671 ?_
  refine l_callC (d := 200) C ⟨by decide, by decide⟩ (c_Main_swap (d := 200) (by omega) q1) cl_76 rfl rfl rfl (Nat.le_of_ble_eq_true rfl) hcs dl_672 ?_
  refine l_aload_n C dl_675 2 rfl ?_
  refine l_arg (k := 1) C hX hbl hbA hi hL (by decide) rfl rfl dl_676 dl_677 dl_679 dl_680 dl_681 ?_
  refine l_arg (k := 2) C hX hbl hbA hi hL (by decide) rfl rfl dl_682 dl_683 dl_685 dl_686 dl_687 ?_
  refine l_callM (d := 200) C ⟨by decide, by decide⟩ (c_Model_swap (d := 200) (by omega) q2) cl_79 rfl rfl rfl (Nat.le_of_ble_eq_true rfl) hcs dl_688 ?_
  exact l_icmp_eq C 1461 dl_691 (by decide) (fun _ => l_widen (by omega) (by omega) (K (σ1, τ1, σ.2.2) q3)) (fun q => absurd rfl q)
theorem lc_13 {G : XG} {p : Program} {l : Launch} {e : Env} {s : State} {m : MethodId} {b : Nat} {below : List Frame} {meth : Method} {c : Code} {Q : State → Prop} {cells slots L i n : Nat} {xs : Nat → Int32} {σ : LwS} (C : XC G 1 599 p s m #[.ref b] c code 7 R_Lw) (hX : va_X b L xs s s.heap) (hbl : b < s.heap.size) (hbA : ¬ xA G 1 599 b) (hcs : cells ≤ room_1.cells ∧ slots ≤ room_1.slots) (hi : i + 6 ≤ L) (hL : L ≤ 3072) (hn : n + 1 < 2 ^ 20) (h : NV Vb n σ.1 σ.2.1) (K : ∀ σ' : LwS, NV Vb (n + 1) σ'.1 σ'.2.1 → LJ G p l e room_1 s m #[.ref b] below meth c 7 Q (cells + 1) (slots + 6) 1461 (lvL G b i) [] σ') : LJ G p l e room_1 s m #[.ref b] below meth c 7 Q cells slots 696 (lvL G b i) [] σ := by
  obtain ⟨r, σ1, τ1, q1, q2, q3⟩ := (w_go Vb_cl h (xs (i + 1))).up
  refine l_aload_n C dl_696 1 rfl ?_
  refine l_arg (k := 1) C hX hbl hbA hi hL (by decide) rfl rfl dl_697 dl_698 dl_700 dl_701 dl_702 ?_
  refine l_callC (d := 200) C ⟨by decide, by decide⟩ (c_Main_go (d := 200) (by omega) q1) cl_80 rfl rfl rfl (Nat.le_of_ble_eq_true rfl) hcs dl_703 ?_
  refine l_aload_n C dl_706 2 rfl ?_
  refine l_arg (k := 1) C hX hbl hbA hi hL (by decide) rfl rfl dl_707 dl_708 dl_710 dl_711 dl_712 ?_
  refine l_callM (d := 200) C ⟨by decide, by decide⟩ (c_Model_go (d := 200) (by omega) q2) cl_83 rfl rfl rfl (Nat.le_of_ble_eq_true rfl) hcs dl_713 ?_
  exact l_icmp_eq C 1461 dl_716 (by decide) (fun _ => l_widen (by omega) (by omega) (K (σ1, τ1, σ.2.2) q3)) (fun q => absurd rfl q)
theorem lc_15 {G : XG} {p : Program} {l : Launch} {e : Env} {s : State} {m : MethodId} {b : Nat} {below : List Frame} {meth : Method} {c : Code} {Q : State → Prop} {cells slots L i n : Nat} {xs : Nat → Int32} {σ : LwS} (C : XC G 1 599 p s m #[.ref b] c code 7 R_Lw) (hX : va_X b L xs s s.heap) (hbl : b < s.heap.size) (hbA : ¬ xA G 1 599 b) (hcs : cells ≤ room_1.cells ∧ slots ≤ room_1.slots) (hi : i + 6 ≤ L) (hL : L ≤ 3072) (hn : n + 1 < 2 ^ 20) (h : NV Vb n σ.1 σ.2.1) (K : ∀ σ' : LwS, NV Vb (n + 1) σ'.1 σ'.2.1 → LJ G p l e room_1 s m #[.ref b] below meth c 7 Q (cells + 1) (slots + 6) 1461 (lvL G b i) [] σ') : LJ G p l e room_1 s m #[.ref b] below meth c 7 Q cells slots 790 (lvL G b i) [] σ := by
  obtain ⟨r, σ1, τ1, q1, q2, q3⟩ := (w_undo Vb_cl h ).up
  refine l_aload_n C dl_790 1 rfl ?_
  refine l_callC (d := 200) C ⟨by decide, by decide⟩ (c_Main_undo (d := 200) (by omega) q1) cl_91 rfl rfl rfl (Nat.le_of_ble_eq_true rfl) hcs dl_791 ?_
  refine l_aload_n C dl_794 2 rfl ?_
  refine l_callM (d := 200) C ⟨by decide, by decide⟩ (c_Model_undo (d := 200) (by omega) q2) cl_94 rfl rfl rfl (Nat.le_of_ble_eq_true rfl) hcs dl_795 ?_
  exact l_icmp_eq C 1461 dl_798 (by decide) (fun _ => l_widen (by omega) (by omega) (K (σ1, τ1, σ.2.2) q3)) (fun q => absurd rfl q)
theorem lc_16 {G : XG} {p : Program} {l : Launch} {e : Env} {s : State} {m : MethodId} {b : Nat} {below : List Frame} {meth : Method} {c : Code} {Q : State → Prop} {cells slots L i n : Nat} {xs : Nat → Int32} {σ : LwS} (C : XC G 1 599 p s m #[.ref b] c code 7 R_Lw) (hX : va_X b L xs s s.heap) (hbl : b < s.heap.size) (hbA : ¬ xA G 1 599 b) (hcs : cells ≤ room_1.cells ∧ slots ≤ room_1.slots) (hi : i + 6 ≤ L) (hL : L ≤ 3072) (hn : n + 1 < 2 ^ 20) (h : NV Vb n σ.1 σ.2.1) (K : ∀ σ' : LwS, NV Vb (n + 1) σ'.1 σ'.2.1 → LJ G p l e room_1 s m #[.ref b] below meth c 7 Q (cells + 1) (slots + 6) 1461 (lvL G b i) [] σ') : LJ G p l e room_1 s m #[.ref b] below meth c 7 Q cells slots 803 (lvL G b i) [] σ := by
  obtain ⟨r, σ1, τ1, q1, q2, q3⟩ := (w_log Vb_cl h (xs (i + 1)) (xs (i + 2))).up
  refine l_aload_n C dl_803 1 rfl ?_
  refine l_arg (k := 1) C hX hbl hbA hi hL (by decide) rfl rfl dl_804 dl_805 dl_807 dl_808 dl_809 ?_
  refine l_arg (k := 2) C hX hbl hbA hi hL (by decide) rfl rfl dl_810 dl_811 dl_813 dl_814 dl_815 ?_
  refine l_callC (d := 200) C ⟨by decide, by decide⟩ (c_Main_log (d := 200) (by omega) q1) cl_95 rfl rfl rfl (Nat.le_of_ble_eq_true rfl) hcs dl_816 ?_
  refine l_aload_n C dl_819 2 rfl ?_
  refine l_arg (k := 1) C hX hbl hbA hi hL (by decide) rfl rfl dl_820 dl_821 dl_823 dl_824 dl_825 ?_
  refine l_arg (k := 2) C hX hbl hbA hi hL (by decide) rfl rfl dl_826 dl_827 dl_829 dl_830 dl_831 ?_
  refine l_callM (d := 200) C ⟨by decide, by decide⟩ (c_Model_log (d := 200) (by omega) q2) cl_98 rfl rfl rfl (Nat.le_of_ble_eq_true rfl) hcs dl_832 ?_
  exact l_icmp_eq C 1461 dl_835 (by decide) (fun _ => l_widen (by omega) (by omega) (K (σ1, τ1, σ.2.2) q3)) (fun q => absurd rfl q)
theorem lc_17 {G : XG} {p : Program} {l : Launch} {e : Env} {s : State} {m : MethodId} {b : Nat} {below : List Frame} {meth : Method} {c : Code} {Q : State → Prop} {cells slots L i n : Nat} {xs : Nat → Int32} {σ : LwS} (C : XC G 1 599 p s m #[.ref b] c code 7 R_Lw) (hX : va_X b L xs s s.heap) (hbl : b < s.heap.size) (hbA : ¬ xA G 1 599 b) (hcs : cells ≤ room_1.cells ∧ slots ≤ room_1.slots) (hi : i + 6 ≤ L) (hL : L ≤ 3072) (hn : n + 1 < 2 ^ 20) (h : NV Vb n σ.1 σ.2.1) (K : ∀ σ' : LwS, NV Vb (n + 1) σ'.1 σ'.2.1 → LJ G p l e room_1 s m #[.ref b] below meth c 7 Q (cells + 1) (slots + 6) 1461 (lvL G b i) [] σ') : LJ G p l e room_1 s m #[.ref b] below meth c 7 Q cells slots 840 (lvL G b i) [] σ := by
  obtain ⟨r, σ1, τ1, q1, q2, q3⟩ := (w_ahead Vb_cl h (xs (i + 1)) (xs (i + 2)) (xs (i + 3))).up
  refine l_aload_n C dl_840 1 rfl ?_
  refine l_arg (k := 1) C hX hbl hbA hi hL (by decide) rfl rfl dl_841 dl_842 dl_844 dl_845 dl_846 ?_
  refine l_arg (k := 2) C hX hbl hbA hi hL (by decide) rfl rfl dl_847 dl_848 dl_850 dl_851 dl_852 ?_
  refine l_arg (k := 3) C hX hbl hbA hi hL (by decide) rfl rfl dl_853 dl_854 dl_856 dl_857 dl_858 ?_
  refine l_callC (d := 200) C ⟨by decide, by decide⟩ (c_Main_ahead (d := 200) (by omega) q1) cl_99 rfl rfl rfl (Nat.le_of_ble_eq_true rfl) hcs dl_859 ?_
  refine l_aload_n C dl_862 2 rfl ?_
  refine l_arg (k := 1) C hX hbl hbA hi hL (by decide) rfl rfl dl_863 dl_864 dl_866 dl_867 dl_868 ?_
  refine l_arg (k := 2) C hX hbl hbA hi hL (by decide) rfl rfl dl_869 dl_870 dl_872 dl_873 dl_874 ?_
  refine l_arg (k := 3) C hX hbl hbA hi hL (by decide) rfl rfl dl_875 dl_876 dl_878 dl_879 dl_880 ?_
  refine l_callM (d := 200) C ⟨by decide, by decide⟩ (c_Model_ahead (d := 200) (by omega) q2) cl_103 rfl rfl rfl (Nat.le_of_ble_eq_true rfl) hcs dl_881 ?_
  exact l_icmp_eq C 1461 dl_884 (by decide) (fun _ => l_widen (by omega) (by omega) (K (σ1, τ1, σ.2.2) q3)) (fun q => absurd rfl q)
theorem lc_18 {G : XG} {p : Program} {l : Launch} {e : Env} {s : State} {m : MethodId} {b : Nat} {below : List Frame} {meth : Method} {c : Code} {Q : State → Prop} {cells slots L i n : Nat} {xs : Nat → Int32} {σ : LwS} (C : XC G 1 599 p s m #[.ref b] c code 7 R_Lw) (hX : va_X b L xs s s.heap) (hbl : b < s.heap.size) (hbA : ¬ xA G 1 599 b) (hcs : cells ≤ room_1.cells ∧ slots ≤ room_1.slots) (hi : i + 6 ≤ L) (hL : L ≤ 3072) (hn : n + 1 < 2 ^ 20) (h : NV Vb n σ.1 σ.2.1) (K : ∀ σ' : LwS, NV Vb (n + 1) σ'.1 σ'.2.1 → LJ G p l e room_1 s m #[.ref b] below meth c 7 Q (cells + 1) (slots + 6) 1461 (lvL G b i) [] σ') : LJ G p l e room_1 s m #[.ref b] below meth c 7 Q cells slots 889 (lvL G b i) [] σ := by
  obtain ⟨r, σ1, τ1, q1, q2, q3⟩ := (w_chain Vb_cl h (xs (i + 1)) (xs (i + 2))).up
  refine l_aload_n C dl_889 1 rfl ?_
  refine l_arg (k := 1) C hX hbl hbA hi hL (by decide) rfl rfl dl_890 dl_891 dl_893 dl_894 dl_895 ?_
  refine l_arg (k := 2) C hX hbl hbA hi hL (by decide) rfl rfl dl_896 dl_897 dl_899 dl_900 dl_901 ?_
  refine l_callC (d := 200) C ⟨by decide, by decide⟩ (c_Main_chain (d := 200) (by omega) q1) cl_104 rfl rfl rfl (Nat.le_of_ble_eq_true rfl) hcs dl_902 ?_
  refine l_aload_n C dl_905 2 rfl ?_
  refine l_arg (k := 1) C hX hbl hbA hi hL (by decide) rfl rfl dl_906 dl_907 dl_909 dl_910 dl_911 ?_
  refine l_arg (k := 2) C hX hbl hbA hi hL (by decide) rfl rfl dl_912 dl_913 dl_915 dl_916 dl_917 ?_
  refine l_callM (d := 200) C ⟨by decide, by decide⟩ (c_Model_chain (d := 200) (by omega) q2) cl_107 rfl rfl rfl (Nat.le_of_ble_eq_true rfl) hcs dl_918 ?_
  exact l_icmp_eq C 1461 dl_921 (by decide) (fun _ => l_widen (by omega) (by omega) (K (σ1, τ1, σ.2.2) q3)) (fun q => absurd rfl q)
theorem lc_19 {G : XG} {p : Program} {l : Launch} {e : Env} {s : State} {m : MethodId} {b : Nat} {below : List Frame} {meth : Method} {c : Code} {Q : State → Prop} {cells slots L i n : Nat} {xs : Nat → Int32} {σ : LwS} (C : XC G 1 599 p s m #[.ref b] c code 7 R_Lw) (hX : va_X b L xs s s.heap) (hbl : b < s.heap.size) (hbA : ¬ xA G 1 599 b) (hcs : cells ≤ room_1.cells ∧ slots ≤ room_1.slots) (hi : i + 6 ≤ L) (hL : L ≤ 3072) (hn : n + 1 < 2 ^ 20) (h : NV Vb n σ.1 σ.2.1) (K : ∀ σ' : LwS, NV Vb (n + 1) σ'.1 σ'.2.1 → LJ G p l e room_1 s m #[.ref b] below meth c 7 Q (cells + 1) (slots + 6) 1461 (lvL G b i) [] σ') : LJ G p l e room_1 s m #[.ref b] below meth c 7 Q cells slots 926 (lvL G b i) [] σ := by
  obtain ⟨r, σ1, τ1, q1, q2, q3⟩ := (w_when Vb_cl h (xs (i + 1)) (xs (i + 2)) (xs (i + 3)) (xs (i + 4))).up
  refine l_aload_n C dl_926 1 rfl ?_
  refine l_arg (k := 1) C hX hbl hbA hi hL (by decide) rfl rfl dl_927 dl_928 dl_930 dl_931 dl_932 ?_
  refine l_arg (k := 2) C hX hbl hbA hi hL (by decide) rfl rfl dl_933 dl_934 dl_936 dl_937 dl_938 ?_
  refine l_arg (k := 3) C hX hbl hbA hi hL (by decide) rfl rfl dl_939 dl_940 dl_942 dl_943 dl_944 ?_
  refine l_arg (k := 4) C hX hbl hbA hi hL (by decide) rfl rfl dl_945 dl_946 dl_948 dl_949 dl_950 ?_
  refine l_callC (d := 200) C ⟨by decide, by decide⟩ (c_Main_when (d := 200) (by omega) q1) cl_108 rfl rfl rfl (Nat.le_of_ble_eq_true rfl) hcs dl_951 ?_
  refine l_aload_n C dl_954 2 rfl ?_
  refine l_arg (k := 1) C hX hbl hbA hi hL (by decide) rfl rfl dl_955 dl_956 dl_958 dl_959 dl_960 ?_
  refine l_arg (k := 2) C hX hbl hbA hi hL (by decide) rfl rfl dl_961 dl_962 dl_964 dl_965 dl_966 ?_
  refine l_arg (k := 3) C hX hbl hbA hi hL (by decide) rfl rfl dl_967 dl_968 dl_970 dl_971 dl_972 ?_
  refine l_arg (k := 4) C hX hbl hbA hi hL (by decide) rfl rfl dl_973 dl_974 dl_976 dl_977 dl_978 ?_
  refine l_callM (d := 200) C ⟨by decide, by decide⟩ (c_Model_when (d := 200) (by omega) q2) cl_112 rfl rfl rfl (Nat.le_of_ble_eq_true rfl) hcs dl_979 ?_
  exact l_icmp_eq C 1461 dl_982 (by decide) (fun _ => l_widen (by omega) (by omega) (K (σ1, τ1, σ.2.2) q3)) (fun q => absurd rfl q)
theorem lc_20 {G : XG} {p : Program} {l : Launch} {e : Env} {s : State} {m : MethodId} {b : Nat} {below : List Frame} {meth : Method} {c : Code} {Q : State → Prop} {cells slots L i n : Nat} {xs : Nat → Int32} {σ : LwS} (C : XC G 1 599 p s m #[.ref b] c code 7 R_Lw) (hX : va_X b L xs s s.heap) (hbl : b < s.heap.size) (hbA : ¬ xA G 1 599 b) (hcs : cells ≤ room_1.cells ∧ slots ≤ room_1.slots) (hi : i + 6 ≤ L) (hL : L ≤ 3072) (hn : n + 1 < 2 ^ 20) (h : NV Vb n σ.1 σ.2.1) (K : ∀ σ' : LwS, NV Vb (n + 1) σ'.1 σ'.2.1 → LJ G p l e room_1 s m #[.ref b] below meth c 7 Q (cells + 1) (slots + 6) 1461 (lvL G b i) [] σ') : LJ G p l e room_1 s m #[.ref b] below meth c 7 Q cells slots 987 (lvL G b i) [] σ := by
  obtain ⟨r, σ1, τ1, q1, q2, q3⟩ := (w_keeping Vb_cl h (xs (i + 1)) (xs (i + 2))).up
  refine l_aload_n C dl_987 1 rfl ?_
  refine l_arg (k := 1) C hX hbl hbA hi hL (by decide) rfl rfl dl_988 dl_989 dl_991 dl_992 dl_993 ?_
  refine l_arg (k := 2) C hX hbl hbA hi hL (by decide) rfl rfl dl_994 dl_995 dl_997 dl_998 dl_999 ?_
  refine l_callC (d := 200) C ⟨by decide, by decide⟩ (c_Main_keeping (d := 200) (by omega) q1) cl_113 rfl rfl rfl (Nat.le_of_ble_eq_true rfl) hcs dl_1000 ?_
  refine l_aload_n C dl_1003 2 rfl ?_
  refine l_arg (k := 1) C hX hbl hbA hi hL (by decide) rfl rfl dl_1004 dl_1005 dl_1007 dl_1008 dl_1009 ?_
  refine l_arg (k := 2) C hX hbl hbA hi hL (by decide) rfl rfl dl_1010 dl_1011 dl_1013 dl_1014 dl_1015 ?_
  refine l_callM (d := 200) C ⟨by decide, by decide⟩ (c_Model_keeping (d := 200) (by omega) q2) cl_116 rfl rfl rfl (Nat.le_of_ble_eq_true rfl) hcs dl_1016 ?_
  exact l_icmp_eq C 1461 dl_1019 (by decide) (fun _ => l_widen (by omega) (by omega) (K (σ1, τ1, σ.2.2) q3)) (fun q => absurd rfl q)
theorem lc_21 {G : XG} {p : Program} {l : Launch} {e : Env} {s : State} {m : MethodId} {b : Nat} {below : List Frame} {meth : Method} {c : Code} {Q : State → Prop} {cells slots L i n : Nat} {xs : Nat → Int32} {σ : LwS} (C : XC G 1 599 p s m #[.ref b] c code 7 R_Lw) (hX : va_X b L xs s s.heap) (hbl : b < s.heap.size) (hbA : ¬ xA G 1 599 b) (hcs : cells ≤ room_1.cells ∧ slots ≤ room_1.slots) (hi : i + 6 ≤ L) (hL : L ≤ 3072) (hn : n + 1 < 2 ^ 20) (h : NV Vb n σ.1 σ.2.1) (K : ∀ σ' : LwS, NV Vb (n + 1) σ'.1 σ'.2.1 → LJ G p l e room_1 s m #[.ref b] below meth c 7 Q (cells + 1) (slots + 6) 1461 (lvL G b i) [] σ') : LJ G p l e room_1 s m #[.ref b] below meth c 7 Q cells slots 1024 (lvL G b i) [] σ := by
  obtain ⟨r, σ1, τ1, q1, q2, q3⟩ := (w_best Vb_cl h (xs (i + 1)) (xs (i + 2))).up
  refine l_aload_n C dl_1024 1 rfl ?_
  refine l_arg (k := 1) C hX hbl hbA hi hL (by decide) rfl rfl dl_1025 dl_1026 dl_1028 dl_1029 dl_1030 ?_
  refine l_arg (k := 2) C hX hbl hbA hi hL (by decide) rfl rfl dl_1031 dl_1032 dl_1034 dl_1035 dl_1036 ?_
  refine l_callC (d := 200) C ⟨by decide, by decide⟩ (c_Main_best (d := 200) (by omega) q1) cl_117 rfl rfl rfl (Nat.le_of_ble_eq_true rfl) hcs dl_1037 ?_
  refine l_aload_n C dl_1040 2 rfl ?_
  refine l_arg (k := 1) C hX hbl hbA hi hL (by decide) rfl rfl dl_1041 dl_1042 dl_1044 dl_1045 dl_1046 ?_
  refine l_arg (k := 2) C hX hbl hbA hi hL (by decide) rfl rfl dl_1047 dl_1048 dl_1050 dl_1051 dl_1052 ?_
  refine l_callM (d := 200) C ⟨by decide, by decide⟩ (c_Model_best (d := 200) (by omega) q2) cl_120 rfl rfl rfl (Nat.le_of_ble_eq_true rfl) hcs dl_1053 ?_
  exact l_icmp_eq C 1461 dl_1056 (by decide) (fun _ => l_widen (by omega) (by omega) (K (σ1, τ1, σ.2.2) q3)) (fun q => absurd rfl q)
theorem lc_22 {G : XG} {p : Program} {l : Launch} {e : Env} {s : State} {m : MethodId} {b : Nat} {below : List Frame} {meth : Method} {c : Code} {Q : State → Prop} {cells slots L i n : Nat} {xs : Nat → Int32} {σ : LwS} (C : XC G 1 599 p s m #[.ref b] c code 7 R_Lw) (hX : va_X b L xs s s.heap) (hbl : b < s.heap.size) (hbA : ¬ xA G 1 599 b) (hcs : cells ≤ room_1.cells ∧ slots ≤ room_1.slots) (hi : i + 6 ≤ L) (hL : L ≤ 3072) (hn : n + 1 < 2 ^ 20) (h : NV Vb n σ.1 σ.2.1) (K : ∀ σ' : LwS, NV Vb (n + 1) σ'.1 σ'.2.1 → LJ G p l e room_1 s m #[.ref b] below meth c 7 Q (cells + 1) (slots + 6) 1461 (lvL G b i) [] σ') : LJ G p l e room_1 s m #[.ref b] below meth c 7 Q cells slots 1061 (lvL G b i) [] σ := by
  obtain ⟨r, σ1, τ1, q1, q2, q3⟩ := (w_sure Vb_cl h (xs (i + 1))).up
  refine l_aload_n C dl_1061 1 rfl ?_
  refine l_arg (k := 1) C hX hbl hbA hi hL (by decide) rfl rfl dl_1062 dl_1063 dl_1065 dl_1066 dl_1067 ?_
  refine l_callC (d := 200) C ⟨by decide, by decide⟩ (c_Main_sure (d := 200) (by omega) q1) cl_121 rfl rfl rfl (Nat.le_of_ble_eq_true rfl) hcs dl_1068 ?_
  refine l_aload_n C dl_1071 2 rfl ?_
  refine l_arg (k := 1) C hX hbl hbA hi hL (by decide) rfl rfl dl_1072 dl_1073 dl_1075 dl_1076 dl_1077 ?_
  refine l_callM (d := 200) C ⟨by decide, by decide⟩ (c_Model_sure (d := 200) (by omega) q2) cl_124 rfl rfl rfl (Nat.le_of_ble_eq_true rfl) hcs dl_1078 ?_
  exact l_icmp_eq C 1461 dl_1081 (by decide) (fun _ => l_widen (by omega) (by omega) (K (σ1, τ1, σ.2.2) q3)) (fun q => absurd rfl q)
theorem lc_23 {G : XG} {p : Program} {l : Launch} {e : Env} {s : State} {m : MethodId} {b : Nat} {below : List Frame} {meth : Method} {c : Code} {Q : State → Prop} {cells slots L i n : Nat} {xs : Nat → Int32} {σ : LwS} (C : XC G 1 599 p s m #[.ref b] c code 7 R_Lw) (hX : va_X b L xs s s.heap) (hbl : b < s.heap.size) (hbA : ¬ xA G 1 599 b) (hcs : cells ≤ room_1.cells ∧ slots ≤ room_1.slots) (hi : i + 6 ≤ L) (hL : L ≤ 3072) (hn : n + 1 < 2 ^ 20) (h : NV Vb n σ.1 σ.2.1) (K : ∀ σ' : LwS, NV Vb (n + 1) σ'.1 σ'.2.1 → LJ G p l e room_1 s m #[.ref b] below meth c 7 Q (cells + 1) (slots + 6) 1461 (lvL G b i) [] σ') : LJ G p l e room_1 s m #[.ref b] below meth c 7 Q cells slots 1086 (lvL G b i) [] σ := by
  obtain ⟨r, σ1, τ1, q1, q2, q3⟩ := (w_call Vb_cl h (xs (i + 1)) (xs (i + 2)) (xs (i + 3))).up
  refine l_aload_n C dl_1086 1 rfl ?_
  refine l_arg (k := 1) C hX hbl hbA hi hL (by decide) rfl rfl dl_1087 dl_1088 dl_1090 dl_1091 dl_1092 ?_
  refine l_arg (k := 2) C hX hbl hbA hi hL (by decide) rfl rfl dl_1093 dl_1094 dl_1096 dl_1097 dl_1098 ?_
  refine l_arg (k := 3) C hX hbl hbA hi hL (by decide) rfl rfl dl_1099 dl_1100 dl_1102 dl_1103 dl_1104 ?_
  refine l_callC (d := 200) C ⟨by decide, by decide⟩ (c_Main_call (d := 200) (by omega) q1) cl_125 rfl rfl rfl (Nat.le_of_ble_eq_true rfl) hcs dl_1105 ?_
  refine l_aload_n C dl_1108 2 rfl ?_
  refine l_arg (k := 1) C hX hbl hbA hi hL (by decide) rfl rfl dl_1109 dl_1110 dl_1112 dl_1113 dl_1114 ?_
  refine l_arg (k := 2) C hX hbl hbA hi hL (by decide) rfl rfl dl_1115 dl_1116 dl_1118 dl_1119 dl_1120 ?_
  refine l_arg (k := 3) C hX hbl hbA hi hL (by decide) rfl rfl dl_1121 dl_1122 dl_1124 dl_1125 dl_1126 ?_
  refine l_callM (d := 200) C ⟨by decide, by decide⟩ (c_Model_call (d := 200) (by omega) q2) cl_128 rfl rfl rfl (Nat.le_of_ble_eq_true rfl) hcs dl_1127 ?_
  exact l_icmp_eq C 1461 dl_1130 (by decide) (fun _ => l_widen (by omega) (by omega) (K (σ1, τ1, σ.2.2) q3)) (fun q => absurd rfl q)
theorem lc_24 {G : XG} {p : Program} {l : Launch} {e : Env} {s : State} {m : MethodId} {b : Nat} {below : List Frame} {meth : Method} {c : Code} {Q : State → Prop} {cells slots L i n : Nat} {xs : Nat → Int32} {σ : LwS} (C : XC G 1 599 p s m #[.ref b] c code 7 R_Lw) (hX : va_X b L xs s s.heap) (hbl : b < s.heap.size) (hbA : ¬ xA G 1 599 b) (hcs : cells ≤ room_1.cells ∧ slots ≤ room_1.slots) (hi : i + 6 ≤ L) (hL : L ≤ 3072) (hn : n + 1 < 2 ^ 20) (h : NV Vb n σ.1 σ.2.1) (K : ∀ σ' : LwS, NV Vb (n + 1) σ'.1 σ'.2.1 → LJ G p l e room_1 s m #[.ref b] below meth c 7 Q (cells + 1) (slots + 6) 1461 (lvL G b i) [] σ') : LJ G p l e room_1 s m #[.ref b] below meth c 7 Q cells slots 1135 (lvL G b i) [] σ := by
  obtain ⟨r, σ1, τ1, q1, q2, q3⟩ := (w_rests Vb_cl h (xs (i + 1)) (xs (i + 2))).up
  refine l_aload_n C dl_1135 1 rfl ?_
  refine l_arg (k := 1) C hX hbl hbA hi hL (by decide) rfl rfl dl_1136 dl_1137 dl_1139 dl_1140 dl_1141 ?_
  refine l_arg (k := 2) C hX hbl hbA hi hL (by decide) rfl rfl dl_1142 dl_1143 dl_1145 dl_1146 dl_1147 ?_
  refine l_callC (d := 200) C ⟨by decide, by decide⟩ (c_Main_rests (d := 200) (by omega) q1) cl_129 rfl rfl rfl (Nat.le_of_ble_eq_true rfl) hcs dl_1148 ?_
  refine l_aload_n C dl_1151 2 rfl ?_
  refine l_arg (k := 1) C hX hbl hbA hi hL (by decide) rfl rfl dl_1152 dl_1153 dl_1155 dl_1156 dl_1157 ?_
  refine l_arg (k := 2) C hX hbl hbA hi hL (by decide) rfl rfl dl_1158 dl_1159 dl_1161 dl_1162 dl_1163 ?_
  refine l_callM (d := 200) C ⟨by decide, by decide⟩ (c_Model_rests (d := 200) (by omega) q2) cl_132 rfl rfl rfl (Nat.le_of_ble_eq_true rfl) hcs dl_1164 ?_
  exact l_icmp_eq C 1461 dl_1167 (by decide) (fun _ => l_widen (by omega) (by omega) (K (σ1, τ1, σ.2.2) q3)) (fun q => absurd rfl q)
theorem lc_25 {G : XG} {p : Program} {l : Launch} {e : Env} {s : State} {m : MethodId} {b : Nat} {below : List Frame} {meth : Method} {c : Code} {Q : State → Prop} {cells slots L i n : Nat} {xs : Nat → Int32} {σ : LwS} (C : XC G 1 599 p s m #[.ref b] c code 7 R_Lw) (hX : va_X b L xs s s.heap) (hbl : b < s.heap.size) (hbA : ¬ xA G 1 599 b) (hcs : cells ≤ room_1.cells ∧ slots ≤ room_1.slots) (hi : i + 6 ≤ L) (hL : L ≤ 3072) (hn : n + 1 < 2 ^ 20) (h : NV Vb n σ.1 σ.2.1) (K : ∀ σ' : LwS, NV Vb (n + 1) σ'.1 σ'.2.1 → LJ G p l e room_1 s m #[.ref b] below meth c 7 Q (cells + 1) (slots + 6) 1461 (lvL G b i) [] σ') : LJ G p l e room_1 s m #[.ref b] below meth c 7 Q cells slots 1172 (lvL G b i) [] σ := by
  obtain ⟨r, σ1, τ1, q1, q2, q3⟩ := (w_broken Vb_cl h (xs (i + 1))).up
  refine l_aload_n C dl_1172 1 rfl ?_
  refine l_arg (k := 1) C hX hbl hbA hi hL (by decide) rfl rfl dl_1173 dl_1174 dl_1176 dl_1177 dl_1178 ?_
  refine l_callC (d := 200) C ⟨by decide, by decide⟩ (c_Main_broken (d := 200) (by omega) q1) cl_133 rfl rfl rfl (Nat.le_of_ble_eq_true rfl) hcs dl_1179 ?_
  refine l_aload_n C dl_1182 2 rfl ?_
  refine l_arg (k := 1) C hX hbl hbA hi hL (by decide) rfl rfl dl_1183 dl_1184 dl_1186 dl_1187 dl_1188 ?_
  refine l_callM (d := 200) C ⟨by decide, by decide⟩ (c_Model_broken (d := 200) (by omega) q2) cl_136 rfl rfl rfl (Nat.le_of_ble_eq_true rfl) hcs dl_1189 ?_
  exact l_icmp_eq C 1461 dl_1192 (by decide) (fun _ => l_widen (by omega) (by omega) (K (σ1, τ1, σ.2.2) q3)) (fun q => absurd rfl q)
theorem lc_26 {G : XG} {p : Program} {l : Launch} {e : Env} {s : State} {m : MethodId} {b : Nat} {below : List Frame} {meth : Method} {c : Code} {Q : State → Prop} {cells slots L i n : Nat} {xs : Nat → Int32} {σ : LwS} (C : XC G 1 599 p s m #[.ref b] c code 7 R_Lw) (hX : va_X b L xs s s.heap) (hbl : b < s.heap.size) (hbA : ¬ xA G 1 599 b) (hcs : cells ≤ room_1.cells ∧ slots ≤ room_1.slots) (hi : i + 6 ≤ L) (hL : L ≤ 3072) (hn : n + 1 < 2 ^ 20) (h : NV Vb n σ.1 σ.2.1) (K : ∀ σ' : LwS, NV Vb (n + 1) σ'.1 σ'.2.1 → LJ G p l e room_1 s m #[.ref b] below meth c 7 Q (cells + 1) (slots + 6) 1461 (lvL G b i) [] σ') : LJ G p l e room_1 s m #[.ref b] below meth c 7 Q cells slots 1197 (lvL G b i) [] σ := by
  obtain ⟨r, σ1, τ1, q1, q2, q3⟩ := (w_fair Vb_cl h (xs (i + 1)) (xs (i + 2))).up
  refine l_aload_n C dl_1197 1 rfl ?_
  refine l_arg (k := 1) C hX hbl hbA hi hL (by decide) rfl rfl dl_1198 dl_1199 dl_1201 dl_1202 dl_1203 ?_
  refine l_arg (k := 2) C hX hbl hbA hi hL (by decide) rfl rfl dl_1204 dl_1205 dl_1207 dl_1208 dl_1209 ?_
  refine l_callC (d := 200) C ⟨by decide, by decide⟩ (c_Main_fair (d := 200) (by omega) q1) cl_137 rfl rfl rfl (Nat.le_of_ble_eq_true rfl) hcs dl_1210 ?_
  refine l_aload_n C dl_1213 2 rfl ?_
  refine l_arg (k := 1) C hX hbl hbA hi hL (by decide) rfl rfl dl_1214 dl_1215 dl_1217 dl_1218 dl_1219 ?_
  refine l_arg (k := 2) C hX hbl hbA hi hL (by decide) rfl rfl dl_1220 dl_1221 dl_1223 dl_1224 dl_1225 ?_
  refine l_callM (d := 200) C ⟨by decide, by decide⟩ (c_Model_fair (d := 200) (by omega) q2) cl_140 rfl rfl rfl (Nat.le_of_ble_eq_true rfl) hcs dl_1226 ?_
  exact l_icmp_eq C 1461 dl_1229 (by decide) (fun _ => l_widen (by omega) (by omega) (K (σ1, τ1, σ.2.2) q3)) (fun q => absurd rfl q)
theorem lc_27 {G : XG} {p : Program} {l : Launch} {e : Env} {s : State} {m : MethodId} {b : Nat} {below : List Frame} {meth : Method} {c : Code} {Q : State → Prop} {cells slots L i n : Nat} {xs : Nat → Int32} {σ : LwS} (C : XC G 1 599 p s m #[.ref b] c code 7 R_Lw) (hX : va_X b L xs s s.heap) (hbl : b < s.heap.size) (hbA : ¬ xA G 1 599 b) (hcs : cells ≤ room_1.cells ∧ slots ≤ room_1.slots) (hi : i + 6 ≤ L) (hL : L ≤ 3072) (hn : n + 1 < 2 ^ 20) (h : NV Vb n σ.1 σ.2.1) (K : ∀ σ' : LwS, NV Vb (n + 1) σ'.1 σ'.2.1 → LJ G p l e room_1 s m #[.ref b] below meth c 7 Q (cells + 1) (slots + 6) 1461 (lvL G b i) [] σ') : LJ G p l e room_1 s m #[.ref b] below meth c 7 Q cells slots 1234 (lvL G b i) [] σ := by
  obtain ⟨r, σ1, τ1, q1, q2, q3⟩ := (w_rule Vb_cl h (xs (i + 1))).up
  refine l_aload_n C dl_1234 1 rfl ?_
  refine l_arg (k := 1) C hX hbl hbA hi hL (by decide) rfl rfl dl_1235 dl_1236 dl_1238 dl_1239 dl_1240 ?_
  refine l_callC (d := 200) C ⟨by decide, by decide⟩ (c_Main_rule (d := 200) (by omega) q1) cl_141 rfl rfl rfl (Nat.le_of_ble_eq_true rfl) hcs dl_1241 ?_
  refine l_aload_n C dl_1244 2 rfl ?_
  refine l_arg (k := 1) C hX hbl hbA hi hL (by decide) rfl rfl dl_1245 dl_1246 dl_1248 dl_1249 dl_1250 ?_
  refine l_callM (d := 200) C ⟨by decide, by decide⟩ (c_Model_rule (d := 200) (by omega) q2) cl_144 rfl rfl rfl (Nat.le_of_ble_eq_true rfl) hcs dl_1251 ?_
  exact l_icmp_eq C 1461 dl_1254 (by decide) (fun _ => l_widen (by omega) (by omega) (K (σ1, τ1, σ.2.2) q3)) (fun q => absurd rfl q)
theorem lc_28 {G : XG} {p : Program} {l : Launch} {e : Env} {s : State} {m : MethodId} {b : Nat} {below : List Frame} {meth : Method} {c : Code} {Q : State → Prop} {cells slots L i n : Nat} {xs : Nat → Int32} {σ : LwS} (C : XC G 1 599 p s m #[.ref b] c code 7 R_Lw) (hX : va_X b L xs s s.heap) (hbl : b < s.heap.size) (hbA : ¬ xA G 1 599 b) (hcs : cells ≤ room_1.cells ∧ slots ≤ room_1.slots) (hi : i + 6 ≤ L) (hL : L ≤ 3072) (hn : n + 1 < 2 ^ 20) (h : NV Vb n σ.1 σ.2.1) (K : ∀ σ' : LwS, NV Vb (n + 1) σ'.1 σ'.2.1 → LJ G p l e room_1 s m #[.ref b] below meth c 7 Q (cells + 1) (slots + 6) 1461 (lvL G b i) [] σ') : LJ G p l e room_1 s m #[.ref b] below meth c 7 Q cells slots 1259 (lvL G b i) [] σ := by
  obtain ⟨r, σ1, τ1, q1, q2, q3⟩ := (w_tells Vb_cl Vb_tel h (xs (i + 1)) (xs (i + 2))).up
  refine l_aload_n C dl_1259 1 rfl ?_
  refine l_arg (k := 1) C hX hbl hbA hi hL (by decide) rfl rfl dl_1260 dl_1261 dl_1263 dl_1264 dl_1265 ?_
  refine l_arg (k := 2) C hX hbl hbA hi hL (by decide) rfl rfl dl_1266 dl_1267 dl_1269 dl_1270 dl_1271 ?_
  refine l_callC (d := 200) C ⟨by decide, by decide⟩ (c_Main_tells (d := 200) (by omega) q1) cl_145 rfl rfl rfl (Nat.le_of_ble_eq_true rfl) hcs dl_1272 ?_
  refine l_aload_n C dl_1275 2 rfl ?_
  refine l_arg (k := 1) C hX hbl hbA hi hL (by decide) rfl rfl dl_1276 dl_1277 dl_1279 dl_1280 dl_1281 ?_
  refine l_arg (k := 2) C hX hbl hbA hi hL (by decide) rfl rfl dl_1282 dl_1283 dl_1285 dl_1286 dl_1287 ?_
  refine l_callM (d := 200) C ⟨by decide, by decide⟩ (c_Model_tells (d := 200) (by omega) q2) cl_148 rfl rfl rfl (Nat.le_of_ble_eq_true rfl) hcs dl_1288 ?_
  exact l_icmp_eq C 1461 dl_1291 (by decide) (fun _ => l_widen (by omega) (by omega) (K (σ1, τ1, σ.2.2) q3)) (fun q => absurd rfl q)
theorem lc_29 {G : XG} {p : Program} {l : Launch} {e : Env} {s : State} {m : MethodId} {b : Nat} {below : List Frame} {meth : Method} {c : Code} {Q : State → Prop} {cells slots L i n : Nat} {xs : Nat → Int32} {σ : LwS} (C : XC G 1 599 p s m #[.ref b] c code 7 R_Lw) (hX : va_X b L xs s s.heap) (hbl : b < s.heap.size) (hbA : ¬ xA G 1 599 b) (hcs : cells ≤ room_1.cells ∧ slots ≤ room_1.slots) (hi : i + 6 ≤ L) (hL : L ≤ 3072) (hn : n + 1 < 2 ^ 20) (h : NV Vb n σ.1 σ.2.1) (K : ∀ σ' : LwS, NV Vb (n + 1) σ'.1 σ'.2.1 → LJ G p l e room_1 s m #[.ref b] below meth c 7 Q (cells + 1) (slots + 6) 1461 (lvL G b i) [] σ') : LJ G p l e room_1 s m #[.ref b] below meth c 7 Q cells slots 1296 (lvL G b i) [] σ := by
  obtain ⟨r, σ1, τ1, q1, q2, q3⟩ := (w_been h (xs (i + 1))).up
  refine l_aload_n C dl_1296 1 rfl ?_
  refine l_arg (k := 1) C hX hbl hbA hi hL (by decide) rfl rfl dl_1297 dl_1298 dl_1300 dl_1301 dl_1302 ?_
  refine l_callC (d := 200) C ⟨by decide, by decide⟩ (c_Main_been (d := 200) (by omega) q1) cl_149 rfl rfl rfl (Nat.le_of_ble_eq_true rfl) hcs dl_1303 ?_
  refine l_aload_n C dl_1306 2 rfl ?_
  refine l_arg (k := 1) C hX hbl hbA hi hL (by decide) rfl rfl dl_1307 dl_1308 dl_1310 dl_1311 dl_1312 ?_
  refine l_callM (d := 200) C ⟨by decide, by decide⟩ (c_Model_been (d := 200) (by omega) q2) cl_152 rfl rfl rfl (Nat.le_of_ble_eq_true rfl) hcs dl_1313 ?_
  exact l_icmp_eq C 1461 dl_1316 (by decide) (fun _ => l_widen (by omega) (by omega) (K (σ1, τ1, σ.2.2) q3)) (fun q => absurd rfl q)
theorem lc_30 {G : XG} {p : Program} {l : Launch} {e : Env} {s : State} {m : MethodId} {b : Nat} {below : List Frame} {meth : Method} {c : Code} {Q : State → Prop} {cells slots L i n : Nat} {xs : Nat → Int32} {σ : LwS} (C : XC G 1 599 p s m #[.ref b] c code 7 R_Lw) (hX : va_X b L xs s s.heap) (hbl : b < s.heap.size) (hbA : ¬ xA G 1 599 b) (hcs : cells ≤ room_1.cells ∧ slots ≤ room_1.slots) (hi : i + 6 ≤ L) (hL : L ≤ 3072) (hn : n + 1 < 2 ^ 20) (h : NV Vb n σ.1 σ.2.1) (K : ∀ σ' : LwS, NV Vb (n + 1) σ'.1 σ'.2.1 → LJ G p l e room_1 s m #[.ref b] below meth c 7 Q (cells + 1) (slots + 6) 1461 (lvL G b i) [] σ') : LJ G p l e room_1 s m #[.ref b] below meth c 7 Q cells slots 1321 (lvL G b i) [] σ := by
  obtain ⟨r, σ1, τ1, q1, q2, q3⟩ := (w_ladder Vb_cl h (xs (i + 1))).up
  refine l_aload_n C dl_1321 1 rfl ?_
  refine l_arg (k := 1) C hX hbl hbA hi hL (by decide) rfl rfl dl_1322 dl_1323 dl_1325 dl_1326 dl_1327 ?_
  refine l_callC (d := 200) C ⟨by decide, by decide⟩ (c_Main_ladder (d := 200) (by omega) q1) cl_153 rfl rfl rfl (Nat.le_of_ble_eq_true rfl) hcs dl_1328 ?_
  refine l_aload_n C dl_1331 2 rfl ?_
  refine l_arg (k := 1) C hX hbl hbA hi hL (by decide) rfl rfl dl_1332 dl_1333 dl_1335 dl_1336 dl_1337 ?_
  refine l_callM (d := 200) C ⟨by decide, by decide⟩ (c_Model_ladder (d := 200) (by omega) q2) cl_156 rfl rfl rfl (Nat.le_of_ble_eq_true rfl) hcs dl_1338 ?_
  exact l_icmp_eq C 1461 dl_1341 (by decide) (fun _ => l_widen (by omega) (by omega) (K (σ1, τ1, σ.2.2) q3)) (fun q => absurd rfl q)
theorem lc_31 {G : XG} {p : Program} {l : Launch} {e : Env} {s : State} {m : MethodId} {b : Nat} {below : List Frame} {meth : Method} {c : Code} {Q : State → Prop} {cells slots L i n : Nat} {xs : Nat → Int32} {σ : LwS} (C : XC G 1 599 p s m #[.ref b] c code 7 R_Lw) (hX : va_X b L xs s s.heap) (hbl : b < s.heap.size) (hbA : ¬ xA G 1 599 b) (hcs : cells ≤ room_1.cells ∧ slots ≤ room_1.slots) (hi : i + 6 ≤ L) (hL : L ≤ 3072) (hn : n + 1 < 2 ^ 20) (h : NV Vb n σ.1 σ.2.1) (K : ∀ σ' : LwS, NV Vb (n + 1) σ'.1 σ'.2.1 → LJ G p l e room_1 s m #[.ref b] below meth c 7 Q (cells + 1) (slots + 6) 1461 (lvL G b i) [] σ') : LJ G p l e room_1 s m #[.ref b] below meth c 7 Q cells slots 1346 (lvL G b i) [] σ := by
  obtain ⟨r, σ1, τ1, q1, q2, q3⟩ := (w_envy Vb_cl h ).up
  refine l_aload_n C dl_1346 1 rfl ?_
  refine l_callC (d := 200) C ⟨by decide, by decide⟩ (c_Main_envy (d := 200) (by omega) q1) cl_157 rfl rfl rfl (Nat.le_of_ble_eq_true rfl) hcs dl_1347 ?_
  refine l_aload_n C dl_1350 2 rfl ?_
  refine l_callM (d := 200) C ⟨by decide, by decide⟩ (c_Model_envy (d := 200) (by omega) q2) cl_160 rfl rfl rfl (Nat.le_of_ble_eq_true rfl) hcs dl_1351 ?_
  exact l_icmp_eq C 1461 dl_1354 (by decide) (fun _ => l_widen (by omega) (by omega) (K (σ1, τ1, σ.2.2) q3)) (fun q => absurd rfl q)
theorem lc_32 {G : XG} {p : Program} {l : Launch} {e : Env} {s : State} {m : MethodId} {b : Nat} {below : List Frame} {meth : Method} {c : Code} {Q : State → Prop} {cells slots L i n : Nat} {xs : Nat → Int32} {σ : LwS} (C : XC G 1 599 p s m #[.ref b] c code 7 R_Lw) (hX : va_X b L xs s s.heap) (hbl : b < s.heap.size) (hbA : ¬ xA G 1 599 b) (hcs : cells ≤ room_1.cells ∧ slots ≤ room_1.slots) (hi : i + 6 ≤ L) (hL : L ≤ 3072) (hn : n + 1 < 2 ^ 20) (h : NV Vb n σ.1 σ.2.1) (K : ∀ σ' : LwS, NV Vb (n + 1) σ'.1 σ'.2.1 → LJ G p l e room_1 s m #[.ref b] below meth c 7 Q (cells + 1) (slots + 6) 1461 (lvL G b i) [] σ') : LJ G p l e room_1 s m #[.ref b] below meth c 7 Q cells slots 1359 (lvL G b i) [] σ := by
  obtain ⟨r, σ1, τ1, q1, q2, q3⟩ := (w_warm Vb_cl h ).up
  refine l_aload_n C dl_1359 1 rfl ?_
  refine l_callC (d := 200) C ⟨by decide, by decide⟩ (c_Main_warm (d := 200) (by omega) q1) cl_161 rfl rfl rfl (Nat.le_of_ble_eq_true rfl) hcs dl_1360 ?_
  refine l_aload_n C dl_1363 2 rfl ?_
  refine l_callM (d := 200) C ⟨by decide, by decide⟩ (c_Model_warm (d := 200) (by omega) q2) cl_164 rfl rfl rfl (Nat.le_of_ble_eq_true rfl) hcs dl_1364 ?_
  exact l_icmp_eq C 1461 dl_1367 (by decide) (fun _ => l_widen (by omega) (by omega) (K (σ1, τ1, σ.2.2) q3)) (fun q => absurd rfl q)
theorem lc_33 {G : XG} {p : Program} {l : Launch} {e : Env} {s : State} {m : MethodId} {b : Nat} {below : List Frame} {meth : Method} {c : Code} {Q : State → Prop} {cells slots L i n : Nat} {xs : Nat → Int32} {σ : LwS} (C : XC G 1 599 p s m #[.ref b] c code 7 R_Lw) (hX : va_X b L xs s s.heap) (hbl : b < s.heap.size) (hbA : ¬ xA G 1 599 b) (hcs : cells ≤ room_1.cells ∧ slots ≤ room_1.slots) (hi : i + 6 ≤ L) (hL : L ≤ 3072) (hn : n + 1 < 2 ^ 20) (h : NV Vb n σ.1 σ.2.1) (K : ∀ σ' : LwS, NV Vb (n + 1) σ'.1 σ'.2.1 → LJ G p l e room_1 s m #[.ref b] below meth c 7 Q (cells + 1) (slots + 6) 1461 (lvL G b i) [] σ') : LJ G p l e room_1 s m #[.ref b] below meth c 7 Q cells slots 1372 (lvL G b i) [] σ := by
  obtain ⟨r, σ1, τ1, q1, q2, q3⟩ := (w_often Vb_cl h (xs (i + 1))).up
  refine l_aload_n C dl_1372 1 rfl ?_
  refine l_arg (k := 1) C hX hbl hbA hi hL (by decide) rfl rfl dl_1373 dl_1374 dl_1376 dl_1377 dl_1378 ?_
  refine l_callC (d := 200) C ⟨by decide, by decide⟩ (c_Main_often (d := 200) (by omega) q1) cl_165 rfl rfl rfl (Nat.le_of_ble_eq_true rfl) hcs dl_1379 ?_
  refine l_aload_n C dl_1382 2 rfl ?_
  refine l_arg (k := 1) C hX hbl hbA hi hL (by decide) rfl rfl dl_1383 dl_1384 dl_1386 dl_1387 dl_1388 ?_
  refine l_callM (d := 200) C ⟨by decide, by decide⟩ (c_Model_often (d := 200) (by omega) q2) cl_168 rfl rfl rfl (Nat.le_of_ble_eq_true rfl) hcs dl_1389 ?_
  exact l_icmp_eq C 1461 dl_1392 (by decide) (fun _ => l_widen (by omega) (by omega) (K (σ1, τ1, σ.2.2) q3)) (fun q => absurd rfl q)
theorem lc_34 {G : XG} {p : Program} {l : Launch} {e : Env} {s : State} {m : MethodId} {b : Nat} {below : List Frame} {meth : Method} {c : Code} {Q : State → Prop} {cells slots L i n : Nat} {xs : Nat → Int32} {σ : LwS} (C : XC G 1 599 p s m #[.ref b] c code 7 R_Lw) (hX : va_X b L xs s s.heap) (hbl : b < s.heap.size) (hbA : ¬ xA G 1 599 b) (hcs : cells ≤ room_1.cells ∧ slots ≤ room_1.slots) (hi : i + 6 ≤ L) (hL : L ≤ 3072) (hn : n + 1 < 2 ^ 20) (h : NV Vb n σ.1 σ.2.1) (K : ∀ σ' : LwS, NV Vb (n + 1) σ'.1 σ'.2.1 → LJ G p l e room_1 s m #[.ref b] below meth c 7 Q (cells + 1) (slots + 6) 1461 (lvL G b i) [] σ') : LJ G p l e room_1 s m #[.ref b] below meth c 7 Q cells slots 1397 (lvL G b i) [] σ := by
  obtain ⟨r, σ1, τ1, q1, q2, q3⟩ := (w_even Vb_cl h ).up
  refine l_aload_n C dl_1397 1 rfl ?_
  refine l_callC (d := 200) C ⟨by decide, by decide⟩ (c_Main_even (d := 200) (by omega) q1) cl_169 rfl rfl rfl (Nat.le_of_ble_eq_true rfl) hcs dl_1398 ?_
  refine l_aload_n C dl_1401 2 rfl ?_
  refine l_callM (d := 200) C ⟨by decide, by decide⟩ (c_Model_even (d := 200) (by omega) q2) cl_172 rfl rfl rfl (Nat.le_of_ble_eq_true rfl) hcs dl_1402 ?_
  exact l_icmp_eq C 1461 dl_1405 (by decide) (fun _ => l_widen (by omega) (by omega) (K (σ1, τ1, σ.2.2) q3)) (fun q => absurd rfl q)
theorem lc_35 {G : XG} {p : Program} {l : Launch} {e : Env} {s : State} {m : MethodId} {b : Nat} {below : List Frame} {meth : Method} {c : Code} {Q : State → Prop} {cells slots L i n : Nat} {xs : Nat → Int32} {σ : LwS} (C : XC G 1 599 p s m #[.ref b] c code 7 R_Lw) (hX : va_X b L xs s s.heap) (hbl : b < s.heap.size) (hbA : ¬ xA G 1 599 b) (hcs : cells ≤ room_1.cells ∧ slots ≤ room_1.slots) (hi : i + 6 ≤ L) (hL : L ≤ 3072) (hn : n + 1 < 2 ^ 20) (h : NV Vb n σ.1 σ.2.1) (K : ∀ σ' : LwS, NV Vb (n + 1) σ'.1 σ'.2.1 → LJ G p l e room_1 s m #[.ref b] below meth c 7 Q (cells + 1) (slots + 6) 1461 (lvL G b i) [] σ') : LJ G p l e room_1 s m #[.ref b] below meth c 7 Q cells slots 1410 (lvL G b i) [] σ := by
  obtain ⟨r, σ1, τ1, q1, q2, q3⟩ := (w_image Vb_cl h ).up
  refine l_aload_n C dl_1410 1 rfl ?_
  refine l_callC (d := 200) C ⟨by decide, by decide⟩ (c_Main_image (d := 200) (by omega) q1) cl_173 rfl rfl rfl (Nat.le_of_ble_eq_true rfl) hcs dl_1411 ?_
  refine l_aload_n C dl_1414 2 rfl ?_
  refine l_callM (d := 200) C ⟨by decide, by decide⟩ (c_Model_image (d := 200) (by omega) q2) cl_176 rfl rfl rfl (Nat.le_of_ble_eq_true rfl) hcs dl_1415 ?_
  exact l_icmp_eq C 1461 dl_1418 (by decide) (fun _ => l_widen (by omega) (by omega) (K (σ1, τ1, σ.2.2) q3)) (fun q => absurd rfl q)
theorem lc_36 {G : XG} {p : Program} {l : Launch} {e : Env} {s : State} {m : MethodId} {b : Nat} {below : List Frame} {meth : Method} {c : Code} {Q : State → Prop} {cells slots L i n : Nat} {xs : Nat → Int32} {σ : LwS} (C : XC G 1 599 p s m #[.ref b] c code 7 R_Lw) (hX : va_X b L xs s s.heap) (hbl : b < s.heap.size) (hbA : ¬ xA G 1 599 b) (hcs : cells ≤ room_1.cells ∧ slots ≤ room_1.slots) (hi : i + 6 ≤ L) (hL : L ≤ 3072) (hn : n + 1 < 2 ^ 20) (h : NV Vb n σ.1 σ.2.1) (K : ∀ σ' : LwS, NV Vb (n + 1) σ'.1 σ'.2.1 → LJ G p l e room_1 s m #[.ref b] below meth c 7 Q (cells + 1) (slots + 6) 1461 (lvL G b i) [] σ') : LJ G p l e room_1 s m #[.ref b] below meth c 7 Q cells slots 1423 (lvL G b i) [] σ := by
  obtain ⟨r, σ1, τ1, q1, q2, q3⟩ := (w_back Vb_cl h ).up
  refine l_aload_n C dl_1423 1 rfl ?_
  refine l_callC (d := 200) C ⟨by decide, by decide⟩ (c_Main_back (d := 200) (by omega) q1) cl_177 rfl rfl rfl (Nat.le_of_ble_eq_true rfl) hcs dl_1424 ?_
  refine l_aload_n C dl_1427 2 rfl ?_
  refine l_callM (d := 200) C ⟨by decide, by decide⟩ (c_Model_back (d := 200) (by omega) q2) cl_180 rfl rfl rfl (Nat.le_of_ble_eq_true rfl) hcs dl_1428 ?_
  exact l_icmp_eq C 1461 dl_1431 (by decide) (fun _ => l_widen (by omega) (by omega) (K (σ1, τ1, σ.2.2) q3)) (fun q => absurd rfl q)
theorem lc_37 {G : XG} {p : Program} {l : Launch} {e : Env} {s : State} {m : MethodId} {b : Nat} {below : List Frame} {meth : Method} {c : Code} {Q : State → Prop} {cells slots L i n : Nat} {xs : Nat → Int32} {σ : LwS} (C : XC G 1 599 p s m #[.ref b] c code 7 R_Lw) (hX : va_X b L xs s s.heap) (hbl : b < s.heap.size) (hbA : ¬ xA G 1 599 b) (hcs : cells ≤ room_1.cells ∧ slots ≤ room_1.slots) (hi : i + 6 ≤ L) (hL : L ≤ 3072) (hn : n + 1 < 2 ^ 20) (h : NV Vb n σ.1 σ.2.1) (K : ∀ σ' : LwS, NV Vb (n + 1) σ'.1 σ'.2.1 → LJ G p l e room_1 s m #[.ref b] below meth c 7 Q (cells + 1) (slots + 6) 1461 (lvL G b i) [] σ') : LJ G p l e room_1 s m #[.ref b] below meth c 7 Q cells slots 1436 (lvL G b i) [] σ := by
  obtain ⟨r, σ1, τ1, q1, q2, q3⟩ := (w_count Vb_cl h (xs (i + 1))).up
  refine l_aload_n C dl_1436 1 rfl ?_
  refine l_arg (k := 1) C hX hbl hbA hi hL (by decide) rfl rfl dl_1437 dl_1438 dl_1440 dl_1441 dl_1442 ?_
  refine l_callC (d := 200) C ⟨by decide, by decide⟩ (c_Main_count (d := 200) (by omega) q1) cl_181 rfl rfl rfl (Nat.le_of_ble_eq_true rfl) hcs dl_1443 ?_
  refine l_aload_n C dl_1446 2 rfl ?_
  refine l_arg (k := 1) C hX hbl hbA hi hL (by decide) rfl rfl dl_1447 dl_1448 dl_1450 dl_1451 dl_1452 ?_
  refine l_callM (d := 200) C ⟨by decide, by decide⟩ (c_Model_count (d := 200) (by omega) q2) cl_184 rfl rfl rfl (Nat.le_of_ble_eq_true rfl) hcs dl_1453 ?_
  exact l_icmp_eq C 1461 dl_1456 (by decide) (fun _ => l_widen (by omega) (by omega) (K (σ1, τ1, σ.2.2) q3)) (fun q => absurd rfl q)
theorem lc_14 {G : XG} {p : Program} {l : Launch} {e : Env} {s : State} {m : MethodId} {b : Nat} {below : List Frame} {meth : Method} {c : Code} {Q : State → Prop} {cells slots L i n : Nat} {xs : Nat → Int32} {σ : LwS} (C : XC G 1 599 p s m #[.ref b] c code 7 R_Lw) (hX : va_X b L xs s s.heap) (hbl : b < s.heap.size) (hbA : ¬ xA G 1 599 b) (hcs : cells ≤ room_1.cells ∧ slots ≤ room_1.slots) (hi : i + 6 ≤ L) (hL : L ≤ 3072) (hn : n + 1 < 2 ^ 20) (h : NV Vb n σ.1 σ.2.1) (K : ∀ σ' : LwS, NV Vb (n + 1) σ'.1 σ'.2.1 → LJ G p l e room_1 s m #[.ref b] below meth c 7 Q (cells + 1) (slots + 6) 1461 (lvL G b i) [] σ') : LJ G p l e room_1 s m #[.ref b] below meth c 7 Q cells slots 721 (lvL G b i) [] σ := by
  obtain ⟨r, σ1, τ1, q1, q2, q3⟩ := (w_winter Vb_cl h (xs (i + 1)) (((xs (i + 2)).toInt64 <<< ((32 : Int32).toInt64 &&& 63)) ||| ((xs (i + 3)).toInt64 &&& 4294967295))).up
  refine l_aload_n C dl_721 1 rfl ?_
  refine l_arg (k := 1) C hX hbl hbA hi hL (by decide) rfl rfl dl_722 dl_723 dl_725 dl_726 dl_727 ?_
  refine l_arg (k := 2) C hX hbl hbA hi hL (by decide) rfl rfl dl_728 dl_729 dl_731 dl_732 dl_733 ?_
  refine l_i2l C dl_734 ?_
  refine l_bipush (v := 32) C dl_735 (by decide) ?_
  refine l_lshl C dl_737 ?_
  refine l_arg (k := 3) C hX hbl hbA hi hL (by decide) rfl rfl dl_738 dl_739 dl_741 dl_742 dl_743 ?_
  refine l_i2l C dl_744 ?_
  refine l_ldc2 (v := 4294967295) C wl_2152 dl_745 ?_
  refine l_land C dl_748 ?_
  refine l_lor C dl_749 ?_
  refine l_callC (d := 200) C ⟨by decide, by decide⟩ (c_Main_winter (d := 200) (by omega) q1) cl_86 rfl rfl rfl (Nat.le_of_ble_eq_true rfl) hcs dl_750 ?_
  refine l_aload_n C dl_753 2 rfl ?_
  refine l_arg (k := 1) C hX hbl hbA hi hL (by decide) rfl rfl dl_754 dl_755 dl_757 dl_758 dl_759 ?_
  refine l_arg (k := 2) C hX hbl hbA hi hL (by decide) rfl rfl dl_760 dl_761 dl_763 dl_764 dl_765 ?_
  refine l_i2l C dl_766 ?_
  refine l_bipush (v := 32) C dl_767 (by decide) ?_
  refine l_lshl C dl_769 ?_
  refine l_arg (k := 3) C hX hbl hbA hi hL (by decide) rfl rfl dl_770 dl_771 dl_773 dl_774 dl_775 ?_
  refine l_i2l C dl_776 ?_
  refine l_ldc2 (v := 4294967295) C wl_2152 dl_777 ?_
  refine l_land C dl_780 ?_
  refine l_lor C dl_781 ?_
  refine l_callM (d := 200) C ⟨by decide, by decide⟩ (c_Model_winter (d := 200) (by omega) q2) cl_90 rfl rfl rfl (Nat.le_of_ble_eq_true rfl) hcs dl_782 ?_
  exact l_icmp_eq C 1461 dl_785 (by decide) (fun _ => l_widen (by omega) (by omega) (K (σ1, τ1, σ.2.2) q3)) (fun q => absurd rfl q)
theorem l_callX {G : XG} {p : Program} {l : Launch} {e : Env} {s : State} {m : MethodId} {b : Nat} {below : List Frame} {meth : Method} {c : Code} {Q : State → Prop} {cells slots : Nat} {σ : LwS} (C : XC G 1 599 p s m #[.ref b] c code 7 R_Lw) (hZ : zN (xA G 1 599) s s.heap) (hl0 : l.stackTraces = false) {p0 p1 k : Int32} {σ' : LwS} {pc : Nat} {lv : List (Nat × Value)} (h : (∃ r σ1, s_Main_sitter p0 p1 σ.1 = some (r, σ1) ∧ k = 0 ∧ σ' = (σ1, σ.2.1, vp_updL σ.2.2 0 r.toInt64)) ∨ (s_Main_sitter p0 p1 σ.1 = none ∧ k = 1 ∧ σ' = σ)) (hcs : cells + 1 ≤ room_1.cells ∧ slots + 6 ≤ room_1.slots) (hdg : decode code pc = .ok (.invokestatic 42, 3)) (kk : LJ G p l e room_1 s m #[.ref b] below meth c 7 Q (cells + 1) (slots + 6) (pc + 3) lv [.int k] σ') : LJ G p l e room_1 s m #[.ref b] below meth c 7 Q cells slots pc lv [.ref (G.2.2.1 + 598), .int p1, .int p0, .ref (G.2.2.1 + 1)] σ := by
  intro H locs ls hl hP hS
  have ht := C.2.2.2.2.1
  have hgood : GoodIn TG (Cond.codeWith y_Law_sitter method_3_code 5 (some .int) [(0, 10, 13, 13)] :: TG) := by
    intro w hw
    rcases List.mem_cons.mp hw with q | q
    · rw [q]; exact ⟨wl_1410, tg_good _ wl_1410⟩
    · exact ⟨q, tg_good _ q⟩
  have hgS : GoodIn TG (va_wsS R_Lw 42 y_Law_sitter (Cond.codeWith y_Law_sitter method_3_code 5 (some .int) [(0, 10, 13, 13)] :: TG)) := by
    intro w hw
    simp only [va_wsS, List.mem_append, List.mem_cons, List.not_mem_nil, or_false] at hw
    rcases hw with (rfl | rfl | rfl) | hw
    · first | exact ⟨wl_1408, tg_good _ wl_1408⟩ | exact ⟨wl_1409, tg_good _ wl_1409⟩ | exact ⟨wl_107, tg_good _ wl_107⟩
    · first | exact ⟨wl_1408, tg_good _ wl_1408⟩ | exact ⟨wl_1409, tg_good _ wl_1409⟩ | exact ⟨wl_107, tg_good _ wl_107⟩
    · first | exact ⟨wl_1408, tg_good _ wl_1408⟩ | exact ⟨wl_1409, tg_good _ wl_1409⟩ | exact ⟨wl_107, tg_good _ wl_107⟩
    · exact hgood w (List.mem_cons.mpr hw)
  have hr := vx_runSW (p := p) (l := l) (e := e) (R := room_1) (below := below) (meth := meth) (H := H) (locs := locs) (cells := cells) (slots := slots) (g := F0 m pc ls [.ref (G.2.2.1 + 598), .int p1, .int p0, .ref (G.2.2.1 + 1)]) (As := [.ref (G.2.2.1 + 1), .int p0, .int p1, .ref (G.2.2.1 + 598)]) (rest := []) ⟨C.1, C.2.1, C.2.2.1, C.2.2.2.1, ht⟩ (c_Law_sitter (G := G) hl0 h) (vx_cwSW 4 ht hgS rfl rfl rfl ⟨by decide +kernel, by decide +kernel, by decide +kernel⟩ ⟨by decide, by decide⟩) ⟨lwW.blind, fun U hU hW2 => ⟨rfl, by subst hU; exact l_W C hZ hP hS rfl hW2⟩⟩ rfl rfl hl.1 rfl (Nat.le_of_ble_eq_true rfl) hdg hcs
  intro T2 hT X
  obtain ⟨v0, st₀, t, T', L', h0, X', hL, e1, e2, ⟨⟨hv, hw⟩, hz, hk⟩, stp⟩ := hr T2 hT X
  cases hv
  rw [h0] at hz hk
  rw [← e1] at hz hk
  obtain ⟨t2, a1, b1⟩ := kk T'.heap (locs ++ L') ls hl (by rw [e1]; exact hw.1) (l_keep hS (fun q h => h) hz hk hL) T' rfl X'
  exact ⟨t2, stp t2 a1, b1⟩
theorem lc_5 {G : XG} {p : Program} {l : Launch} {e : Env} {s : State} {m : MethodId} {b : Nat} {below : List Frame} {meth : Method} {c : Code} {Q : State → Prop} {cells slots L i n : Nat} {xs : Nat → Int32} {σ : LwS} (C : XC G 1 599 p s m #[.ref b] c code 7 R_Lw) (hX : va_X b L xs s s.heap) (hbl : b < s.heap.size) (hbA : ¬ xA G 1 599 b) (hZ : zN (xA G 1 599) s s.heap) (hl0 : l.stackTraces = false) (hcs : cells + 1 ≤ room_1.cells ∧ slots + 6 ≤ room_1.slots) (hi : i + 6 ≤ L) (hL : L ≤ 3072) (hn : n + 1 < 2 ^ 20) (h : NV Vb n σ.1 σ.2.1) (K : ∀ σ' : LwS, NV Vb (n + 1) σ'.1 σ'.2.1 → LJ G p l e room_1 s m #[.ref b] below meth c 7 Q (cells + 1) (slots + 6) 1461 (lvL G b i) [] σ') : LJ G p l e room_1 s m #[.ref b] below meth c 7 Q cells slots 393 (lvL G b i) [] σ := by
  have key : (∃ k r : Int32, ∃ σ1 τ1 : LH, ∃ o : Nat → Int64, ((∃ r' σ2, s_Main_sitter (xs (i + 1)) (xs (i + 2)) σ.1 = some (r', σ2) ∧ k = 0 ∧ (σ1, σ.2.1, o) = (σ2, σ.2.1, vp_updL σ.2.2 0 r'.toInt64)) ∨ (s_Main_sitter (xs (i + 1)) (xs (i + 2)) σ.1 = none ∧ k = 1 ∧ (σ1, σ.2.1, o) = σ)) ∧ s_Model_sitter (xs (i + 1)) (xs (i + 2)) σ.2.1 = some (r, τ1) ∧ s_Model_thrown τ1 = some (k, τ1) ∧ NV Vb (n + 1) σ1 τ1 ∧ (k = 0 → o 0 = r.toInt64) ∧ (k = 0 ∨ k = 1)) := by
    have mt : ∀ τ : LH, s_Model_thrown τ = some (τ.1 570 0, τ) := fun τ => rfl
    rcases w_sitter2 Vb_cl h (xs (i + 1)) (xs (i + 2)) with ⟨r, σ1, τ1, q1, q2, q3, q4⟩ | ⟨q1, q2, q4⟩
    · exact ⟨0, r, σ1, τ1, _, Or.inl ⟨r, σ1, q1, rfl, rfl⟩, q2, by rw [mt, q3], q4.up, fun _ => by simp [vp_updL], Or.inl rfl⟩
    · exact ⟨1, 0, σ.1, stI σ.2.1 570 0 1, σ.2.2, Or.inr ⟨q1, rfl, rfl⟩, q2, by rw [mt, stI_570, if_pos rfl], q4.up, fun h => absurd h (by decide), Or.inr rfl⟩
  obtain ⟨k, r, σ1, τ1, o, q1, q2, q3, q4, q5, q6⟩ := key
  refine l_aload_n C dl_393 1 rfl ?_
  refine l_arg (k := 1) C hX hbl hbA hi hL (by decide) rfl rfl dl_394 dl_395 dl_397 dl_398 dl_399 ?_
  refine l_arg (k := 2) C hX hbl hbA hi hL (by decide) rfl rfl dl_400 dl_401 dl_403 dl_404 dl_405 ?_
  refine l_aload_n C dl_406 3 rfl ?_
  refine l_callX (σ' := (σ1, σ.2.1, o)) C hZ hl0 q1 hcs dl_407 ?_
  refine l_istore (lv' := ((5, .int k) :: lvL G b i)) C dl_410 (by decide) rfl ?_
  refine l_lv (lv' := lvL G b i ++ [(5, .int k)]) C [1, 2, 3, 4, 5, 0] rfl ?_
  refine l_aload_n C dl_412 2 rfl ?_
  refine l_arg (k := 1) C hX hbl hbA hi hL (by decide) rfl rfl dl_413 dl_414 dl_416 dl_417 dl_418 ?_
  refine l_arg (k := 2) C hX hbl hbA hi hL (by decide) rfl rfl dl_419 dl_420 dl_422 dl_423 dl_424 ?_
  refine l_callM (d := 200) C ⟨by decide, by decide⟩ (c_Model_sitter (d := 200) (by omega) q2) cl_47 rfl rfl rfl (Nat.le_of_ble_eq_true rfl) hcs dl_425 ?_
  refine l_istore (lv' := (6, .int r) :: (lvL G b i ++ [(5, .int k)])) C dl_428 (by decide) rfl ?_
  refine l_lv (lv' := lvL G b i ++ [(5, .int k), (6, .int r)]) C [1, 2, 3, 4, 5, 6, 0] rfl ?_
  refine l_aload_n C dl_430 2 rfl ?_
  refine l_callM (d := 200) C ⟨by decide, by decide⟩ (c_Model_thrown (d := 200) (by omega) q3) cl_48 rfl rfl rfl (Nat.le_of_ble_eq_true rfl) hcs dl_431 ?_
  refine l_iload C dl_434 5 rfl ?_
  have fin : LJ G p l e room_1 s m #[.ref b] below meth c 7 Q (cells + 1) (slots + 6) 458 (lvL G b i ++ [(5, .int k), (6, .int r)]) [] (σ1, τ1, o) := by
    refine l_goto C 1461 dl_458 (by decide) ?_
    exact l_lv C [0, 1, 2, 3, 4] rfl (K (σ1, τ1, o) q4)
  refine l_icmp_eq C 441 dl_436 (by decide) (fun _ => ?_) (fun q => absurd rfl q)
  refine l_iload C dl_441 5 rfl ?_
  refine l_if_ne C 458 dl_443 (by decide) (fun _ => fin) (fun q => ?_)
  refine l_aload_n C dl_446 3 rfl ?_
  refine l_iconst (v := 0) C dl_447 (by decide) ?_
  refine l_lald C (show vp_in 0 1 from ib_in (by decide)) dl_448 ?_
  refine l_iload C dl_449 6 rfl ?_
  refine l_i2l C dl_451 ?_
  refine l_lcmp C dl_452 ?_
  refine l_if_eq C 458 dl_453 (by decide) (fun _ => fin) (fun q7 => absurd ?_ q7)
  show lg_cmp (o 0) r.toInt64 = 0
  rw [q5 q]; simp [lg_cmp]
