/-! the law: its cases, call by call -/
abbrev lvL (G : XG) (b i : Nat) : List (Nat × Value) := [(0, .ref b), (1, .ref (G.2.2.1 + 1)), (2, .ref (G.2.2.1 + 570)), (3, .ref (G.2.2.1 + 598)), (4, .int (Int32.ofNat i))]
theorem NV.up {V : LH → LH → Prop} {c : Nat} {σ τ : LH} (h : NV V c σ τ) : NV V (c + 1) σ τ := by
  obtain ⟨S, P, F, E, n0, n, cnt, mm, M, k, N, wn, mn, xn, qn, sn, go, held, Bt, le, CLs, ln, h, hn⟩ := h
  exact ⟨S, P, F, E, n0, n, cnt, mm, M, k, N, wn, mn, xn, qn, sn, go, held, Bt, le, CLs, ln, h, by omega⟩
theorem AL.up {V : LH → LH → Prop} {c : Nat} {f g : Option (Int32 × LH)} (h : AL V c f g) : AL V (c + 1) f g := by
  obtain ⟨r, σ', τ', h1, h2, h3⟩ := h
  exact ⟨r, σ', τ', h1, h2, h3.up⟩
section LQ
variable {G : XG} {p : Program} {l : Launch} {e : Env} {R : Room} {s : State} {m : MethodId} {b : Nat} {below : List Frame} {meth : Method} {c : Code} {nL : Nat} {Q : State → Prop} {cells slots L : Nat} {xs : Nat → Int32}
variable {cc : ByteArray} {own : String} {pc : Nat} {lv : List (Nat × Value)} {st : List Value} {σ : LwS}
theorem l_widen {args : Array Value} {k n : Nat} (h1 : cells ≤ k) (h2 : slots ≤ n) (kk : LJ G p l e R s m args below meth c nL Q k n pc lv st σ) : LJ G p l e R s m args below meth c nL Q cells slots pc lv st σ := fun H locs ls h hP hS => W.widen h1 h2 (kk H locs ls h hP hS)
theorem l_slen {args : Array Value} (C : XC G 1 599 p s m args c cc nL own) (hX : va_X b L xs s s.heap) (hbl : b < s.heap.size) (hbA : ¬ xA G 1 599 b) (hdg : decode cc pc = .ok (.arraylength, 1)) (k : LJ G p l e R s m args below meth c nL Q cells slots (pc + 1) lv (.int (Int32.ofNat L) :: st) σ) : LJ G p l e R s m args below meth c nL Q cells slots pc lv (.ref b :: st) σ := fun H locs ls h hP hS => va_slen C.1 C.2.1 hX hbl hbA hS hdg (k H locs ls h hP hS)
theorem l_sld {args : Array Value} (C : XC G 1 599 p s m args c cc nL own) (hX : va_X b L xs s s.heap) (hbl : b < s.heap.size) (hbA : ¬ xA G 1 599 b) {j : Nat} (hj : j < L) (hL : L ≤ 3072) (hdg : decode cc pc = .ok (.iaload, 1)) (k : LJ G p l e R s m args below meth c nL Q cells slots (pc + 1) lv (.int (xs j) :: st) σ) : LJ G p l e R s m args below meth c nL Q cells slots pc lv (.int (Int32.ofNat j) :: .ref b :: st) σ := by
  intro H locs ls h hP hS
  have hb2 : j < 2 ^ 31 := by omega
  have e1 : (Int32.ofNat j).toInt = (j : Int) := Int32.toInt_ofNat_of_lt hb2
  have e2 : (Int32.ofNat j).toNatClampNeg = j := by
    show (Int32.ofNat j).toInt.toNat = j
    rw [e1]; rfl
  have k2 := k H locs ls h hP hS
  refine va_sld C.1 C.2.1 hX hbl hbA hS (vp_in_iff.mpr ⟨by rw [e1]; omega, by rw [e1]; omega⟩) hdg ?_
  rw [e2]
  exact k2
/-- script[i + k] on the stack -/
theorem l_arg {args : Array Value} (C : XC G 1 599 p s m args c cc nL own) (hX : va_X b L xs s s.heap) (hbl : b < s.heap.size) (hbA : ¬ xA G 1 599 b) {i : Nat} (hi : i + 6 ≤ L) (hL : L ≤ 3072) {k : Nat} (hk : k < 6) (h0 : lv[0]? = some (0, .ref b)) (h4 : lv[4]? = some (4, .int (Int32.ofNat i))) (d0 : decode cc pc = .ok (.aload_n 0, 1)) (d1 : decode cc (pc + 1) = .ok (.iload 4, 2)) (d3 : decode cc (pc + 3) = .ok (.iconst (k : Int), 1)) (d4 : decode cc (pc + 4) = .ok (.iadd, 1)) (d5 : decode cc (pc + 5) = .ok (.iaload, 1)) (kk : LJ G p l e R s m args below meth c nL Q cells slots (pc + 6) lv (.int (xs (i + k)) :: st) σ) : LJ G p l e R s m args below meth c nL Q cells slots pc lv st σ := by
  refine l_aload_n C d0 0 h0 ?_
  refine l_iload C d1 4 h4 ?_
  refine l_iconst (v := Int32.ofNat k) C d3 ((show ∀ k, k < 6 → Int32.ofInt (k : Nat) = Int32.ofNat k by decide) k hk) ?_
  refine l_iadd C d4 ?_
  rw [← Int32.ofNat_add]
  exact l_sld C hX hbl hbA (by omega) hL d5 kk
end LQ
theorem dl_0 : decode code 0 = .ok (.new 8, 3) := by decide +kernel
theorem dl_3 : decode code 3 = .ok (.dup, 1) := by decide +kernel
theorem dl_4 : decode code 4 = .ok (.invokespecial 15, 3) := by decide +kernel
theorem dl_7 : decode code 7 = .ok (.astore_n 1, 1) := by decide +kernel
theorem dl_8 : decode code 8 = .ok (.new 16, 3) := by decide +kernel
theorem dl_11 : decode code 11 = .ok (.dup, 1) := by decide +kernel
theorem dl_12 : decode code 12 = .ok (.invokespecial 18, 3) := by decide +kernel
theorem dl_15 : decode code 15 = .ok (.astore_n 2, 1) := by decide +kernel
theorem dl_16 : decode code 16 = .ok (.iconst 1, 1) := by decide +kernel
theorem dl_17 : decode code 17 = .ok (.newarray .long, 2) := by decide +kernel
theorem dl_19 : decode code 19 = .ok (.astore_n 3, 1) := by decide +kernel
theorem dl_20 : decode code 20 = .ok (.iconst 0, 1) := by decide +kernel
theorem dl_21 : decode code 21 = .ok (.istore 4, 2) := by decide +kernel
theorem dl_23 : decode code 23 = .ok (.iload 4, 2) := by decide +kernel
theorem dl_25 : decode code 25 = .ok (.aload_n 0, 1) := by decide +kernel
theorem dl_26 : decode code 26 = .ok (.arraylength, 1) := by decide +kernel
theorem dl_27 : decode code 27 = .ok (.bipush 6, 2) := by decide +kernel
theorem dl_29 : decode code 29 = .ok (.isub, 1) := by decide +kernel
theorem dl_30 : decode code 30 = .ok (.if_icmp .gt 1437, 3) := by decide +kernel
theorem dl_33 : decode code 33 = .ok (.aload_n 0, 1) := by decide +kernel
theorem dl_34 : decode code 34 = .ok (.iload 4, 2) := by decide +kernel
theorem dl_36 : decode code 36 = .ok (.iaload, 1) := by decide +kernel
theorem dl_37 : decode code 37 = .ok (.bipush 63, 2) := by decide +kernel
theorem dl_208 : decode code 208 = .ok (.aload_n 1, 1) := by decide +kernel
theorem dl_209 : decode code 209 = .ok (.aload_n 0, 1) := by decide +kernel
theorem dl_210 : decode code 210 = .ok (.iload 4, 2) := by decide +kernel
theorem dl_212 : decode code 212 = .ok (.iconst 1, 1) := by decide +kernel
theorem dl_213 : decode code 213 = .ok (.iadd, 1) := by decide +kernel
theorem dl_214 : decode code 214 = .ok (.iaload, 1) := by decide +kernel
theorem dl_215 : decode code 215 = .ok (.aload_n 0, 1) := by decide +kernel
theorem dl_216 : decode code 216 = .ok (.iload 4, 2) := by decide +kernel
theorem dl_218 : decode code 218 = .ok (.iconst 2, 1) := by decide +kernel
theorem dl_219 : decode code 219 = .ok (.iadd, 1) := by decide +kernel
theorem dl_220 : decode code 220 = .ok (.iaload, 1) := by decide +kernel
theorem dl_221 : decode code 221 = .ok (.aload_n 0, 1) := by decide +kernel
theorem dl_222 : decode code 222 = .ok (.iload 4, 2) := by decide +kernel
theorem dl_224 : decode code 224 = .ok (.iconst 3, 1) := by decide +kernel
theorem dl_225 : decode code 225 = .ok (.iadd, 1) := by decide +kernel
theorem dl_226 : decode code 226 = .ok (.iaload, 1) := by decide +kernel
theorem dl_227 : decode code 227 = .ok (.aload_n 0, 1) := by decide +kernel
theorem dl_228 : decode code 228 = .ok (.iload 4, 2) := by decide +kernel
theorem dl_230 : decode code 230 = .ok (.iconst 4, 1) := by decide +kernel
theorem dl_231 : decode code 231 = .ok (.iadd, 1) := by decide +kernel
theorem dl_232 : decode code 232 = .ok (.iaload, 1) := by decide +kernel
theorem dl_233 : decode code 233 = .ok (.aload_n 0, 1) := by decide +kernel
theorem dl_234 : decode code 234 = .ok (.iload 4, 2) := by decide +kernel
theorem dl_236 : decode code 236 = .ok (.iconst 5, 1) := by decide +kernel
theorem dl_237 : decode code 237 = .ok (.iadd, 1) := by decide +kernel
theorem dl_238 : decode code 238 = .ok (.iaload, 1) := by decide +kernel
theorem dl_239 : decode code 239 = .ok (.invokevirtual 19, 3) := by decide +kernel
theorem dl_242 : decode code 242 = .ok (.aload_n 2, 1) := by decide +kernel
theorem dl_243 : decode code 243 = .ok (.aload_n 0, 1) := by decide +kernel
theorem dl_244 : decode code 244 = .ok (.iload 4, 2) := by decide +kernel
theorem dl_246 : decode code 246 = .ok (.iconst 1, 1) := by decide +kernel
theorem dl_247 : decode code 247 = .ok (.iadd, 1) := by decide +kernel
theorem dl_248 : decode code 248 = .ok (.iaload, 1) := by decide +kernel
theorem dl_249 : decode code 249 = .ok (.aload_n 0, 1) := by decide +kernel
theorem dl_250 : decode code 250 = .ok (.iload 4, 2) := by decide +kernel
theorem dl_252 : decode code 252 = .ok (.iconst 2, 1) := by decide +kernel
theorem dl_253 : decode code 253 = .ok (.iadd, 1) := by decide +kernel
theorem dl_254 : decode code 254 = .ok (.iaload, 1) := by decide +kernel
theorem dl_255 : decode code 255 = .ok (.aload_n 0, 1) := by decide +kernel
theorem dl_256 : decode code 256 = .ok (.iload 4, 2) := by decide +kernel
theorem dl_258 : decode code 258 = .ok (.iconst 3, 1) := by decide +kernel
theorem dl_259 : decode code 259 = .ok (.iadd, 1) := by decide +kernel
theorem dl_260 : decode code 260 = .ok (.iaload, 1) := by decide +kernel
theorem dl_261 : decode code 261 = .ok (.aload_n 0, 1) := by decide +kernel
theorem dl_262 : decode code 262 = .ok (.iload 4, 2) := by decide +kernel
theorem dl_264 : decode code 264 = .ok (.iconst 4, 1) := by decide +kernel
theorem dl_265 : decode code 265 = .ok (.iadd, 1) := by decide +kernel
theorem dl_266 : decode code 266 = .ok (.iaload, 1) := by decide +kernel
theorem dl_267 : decode code 267 = .ok (.aload_n 0, 1) := by decide +kernel
theorem dl_268 : decode code 268 = .ok (.iload 4, 2) := by decide +kernel
theorem dl_270 : decode code 270 = .ok (.iconst 5, 1) := by decide +kernel
theorem dl_271 : decode code 271 = .ok (.iadd, 1) := by decide +kernel
theorem dl_272 : decode code 272 = .ok (.iaload, 1) := by decide +kernel
theorem dl_273 : decode code 273 = .ok (.invokevirtual 23, 3) := by decide +kernel
theorem dl_276 : decode code 276 = .ok (.if_icmp .eq 1185, 3) := by decide +kernel
theorem dl_281 : decode code 281 = .ok (.aload_n 1, 1) := by decide +kernel
theorem dl_282 : decode code 282 = .ok (.aload_n 0, 1) := by decide +kernel
theorem dl_283 : decode code 283 = .ok (.iload 4, 2) := by decide +kernel
theorem dl_285 : decode code 285 = .ok (.iconst 1, 1) := by decide +kernel
theorem dl_286 : decode code 286 = .ok (.iadd, 1) := by decide +kernel
theorem dl_287 : decode code 287 = .ok (.iaload, 1) := by decide +kernel
theorem dl_288 : decode code 288 = .ok (.invokevirtual 24, 3) := by decide +kernel
theorem dl_291 : decode code 291 = .ok (.aload_n 2, 1) := by decide +kernel
theorem dl_292 : decode code 292 = .ok (.aload_n 0, 1) := by decide +kernel
theorem dl_293 : decode code 293 = .ok (.iload 4, 2) := by decide +kernel
theorem dl_295 : decode code 295 = .ok (.iconst 1, 1) := by decide +kernel
theorem dl_296 : decode code 296 = .ok (.iadd, 1) := by decide +kernel
theorem dl_297 : decode code 297 = .ok (.iaload, 1) := by decide +kernel
theorem dl_298 : decode code 298 = .ok (.invokevirtual 28, 3) := by decide +kernel
theorem dl_301 : decode code 301 = .ok (.if_icmp .eq 1160, 3) := by decide +kernel
theorem dl_306 : decode code 306 = .ok (.aload_n 1, 1) := by decide +kernel
theorem dl_307 : decode code 307 = .ok (.aload_n 0, 1) := by decide +kernel
theorem dl_308 : decode code 308 = .ok (.iload 4, 2) := by decide +kernel
theorem dl_310 : decode code 310 = .ok (.iconst 1, 1) := by decide +kernel
theorem dl_311 : decode code 311 = .ok (.iadd, 1) := by decide +kernel
theorem dl_312 : decode code 312 = .ok (.iaload, 1) := by decide +kernel
theorem dl_313 : decode code 313 = .ok (.invokevirtual 29, 3) := by decide +kernel
theorem dl_316 : decode code 316 = .ok (.aload_n 2, 1) := by decide +kernel
theorem dl_317 : decode code 317 = .ok (.aload_n 0, 1) := by decide +kernel
theorem dl_318 : decode code 318 = .ok (.iload 4, 2) := by decide +kernel
theorem dl_320 : decode code 320 = .ok (.iconst 1, 1) := by decide +kernel
theorem dl_321 : decode code 321 = .ok (.iadd, 1) := by decide +kernel
theorem dl_322 : decode code 322 = .ok (.iaload, 1) := by decide +kernel
theorem dl_323 : decode code 323 = .ok (.invokevirtual 33, 3) := by decide +kernel
theorem dl_326 : decode code 326 = .ok (.if_icmp .eq 1135, 3) := by decide +kernel
theorem dl_331 : decode code 331 = .ok (.aload_n 1, 1) := by decide +kernel
theorem dl_332 : decode code 332 = .ok (.aload_n 0, 1) := by decide +kernel
theorem dl_333 : decode code 333 = .ok (.iload 4, 2) := by decide +kernel
theorem dl_335 : decode code 335 = .ok (.iconst 1, 1) := by decide +kernel
theorem dl_336 : decode code 336 = .ok (.iadd, 1) := by decide +kernel
theorem dl_337 : decode code 337 = .ok (.iaload, 1) := by decide +kernel
theorem dl_338 : decode code 338 = .ok (.invokevirtual 34, 3) := by decide +kernel
theorem dl_341 : decode code 341 = .ok (.aload_n 2, 1) := by decide +kernel
theorem dl_342 : decode code 342 = .ok (.aload_n 0, 1) := by decide +kernel
theorem dl_343 : decode code 343 = .ok (.iload 4, 2) := by decide +kernel
theorem dl_345 : decode code 345 = .ok (.iconst 1, 1) := by decide +kernel
theorem dl_346 : decode code 346 = .ok (.iadd, 1) := by decide +kernel
theorem dl_347 : decode code 347 = .ok (.iaload, 1) := by decide +kernel
theorem dl_348 : decode code 348 = .ok (.invokevirtual 37, 3) := by decide +kernel
theorem dl_351 : decode code 351 = .ok (.if_icmp .eq 1110, 3) := by decide +kernel
theorem dl_356 : decode code 356 = .ok (.aload_n 1, 1) := by decide +kernel
theorem dl_357 : decode code 357 = .ok (.aload_n 0, 1) := by decide +kernel
theorem dl_358 : decode code 358 = .ok (.iload 4, 2) := by decide +kernel
theorem dl_360 : decode code 360 = .ok (.iconst 1, 1) := by decide +kernel
theorem dl_361 : decode code 361 = .ok (.iadd, 1) := by decide +kernel
theorem dl_362 : decode code 362 = .ok (.iaload, 1) := by decide +kernel
theorem dl_363 : decode code 363 = .ok (.aload_n 0, 1) := by decide +kernel
theorem dl_364 : decode code 364 = .ok (.iload 4, 2) := by decide +kernel
theorem dl_366 : decode code 366 = .ok (.iconst 2, 1) := by decide +kernel
theorem dl_367 : decode code 367 = .ok (.iadd, 1) := by decide +kernel
theorem dl_368 : decode code 368 = .ok (.iaload, 1) := by decide +kernel
theorem dl_369 : decode code 369 = .ok (.invokevirtual 38, 3) := by decide +kernel
theorem dl_372 : decode code 372 = .ok (.aload_n 2, 1) := by decide +kernel
theorem dl_373 : decode code 373 = .ok (.aload_n 0, 1) := by decide +kernel
theorem dl_374 : decode code 374 = .ok (.iload 4, 2) := by decide +kernel
theorem dl_376 : decode code 376 = .ok (.iconst 1, 1) := by decide +kernel
theorem dl_377 : decode code 377 = .ok (.iadd, 1) := by decide +kernel
theorem dl_378 : decode code 378 = .ok (.iaload, 1) := by decide +kernel
theorem dl_379 : decode code 379 = .ok (.aload_n 0, 1) := by decide +kernel
theorem dl_380 : decode code 380 = .ok (.iload 4, 2) := by decide +kernel
theorem dl_382 : decode code 382 = .ok (.iconst 2, 1) := by decide +kernel
theorem dl_383 : decode code 383 = .ok (.iadd, 1) := by decide +kernel
theorem dl_384 : decode code 384 = .ok (.iaload, 1) := by decide +kernel
theorem dl_385 : decode code 385 = .ok (.invokevirtual 41, 3) := by decide +kernel
theorem dl_388 : decode code 388 = .ok (.if_icmp .eq 1073, 3) := by decide +kernel
theorem dl_393 : decode code 393 = .ok (.aload_n 1, 1) := by decide +kernel
theorem dl_394 : decode code 394 = .ok (.aload_n 0, 1) := by decide +kernel
theorem dl_395 : decode code 395 = .ok (.iload 4, 2) := by decide +kernel
theorem dl_397 : decode code 397 = .ok (.iconst 1, 1) := by decide +kernel
theorem dl_398 : decode code 398 = .ok (.iadd, 1) := by decide +kernel
theorem dl_399 : decode code 399 = .ok (.iaload, 1) := by decide +kernel
theorem dl_400 : decode code 400 = .ok (.aload_n 0, 1) := by decide +kernel
theorem dl_401 : decode code 401 = .ok (.iload 4, 2) := by decide +kernel
theorem dl_403 : decode code 403 = .ok (.iconst 2, 1) := by decide +kernel
theorem dl_404 : decode code 404 = .ok (.iadd, 1) := by decide +kernel
theorem dl_405 : decode code 405 = .ok (.iaload, 1) := by decide +kernel
theorem dl_406 : decode code 406 = .ok (.aload_n 3, 1) := by decide +kernel
theorem dl_407 : decode code 407 = .ok (.invokestatic 42, 3) := by decide +kernel
theorem dl_410 : decode code 410 = .ok (.istore 5, 2) := by decide +kernel
theorem dl_412 : decode code 412 = .ok (.aload_n 2, 1) := by decide +kernel
theorem dl_413 : decode code 413 = .ok (.aload_n 0, 1) := by decide +kernel
theorem dl_414 : decode code 414 = .ok (.iload 4, 2) := by decide +kernel
theorem dl_416 : decode code 416 = .ok (.iconst 1, 1) := by decide +kernel
theorem dl_417 : decode code 417 = .ok (.iadd, 1) := by decide +kernel
theorem dl_418 : decode code 418 = .ok (.iaload, 1) := by decide +kernel
theorem dl_419 : decode code 419 = .ok (.aload_n 0, 1) := by decide +kernel
theorem dl_420 : decode code 420 = .ok (.iload 4, 2) := by decide +kernel
theorem dl_422 : decode code 422 = .ok (.iconst 2, 1) := by decide +kernel
theorem dl_423 : decode code 423 = .ok (.iadd, 1) := by decide +kernel
theorem dl_424 : decode code 424 = .ok (.iaload, 1) := by decide +kernel
theorem dl_425 : decode code 425 = .ok (.invokevirtual 47, 3) := by decide +kernel
theorem dl_428 : decode code 428 = .ok (.istore 6, 2) := by decide +kernel
theorem dl_430 : decode code 430 = .ok (.aload_n 2, 1) := by decide +kernel
theorem dl_431 : decode code 431 = .ok (.invokevirtual 48, 3) := by decide +kernel
theorem dl_434 : decode code 434 = .ok (.iload 5, 2) := by decide +kernel
theorem dl_436 : decode code 436 = .ok (.if_icmp .eq 5, 3) := by decide +kernel
theorem dl_441 : decode code 441 = .ok (.iload 5, 2) := by decide +kernel
theorem dl_443 : decode code 443 = .ok (.ifCond .ne 15, 3) := by decide +kernel
theorem dl_446 : decode code 446 = .ok (.aload_n 3, 1) := by decide +kernel
theorem dl_447 : decode code 447 = .ok (.iconst 0, 1) := by decide +kernel
theorem dl_448 : decode code 448 = .ok (.laload, 1) := by decide +kernel
theorem dl_449 : decode code 449 = .ok (.iload 6, 2) := by decide +kernel
theorem dl_451 : decode code 451 = .ok (.i2l, 1) := by decide +kernel
theorem dl_452 : decode code 452 = .ok (.lcmp, 1) := by decide +kernel
theorem dl_453 : decode code 453 = .ok (.ifCond .eq 5, 3) := by decide +kernel
theorem dl_458 : decode code 458 = .ok (.goto 1003, 3) := by decide +kernel
theorem dl_461 : decode code 461 = .ok (.aload_n 1, 1) := by decide +kernel
theorem dl_462 : decode code 462 = .ok (.aload_n 0, 1) := by decide +kernel
theorem dl_463 : decode code 463 = .ok (.iload 4, 2) := by decide +kernel
theorem dl_465 : decode code 465 = .ok (.iconst 1, 1) := by decide +kernel
theorem dl_466 : decode code 466 = .ok (.iadd, 1) := by decide +kernel
theorem dl_467 : decode code 467 = .ok (.iaload, 1) := by decide +kernel
theorem dl_468 : decode code 468 = .ok (.aload_n 0, 1) := by decide +kernel
theorem dl_469 : decode code 469 = .ok (.iload 4, 2) := by decide +kernel
theorem dl_471 : decode code 471 = .ok (.iconst 2, 1) := by decide +kernel
theorem dl_472 : decode code 472 = .ok (.iadd, 1) := by decide +kernel
theorem dl_473 : decode code 473 = .ok (.iaload, 1) := by decide +kernel
theorem dl_474 : decode code 474 = .ok (.invokevirtual 52, 3) := by decide +kernel
theorem dl_477 : decode code 477 = .ok (.aload_n 2, 1) := by decide +kernel
theorem dl_478 : decode code 478 = .ok (.aload_n 0, 1) := by decide +kernel
theorem dl_479 : decode code 479 = .ok (.iload 4, 2) := by decide +kernel
theorem dl_481 : decode code 481 = .ok (.iconst 1, 1) := by decide +kernel
theorem dl_482 : decode code 482 = .ok (.iadd, 1) := by decide +kernel
theorem dl_483 : decode code 483 = .ok (.iaload, 1) := by decide +kernel
theorem dl_484 : decode code 484 = .ok (.aload_n 0, 1) := by decide +kernel
theorem dl_485 : decode code 485 = .ok (.iload 4, 2) := by decide +kernel
theorem dl_487 : decode code 487 = .ok (.iconst 2, 1) := by decide +kernel
theorem dl_488 : decode code 488 = .ok (.iadd, 1) := by decide +kernel
theorem dl_489 : decode code 489 = .ok (.iaload, 1) := by decide +kernel
theorem dl_490 : decode code 490 = .ok (.invokevirtual 55, 3) := by decide +kernel
theorem dl_493 : decode code 493 = .ok (.if_icmp .eq 968, 3) := by decide +kernel
theorem dl_498 : decode code 498 = .ok (.aload_n 1, 1) := by decide +kernel
theorem dl_499 : decode code 499 = .ok (.aload_n 0, 1) := by decide +kernel
theorem dl_500 : decode code 500 = .ok (.iload 4, 2) := by decide +kernel
theorem dl_502 : decode code 502 = .ok (.iconst 1, 1) := by decide +kernel
theorem dl_503 : decode code 503 = .ok (.iadd, 1) := by decide +kernel
theorem dl_504 : decode code 504 = .ok (.iaload, 1) := by decide +kernel
theorem dl_505 : decode code 505 = .ok (.invokevirtual 56, 3) := by decide +kernel
theorem dl_508 : decode code 508 = .ok (.aload_n 2, 1) := by decide +kernel
theorem dl_509 : decode code 509 = .ok (.aload_n 0, 1) := by decide +kernel
theorem dl_510 : decode code 510 = .ok (.iload 4, 2) := by decide +kernel
theorem dl_512 : decode code 512 = .ok (.iconst 1, 1) := by decide +kernel
theorem dl_513 : decode code 513 = .ok (.iadd, 1) := by decide +kernel
theorem dl_514 : decode code 514 = .ok (.iaload, 1) := by decide +kernel
theorem dl_515 : decode code 515 = .ok (.invokevirtual 59, 3) := by decide +kernel
theorem dl_518 : decode code 518 = .ok (.if_icmp .eq 943, 3) := by decide +kernel
theorem dl_523 : decode code 523 = .ok (.aload_n 1, 1) := by decide +kernel
theorem dl_524 : decode code 524 = .ok (.aload_n 0, 1) := by decide +kernel
theorem dl_525 : decode code 525 = .ok (.iload 4, 2) := by decide +kernel
theorem dl_527 : decode code 527 = .ok (.iconst 1, 1) := by decide +kernel
theorem dl_528 : decode code 528 = .ok (.iadd, 1) := by decide +kernel
theorem dl_529 : decode code 529 = .ok (.iaload, 1) := by decide +kernel
theorem dl_530 : decode code 530 = .ok (.invokevirtual 60, 3) := by decide +kernel
theorem dl_533 : decode code 533 = .ok (.aload_n 2, 1) := by decide +kernel
theorem dl_534 : decode code 534 = .ok (.aload_n 0, 1) := by decide +kernel
theorem dl_535 : decode code 535 = .ok (.iload 4, 2) := by decide +kernel
theorem dl_537 : decode code 537 = .ok (.iconst 1, 1) := by decide +kernel
theorem dl_538 : decode code 538 = .ok (.iadd, 1) := by decide +kernel
theorem dl_539 : decode code 539 = .ok (.iaload, 1) := by decide +kernel
theorem dl_540 : decode code 540 = .ok (.invokevirtual 63, 3) := by decide +kernel
theorem dl_543 : decode code 543 = .ok (.if_icmp .eq 918, 3) := by decide +kernel
theorem dl_548 : decode code 548 = .ok (.aload_n 1, 1) := by decide +kernel
theorem dl_549 : decode code 549 = .ok (.aload_n 0, 1) := by decide +kernel
theorem dl_550 : decode code 550 = .ok (.iload 4, 2) := by decide +kernel
theorem dl_552 : decode code 552 = .ok (.iconst 1, 1) := by decide +kernel
theorem dl_553 : decode code 553 = .ok (.iadd, 1) := by decide +kernel
theorem dl_554 : decode code 554 = .ok (.iaload, 1) := by decide +kernel
theorem dl_555 : decode code 555 = .ok (.aload_n 0, 1) := by decide +kernel
theorem dl_556 : decode code 556 = .ok (.iload 4, 2) := by decide +kernel
theorem dl_558 : decode code 558 = .ok (.iconst 2, 1) := by decide +kernel
theorem dl_559 : decode code 559 = .ok (.iadd, 1) := by decide +kernel
theorem dl_560 : decode code 560 = .ok (.iaload, 1) := by decide +kernel
theorem dl_561 : decode code 561 = .ok (.invokevirtual 64, 3) := by decide +kernel
theorem dl_564 : decode code 564 = .ok (.aload_n 2, 1) := by decide +kernel
theorem dl_565 : decode code 565 = .ok (.aload_n 0, 1) := by decide +kernel
theorem dl_566 : decode code 566 = .ok (.iload 4, 2) := by decide +kernel
theorem dl_568 : decode code 568 = .ok (.iconst 1, 1) := by decide +kernel
theorem dl_569 : decode code 569 = .ok (.iadd, 1) := by decide +kernel
theorem dl_570 : decode code 570 = .ok (.iaload, 1) := by decide +kernel
theorem dl_571 : decode code 571 = .ok (.aload_n 0, 1) := by decide +kernel
theorem dl_572 : decode code 572 = .ok (.iload 4, 2) := by decide +kernel
theorem dl_574 : decode code 574 = .ok (.iconst 2, 1) := by decide +kernel
theorem dl_575 : decode code 575 = .ok (.iadd, 1) := by decide +kernel
theorem dl_576 : decode code 576 = .ok (.iaload, 1) := by decide +kernel
theorem dl_577 : decode code 577 = .ok (.invokevirtual 67, 3) := by decide +kernel
theorem dl_580 : decode code 580 = .ok (.if_icmp .eq 881, 3) := by decide +kernel
theorem dl_585 : decode code 585 = .ok (.aload_n 1, 1) := by decide +kernel
theorem dl_586 : decode code 586 = .ok (.aload_n 0, 1) := by decide +kernel
theorem dl_587 : decode code 587 = .ok (.iload 4, 2) := by decide +kernel
theorem dl_589 : decode code 589 = .ok (.iconst 1, 1) := by decide +kernel
theorem dl_590 : decode code 590 = .ok (.iadd, 1) := by decide +kernel
theorem dl_591 : decode code 591 = .ok (.iaload, 1) := by decide +kernel
theorem dl_592 : decode code 592 = .ok (.aload_n 0, 1) := by decide +kernel
theorem dl_593 : decode code 593 = .ok (.iload 4, 2) := by decide +kernel
theorem dl_595 : decode code 595 = .ok (.iconst 2, 1) := by decide +kernel
theorem dl_596 : decode code 596 = .ok (.iadd, 1) := by decide +kernel
theorem dl_597 : decode code 597 = .ok (.iaload, 1) := by decide +kernel
theorem dl_598 : decode code 598 = .ok (.invokevirtual 68, 3) := by decide +kernel
theorem dl_601 : decode code 601 = .ok (.aload_n 2, 1) := by decide +kernel
theorem dl_602 : decode code 602 = .ok (.aload_n 0, 1) := by decide +kernel
theorem dl_603 : decode code 603 = .ok (.iload 4, 2) := by decide +kernel
theorem dl_605 : decode code 605 = .ok (.iconst 1, 1) := by decide +kernel
theorem dl_606 : decode code 606 = .ok (.iadd, 1) := by decide +kernel
theorem dl_607 : decode code 607 = .ok (.iaload, 1) := by decide +kernel
theorem dl_608 : decode code 608 = .ok (.aload_n 0, 1) := by decide +kernel
theorem dl_609 : decode code 609 = .ok (.iload 4, 2) := by decide +kernel
theorem dl_611 : decode code 611 = .ok (.iconst 2, 1) := by decide +kernel
theorem dl_612 : decode code 612 = .ok (.iadd, 1) := by decide +kernel
theorem dl_613 : decode code 613 = .ok (.iaload, 1) := by decide +kernel
theorem dl_614 : decode code 614 = .ok (.invokevirtual 71, 3) := by decide +kernel
theorem dl_617 : decode code 617 = .ok (.if_icmp .eq 844, 3) := by decide +kernel
theorem dl_622 : decode code 622 = .ok (.aload_n 1, 1) := by decide +kernel
theorem dl_623 : decode code 623 = .ok (.aload_n 0, 1) := by decide +kernel
theorem dl_624 : decode code 624 = .ok (.iload 4, 2) := by decide +kernel
theorem dl_626 : decode code 626 = .ok (.iconst 1, 1) := by decide +kernel
theorem dl_627 : decode code 627 = .ok (.iadd, 1) := by decide +kernel
theorem dl_628 : decode code 628 = .ok (.iaload, 1) := by decide +kernel
theorem dl_629 : decode code 629 = .ok (.aload_n 0, 1) := by decide +kernel
theorem dl_630 : decode code 630 = .ok (.iload 4, 2) := by decide +kernel
theorem dl_632 : decode code 632 = .ok (.iconst 2, 1) := by decide +kernel
theorem dl_633 : decode code 633 = .ok (.iadd, 1) := by decide +kernel
theorem dl_634 : decode code 634 = .ok (.iaload, 1) := by decide +kernel
theorem dl_635 : decode code 635 = .ok (.invokevirtual 72, 3) := by decide +kernel
theorem dl_638 : decode code 638 = .ok (.aload_n 2, 1) := by decide +kernel
theorem dl_639 : decode code 639 = .ok (.aload_n 0, 1) := by decide +kernel
theorem dl_640 : decode code 640 = .ok (.iload 4, 2) := by decide +kernel
theorem dl_642 : decode code 642 = .ok (.iconst 1, 1) := by decide +kernel
theorem dl_643 : decode code 643 = .ok (.iadd, 1) := by decide +kernel
theorem dl_644 : decode code 644 = .ok (.iaload, 1) := by decide +kernel
theorem dl_645 : decode code 645 = .ok (.aload_n 0, 1) := by decide +kernel
theorem dl_646 : decode code 646 = .ok (.iload 4, 2) := by decide +kernel
theorem dl_648 : decode code 648 = .ok (.iconst 2, 1) := by decide +kernel
theorem dl_649 : decode code 649 = .ok (.iadd, 1) := by decide +kernel
theorem dl_650 : decode code 650 = .ok (.iaload, 1) := by decide +kernel
theorem dl_651 : decode code 651 = .ok (.invokevirtual 75, 3) := by decide +kernel
theorem dl_654 : decode code 654 = .ok (.if_icmp .eq 807, 3) := by decide +kernel
theorem dl_659 : decode code 659 = .ok (.aload_n 1, 1) := by decide +kernel
theorem dl_660 : decode code 660 = .ok (.aload_n 0, 1) := by decide +kernel
theorem dl_661 : decode code 661 = .ok (.iload 4, 2) := by decide +kernel
theorem dl_663 : decode code 663 = .ok (.iconst 1, 1) := by decide +kernel
theorem dl_664 : decode code 664 = .ok (.iadd, 1) := by decide +kernel
theorem dl_665 : decode code 665 = .ok (.iaload, 1) := by decide +kernel
theorem dl_666 : decode code 666 = .ok (.aload_n 0, 1) := by decide +kernel
theorem dl_667 : decode code 667 = .ok (.iload 4, 2) := by decide +kernel
theorem dl_669 : decode code 669 = .ok (.iconst 2, 1) := by decide +kernel
theorem dl_670 : decode code 670 = .ok (.iadd, 1) := by decide +kernel
theorem dl_671 : decode code 671 = .ok (.iaload, 1) := by decide +kernel
theorem dl_672 : decode code 672 = .ok (.invokevirtual 76, 3) := by decide +kernel
theorem dl_675 : decode code 675 = .ok (.aload_n 2, 1) := by decide +kernel
theorem dl_676 : decode code 676 = .ok (.aload_n 0, 1) := by decide +kernel
theorem dl_677 : decode code 677 = .ok (.iload 4, 2) := by decide +kernel
theorem dl_679 : decode code 679 = .ok (.iconst 1, 1) := by decide +kernel
theorem dl_680 : decode code 680 = .ok (.iadd, 1) := by decide +kernel
theorem dl_681 : decode code 681 = .ok (.iaload, 1) := by decide +kernel
theorem dl_682 : decode code 682 = .ok (.aload_n 0, 1) := by decide +kernel
theorem dl_683 : decode code 683 = .ok (.iload 4, 2) := by decide +kernel
theorem dl_685 : decode code 685 = .ok (.iconst 2, 1) := by decide +kernel
theorem dl_686 : decode code 686 = .ok (.iadd, 1) := by decide +kernel
theorem dl_687 : decode code 687 = .ok (.iaload, 1) := by decide +kernel
theorem dl_688 : decode code 688 = .ok (.invokevirtual 79, 3) := by decide +kernel
theorem dl_691 : decode code 691 = .ok (.if_icmp .eq 770, 3) := by decide +kernel
theorem dl_696 : decode code 696 = .ok (.aload_n 1, 1) := by decide +kernel
theorem dl_697 : decode code 697 = .ok (.aload_n 0, 1) := by decide +kernel
theorem dl_698 : decode code 698 = .ok (.iload 4, 2) := by decide +kernel
theorem dl_700 : decode code 700 = .ok (.iconst 1, 1) := by decide +kernel
theorem dl_701 : decode code 701 = .ok (.iadd, 1) := by decide +kernel
theorem dl_702 : decode code 702 = .ok (.iaload, 1) := by decide +kernel
theorem dl_703 : decode code 703 = .ok (.invokevirtual 80, 3) := by decide +kernel
theorem dl_706 : decode code 706 = .ok (.aload_n 2, 1) := by decide +kernel
theorem dl_707 : decode code 707 = .ok (.aload_n 0, 1) := by decide +kernel
theorem dl_708 : decode code 708 = .ok (.iload 4, 2) := by decide +kernel
theorem dl_710 : decode code 710 = .ok (.iconst 1, 1) := by decide +kernel
theorem dl_711 : decode code 711 = .ok (.iadd, 1) := by decide +kernel
theorem dl_712 : decode code 712 = .ok (.iaload, 1) := by decide +kernel
theorem dl_713 : decode code 713 = .ok (.invokevirtual 83, 3) := by decide +kernel
theorem dl_716 : decode code 716 = .ok (.if_icmp .eq 745, 3) := by decide +kernel
theorem dl_721 : decode code 721 = .ok (.aload_n 1, 1) := by decide +kernel
theorem dl_722 : decode code 722 = .ok (.aload_n 0, 1) := by decide +kernel
theorem dl_723 : decode code 723 = .ok (.iload 4, 2) := by decide +kernel
theorem dl_725 : decode code 725 = .ok (.iconst 1, 1) := by decide +kernel
theorem dl_726 : decode code 726 = .ok (.iadd, 1) := by decide +kernel
theorem dl_727 : decode code 727 = .ok (.iaload, 1) := by decide +kernel
theorem dl_728 : decode code 728 = .ok (.aload_n 0, 1) := by decide +kernel
theorem dl_729 : decode code 729 = .ok (.iload 4, 2) := by decide +kernel
theorem dl_731 : decode code 731 = .ok (.iconst 2, 1) := by decide +kernel
theorem dl_732 : decode code 732 = .ok (.iadd, 1) := by decide +kernel
theorem dl_733 : decode code 733 = .ok (.iaload, 1) := by decide +kernel
theorem dl_734 : decode code 734 = .ok (.i2l, 1) := by decide +kernel
theorem dl_735 : decode code 735 = .ok (.bipush 32, 2) := by decide +kernel
theorem dl_737 : decode code 737 = .ok (.lshl, 1) := by decide +kernel
theorem dl_738 : decode code 738 = .ok (.aload_n 0, 1) := by decide +kernel
theorem dl_739 : decode code 739 = .ok (.iload 4, 2) := by decide +kernel
theorem dl_741 : decode code 741 = .ok (.iconst 3, 1) := by decide +kernel
theorem dl_742 : decode code 742 = .ok (.iadd, 1) := by decide +kernel
theorem dl_743 : decode code 743 = .ok (.iaload, 1) := by decide +kernel
theorem dl_744 : decode code 744 = .ok (.i2l, 1) := by decide +kernel
theorem dl_745 : decode code 745 = .ok (.ldc2_w 84, 3) := by decide +kernel
theorem dl_748 : decode code 748 = .ok (.land, 1) := by decide +kernel
theorem dl_749 : decode code 749 = .ok (.lor, 1) := by decide +kernel
theorem dl_750 : decode code 750 = .ok (.invokevirtual 86, 3) := by decide +kernel
theorem dl_753 : decode code 753 = .ok (.aload_n 2, 1) := by decide +kernel
theorem dl_754 : decode code 754 = .ok (.aload_n 0, 1) := by decide +kernel
theorem dl_755 : decode code 755 = .ok (.iload 4, 2) := by decide +kernel
theorem dl_757 : decode code 757 = .ok (.iconst 1, 1) := by decide +kernel
theorem dl_758 : decode code 758 = .ok (.iadd, 1) := by decide +kernel
theorem dl_759 : decode code 759 = .ok (.iaload, 1) := by decide +kernel
theorem dl_760 : decode code 760 = .ok (.aload_n 0, 1) := by decide +kernel
theorem dl_761 : decode code 761 = .ok (.iload 4, 2) := by decide +kernel
theorem dl_763 : decode code 763 = .ok (.iconst 2, 1) := by decide +kernel
theorem dl_764 : decode code 764 = .ok (.iadd, 1) := by decide +kernel
theorem dl_765 : decode code 765 = .ok (.iaload, 1) := by decide +kernel
theorem dl_766 : decode code 766 = .ok (.i2l, 1) := by decide +kernel
theorem dl_767 : decode code 767 = .ok (.bipush 32, 2) := by decide +kernel
theorem dl_769 : decode code 769 = .ok (.lshl, 1) := by decide +kernel
theorem dl_770 : decode code 770 = .ok (.aload_n 0, 1) := by decide +kernel
theorem dl_771 : decode code 771 = .ok (.iload 4, 2) := by decide +kernel
theorem dl_773 : decode code 773 = .ok (.iconst 3, 1) := by decide +kernel
theorem dl_774 : decode code 774 = .ok (.iadd, 1) := by decide +kernel
theorem dl_775 : decode code 775 = .ok (.iaload, 1) := by decide +kernel
theorem dl_776 : decode code 776 = .ok (.i2l, 1) := by decide +kernel
theorem dl_777 : decode code 777 = .ok (.ldc2_w 84, 3) := by decide +kernel
theorem dl_780 : decode code 780 = .ok (.land, 1) := by decide +kernel
theorem dl_781 : decode code 781 = .ok (.lor, 1) := by decide +kernel
theorem dl_782 : decode code 782 = .ok (.invokevirtual 90, 3) := by decide +kernel
theorem dl_785 : decode code 785 = .ok (.if_icmp .eq 676, 3) := by decide +kernel
theorem dl_790 : decode code 790 = .ok (.aload_n 1, 1) := by decide +kernel
theorem dl_791 : decode code 791 = .ok (.invokevirtual 91, 3) := by decide +kernel
theorem dl_794 : decode code 794 = .ok (.aload_n 2, 1) := by decide +kernel
theorem dl_795 : decode code 795 = .ok (.invokevirtual 94, 3) := by decide +kernel
theorem dl_798 : decode code 798 = .ok (.if_icmp .eq 663, 3) := by decide +kernel
theorem dl_803 : decode code 803 = .ok (.aload_n 1, 1) := by decide +kernel
theorem dl_804 : decode code 804 = .ok (.aload_n 0, 1) := by decide +kernel
theorem dl_805 : decode code 805 = .ok (.iload 4, 2) := by decide +kernel
theorem dl_807 : decode code 807 = .ok (.iconst 1, 1) := by decide +kernel
theorem dl_808 : decode code 808 = .ok (.iadd, 1) := by decide +kernel
theorem dl_809 : decode code 809 = .ok (.iaload, 1) := by decide +kernel
theorem dl_810 : decode code 810 = .ok (.aload_n 0, 1) := by decide +kernel
theorem dl_811 : decode code 811 = .ok (.iload 4, 2) := by decide +kernel
theorem dl_813 : decode code 813 = .ok (.iconst 2, 1) := by decide +kernel
theorem dl_814 : decode code 814 = .ok (.iadd, 1) := by decide +kernel
theorem dl_815 : decode code 815 = .ok (.iaload, 1) := by decide +kernel
theorem dl_816 : decode code 816 = .ok (.invokevirtual 95, 3) := by decide +kernel
theorem dl_819 : decode code 819 = .ok (.aload_n 2, 1) := by decide +kernel
theorem dl_820 : decode code 820 = .ok (.aload_n 0, 1) := by decide +kernel
theorem dl_821 : decode code 821 = .ok (.iload 4, 2) := by decide +kernel
theorem dl_823 : decode code 823 = .ok (.iconst 1, 1) := by decide +kernel
theorem dl_824 : decode code 824 = .ok (.iadd, 1) := by decide +kernel
theorem dl_825 : decode code 825 = .ok (.iaload, 1) := by decide +kernel
theorem dl_826 : decode code 826 = .ok (.aload_n 0, 1) := by decide +kernel
theorem dl_827 : decode code 827 = .ok (.iload 4, 2) := by decide +kernel
theorem dl_829 : decode code 829 = .ok (.iconst 2, 1) := by decide +kernel
theorem dl_830 : decode code 830 = .ok (.iadd, 1) := by decide +kernel
theorem dl_831 : decode code 831 = .ok (.iaload, 1) := by decide +kernel
theorem dl_832 : decode code 832 = .ok (.invokevirtual 98, 3) := by decide +kernel
theorem dl_835 : decode code 835 = .ok (.if_icmp .eq 626, 3) := by decide +kernel
theorem dl_840 : decode code 840 = .ok (.aload_n 1, 1) := by decide +kernel
theorem dl_841 : decode code 841 = .ok (.aload_n 0, 1) := by decide +kernel
theorem dl_842 : decode code 842 = .ok (.iload 4, 2) := by decide +kernel
theorem dl_844 : decode code 844 = .ok (.iconst 1, 1) := by decide +kernel
theorem dl_845 : decode code 845 = .ok (.iadd, 1) := by decide +kernel
theorem dl_846 : decode code 846 = .ok (.iaload, 1) := by decide +kernel
theorem dl_847 : decode code 847 = .ok (.aload_n 0, 1) := by decide +kernel
theorem dl_848 : decode code 848 = .ok (.iload 4, 2) := by decide +kernel
theorem dl_850 : decode code 850 = .ok (.iconst 2, 1) := by decide +kernel
theorem dl_851 : decode code 851 = .ok (.iadd, 1) := by decide +kernel
theorem dl_852 : decode code 852 = .ok (.iaload, 1) := by decide +kernel
theorem dl_853 : decode code 853 = .ok (.aload_n 0, 1) := by decide +kernel
theorem dl_854 : decode code 854 = .ok (.iload 4, 2) := by decide +kernel
theorem dl_856 : decode code 856 = .ok (.iconst 3, 1) := by decide +kernel
theorem dl_857 : decode code 857 = .ok (.iadd, 1) := by decide +kernel
theorem dl_858 : decode code 858 = .ok (.iaload, 1) := by decide +kernel
theorem dl_859 : decode code 859 = .ok (.invokevirtual 99, 3) := by decide +kernel
theorem dl_862 : decode code 862 = .ok (.aload_n 2, 1) := by decide +kernel
theorem dl_863 : decode code 863 = .ok (.aload_n 0, 1) := by decide +kernel
theorem dl_864 : decode code 864 = .ok (.iload 4, 2) := by decide +kernel
theorem dl_866 : decode code 866 = .ok (.iconst 1, 1) := by decide +kernel
theorem dl_867 : decode code 867 = .ok (.iadd, 1) := by decide +kernel
theorem dl_868 : decode code 868 = .ok (.iaload, 1) := by decide +kernel
theorem dl_869 : decode code 869 = .ok (.aload_n 0, 1) := by decide +kernel
theorem dl_870 : decode code 870 = .ok (.iload 4, 2) := by decide +kernel
theorem dl_872 : decode code 872 = .ok (.iconst 2, 1) := by decide +kernel
theorem dl_873 : decode code 873 = .ok (.iadd, 1) := by decide +kernel
theorem dl_874 : decode code 874 = .ok (.iaload, 1) := by decide +kernel
theorem dl_875 : decode code 875 = .ok (.aload_n 0, 1) := by decide +kernel
theorem dl_876 : decode code 876 = .ok (.iload 4, 2) := by decide +kernel
theorem dl_878 : decode code 878 = .ok (.iconst 3, 1) := by decide +kernel
theorem dl_879 : decode code 879 = .ok (.iadd, 1) := by decide +kernel
theorem dl_880 : decode code 880 = .ok (.iaload, 1) := by decide +kernel
theorem dl_881 : decode code 881 = .ok (.invokevirtual 103, 3) := by decide +kernel
theorem dl_884 : decode code 884 = .ok (.if_icmp .eq 577, 3) := by decide +kernel
theorem dl_889 : decode code 889 = .ok (.aload_n 1, 1) := by decide +kernel
theorem dl_890 : decode code 890 = .ok (.aload_n 0, 1) := by decide +kernel
theorem dl_891 : decode code 891 = .ok (.iload 4, 2) := by decide +kernel
theorem dl_893 : decode code 893 = .ok (.iconst 1, 1) := by decide +kernel
theorem dl_894 : decode code 894 = .ok (.iadd, 1) := by decide +kernel
theorem dl_895 : decode code 895 = .ok (.iaload, 1) := by decide +kernel
theorem dl_896 : decode code 896 = .ok (.aload_n 0, 1) := by decide +kernel
theorem dl_897 : decode code 897 = .ok (.iload 4, 2) := by decide +kernel
theorem dl_899 : decode code 899 = .ok (.iconst 2, 1) := by decide +kernel
theorem dl_900 : decode code 900 = .ok (.iadd, 1) := by decide +kernel
theorem dl_901 : decode code 901 = .ok (.iaload, 1) := by decide +kernel
theorem dl_902 : decode code 902 = .ok (.invokevirtual 104, 3) := by decide +kernel
theorem dl_905 : decode code 905 = .ok (.aload_n 2, 1) := by decide +kernel
theorem dl_906 : decode code 906 = .ok (.aload_n 0, 1) := by decide +kernel
theorem dl_907 : decode code 907 = .ok (.iload 4, 2) := by decide +kernel
theorem dl_909 : decode code 909 = .ok (.iconst 1, 1) := by decide +kernel
theorem dl_910 : decode code 910 = .ok (.iadd, 1) := by decide +kernel
theorem dl_911 : decode code 911 = .ok (.iaload, 1) := by decide +kernel
theorem dl_912 : decode code 912 = .ok (.aload_n 0, 1) := by decide +kernel
theorem dl_913 : decode code 913 = .ok (.iload 4, 2) := by decide +kernel
theorem dl_915 : decode code 915 = .ok (.iconst 2, 1) := by decide +kernel
theorem dl_916 : decode code 916 = .ok (.iadd, 1) := by decide +kernel
theorem dl_917 : decode code 917 = .ok (.iaload, 1) := by decide +kernel
theorem dl_918 : decode code 918 = .ok (.invokevirtual 107, 3) := by decide +kernel
theorem dl_921 : decode code 921 = .ok (.if_icmp .eq 540, 3) := by decide +kernel
theorem dl_926 : decode code 926 = .ok (.aload_n 1, 1) := by decide +kernel
theorem dl_927 : decode code 927 = .ok (.aload_n 0, 1) := by decide +kernel
theorem dl_928 : decode code 928 = .ok (.iload 4, 2) := by decide +kernel
theorem dl_930 : decode code 930 = .ok (.iconst 1, 1) := by decide +kernel
theorem dl_931 : decode code 931 = .ok (.iadd, 1) := by decide +kernel
theorem dl_932 : decode code 932 = .ok (.iaload, 1) := by decide +kernel
theorem dl_933 : decode code 933 = .ok (.aload_n 0, 1) := by decide +kernel
theorem dl_934 : decode code 934 = .ok (.iload 4, 2) := by decide +kernel
theorem dl_936 : decode code 936 = .ok (.iconst 2, 1) := by decide +kernel
theorem dl_937 : decode code 937 = .ok (.iadd, 1) := by decide +kernel
theorem dl_938 : decode code 938 = .ok (.iaload, 1) := by decide +kernel
theorem dl_939 : decode code 939 = .ok (.aload_n 0, 1) := by decide +kernel
theorem dl_940 : decode code 940 = .ok (.iload 4, 2) := by decide +kernel
theorem dl_942 : decode code 942 = .ok (.iconst 3, 1) := by decide +kernel
theorem dl_943 : decode code 943 = .ok (.iadd, 1) := by decide +kernel
theorem dl_944 : decode code 944 = .ok (.iaload, 1) := by decide +kernel
theorem dl_945 : decode code 945 = .ok (.aload_n 0, 1) := by decide +kernel
theorem dl_946 : decode code 946 = .ok (.iload 4, 2) := by decide +kernel
theorem dl_948 : decode code 948 = .ok (.iconst 4, 1) := by decide +kernel
theorem dl_949 : decode code 949 = .ok (.iadd, 1) := by decide +kernel
theorem dl_950 : decode code 950 = .ok (.iaload, 1) := by decide +kernel
theorem dl_951 : decode code 951 = .ok (.invokevirtual 108, 3) := by decide +kernel
theorem dl_954 : decode code 954 = .ok (.aload_n 2, 1) := by decide +kernel
theorem dl_955 : decode code 955 = .ok (.aload_n 0, 1) := by decide +kernel
theorem dl_956 : decode code 956 = .ok (.iload 4, 2) := by decide +kernel
theorem dl_958 : decode code 958 = .ok (.iconst 1, 1) := by decide +kernel
theorem dl_959 : decode code 959 = .ok (.iadd, 1) := by decide +kernel
theorem dl_960 : decode code 960 = .ok (.iaload, 1) := by decide +kernel
theorem dl_961 : decode code 961 = .ok (.aload_n 0, 1) := by decide +kernel
theorem dl_962 : decode code 962 = .ok (.iload 4, 2) := by decide +kernel
theorem dl_964 : decode code 964 = .ok (.iconst 2, 1) := by decide +kernel
theorem dl_965 : decode code 965 = .ok (.iadd, 1) := by decide +kernel
theorem dl_966 : decode code 966 = .ok (.iaload, 1) := by decide +kernel
theorem dl_967 : decode code 967 = .ok (.aload_n 0, 1) := by decide +kernel
theorem dl_968 : decode code 968 = .ok (.iload 4, 2) := by decide +kernel
theorem dl_970 : decode code 970 = .ok (.iconst 3, 1) := by decide +kernel
theorem dl_971 : decode code 971 = .ok (.iadd, 1) := by decide +kernel
theorem dl_972 : decode code 972 = .ok (.iaload, 1) := by decide +kernel
theorem dl_973 : decode code 973 = .ok (.aload_n 0, 1) := by decide +kernel
theorem dl_974 : decode code 974 = .ok (.iload 4, 2) := by decide +kernel
theorem dl_976 : decode code 976 = .ok (.iconst 4, 1) := by decide +kernel
theorem dl_977 : decode code 977 = .ok (.iadd, 1) := by decide +kernel
theorem dl_978 : decode code 978 = .ok (.iaload, 1) := by decide +kernel
theorem dl_979 : decode code 979 = .ok (.invokevirtual 112, 3) := by decide +kernel
theorem dl_982 : decode code 982 = .ok (.if_icmp .eq 479, 3) := by decide +kernel
theorem dl_987 : decode code 987 = .ok (.aload_n 1, 1) := by decide +kernel
theorem dl_988 : decode code 988 = .ok (.aload_n 0, 1) := by decide +kernel
theorem dl_989 : decode code 989 = .ok (.iload 4, 2) := by decide +kernel
theorem dl_991 : decode code 991 = .ok (.iconst 1, 1) := by decide +kernel
theorem dl_992 : decode code 992 = .ok (.iadd, 1) := by decide +kernel
theorem dl_993 : decode code 993 = .ok (.iaload, 1) := by decide +kernel
theorem dl_994 : decode code 994 = .ok (.aload_n 0, 1) := by decide +kernel
theorem dl_995 : decode code 995 = .ok (.iload 4, 2) := by decide +kernel
theorem dl_997 : decode code 997 = .ok (.iconst 2, 1) := by decide +kernel
theorem dl_998 : decode code 998 = .ok (.iadd, 1) := by decide +kernel
theorem dl_999 : decode code 999 = .ok (.iaload, 1) := by decide +kernel
theorem dl_1000 : decode code 1000 = .ok (.invokevirtual 113, 3) := by decide +kernel
theorem dl_1003 : decode code 1003 = .ok (.aload_n 2, 1) := by decide +kernel
theorem dl_1004 : decode code 1004 = .ok (.aload_n 0, 1) := by decide +kernel
theorem dl_1005 : decode code 1005 = .ok (.iload 4, 2) := by decide +kernel
theorem dl_1007 : decode code 1007 = .ok (.iconst 1, 1) := by decide +kernel
theorem dl_1008 : decode code 1008 = .ok (.iadd, 1) := by decide +kernel
theorem dl_1009 : decode code 1009 = .ok (.iaload, 1) := by decide +kernel
theorem dl_1010 : decode code 1010 = .ok (.aload_n 0, 1) := by decide +kernel
theorem dl_1011 : decode code 1011 = .ok (.iload 4, 2) := by decide +kernel
theorem dl_1013 : decode code 1013 = .ok (.iconst 2, 1) := by decide +kernel
theorem dl_1014 : decode code 1014 = .ok (.iadd, 1) := by decide +kernel
theorem dl_1015 : decode code 1015 = .ok (.iaload, 1) := by decide +kernel
theorem dl_1016 : decode code 1016 = .ok (.invokevirtual 116, 3) := by decide +kernel
theorem dl_1019 : decode code 1019 = .ok (.if_icmp .eq 442, 3) := by decide +kernel
theorem dl_1024 : decode code 1024 = .ok (.aload_n 1, 1) := by decide +kernel
theorem dl_1025 : decode code 1025 = .ok (.aload_n 0, 1) := by decide +kernel
theorem dl_1026 : decode code 1026 = .ok (.iload 4, 2) := by decide +kernel
theorem dl_1028 : decode code 1028 = .ok (.iconst 1, 1) := by decide +kernel
theorem dl_1029 : decode code 1029 = .ok (.iadd, 1) := by decide +kernel
theorem dl_1030 : decode code 1030 = .ok (.iaload, 1) := by decide +kernel
theorem dl_1031 : decode code 1031 = .ok (.aload_n 0, 1) := by decide +kernel
theorem dl_1032 : decode code 1032 = .ok (.iload 4, 2) := by decide +kernel
theorem dl_1034 : decode code 1034 = .ok (.iconst 2, 1) := by decide +kernel
theorem dl_1035 : decode code 1035 = .ok (.iadd, 1) := by decide +kernel
theorem dl_1036 : decode code 1036 = .ok (.iaload, 1) := by decide +kernel
theorem dl_1037 : decode code 1037 = .ok (.invokevirtual 117, 3) := by decide +kernel
theorem dl_1040 : decode code 1040 = .ok (.aload_n 2, 1) := by decide +kernel
theorem dl_1041 : decode code 1041 = .ok (.aload_n 0, 1) := by decide +kernel
theorem dl_1042 : decode code 1042 = .ok (.iload 4, 2) := by decide +kernel
theorem dl_1044 : decode code 1044 = .ok (.iconst 1, 1) := by decide +kernel
theorem dl_1045 : decode code 1045 = .ok (.iadd, 1) := by decide +kernel
theorem dl_1046 : decode code 1046 = .ok (.iaload, 1) := by decide +kernel
theorem dl_1047 : decode code 1047 = .ok (.aload_n 0, 1) := by decide +kernel
theorem dl_1048 : decode code 1048 = .ok (.iload 4, 2) := by decide +kernel
theorem dl_1050 : decode code 1050 = .ok (.iconst 2, 1) := by decide +kernel
theorem dl_1051 : decode code 1051 = .ok (.iadd, 1) := by decide +kernel
theorem dl_1052 : decode code 1052 = .ok (.iaload, 1) := by decide +kernel
theorem dl_1053 : decode code 1053 = .ok (.invokevirtual 120, 3) := by decide +kernel
theorem dl_1056 : decode code 1056 = .ok (.if_icmp .eq 405, 3) := by decide +kernel
theorem dl_1061 : decode code 1061 = .ok (.aload_n 1, 1) := by decide +kernel
theorem dl_1062 : decode code 1062 = .ok (.aload_n 0, 1) := by decide +kernel
theorem dl_1063 : decode code 1063 = .ok (.iload 4, 2) := by decide +kernel
theorem dl_1065 : decode code 1065 = .ok (.iconst 1, 1) := by decide +kernel
theorem dl_1066 : decode code 1066 = .ok (.iadd, 1) := by decide +kernel
theorem dl_1067 : decode code 1067 = .ok (.iaload, 1) := by decide +kernel
theorem dl_1068 : decode code 1068 = .ok (.invokevirtual 121, 3) := by decide +kernel
theorem dl_1071 : decode code 1071 = .ok (.aload_n 2, 1) := by decide +kernel
theorem dl_1072 : decode code 1072 = .ok (.aload_n 0, 1) := by decide +kernel
theorem dl_1073 : decode code 1073 = .ok (.iload 4, 2) := by decide +kernel
theorem dl_1075 : decode code 1075 = .ok (.iconst 1, 1) := by decide +kernel
theorem dl_1076 : decode code 1076 = .ok (.iadd, 1) := by decide +kernel
theorem dl_1077 : decode code 1077 = .ok (.iaload, 1) := by decide +kernel
theorem dl_1078 : decode code 1078 = .ok (.invokevirtual 124, 3) := by decide +kernel
theorem dl_1081 : decode code 1081 = .ok (.if_icmp .eq 380, 3) := by decide +kernel
theorem dl_1086 : decode code 1086 = .ok (.aload_n 1, 1) := by decide +kernel
theorem dl_1087 : decode code 1087 = .ok (.aload_n 0, 1) := by decide +kernel
theorem dl_1088 : decode code 1088 = .ok (.iload 4, 2) := by decide +kernel
theorem dl_1090 : decode code 1090 = .ok (.iconst 1, 1) := by decide +kernel
theorem dl_1091 : decode code 1091 = .ok (.iadd, 1) := by decide +kernel
theorem dl_1092 : decode code 1092 = .ok (.iaload, 1) := by decide +kernel
theorem dl_1093 : decode code 1093 = .ok (.aload_n 0, 1) := by decide +kernel
theorem dl_1094 : decode code 1094 = .ok (.iload 4, 2) := by decide +kernel
theorem dl_1096 : decode code 1096 = .ok (.iconst 2, 1) := by decide +kernel
theorem dl_1097 : decode code 1097 = .ok (.iadd, 1) := by decide +kernel
theorem dl_1098 : decode code 1098 = .ok (.iaload, 1) := by decide +kernel
theorem dl_1099 : decode code 1099 = .ok (.aload_n 0, 1) := by decide +kernel
theorem dl_1100 : decode code 1100 = .ok (.iload 4, 2) := by decide +kernel
theorem dl_1102 : decode code 1102 = .ok (.iconst 3, 1) := by decide +kernel
theorem dl_1103 : decode code 1103 = .ok (.iadd, 1) := by decide +kernel
theorem dl_1104 : decode code 1104 = .ok (.iaload, 1) := by decide +kernel
theorem dl_1105 : decode code 1105 = .ok (.invokevirtual 125, 3) := by decide +kernel
theorem dl_1108 : decode code 1108 = .ok (.aload_n 2, 1) := by decide +kernel
theorem dl_1109 : decode code 1109 = .ok (.aload_n 0, 1) := by decide +kernel
theorem dl_1110 : decode code 1110 = .ok (.iload 4, 2) := by decide +kernel
theorem dl_1112 : decode code 1112 = .ok (.iconst 1, 1) := by decide +kernel
theorem dl_1113 : decode code 1113 = .ok (.iadd, 1) := by decide +kernel
theorem dl_1114 : decode code 1114 = .ok (.iaload, 1) := by decide +kernel
theorem dl_1115 : decode code 1115 = .ok (.aload_n 0, 1) := by decide +kernel
theorem dl_1116 : decode code 1116 = .ok (.iload 4, 2) := by decide +kernel
theorem dl_1118 : decode code 1118 = .ok (.iconst 2, 1) := by decide +kernel
theorem dl_1119 : decode code 1119 = .ok (.iadd, 1) := by decide +kernel
theorem dl_1120 : decode code 1120 = .ok (.iaload, 1) := by decide +kernel
theorem dl_1121 : decode code 1121 = .ok (.aload_n 0, 1) := by decide +kernel
theorem dl_1122 : decode code 1122 = .ok (.iload 4, 2) := by decide +kernel
theorem dl_1124 : decode code 1124 = .ok (.iconst 3, 1) := by decide +kernel
theorem dl_1125 : decode code 1125 = .ok (.iadd, 1) := by decide +kernel
theorem dl_1126 : decode code 1126 = .ok (.iaload, 1) := by decide +kernel
theorem dl_1127 : decode code 1127 = .ok (.invokevirtual 128, 3) := by decide +kernel
theorem dl_1130 : decode code 1130 = .ok (.if_icmp .eq 331, 3) := by decide +kernel
theorem dl_1135 : decode code 1135 = .ok (.aload_n 1, 1) := by decide +kernel
theorem dl_1136 : decode code 1136 = .ok (.aload_n 0, 1) := by decide +kernel
theorem dl_1137 : decode code 1137 = .ok (.iload 4, 2) := by decide +kernel
theorem dl_1139 : decode code 1139 = .ok (.iconst 1, 1) := by decide +kernel
theorem dl_1140 : decode code 1140 = .ok (.iadd, 1) := by decide +kernel
theorem dl_1141 : decode code 1141 = .ok (.iaload, 1) := by decide +kernel
theorem dl_1142 : decode code 1142 = .ok (.aload_n 0, 1) := by decide +kernel
theorem dl_1143 : decode code 1143 = .ok (.iload 4, 2) := by decide +kernel
theorem dl_1145 : decode code 1145 = .ok (.iconst 2, 1) := by decide +kernel
theorem dl_1146 : decode code 1146 = .ok (.iadd, 1) := by decide +kernel
theorem dl_1147 : decode code 1147 = .ok (.iaload, 1) := by decide +kernel
theorem dl_1148 : decode code 1148 = .ok (.invokevirtual 129, 3) := by decide +kernel
theorem dl_1151 : decode code 1151 = .ok (.aload_n 2, 1) := by decide +kernel
theorem dl_1152 : decode code 1152 = .ok (.aload_n 0, 1) := by decide +kernel
theorem dl_1153 : decode code 1153 = .ok (.iload 4, 2) := by decide +kernel
theorem dl_1155 : decode code 1155 = .ok (.iconst 1, 1) := by decide +kernel
theorem dl_1156 : decode code 1156 = .ok (.iadd, 1) := by decide +kernel
theorem dl_1157 : decode code 1157 = .ok (.iaload, 1) := by decide +kernel
theorem dl_1158 : decode code 1158 = .ok (.aload_n 0, 1) := by decide +kernel
theorem dl_1159 : decode code 1159 = .ok (.iload 4, 2) := by decide +kernel
theorem dl_1161 : decode code 1161 = .ok (.iconst 2, 1) := by decide +kernel
theorem dl_1162 : decode code 1162 = .ok (.iadd, 1) := by decide +kernel
theorem dl_1163 : decode code 1163 = .ok (.iaload, 1) := by decide +kernel
theorem dl_1164 : decode code 1164 = .ok (.invokevirtual 132, 3) := by decide +kernel
theorem dl_1167 : decode code 1167 = .ok (.if_icmp .eq 294, 3) := by decide +kernel
theorem dl_1172 : decode code 1172 = .ok (.aload_n 1, 1) := by decide +kernel
theorem dl_1173 : decode code 1173 = .ok (.aload_n 0, 1) := by decide +kernel
theorem dl_1174 : decode code 1174 = .ok (.iload 4, 2) := by decide +kernel
theorem dl_1176 : decode code 1176 = .ok (.iconst 1, 1) := by decide +kernel
theorem dl_1177 : decode code 1177 = .ok (.iadd, 1) := by decide +kernel
theorem dl_1178 : decode code 1178 = .ok (.iaload, 1) := by decide +kernel
theorem dl_1179 : decode code 1179 = .ok (.invokevirtual 133, 3) := by decide +kernel
theorem dl_1182 : decode code 1182 = .ok (.aload_n 2, 1) := by decide +kernel
theorem dl_1183 : decode code 1183 = .ok (.aload_n 0, 1) := by decide +kernel
theorem dl_1184 : decode code 1184 = .ok (.iload 4, 2) := by decide +kernel
theorem dl_1186 : decode code 1186 = .ok (.iconst 1, 1) := by decide +kernel
theorem dl_1187 : decode code 1187 = .ok (.iadd, 1) := by decide +kernel
theorem dl_1188 : decode code 1188 = .ok (.iaload, 1) := by decide +kernel
theorem dl_1189 : decode code 1189 = .ok (.invokevirtual 136, 3) := by decide +kernel
theorem dl_1192 : decode code 1192 = .ok (.if_icmp .eq 269, 3) := by decide +kernel
theorem dl_1197 : decode code 1197 = .ok (.aload_n 1, 1) := by decide +kernel
theorem dl_1198 : decode code 1198 = .ok (.aload_n 0, 1) := by decide +kernel
theorem dl_1199 : decode code 1199 = .ok (.iload 4, 2) := by decide +kernel
theorem dl_1201 : decode code 1201 = .ok (.iconst 1, 1) := by decide +kernel
theorem dl_1202 : decode code 1202 = .ok (.iadd, 1) := by decide +kernel
theorem dl_1203 : decode code 1203 = .ok (.iaload, 1) := by decide +kernel
theorem dl_1204 : decode code 1204 = .ok (.aload_n 0, 1) := by decide +kernel
theorem dl_1205 : decode code 1205 = .ok (.iload 4, 2) := by decide +kernel
theorem dl_1207 : decode code 1207 = .ok (.iconst 2, 1) := by decide +kernel
theorem dl_1208 : decode code 1208 = .ok (.iadd, 1) := by decide +kernel
theorem dl_1209 : decode code 1209 = .ok (.iaload, 1) := by decide +kernel
theorem dl_1210 : decode code 1210 = .ok (.invokevirtual 137, 3) := by decide +kernel
theorem dl_1213 : decode code 1213 = .ok (.aload_n 2, 1) := by decide +kernel
theorem dl_1214 : decode code 1214 = .ok (.aload_n 0, 1) := by decide +kernel
theorem dl_1215 : decode code 1215 = .ok (.iload 4, 2) := by decide +kernel
theorem dl_1217 : decode code 1217 = .ok (.iconst 1, 1) := by decide +kernel
theorem dl_1218 : decode code 1218 = .ok (.iadd, 1) := by decide +kernel
theorem dl_1219 : decode code 1219 = .ok (.iaload, 1) := by decide +kernel
theorem dl_1220 : decode code 1220 = .ok (.aload_n 0, 1) := by decide +kernel
theorem dl_1221 : decode code 1221 = .ok (.iload 4, 2) := by decide +kernel
theorem dl_1223 : decode code 1223 = .ok (.iconst 2, 1) := by decide +kernel
theorem dl_1224 : decode code 1224 = .ok (.iadd, 1) := by decide +kernel
theorem dl_1225 : decode code 1225 = .ok (.iaload, 1) := by decide +kernel
theorem dl_1226 : decode code 1226 = .ok (.invokevirtual 140, 3) := by decide +kernel
theorem dl_1229 : decode code 1229 = .ok (.if_icmp .eq 232, 3) := by decide +kernel
theorem dl_1234 : decode code 1234 = .ok (.aload_n 1, 1) := by decide +kernel
theorem dl_1235 : decode code 1235 = .ok (.aload_n 0, 1) := by decide +kernel
theorem dl_1236 : decode code 1236 = .ok (.iload 4, 2) := by decide +kernel
theorem dl_1238 : decode code 1238 = .ok (.iconst 1, 1) := by decide +kernel
theorem dl_1239 : decode code 1239 = .ok (.iadd, 1) := by decide +kernel
theorem dl_1240 : decode code 1240 = .ok (.iaload, 1) := by decide +kernel
theorem dl_1241 : decode code 1241 = .ok (.invokevirtual 141, 3) := by decide +kernel
theorem dl_1244 : decode code 1244 = .ok (.aload_n 2, 1) := by decide +kernel
theorem dl_1245 : decode code 1245 = .ok (.aload_n 0, 1) := by decide +kernel
theorem dl_1246 : decode code 1246 = .ok (.iload 4, 2) := by decide +kernel
theorem dl_1248 : decode code 1248 = .ok (.iconst 1, 1) := by decide +kernel
theorem dl_1249 : decode code 1249 = .ok (.iadd, 1) := by decide +kernel
theorem dl_1250 : decode code 1250 = .ok (.iaload, 1) := by decide +kernel
theorem dl_1251 : decode code 1251 = .ok (.invokevirtual 144, 3) := by decide +kernel
theorem dl_1254 : decode code 1254 = .ok (.if_icmp .eq 207, 3) := by decide +kernel
theorem dl_1259 : decode code 1259 = .ok (.aload_n 1, 1) := by decide +kernel
theorem dl_1260 : decode code 1260 = .ok (.aload_n 0, 1) := by decide +kernel
theorem dl_1261 : decode code 1261 = .ok (.iload 4, 2) := by decide +kernel
theorem dl_1263 : decode code 1263 = .ok (.iconst 1, 1) := by decide +kernel
theorem dl_1264 : decode code 1264 = .ok (.iadd, 1) := by decide +kernel
theorem dl_1265 : decode code 1265 = .ok (.iaload, 1) := by decide +kernel
theorem dl_1266 : decode code 1266 = .ok (.aload_n 0, 1) := by decide +kernel
theorem dl_1267 : decode code 1267 = .ok (.iload 4, 2) := by decide +kernel
theorem dl_1269 : decode code 1269 = .ok (.iconst 2, 1) := by decide +kernel
theorem dl_1270 : decode code 1270 = .ok (.iadd, 1) := by decide +kernel
theorem dl_1271 : decode code 1271 = .ok (.iaload, 1) := by decide +kernel
theorem dl_1272 : decode code 1272 = .ok (.invokevirtual 145, 3) := by decide +kernel
theorem dl_1275 : decode code 1275 = .ok (.aload_n 2, 1) := by decide +kernel
theorem dl_1276 : decode code 1276 = .ok (.aload_n 0, 1) := by decide +kernel
theorem dl_1277 : decode code 1277 = .ok (.iload 4, 2) := by decide +kernel
theorem dl_1279 : decode code 1279 = .ok (.iconst 1, 1) := by decide +kernel
theorem dl_1280 : decode code 1280 = .ok (.iadd, 1) := by decide +kernel
theorem dl_1281 : decode code 1281 = .ok (.iaload, 1) := by decide +kernel
theorem dl_1282 : decode code 1282 = .ok (.aload_n 0, 1) := by decide +kernel
theorem dl_1283 : decode code 1283 = .ok (.iload 4, 2) := by decide +kernel
theorem dl_1285 : decode code 1285 = .ok (.iconst 2, 1) := by decide +kernel
theorem dl_1286 : decode code 1286 = .ok (.iadd, 1) := by decide +kernel
theorem dl_1287 : decode code 1287 = .ok (.iaload, 1) := by decide +kernel
theorem dl_1288 : decode code 1288 = .ok (.invokevirtual 148, 3) := by decide +kernel
theorem dl_1291 : decode code 1291 = .ok (.if_icmp .eq 170, 3) := by decide +kernel
theorem dl_1296 : decode code 1296 = .ok (.aload_n 1, 1) := by decide +kernel
theorem dl_1297 : decode code 1297 = .ok (.aload_n 0, 1) := by decide +kernel
theorem dl_1298 : decode code 1298 = .ok (.iload 4, 2) := by decide +kernel
theorem dl_1300 : decode code 1300 = .ok (.iconst 1, 1) := by decide +kernel
theorem dl_1301 : decode code 1301 = .ok (.iadd, 1) := by decide +kernel
theorem dl_1302 : decode code 1302 = .ok (.iaload, 1) := by decide +kernel
theorem dl_1303 : decode code 1303 = .ok (.invokevirtual 149, 3) := by decide +kernel
theorem dl_1306 : decode code 1306 = .ok (.aload_n 2, 1) := by decide +kernel
theorem dl_1307 : decode code 1307 = .ok (.aload_n 0, 1) := by decide +kernel
theorem dl_1308 : decode code 1308 = .ok (.iload 4, 2) := by decide +kernel
theorem dl_1310 : decode code 1310 = .ok (.iconst 1, 1) := by decide +kernel
theorem dl_1311 : decode code 1311 = .ok (.iadd, 1) := by decide +kernel
theorem dl_1312 : decode code 1312 = .ok (.iaload, 1) := by decide +kernel
theorem dl_1313 : decode code 1313 = .ok (.invokevirtual 152, 3) := by decide +kernel
theorem dl_1316 : decode code 1316 = .ok (.if_icmp .eq 145, 3) := by decide +kernel
theorem dl_1321 : decode code 1321 = .ok (.aload_n 1, 1) := by decide +kernel
theorem dl_1322 : decode code 1322 = .ok (.aload_n 0, 1) := by decide +kernel
theorem dl_1323 : decode code 1323 = .ok (.iload 4, 2) := by decide +kernel
theorem dl_1325 : decode code 1325 = .ok (.iconst 1, 1) := by decide +kernel
theorem dl_1326 : decode code 1326 = .ok (.iadd, 1) := by decide +kernel
theorem dl_1327 : decode code 1327 = .ok (.iaload, 1) := by decide +kernel
theorem dl_1328 : decode code 1328 = .ok (.invokevirtual 153, 3) := by decide +kernel
theorem dl_1331 : decode code 1331 = .ok (.aload_n 2, 1) := by decide +kernel
theorem dl_1332 : decode code 1332 = .ok (.aload_n 0, 1) := by decide +kernel
theorem dl_1333 : decode code 1333 = .ok (.iload 4, 2) := by decide +kernel
theorem dl_1335 : decode code 1335 = .ok (.iconst 1, 1) := by decide +kernel
theorem dl_1336 : decode code 1336 = .ok (.iadd, 1) := by decide +kernel
theorem dl_1337 : decode code 1337 = .ok (.iaload, 1) := by decide +kernel
theorem dl_1338 : decode code 1338 = .ok (.invokevirtual 156, 3) := by decide +kernel
theorem dl_1341 : decode code 1341 = .ok (.if_icmp .eq 120, 3) := by decide +kernel
theorem dl_1346 : decode code 1346 = .ok (.aload_n 1, 1) := by decide +kernel
theorem dl_1347 : decode code 1347 = .ok (.invokevirtual 157, 3) := by decide +kernel
theorem dl_1350 : decode code 1350 = .ok (.aload_n 2, 1) := by decide +kernel
theorem dl_1351 : decode code 1351 = .ok (.invokevirtual 160, 3) := by decide +kernel
theorem dl_1354 : decode code 1354 = .ok (.if_icmp .eq 107, 3) := by decide +kernel
theorem dl_1359 : decode code 1359 = .ok (.aload_n 1, 1) := by decide +kernel
theorem dl_1360 : decode code 1360 = .ok (.invokevirtual 161, 3) := by decide +kernel
theorem dl_1363 : decode code 1363 = .ok (.aload_n 2, 1) := by decide +kernel
theorem dl_1364 : decode code 1364 = .ok (.invokevirtual 164, 3) := by decide +kernel
theorem dl_1367 : decode code 1367 = .ok (.if_icmp .eq 94, 3) := by decide +kernel
theorem dl_1372 : decode code 1372 = .ok (.aload_n 1, 1) := by decide +kernel
theorem dl_1373 : decode code 1373 = .ok (.aload_n 0, 1) := by decide +kernel
theorem dl_1374 : decode code 1374 = .ok (.iload 4, 2) := by decide +kernel
theorem dl_1376 : decode code 1376 = .ok (.iconst 1, 1) := by decide +kernel
theorem dl_1377 : decode code 1377 = .ok (.iadd, 1) := by decide +kernel
theorem dl_1378 : decode code 1378 = .ok (.iaload, 1) := by decide +kernel
theorem dl_1379 : decode code 1379 = .ok (.invokevirtual 165, 3) := by decide +kernel
theorem dl_1382 : decode code 1382 = .ok (.aload_n 2, 1) := by decide +kernel
theorem dl_1383 : decode code 1383 = .ok (.aload_n 0, 1) := by decide +kernel
theorem dl_1384 : decode code 1384 = .ok (.iload 4, 2) := by decide +kernel
theorem dl_1386 : decode code 1386 = .ok (.iconst 1, 1) := by decide +kernel
theorem dl_1387 : decode code 1387 = .ok (.iadd, 1) := by decide +kernel
theorem dl_1388 : decode code 1388 = .ok (.iaload, 1) := by decide +kernel
theorem dl_1389 : decode code 1389 = .ok (.invokevirtual 168, 3) := by decide +kernel
theorem dl_1392 : decode code 1392 = .ok (.if_icmp .eq 69, 3) := by decide +kernel
theorem dl_1397 : decode code 1397 = .ok (.aload_n 1, 1) := by decide +kernel
theorem dl_1398 : decode code 1398 = .ok (.invokevirtual 169, 3) := by decide +kernel
theorem dl_1401 : decode code 1401 = .ok (.aload_n 2, 1) := by decide +kernel
theorem dl_1402 : decode code 1402 = .ok (.invokevirtual 172, 3) := by decide +kernel
theorem dl_1405 : decode code 1405 = .ok (.if_icmp .eq 56, 3) := by decide +kernel
theorem dl_1410 : decode code 1410 = .ok (.aload_n 1, 1) := by decide +kernel
theorem dl_1411 : decode code 1411 = .ok (.invokevirtual 173, 3) := by decide +kernel
theorem dl_1414 : decode code 1414 = .ok (.aload_n 2, 1) := by decide +kernel
theorem dl_1415 : decode code 1415 = .ok (.invokevirtual 176, 3) := by decide +kernel
theorem dl_1418 : decode code 1418 = .ok (.if_icmp .eq 43, 3) := by decide +kernel
theorem dl_1423 : decode code 1423 = .ok (.aload_n 1, 1) := by decide +kernel
theorem dl_1424 : decode code 1424 = .ok (.invokevirtual 177, 3) := by decide +kernel
theorem dl_1427 : decode code 1427 = .ok (.aload_n 2, 1) := by decide +kernel
theorem dl_1428 : decode code 1428 = .ok (.invokevirtual 180, 3) := by decide +kernel
theorem dl_1431 : decode code 1431 = .ok (.if_icmp .eq 30, 3) := by decide +kernel
theorem dl_1436 : decode code 1436 = .ok (.aload_n 1, 1) := by decide +kernel
theorem dl_1437 : decode code 1437 = .ok (.aload_n 0, 1) := by decide +kernel
theorem dl_1438 : decode code 1438 = .ok (.iload 4, 2) := by decide +kernel
theorem dl_1440 : decode code 1440 = .ok (.iconst 1, 1) := by decide +kernel
theorem dl_1441 : decode code 1441 = .ok (.iadd, 1) := by decide +kernel
theorem dl_1442 : decode code 1442 = .ok (.iaload, 1) := by decide +kernel
theorem dl_1443 : decode code 1443 = .ok (.invokevirtual 181, 3) := by decide +kernel
theorem dl_1446 : decode code 1446 = .ok (.aload_n 2, 1) := by decide +kernel
theorem dl_1447 : decode code 1447 = .ok (.aload_n 0, 1) := by decide +kernel
theorem dl_1448 : decode code 1448 = .ok (.iload 4, 2) := by decide +kernel
theorem dl_1450 : decode code 1450 = .ok (.iconst 1, 1) := by decide +kernel
theorem dl_1451 : decode code 1451 = .ok (.iadd, 1) := by decide +kernel
theorem dl_1452 : decode code 1452 = .ok (.iaload, 1) := by decide +kernel
theorem dl_1453 : decode code 1453 = .ok (.invokevirtual 184, 3) := by decide +kernel
theorem dl_1456 : decode code 1456 = .ok (.if_icmp .eq 5, 3) := by decide +kernel
theorem dl_1461 : decode code 1461 = .ok (.iinc 4 6, 3) := by decide +kernel
theorem dl_1464 : decode code 1464 = .ok (.goto (-1441), 3) := by decide +kernel
theorem dl_1467 : decode code 1467 = .ok (.iconst 1, 1) := by decide +kernel
theorem dl_1468 : decode code 1468 = .ok (.ireturn, 1) := by decide +kernel
