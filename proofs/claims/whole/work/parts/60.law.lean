/-! THE LAW: its calls, one by one -/
def Sc (X : Amb) (b L : Nat) (xs : Nat → Int32) : Prop := match X with
  | (_, _, _, _, s, _, _, _, _, _, N, _, _, _, _) => va_X b L xs s s.heap ∧ b < s.heap.size ∧ ¬ AwS N b
abbrev lvL (X : Amb) (b i : Nat) : List (Nat × Value) := [(3, .int (nI i)), (2, .ref (X.N.2.1 66)), (1, .ref (X.N.2.1 0)), (0, .ref b)]
theorem lg_self (r : Int64) : lg_cmp r r = 0 := by
  unfold lg_cmp
  rw [if_neg (show ¬ r > r from fun h => Int64.lt_irrefl h), if_pos rfl]
section LAWR
variable {X : Amb} {own : String} {cc : ByteArray} {kc b L i : Nat} {xs : Nat → Int32} {M : Mem} {lv : List (Nat × Value)} {pc : Nat} {st : List Value}
theorem a_sld (C : Cx X own cc kc) (hs : Sc X b L xs) {i v : Int32} (hin : vp_in i L) (hv : xs i.toNatClampNeg = v) (d : decode cc pc = .ok (.iaload, 1)) (kk : WA X M lv (pc + 1) (.int v :: st)) : WA X M lv pc (.int i :: .ref b :: st) := by
  subst hv
  obtain ⟨p, l, e, R, s, m, args, below, meth, c, N, Q, nL, cells, slots⟩ := X
  obtain ⟨hx, hb, -⟩ := C
  obtain ⟨h1, h2, h3⟩ := hs
  intro H locs ls hP hS hl
  exact va_sld hx hb h1 h2 h3 hS hin d (kk H locs ls hP hS hl)
theorem a_slen (C : Cx X own cc kc) (hs : Sc X b L xs) (d : decode cc pc = .ok (.arraylength, 1)) (kk : WA X M lv (pc + 1) (.int (nI L) :: st)) : WA X M lv pc (.ref b :: st) := by
  obtain ⟨p, l, e, R, s, m, args, below, meth, c, N, Q, nL, cells, slots⟩ := X
  obtain ⟨hx, hb, -⟩ := C
  obtain ⟨h1, h2, h3⟩ := hs
  intro H locs ls hP hS hl
  exact va_slen hx hb h1 h2 h3 hS d (kk H locs ls hP hS hl)
/-- script[i + j] -/
theorem a_sc (C : Cx X own cc kc) (hs : Sc X b L xs) (hL : L ≤ 3072) {j : Nat} {z : Int} (hz : Int32.ofInt z = nI j) (hij : i + j < L) (d0 : decode cc pc = .ok (.aload_n 0, 1)) (d1 : decode cc (pc + 1) = .ok (.iload_n 3, 1)) (d2 : decode cc (pc + 2) = .ok (.iconst z, 1)) (d3 : decode cc (pc + 3) = .ok (.iadd, 1)) (d4 : decode cc (pc + 4) = .ok (.iaload, 1)) (kk : WA X M (lvL X b i) (pc + 5) (.int (xs (i + j)) :: st)) : WA X M (lvL X b i) pc st := by
  refine a_aload_n C d0 rfl 3 rfl ?_
  refine a_iload_n C d1 rfl 0 rfl ?_
  refine a_iconst C (nI j) d2 hz ?_
  refine a_iadd C d3 ?_
  have e : nI i + nI j = nI (i + j) := nI_add i j
  rw [e]
  exact a_sld C hs (vp_in_nI hij (by omega)) (by rw [nI_clamp (by omega)]) d4 kk

theorem lc_0 (C : Cx X RL cL_law 500) (hs : Sc X b L xs) (hL : L ≤ 3072) (hi : i + 6 ≤ L) (hI : Inv M) (kk : ∀ M2, Inv M2 → WA X M2 (lvL X b i) 1528 []) : WA X M (lvL X b i) 212 [] := by
  obtain ⟨r, M1, M2, h1, h2, h3⟩ := s_person (xs (i + 1)) M hI
  refine a_aload_n C dL_law_212 rfl 2 rfl ?_
  refine a_sc C hs hL (j := 1) (by decide) (by omega) dL_law_213 dL_law_214 dL_law_215 dL_law_216 dL_law_217 ?_
  refine a_callVI C [.int (xs (i + 1))] (ok_fSh_person X.l X.N M (xs (i + 1)) h1) rfl mw_X10_person wd_460 rfl rfl rfl rfl rfl rfl rfl dL_law_218 (fun _ => ?_)
  refine a_aload_n C dL_law_221 rfl 1 rfl ?_
  refine a_sc C hs hL (j := 1) (by decide) (by omega) dL_law_222 dL_law_223 dL_law_224 dL_law_225 dL_law_226 ?_
  refine a_callVI C [.int (xs (i + 1))] (ok_fMd_person X.l X.N M1 (xs (i + 1)) h2) rfl mw_X11_person wd_1213 rfl rfl rfl rfl rfl rfl rfl dL_law_227 (fun _ => ?_)
  exact a_icmp_eq C 1528 dL_law_230 (by decide) (fun _ => kk M2 h3) (fun h => absurd rfl h)
theorem lc_1 (C : Cx X RL cL_law 500) (hs : Sc X b L xs) (hL : L ≤ 3072) (hi : i + 6 ≤ L) (hI : Inv M) (kk : ∀ M2, Inv M2 → WA X M2 (lvL X b i) 1528 []) : WA X M (lvL X b i) 235 [] := by
  obtain ⟨r, M1, M2, h1, h2, h3⟩ := s_people (xs (i + 1)) (xs (i + 2)) (xs (i + 3)) M hI
  refine a_aload_n C dL_law_235 rfl 2 rfl ?_
  refine a_sc C hs hL (j := 1) (by decide) (by omega) dL_law_236 dL_law_237 dL_law_238 dL_law_239 dL_law_240 ?_
  refine a_sc C hs hL (j := 2) (by decide) (by omega) dL_law_241 dL_law_242 dL_law_243 dL_law_244 dL_law_245 ?_
  refine a_sc C hs hL (j := 3) (by decide) (by omega) dL_law_246 dL_law_247 dL_law_248 dL_law_249 dL_law_250 ?_
  refine a_callVI C [.int (xs (i + 1)), .int (xs (i + 2)), .int (xs (i + 3))] (ok_fSh_people X.l X.N M (xs (i + 1)) (xs (i + 2)) (xs (i + 3)) h1) rfl mw_X10_people wd_475 rfl rfl rfl rfl rfl rfl rfl dL_law_251 (fun _ => ?_)
  refine a_aload_n C dL_law_254 rfl 1 rfl ?_
  refine a_sc C hs hL (j := 1) (by decide) (by omega) dL_law_255 dL_law_256 dL_law_257 dL_law_258 dL_law_259 ?_
  refine a_sc C hs hL (j := 2) (by decide) (by omega) dL_law_260 dL_law_261 dL_law_262 dL_law_263 dL_law_264 ?_
  refine a_sc C hs hL (j := 3) (by decide) (by omega) dL_law_265 dL_law_266 dL_law_267 dL_law_268 dL_law_269 ?_
  refine a_callVI C [.int (xs (i + 1)), .int (xs (i + 2)), .int (xs (i + 3))] (ok_fMd_people X.l X.N M1 (xs (i + 1)) (xs (i + 2)) (xs (i + 3)) h2) rfl mw_X11_people wd_1227 rfl rfl rfl rfl rfl rfl rfl dL_law_270 (fun _ => ?_)
  exact a_icmp_eq C 1528 dL_law_273 (by decide) (fun _ => kk M2 h3) (fun h => absurd rfl h)
theorem lc_2 (C : Cx X RL cL_law 500) (hs : Sc X b L xs) (hL : L ≤ 3072) (hi : i + 6 ≤ L) (hI : Inv M) (kk : ∀ M2, Inv M2 → WA X M2 (lvL X b i) 1528 []) : WA X M (lvL X b i) 278 [] := by
  obtain ⟨r, M1, M2, h1, h2, h3⟩ := s_mend (xs (i + 1)) (xs (i + 2)) (xs (i + 3)) M hI
  refine a_aload_n C dL_law_278 rfl 2 rfl ?_
  refine a_sc C hs hL (j := 1) (by decide) (by omega) dL_law_279 dL_law_280 dL_law_281 dL_law_282 dL_law_283 ?_
  refine a_sc C hs hL (j := 2) (by decide) (by omega) dL_law_284 dL_law_285 dL_law_286 dL_law_287 dL_law_288 ?_
  refine a_sc C hs hL (j := 3) (by decide) (by omega) dL_law_289 dL_law_290 dL_law_291 dL_law_292 dL_law_293 ?_
  refine a_callVI C [.int (xs (i + 1)), .int (xs (i + 2)), .int (xs (i + 3))] (ok_fSh_mend X.l X.N M (xs (i + 1)) (xs (i + 2)) (xs (i + 3)) h1) rfl mw_X10_mend wd_506 rfl rfl rfl rfl rfl rfl rfl dL_law_294 (fun _ => ?_)
  refine a_aload_n C dL_law_297 rfl 1 rfl ?_
  refine a_sc C hs hL (j := 1) (by decide) (by omega) dL_law_298 dL_law_299 dL_law_300 dL_law_301 dL_law_302 ?_
  refine a_sc C hs hL (j := 2) (by decide) (by omega) dL_law_303 dL_law_304 dL_law_305 dL_law_306 dL_law_307 ?_
  refine a_sc C hs hL (j := 3) (by decide) (by omega) dL_law_308 dL_law_309 dL_law_310 dL_law_311 dL_law_312 ?_
  refine a_callVI C [.int (xs (i + 1)), .int (xs (i + 2)), .int (xs (i + 3))] (ok_fMd_mend X.l X.N M1 (xs (i + 1)) (xs (i + 2)) (xs (i + 3)) h2) rfl mw_X11_mend wd_1239 rfl rfl rfl rfl rfl rfl rfl dL_law_313 (fun _ => ?_)
  exact a_icmp_eq C 1528 dL_law_316 (by decide) (fun _ => kk M2 h3) (fun h => absurd rfl h)
theorem lc_3 (C : Cx X RL cL_law 500) (hs : Sc X b L xs) (hL : L ≤ 3072) (hi : i + 6 ≤ L) (hI : Inv M) (kk : ∀ M2, Inv M2 → WA X M2 (lvL X b i) 1528 []) : WA X M (lvL X b i) 321 [] := by
  obtain ⟨r, h1, h2⟩ := s_of (xs (i + 1)) (xs (i + 2)) M hI
  refine a_aload_n C dL_law_321 rfl 2 rfl ?_
  refine a_sc C hs hL (j := 1) (by decide) (by omega) dL_law_322 dL_law_323 dL_law_324 dL_law_325 dL_law_326 ?_
  refine a_sc C hs hL (j := 2) (by decide) (by omega) dL_law_327 dL_law_328 dL_law_329 dL_law_330 dL_law_331 ?_
  refine a_callVI C [.int (xs (i + 1)), .int (xs (i + 2))] (ok_fSh_of X.l X.N M (xs (i + 1)) (xs (i + 2)) h1) rfl mw_X10_of wd_549 rfl rfl rfl rfl rfl rfl rfl dL_law_332 (fun _ => ?_)
  refine a_aload_n C dL_law_335 rfl 1 rfl ?_
  refine a_sc C hs hL (j := 1) (by decide) (by omega) dL_law_336 dL_law_337 dL_law_338 dL_law_339 dL_law_340 ?_
  refine a_sc C hs hL (j := 2) (by decide) (by omega) dL_law_341 dL_law_342 dL_law_343 dL_law_344 dL_law_345 ?_
  refine a_callVI C [.int (xs (i + 1)), .int (xs (i + 2))] (ok_fMd_of X.l X.N M (xs (i + 1)) (xs (i + 2)) h2) rfl mw_X11_of wd_1262 rfl rfl rfl rfl rfl rfl rfl dL_law_346 (fun _ => ?_)
  exact a_icmp_eq C 1528 dL_law_349 (by decide) (fun _ => kk M hI) (fun h => absurd rfl h)
theorem lc_4 (C : Cx X RL cL_law 500) (hs : Sc X b L xs) (hL : L ≤ 3072) (hi : i + 6 ≤ L) (hI : Inv M) (kk : ∀ M2, Inv M2 → WA X M2 (lvL X b i) 1528 []) : WA X M (lvL X b i) 354 [] := by
  obtain ⟨r, M1, M2, h1, h2, h3⟩ := s_feed (xs (i + 1)) M hI
  refine a_aload_n C dL_law_354 rfl 2 rfl ?_
  refine a_sc C hs hL (j := 1) (by decide) (by omega) dL_law_355 dL_law_356 dL_law_357 dL_law_358 dL_law_359 ?_
  refine a_callVI C [.int (xs (i + 1))] (ok_fSh_feed X.l X.N M (xs (i + 1)) h1) rfl mw_X10_feed wd_553 rfl rfl rfl rfl rfl rfl rfl dL_law_360 (fun _ => ?_)
  refine a_aload_n C dL_law_363 rfl 1 rfl ?_
  refine a_sc C hs hL (j := 1) (by decide) (by omega) dL_law_364 dL_law_365 dL_law_366 dL_law_367 dL_law_368 ?_
  refine a_callVI C [.int (xs (i + 1))] (ok_fMd_feed X.l X.N M1 (xs (i + 1)) h2) rfl mw_X11_feed wd_1274 rfl rfl rfl rfl rfl rfl rfl dL_law_369 (fun _ => ?_)
  exact a_icmp_eq C 1528 dL_law_372 (by decide) (fun _ => kk M2 h3) (fun h => absurd rfl h)
theorem lc_5 (C : Cx X RL cL_law 500) (hs : Sc X b L xs) (hL : L ≤ 3072) (hi : i + 6 ≤ L) (hI : Inv M) (kk : ∀ M2, Inv M2 → WA X M2 (lvL X b i) 1528 []) : WA X M (lvL X b i) 377 [] := by
  obtain ⟨r, M1, M2, h1, h2, h3⟩ := s_law M hI
  refine a_aload_n C dL_law_377 rfl 2 rfl ?_
  refine a_callVI C [] (ok_fSh_law X.l X.N M  h1) rfl mw_X10_law wd_561 rfl rfl rfl rfl rfl rfl rfl dL_law_378 (fun _ => ?_)
  refine a_aload_n C dL_law_381 rfl 1 rfl ?_
  refine a_callVI C [] (ok_fMd_law X.l X.N M1  h2) rfl mw_X11_law wd_1278 rfl rfl rfl rfl rfl rfl rfl dL_law_382 (fun _ => ?_)
  exact a_icmp_eq C 1528 dL_law_385 (by decide) (fun _ => kk M2 h3) (fun h => absurd rfl h)
theorem lc_6 (C : Cx X RL cL_law 500) (hs : Sc X b L xs) (hL : L ≤ 3072) (hi : i + 6 ≤ L) (hI : Inv M) (kk : ∀ M2, Inv M2 → WA X M2 (lvL X b i) 1528 []) : WA X M (lvL X b i) 390 [] := by
  obtain ⟨r, M1, M2, h1, h2, h3⟩ := s_runs (xs (i + 1)) M hI
  refine a_aload_n C dL_law_390 rfl 2 rfl ?_
  refine a_sc C hs hL (j := 1) (by decide) (by omega) dL_law_391 dL_law_392 dL_law_393 dL_law_394 dL_law_395 ?_
  refine a_callVI C [.int (xs (i + 1))] (ok_fSh_runs X.l X.N M (xs (i + 1)) h1) rfl mw_X10_runs wd_610 rfl rfl rfl rfl rfl rfl rfl dL_law_396 (fun _ => ?_)
  refine a_aload_n C dL_law_399 rfl 1 rfl ?_
  refine a_sc C hs hL (j := 1) (by decide) (by omega) dL_law_400 dL_law_401 dL_law_402 dL_law_403 dL_law_404 ?_
  refine a_callVI C [.int (xs (i + 1))] (ok_fMd_runs X.l X.N M1 (xs (i + 1)) h2) rfl mw_X11_runs wd_1329 rfl rfl rfl rfl rfl rfl rfl dL_law_405 (fun _ => ?_)
  exact a_icmp_eq C 1528 dL_law_408 (by decide) (fun _ => kk M2 h3) (fun h => absurd rfl h)
theorem lc_7 (C : Cx X RL cL_law 500) (hs : Sc X b L xs) (hL : L ≤ 3072) (hi : i + 6 ≤ L) (hI : Inv M) (kk : ∀ M2, Inv M2 → WA X M2 (lvL X b i) 1528 []) : WA X M (lvL X b i) 413 [] := by
  obtain ⟨r, M1, M2, h1, h2, h3⟩ := s_later (xs (i + 1)) (xs (i + 2)) (xs (i + 3)) M hI
  refine a_aload_n C dL_law_413 rfl 2 rfl ?_
  refine a_sc C hs hL (j := 1) (by decide) (by omega) dL_law_414 dL_law_415 dL_law_416 dL_law_417 dL_law_418 ?_
  refine a_sc C hs hL (j := 2) (by decide) (by omega) dL_law_419 dL_law_420 dL_law_421 dL_law_422 dL_law_423 ?_
  refine a_sc C hs hL (j := 3) (by decide) (by omega) dL_law_424 dL_law_425 dL_law_426 dL_law_427 dL_law_428 ?_
  refine a_callVI C [.int (xs (i + 1)), .int (xs (i + 2)), .int (xs (i + 3))] (ok_fSh_later X.l X.N M (xs (i + 1)) (xs (i + 2)) (xs (i + 3)) h1) rfl mw_X10_later wd_654 rfl rfl rfl rfl rfl rfl rfl dL_law_429 (fun _ => ?_)
  refine a_aload_n C dL_law_432 rfl 1 rfl ?_
  refine a_sc C hs hL (j := 1) (by decide) (by omega) dL_law_433 dL_law_434 dL_law_435 dL_law_436 dL_law_437 ?_
  refine a_sc C hs hL (j := 2) (by decide) (by omega) dL_law_438 dL_law_439 dL_law_440 dL_law_441 dL_law_442 ?_
  refine a_sc C hs hL (j := 3) (by decide) (by omega) dL_law_443 dL_law_444 dL_law_445 dL_law_446 dL_law_447 ?_
  refine a_callVI C [.int (xs (i + 1)), .int (xs (i + 2)), .int (xs (i + 3))] (ok_fMd_later X.l X.N M1 (xs (i + 1)) (xs (i + 2)) (xs (i + 3)) h2) rfl mw_X11_later wd_1361 rfl rfl rfl rfl rfl rfl rfl dL_law_448 (fun _ => ?_)
  exact a_icmp_eq C 1528 dL_law_451 (by decide) (fun _ => kk M2 h3) (fun h => absurd rfl h)
theorem lc_8 (C : Cx X RL cL_law 500) (hs : Sc X b L xs) (hL : L ≤ 3072) (hi : i + 6 ≤ L) (hI : Inv M) (kk : ∀ M2, Inv M2 → WA X M2 (lvL X b i) 1528 []) : WA X M (lvL X b i) 456 [] := by
  obtain ⟨r, M1, M2, h1, h2, h3⟩ := s_all (xs (i + 1)) (xs (i + 2)) M hI
  refine a_aload_n C dL_law_456 rfl 2 rfl ?_
  refine a_sc C hs hL (j := 1) (by decide) (by omega) dL_law_457 dL_law_458 dL_law_459 dL_law_460 dL_law_461 ?_
  refine a_sc C hs hL (j := 2) (by decide) (by omega) dL_law_462 dL_law_463 dL_law_464 dL_law_465 dL_law_466 ?_
  refine a_callVI C [.int (xs (i + 1)), .int (xs (i + 2))] (ok_fSh_all X.l X.N M (xs (i + 1)) (xs (i + 2)) h1) rfl mw_X10_all wd_692 rfl rfl rfl rfl rfl rfl rfl dL_law_467 (fun _ => ?_)
  refine a_aload_n C dL_law_470 rfl 1 rfl ?_
  refine a_sc C hs hL (j := 1) (by decide) (by omega) dL_law_471 dL_law_472 dL_law_473 dL_law_474 dL_law_475 ?_
  refine a_sc C hs hL (j := 2) (by decide) (by omega) dL_law_476 dL_law_477 dL_law_478 dL_law_479 dL_law_480 ?_
  refine a_callVI C [.int (xs (i + 1)), .int (xs (i + 2))] (ok_fMd_all X.l X.N M1 (xs (i + 1)) (xs (i + 2)) h2) rfl mw_X11_all wd_1388 rfl rfl rfl rfl rfl rfl rfl dL_law_481 (fun _ => ?_)
  exact a_icmp_eq C 1528 dL_law_484 (by decide) (fun _ => kk M2 h3) (fun h => absurd rfl h)
theorem lc_9 (C : Cx X RL cL_law 500) (hs : Sc X b L xs) (hL : L ≤ 3072) (hi : i + 6 ≤ L) (hI : Inv M) (kk : ∀ M2, Inv M2 → WA X M2 (lvL X b i) 1528 []) : WA X M (lvL X b i) 489 [] := by
  obtain ⟨r, M1, M2, h1, h2, h3⟩ := s_still M hI
  refine a_aload_n C dL_law_489 rfl 2 rfl ?_
  refine a_callVI C [] (ok_fSh_still X.l X.N M  h1) rfl mw_X10_still wd_704 rfl rfl rfl rfl rfl rfl rfl dL_law_490 (fun _ => ?_)
  refine a_aload_n C dL_law_493 rfl 1 rfl ?_
  refine a_callVI C [] (ok_fMd_still X.l X.N M1  h2) rfl mw_X11_still wd_1400 rfl rfl rfl rfl rfl rfl rfl dL_law_494 (fun _ => ?_)
  exact a_icmp_eq C 1528 dL_law_497 (by decide) (fun _ => kk M2 h3) (fun h => absurd rfl h)
theorem lc_10 (C : Cx X RL cL_law 500) (hs : Sc X b L xs) (hL : L ≤ 3072) (hi : i + 6 ≤ L) (hI : Inv M) (kk : ∀ M2, Inv M2 → WA X M2 (lvL X b i) 1528 []) : WA X M (lvL X b i) 502 [] := by
  obtain ⟨r, M1, M2, h1, h2, h3⟩ := s_rich (xs (i + 1)) (xs (i + 2)) M hI
  refine a_aload_n C dL_law_502 rfl 2 rfl ?_
  refine a_sc C hs hL (j := 1) (by decide) (by omega) dL_law_503 dL_law_504 dL_law_505 dL_law_506 dL_law_507 ?_
  refine a_sc C hs hL (j := 2) (by decide) (by omega) dL_law_508 dL_law_509 dL_law_510 dL_law_511 dL_law_512 ?_
  refine a_callVI C [.int (xs (i + 1)), .int (xs (i + 2))] (ok_fSh_rich X.l X.N M (xs (i + 1)) (xs (i + 2)) h1) rfl mw_X10_rich wd_712 rfl rfl rfl rfl rfl rfl rfl dL_law_513 (fun _ => ?_)
  refine a_aload_n C dL_law_516 rfl 1 rfl ?_
  refine a_sc C hs hL (j := 1) (by decide) (by omega) dL_law_517 dL_law_518 dL_law_519 dL_law_520 dL_law_521 ?_
  refine a_sc C hs hL (j := 2) (by decide) (by omega) dL_law_522 dL_law_523 dL_law_524 dL_law_525 dL_law_526 ?_
  refine a_callVI C [.int (xs (i + 1)), .int (xs (i + 2))] (ok_fMd_rich X.l X.N M1 (xs (i + 1)) (xs (i + 2)) h2) rfl mw_X11_rich wd_1408 rfl rfl rfl rfl rfl rfl rfl dL_law_527 (fun _ => ?_)
  exact a_icmp_eq C 1528 dL_law_530 (by decide) (fun _ => kk M2 h3) (fun h => absurd rfl h)
theorem lc_11 (C : Cx X RL cL_law 500) (hs : Sc X b L xs) (hL : L ≤ 3072) (hi : i + 6 ≤ L) (hI : Inv M) (kk : ∀ M2, Inv M2 → WA X M2 (lvL X b i) 1528 []) : WA X M (lvL X b i) 535 [] := by
  obtain ⟨r, h1, h2⟩ := s_sink (xs (i + 1)) (xs (i + 2)) M hI
  refine a_aload_n C dL_law_535 rfl 2 rfl ?_
  refine a_sc C hs hL (j := 1) (by decide) (by omega) dL_law_536 dL_law_537 dL_law_538 dL_law_539 dL_law_540 ?_
  refine a_sc C hs hL (j := 2) (by decide) (by omega) dL_law_541 dL_law_542 dL_law_543 dL_law_544 dL_law_545 ?_
  refine a_callVI C [.int (xs (i + 1)), .int (xs (i + 2))] (ok_fSh_sink X.l X.N M (xs (i + 1)) (xs (i + 2)) h1) rfl mw_X10_sink wd_720 rfl rfl rfl rfl rfl rfl rfl dL_law_546 (fun _ => ?_)
  refine a_aload_n C dL_law_549 rfl 1 rfl ?_
  refine a_sc C hs hL (j := 1) (by decide) (by omega) dL_law_550 dL_law_551 dL_law_552 dL_law_553 dL_law_554 ?_
  refine a_sc C hs hL (j := 2) (by decide) (by omega) dL_law_555 dL_law_556 dL_law_557 dL_law_558 dL_law_559 ?_
  refine a_callVI C [.int (xs (i + 1)), .int (xs (i + 2))] (ok_fMd_sink X.l X.N M (xs (i + 1)) (xs (i + 2)) h2) rfl mw_X11_sink wd_1412 rfl rfl rfl rfl rfl rfl rfl dL_law_560 (fun _ => ?_)
  exact a_icmp_eq C 1528 dL_law_563 (by decide) (fun _ => kk M hI) (fun h => absurd rfl h)
theorem lc_12 (C : Cx X RL cL_law 500) (hs : Sc X b L xs) (hL : L ≤ 3072) (hi : i + 6 ≤ L) (hI : Inv M) (kk : ∀ M2, Inv M2 → WA X M2 (lvL X b i) 1528 []) : WA X M (lvL X b i) 568 [] := by
  obtain ⟨r, h1, h2⟩ := s_basin (xs (i + 1)) M hI
  refine a_aload_n C dL_law_568 rfl 2 rfl ?_
  refine a_sc C hs hL (j := 1) (by decide) (by omega) dL_law_569 dL_law_570 dL_law_571 dL_law_572 dL_law_573 ?_
  refine a_callVL C [.int (xs (i + 1))] (ok_fSh_basin X.l X.N M (xs (i + 1)) h1) rfl mw_X10_basin wd_733 rfl rfl rfl rfl rfl rfl rfl dL_law_574 ?_
  refine a_aload_n C dL_law_577 rfl 1 rfl ?_
  refine a_sc C hs hL (j := 1) (by decide) (by omega) dL_law_578 dL_law_579 dL_law_580 dL_law_581 dL_law_582 ?_
  refine a_callVL C [.int (xs (i + 1))] (ok_fMd_basin X.l X.N M (xs (i + 1)) h2) rfl mw_X11_basin wd_1416 rfl rfl rfl rfl rfl rfl rfl dL_law_583 ?_
  refine a_lcmp C dL_law_586 ?_
  exact a_if_eq C 1528 dL_law_587 (by decide) (fun _ => kk M hI) (fun h => absurd (lg_self r) h)
theorem lc_13 (C : Cx X RL cL_law 500) (hs : Sc X b L xs) (hL : L ≤ 3072) (hi : i + 6 ≤ L) (hI : Inv M) (kk : ∀ M2, Inv M2 → WA X M2 (lvL X b i) 1528 []) : WA X M (lvL X b i) 592 [] := by
  obtain ⟨r, M1, M2, h1, h2, h3⟩ := s_fall (xs (i + 1)) (xs (i + 2)) (xs (i + 3)) M hI
  refine a_aload_n C dL_law_592 rfl 2 rfl ?_
  refine a_sc C hs hL (j := 1) (by decide) (by omega) dL_law_593 dL_law_594 dL_law_595 dL_law_596 dL_law_597 ?_
  refine a_sc C hs hL (j := 2) (by decide) (by omega) dL_law_598 dL_law_599 dL_law_600 dL_law_601 dL_law_602 ?_
  refine a_sc C hs hL (j := 3) (by decide) (by omega) dL_law_603 dL_law_604 dL_law_605 dL_law_606 dL_law_607 ?_
  refine a_callVI C [.int (xs (i + 1)), .int (xs (i + 2)), .int (xs (i + 3))] (ok_fSh_fall X.l X.N M (xs (i + 1)) (xs (i + 2)) (xs (i + 3)) h1) rfl mw_X10_fall wd_750 rfl rfl rfl rfl rfl rfl rfl dL_law_608 (fun _ => ?_)
  refine a_aload_n C dL_law_611 rfl 1 rfl ?_
  refine a_sc C hs hL (j := 1) (by decide) (by omega) dL_law_612 dL_law_613 dL_law_614 dL_law_615 dL_law_616 ?_
  refine a_sc C hs hL (j := 2) (by decide) (by omega) dL_law_617 dL_law_618 dL_law_619 dL_law_620 dL_law_621 ?_
  refine a_sc C hs hL (j := 3) (by decide) (by omega) dL_law_622 dL_law_623 dL_law_624 dL_law_625 dL_law_626 ?_
  refine a_callVI C [.int (xs (i + 1)), .int (xs (i + 2)), .int (xs (i + 3))] (ok_fMd_fall X.l X.N M1 (xs (i + 1)) (xs (i + 2)) (xs (i + 3)) h2) rfl mw_X11_fall wd_1425 rfl rfl rfl rfl rfl rfl rfl dL_law_627 (fun _ => ?_)
  exact a_icmp_eq C 1528 dL_law_630 (by decide) (fun _ => kk M2 h3) (fun h => absurd rfl h)
theorem lc_14 (C : Cx X RL cL_law 500) (hs : Sc X b L xs) (hL : L ≤ 3072) (hi : i + 6 ≤ L) (hI : Inv M) (kk : ∀ M2, Inv M2 → WA X M2 (lvL X b i) 1528 []) : WA X M (lvL X b i) 635 [] := by
  obtain ⟨r, M1, M2, h1, h2, h3⟩ := s_shoes (xs (i + 1)) (xs (i + 2)) (xs (i + 3)) M hI
  refine a_aload_n C dL_law_635 rfl 2 rfl ?_
  refine a_sc C hs hL (j := 1) (by decide) (by omega) dL_law_636 dL_law_637 dL_law_638 dL_law_639 dL_law_640 ?_
  refine a_sc C hs hL (j := 2) (by decide) (by omega) dL_law_641 dL_law_642 dL_law_643 dL_law_644 dL_law_645 ?_
  refine a_sc C hs hL (j := 3) (by decide) (by omega) dL_law_646 dL_law_647 dL_law_648 dL_law_649 dL_law_650 ?_
  refine a_callVI C [.int (xs (i + 1)), .int (xs (i + 2)), .int (xs (i + 3))] (ok_fSh_shoes X.l X.N M (xs (i + 1)) (xs (i + 2)) (xs (i + 3)) h1) rfl mw_X10_shoes wd_769 rfl rfl rfl rfl rfl rfl rfl dL_law_651 (fun _ => ?_)
  refine a_aload_n C dL_law_654 rfl 1 rfl ?_
  refine a_sc C hs hL (j := 1) (by decide) (by omega) dL_law_655 dL_law_656 dL_law_657 dL_law_658 dL_law_659 ?_
  refine a_sc C hs hL (j := 2) (by decide) (by omega) dL_law_660 dL_law_661 dL_law_662 dL_law_663 dL_law_664 ?_
  refine a_sc C hs hL (j := 3) (by decide) (by omega) dL_law_665 dL_law_666 dL_law_667 dL_law_668 dL_law_669 ?_
  refine a_callVI C [.int (xs (i + 1)), .int (xs (i + 2)), .int (xs (i + 3))] (ok_fMd_shoes X.l X.N M1 (xs (i + 1)) (xs (i + 2)) (xs (i + 3)) h2) rfl mw_X11_shoes wd_1434 rfl rfl rfl rfl rfl rfl rfl dL_law_670 (fun _ => ?_)
  exact a_icmp_eq C 1528 dL_law_673 (by decide) (fun _ => kk M2 h3) (fun h => absurd rfl h)
theorem lc_15 (C : Cx X RL cL_law 500) (hs : Sc X b L xs) (hL : L ≤ 3072) (hi : i + 6 ≤ L) (hI : Inv M) (kk : ∀ M2, Inv M2 → WA X M2 (lvL X b i) 1528 []) : WA X M (lvL X b i) 678 [] := by
  obtain ⟨r, M1, M2, h1, h2, h3⟩ := s_seat (xs (i + 1)) (xs (i + 2)) (xs (i + 3)) M hI
  refine a_aload_n C dL_law_678 rfl 2 rfl ?_
  refine a_sc C hs hL (j := 1) (by decide) (by omega) dL_law_679 dL_law_680 dL_law_681 dL_law_682 dL_law_683 ?_
  refine a_sc C hs hL (j := 2) (by decide) (by omega) dL_law_684 dL_law_685 dL_law_686 dL_law_687 dL_law_688 ?_
  refine a_sc C hs hL (j := 3) (by decide) (by omega) dL_law_689 dL_law_690 dL_law_691 dL_law_692 dL_law_693 ?_
  refine a_callVI C [.int (xs (i + 1)), .int (xs (i + 2)), .int (xs (i + 3))] (ok_fSh_seat X.l X.N M (xs (i + 1)) (xs (i + 2)) (xs (i + 3)) h1) rfl mw_X10_seat wd_789 rfl rfl rfl rfl rfl rfl rfl dL_law_694 (fun _ => ?_)
  refine a_aload_n C dL_law_697 rfl 1 rfl ?_
  refine a_sc C hs hL (j := 1) (by decide) (by omega) dL_law_698 dL_law_699 dL_law_700 dL_law_701 dL_law_702 ?_
  refine a_sc C hs hL (j := 2) (by decide) (by omega) dL_law_703 dL_law_704 dL_law_705 dL_law_706 dL_law_707 ?_
  refine a_sc C hs hL (j := 3) (by decide) (by omega) dL_law_708 dL_law_709 dL_law_710 dL_law_711 dL_law_712 ?_
  refine a_callVI C [.int (xs (i + 1)), .int (xs (i + 2)), .int (xs (i + 3))] (ok_fMd_seat X.l X.N M1 (xs (i + 1)) (xs (i + 2)) (xs (i + 3)) h2) rfl mw_X11_seat wd_1450 rfl rfl rfl rfl rfl rfl rfl dL_law_713 (fun _ => ?_)
  exact a_icmp_eq C 1528 dL_law_716 (by decide) (fun _ => kk M2 h3) (fun h => absurd rfl h)
theorem lc_16 (C : Cx X RL cL_law 500) (hs : Sc X b L xs) (hL : L ≤ 3072) (hi : i + 6 ≤ L) (hI : Inv M) (kk : ∀ M2, Inv M2 → WA X M2 (lvL X b i) 1528 []) : WA X M (lvL X b i) 721 [] := by
  obtain ⟨r, M1, M2, h1, h2, h3⟩ := s_judge (xs (i + 1)) (xs (i + 2)) M hI
  refine a_aload_n C dL_law_721 rfl 2 rfl ?_
  refine a_sc C hs hL (j := 1) (by decide) (by omega) dL_law_722 dL_law_723 dL_law_724 dL_law_725 dL_law_726 ?_
  refine a_sc C hs hL (j := 2) (by decide) (by omega) dL_law_727 dL_law_728 dL_law_729 dL_law_730 dL_law_731 ?_
  refine a_callVI C [.int (xs (i + 1)), .int (xs (i + 2))] (ok_fSh_judge X.l X.N M (xs (i + 1)) (xs (i + 2)) h1) rfl mw_X10_judge wd_797 rfl rfl rfl rfl rfl rfl rfl dL_law_732 (fun _ => ?_)
  refine a_aload_n C dL_law_735 rfl 1 rfl ?_
  refine a_sc C hs hL (j := 1) (by decide) (by omega) dL_law_736 dL_law_737 dL_law_738 dL_law_739 dL_law_740 ?_
  refine a_sc C hs hL (j := 2) (by decide) (by omega) dL_law_741 dL_law_742 dL_law_743 dL_law_744 dL_law_745 ?_
  refine a_callVI C [.int (xs (i + 1)), .int (xs (i + 2))] (ok_fMd_judge X.l X.N M1 (xs (i + 1)) (xs (i + 2)) h2) rfl mw_X11_judge wd_1454 rfl rfl rfl rfl rfl rfl rfl dL_law_746 (fun _ => ?_)
  exact a_icmp_eq C 1528 dL_law_749 (by decide) (fun _ => kk M2 h3) (fun h => absurd rfl h)
theorem lc_17 (C : Cx X RL cL_law 500) (hs : Sc X b L xs) (hL : L ≤ 3072) (hi : i + 6 ≤ L) (hI : Inv M) (kk : ∀ M2, Inv M2 → WA X M2 (lvL X b i) 1528 []) : WA X M (lvL X b i) 754 [] := by
  obtain ⟨r, M1, M2, h1, h2, h3⟩ := s_seen (xs (i + 1)) (xs (i + 2)) (xs (i + 3)) M hI
  refine a_aload_n C dL_law_754 rfl 2 rfl ?_
  refine a_sc C hs hL (j := 1) (by decide) (by omega) dL_law_755 dL_law_756 dL_law_757 dL_law_758 dL_law_759 ?_
  refine a_sc C hs hL (j := 2) (by decide) (by omega) dL_law_760 dL_law_761 dL_law_762 dL_law_763 dL_law_764 ?_
  refine a_sc C hs hL (j := 3) (by decide) (by omega) dL_law_765 dL_law_766 dL_law_767 dL_law_768 dL_law_769 ?_
  refine a_callVI C [.int (xs (i + 1)), .int (xs (i + 2)), .int (xs (i + 3))] (ok_fSh_seen X.l X.N M (xs (i + 1)) (xs (i + 2)) (xs (i + 3)) h1) rfl mw_X10_seen wd_816 rfl rfl rfl rfl rfl rfl rfl dL_law_770 (fun _ => ?_)
  refine a_aload_n C dL_law_773 rfl 1 rfl ?_
  refine a_sc C hs hL (j := 1) (by decide) (by omega) dL_law_774 dL_law_775 dL_law_776 dL_law_777 dL_law_778 ?_
  refine a_sc C hs hL (j := 2) (by decide) (by omega) dL_law_779 dL_law_780 dL_law_781 dL_law_782 dL_law_783 ?_
  refine a_sc C hs hL (j := 3) (by decide) (by omega) dL_law_784 dL_law_785 dL_law_786 dL_law_787 dL_law_788 ?_
  refine a_callVI C [.int (xs (i + 1)), .int (xs (i + 2)), .int (xs (i + 3))] (ok_fMd_seen X.l X.N M1 (xs (i + 1)) (xs (i + 2)) (xs (i + 3)) h2) rfl mw_X11_seen wd_1466 rfl rfl rfl rfl rfl rfl rfl dL_law_789 (fun _ => ?_)
  exact a_icmp_eq C 1528 dL_law_792 (by decide) (fun _ => kk M2 h3) (fun h => absurd rfl h)
theorem lc_18 (C : Cx X RL cL_law 500) (hs : Sc X b L xs) (hL : L ≤ 3072) (hi : i + 6 ≤ L) (hI : Inv M) (kk : ∀ M2, Inv M2 → WA X M2 (lvL X b i) 1528 []) : WA X M (lvL X b i) 797 [] := by
  obtain ⟨r, M1, M2, h1, h2, h3⟩ := s_bets (xs (i + 1)) (xs (i + 2)) M hI
  have g2 : (fMd_bets M1 (xs (i + 1)) (xs (i + 2))).map (fun r => (r, M1)) = some (r, M2) := h2
  obtain ⟨r2, h4, g3⟩ := Option.map_eq_some_iff.mp g2
  cases g3
  refine a_aload_n C dL_law_797 rfl 2 rfl ?_
  refine a_sc C hs hL (j := 1) (by decide) (by omega) dL_law_798 dL_law_799 dL_law_800 dL_law_801 dL_law_802 ?_
  refine a_sc C hs hL (j := 2) (by decide) (by omega) dL_law_803 dL_law_804 dL_law_805 dL_law_806 dL_law_807 ?_
  refine a_callVI C [.int (xs (i + 1)), .int (xs (i + 2))] (ok_fSh_bets X.l X.N M (xs (i + 1)) (xs (i + 2)) h1) rfl mw_X10_bets wd_830 rfl rfl rfl rfl rfl rfl rfl dL_law_808 (fun _ => ?_)
  refine a_aload_n C dL_law_811 rfl 1 rfl ?_
  refine a_sc C hs hL (j := 1) (by decide) (by omega) dL_law_812 dL_law_813 dL_law_814 dL_law_815 dL_law_816 ?_
  refine a_sc C hs hL (j := 2) (by decide) (by omega) dL_law_817 dL_law_818 dL_law_819 dL_law_820 dL_law_821 ?_
  refine a_callVI C [.int (xs (i + 1)), .int (xs (i + 2))] (ok_fMd_bets X.l X.N M1 (xs (i + 1)) (xs (i + 2)) h4) rfl mw_X11_bets wd_1478 rfl rfl rfl rfl rfl rfl rfl dL_law_822 (fun _ => ?_)
  exact a_icmp_eq C 1528 dL_law_825 (by decide) (fun _ => kk M1 h3) (fun h => absurd rfl h)
theorem lc_19 (C : Cx X RL cL_law 500) (hs : Sc X b L xs) (hL : L ≤ 3072) (hi : i + 6 ≤ L) (hI : Inv M) (kk : ∀ M2, Inv M2 → WA X M2 (lvL X b i) 1528 []) : WA X M (lvL X b i) 830 [] := by
  obtain ⟨r, M1, M2, h1, h2, h3⟩ := s_margin (xs (i + 1)) (xs (i + 2)) M hI
  have g2 : (fMd_margin M1 (xs (i + 1)) (xs (i + 2))).map (fun r => (r, M1)) = some (r, M2) := h2
  obtain ⟨r2, h4, g3⟩ := Option.map_eq_some_iff.mp g2
  cases g3
  refine a_aload_n C dL_law_830 rfl 2 rfl ?_
  refine a_sc C hs hL (j := 1) (by decide) (by omega) dL_law_831 dL_law_832 dL_law_833 dL_law_834 dL_law_835 ?_
  refine a_sc C hs hL (j := 2) (by decide) (by omega) dL_law_836 dL_law_837 dL_law_838 dL_law_839 dL_law_840 ?_
  refine a_callVL C [.int (xs (i + 1)), .int (xs (i + 2))] (ok_fSh_margin X.l X.N M (xs (i + 1)) (xs (i + 2)) h1) rfl mw_X10_margin wd_852 rfl rfl rfl rfl rfl rfl rfl dL_law_841 ?_
  refine a_aload_n C dL_law_844 rfl 1 rfl ?_
  refine a_sc C hs hL (j := 1) (by decide) (by omega) dL_law_845 dL_law_846 dL_law_847 dL_law_848 dL_law_849 ?_
  refine a_sc C hs hL (j := 2) (by decide) (by omega) dL_law_850 dL_law_851 dL_law_852 dL_law_853 dL_law_854 ?_
  refine a_callVL C [.int (xs (i + 1)), .int (xs (i + 2))] (ok_fMd_margin X.l X.N M1 (xs (i + 1)) (xs (i + 2)) h4) rfl mw_X11_margin wd_1498 rfl rfl rfl rfl rfl rfl rfl dL_law_855 ?_
  refine a_lcmp C dL_law_858 ?_
  exact a_if_eq C 1528 dL_law_859 (by decide) (fun _ => kk M1 h3) (fun h => absurd (lg_self r) h)
theorem lc_20 (C : Cx X RL cL_law 500) (hs : Sc X b L xs) (hL : L ≤ 3072) (hi : i + 6 ≤ L) (hI : Inv M) (kk : ∀ M2, Inv M2 → WA X M2 (lvL X b i) 1528 []) : WA X M (lvL X b i) 864 [] := by
  obtain ⟨r, M1, M2, h1, h2, h3⟩ := s_byTurns (xs (i + 1)) (xs (i + 2)) (xs (i + 3)) M hI
  refine a_aload_n C dL_law_864 rfl 2 rfl ?_
  refine a_sc C hs hL (j := 1) (by decide) (by omega) dL_law_865 dL_law_866 dL_law_867 dL_law_868 dL_law_869 ?_
  refine a_sc C hs hL (j := 2) (by decide) (by omega) dL_law_870 dL_law_871 dL_law_872 dL_law_873 dL_law_874 ?_
  refine a_sc C hs hL (j := 3) (by decide) (by omega) dL_law_875 dL_law_876 dL_law_877 dL_law_878 dL_law_879 ?_
  refine a_callVI C [.int (xs (i + 1)), .int (xs (i + 2)), .int (xs (i + 3))] (ok_fSh_byTurns X.l X.N M (xs (i + 1)) (xs (i + 2)) (xs (i + 3)) h1) rfl mw_X10_byTurns wd_856 rfl rfl rfl rfl rfl rfl rfl dL_law_880 (fun _ => ?_)
  refine a_aload_n C dL_law_883 rfl 1 rfl ?_
  refine a_sc C hs hL (j := 1) (by decide) (by omega) dL_law_884 dL_law_885 dL_law_886 dL_law_887 dL_law_888 ?_
  refine a_sc C hs hL (j := 2) (by decide) (by omega) dL_law_889 dL_law_890 dL_law_891 dL_law_892 dL_law_893 ?_
  refine a_sc C hs hL (j := 3) (by decide) (by omega) dL_law_894 dL_law_895 dL_law_896 dL_law_897 dL_law_898 ?_
  refine a_callVI C [.int (xs (i + 1)), .int (xs (i + 2)), .int (xs (i + 3))] (ok_fMd_byTurns X.l X.N M1 (xs (i + 1)) (xs (i + 2)) (xs (i + 3)) h2) rfl mw_X11_byTurns wd_1502 rfl rfl rfl rfl rfl rfl rfl dL_law_899 (fun _ => ?_)
  exact a_icmp_eq C 1528 dL_law_902 (by decide) (fun _ => kk M2 h3) (fun h => absurd rfl h)
theorem lc_21 (C : Cx X RL cL_law 500) (hs : Sc X b L xs) (hL : L ≤ 3072) (hi : i + 6 ≤ L) (hI : Inv M) (kk : ∀ M2, Inv M2 → WA X M2 (lvL X b i) 1528 []) : WA X M (lvL X b i) 907 [] := by
  obtain ⟨r, M1, M2, h1, h2, h3⟩ := s_drawn (xs (i + 1)) (xs (i + 2)) (xs (i + 3)) M hI
  refine a_aload_n C dL_law_907 rfl 2 rfl ?_
  refine a_sc C hs hL (j := 1) (by decide) (by omega) dL_law_908 dL_law_909 dL_law_910 dL_law_911 dL_law_912 ?_
  refine a_sc C hs hL (j := 2) (by decide) (by omega) dL_law_913 dL_law_914 dL_law_915 dL_law_916 dL_law_917 ?_
  refine a_sc C hs hL (j := 3) (by decide) (by omega) dL_law_918 dL_law_919 dL_law_920 dL_law_921 dL_law_922 ?_
  refine a_callVI C [.int (xs (i + 1)), .int (xs (i + 2)), .int (xs (i + 3))] (ok_fSh_drawn X.l X.N M (xs (i + 1)) (xs (i + 2)) (xs (i + 3)) h1) rfl mw_X10_drawn wd_879 rfl rfl rfl rfl rfl rfl rfl dL_law_923 (fun _ => ?_)
  refine a_aload_n C dL_law_926 rfl 1 rfl ?_
  refine a_sc C hs hL (j := 1) (by decide) (by omega) dL_law_927 dL_law_928 dL_law_929 dL_law_930 dL_law_931 ?_
  refine a_sc C hs hL (j := 2) (by decide) (by omega) dL_law_932 dL_law_933 dL_law_934 dL_law_935 dL_law_936 ?_
  refine a_sc C hs hL (j := 3) (by decide) (by omega) dL_law_937 dL_law_938 dL_law_939 dL_law_940 dL_law_941 ?_
  refine a_callVI C [.int (xs (i + 1)), .int (xs (i + 2)), .int (xs (i + 3))] (ok_fMd_drawn X.l X.N M1 (xs (i + 1)) (xs (i + 2)) (xs (i + 3)) h2) rfl mw_X11_drawn wd_1518 rfl rfl rfl rfl rfl rfl rfl dL_law_942 (fun _ => ?_)
  exact a_icmp_eq C 1528 dL_law_945 (by decide) (fun _ => kk M2 h3) (fun h => absurd rfl h)
theorem lc_22 (C : Cx X RL cL_law 500) (hs : Sc X b L xs) (hL : L ≤ 3072) (hi : i + 6 ≤ L) (hI : Inv M) (kk : ∀ M2, Inv M2 → WA X M2 (lvL X b i) 1528 []) : WA X M (lvL X b i) 950 [] := by
  obtain ⟨r, M1, M2, h1, h2, h3⟩ := s_hour M hI
  refine a_aload_n C dL_law_950 rfl 2 rfl ?_
  refine a_callVI C [] (ok_fSh_hour X.l X.N M  h1) rfl mw_X10_hour wd_896 rfl rfl rfl rfl rfl rfl rfl dL_law_951 (fun _ => ?_)
  refine a_aload_n C dL_law_954 rfl 1 rfl ?_
  refine a_callVI C [] (ok_fMd_hour X.l X.N M1  h2) rfl mw_X11_hour wd_1523 rfl rfl rfl rfl rfl rfl rfl dL_law_955 (fun _ => ?_)
  exact a_icmp_eq C 1528 dL_law_958 (by decide) (fun _ => kk M2 h3) (fun h => absurd rfl h)
theorem lc_23 (C : Cx X RL cL_law 500) (hs : Sc X b L xs) (hL : L ≤ 3072) (hi : i + 6 ≤ L) (hI : Inv M) (kk : ∀ M2, Inv M2 → WA X M2 (lvL X b i) 1528 []) : WA X M (lvL X b i) 963 [] := by
  obtain ⟨r, M1, M2, h1, h2, h3⟩ := s_pour (xs (i + 1)) (xs (i + 2)) M hI
  refine a_aload_n C dL_law_963 rfl 2 rfl ?_
  refine a_sc C hs hL (j := 1) (by decide) (by omega) dL_law_964 dL_law_965 dL_law_966 dL_law_967 dL_law_968 ?_
  refine a_sc C hs hL (j := 2) (by decide) (by omega) dL_law_969 dL_law_970 dL_law_971 dL_law_972 dL_law_973 ?_
  refine a_callVI C [.int (xs (i + 1)), .int (xs (i + 2))] (ok_fSh_pour X.l X.N M (xs (i + 1)) (xs (i + 2)) h1) rfl mw_X10_pour wd_901 rfl rfl rfl rfl rfl rfl rfl dL_law_974 (fun _ => ?_)
  refine a_aload_n C dL_law_977 rfl 1 rfl ?_
  refine a_sc C hs hL (j := 1) (by decide) (by omega) dL_law_978 dL_law_979 dL_law_980 dL_law_981 dL_law_982 ?_
  refine a_sc C hs hL (j := 2) (by decide) (by omega) dL_law_983 dL_law_984 dL_law_985 dL_law_986 dL_law_987 ?_
  refine a_callVI C [.int (xs (i + 1)), .int (xs (i + 2))] (ok_fMd_pour X.l X.N M1 (xs (i + 1)) (xs (i + 2)) h2) rfl mw_X11_pour wd_1527 rfl rfl rfl rfl rfl rfl rfl dL_law_988 (fun _ => ?_)
  exact a_icmp_eq C 1528 dL_law_991 (by decide) (fun _ => kk M2 h3) (fun h => absurd rfl h)
theorem lc_24 (C : Cx X RL cL_law 500) (hs : Sc X b L xs) (hL : L ≤ 3072) (hi : i + 6 ≤ L) (hI : Inv M) (kk : ∀ M2, Inv M2 → WA X M2 (lvL X b i) 1528 []) : WA X M (lvL X b i) 996 [] := by
  obtain ⟨r, M1, M2, h1, h2, h3⟩ := s_hang (xs (i + 1)) (xs (i + 2)) M hI
  refine a_aload_n C dL_law_996 rfl 2 rfl ?_
  refine a_sc C hs hL (j := 1) (by decide) (by omega) dL_law_997 dL_law_998 dL_law_999 dL_law_1000 dL_law_1001 ?_
  refine a_sc C hs hL (j := 2) (by decide) (by omega) dL_law_1002 dL_law_1003 dL_law_1004 dL_law_1005 dL_law_1006 ?_
  refine a_callVI C [.int (xs (i + 1)), .int (xs (i + 2))] (ok_fSh_hang X.l X.N M (xs (i + 1)) (xs (i + 2)) h1) rfl mw_X10_hang wd_906 rfl rfl rfl rfl rfl rfl rfl dL_law_1007 (fun _ => ?_)
  refine a_aload_n C dL_law_1010 rfl 1 rfl ?_
  refine a_sc C hs hL (j := 1) (by decide) (by omega) dL_law_1011 dL_law_1012 dL_law_1013 dL_law_1014 dL_law_1015 ?_
  refine a_sc C hs hL (j := 2) (by decide) (by omega) dL_law_1016 dL_law_1017 dL_law_1018 dL_law_1019 dL_law_1020 ?_
  refine a_callVI C [.int (xs (i + 1)), .int (xs (i + 2))] (ok_fMd_hang X.l X.N M1 (xs (i + 1)) (xs (i + 2)) h2) rfl mw_X11_hang wd_1531 rfl rfl rfl rfl rfl rfl rfl dL_law_1021 (fun _ => ?_)
  exact a_icmp_eq C 1528 dL_law_1024 (by decide) (fun _ => kk M2 h3) (fun h => absurd rfl h)
theorem lc_25 (C : Cx X RL cL_law 500) (hs : Sc X b L xs) (hL : L ≤ 3072) (hi : i + 6 ≤ L) (hI : Inv M) (kk : ∀ M2, Inv M2 → WA X M2 (lvL X b i) 1528 []) : WA X M (lvL X b i) 1029 [] := by
  obtain ⟨r, M1, M2, h1, h2, h3⟩ := s_moves (xs (i + 1)) (xs (i + 2)) M hI
  refine a_aload_n C dL_law_1029 rfl 2 rfl ?_
  refine a_sc C hs hL (j := 1) (by decide) (by omega) dL_law_1030 dL_law_1031 dL_law_1032 dL_law_1033 dL_law_1034 ?_
  refine a_sc C hs hL (j := 2) (by decide) (by omega) dL_law_1035 dL_law_1036 dL_law_1037 dL_law_1038 dL_law_1039 ?_
  refine a_callVI C [.int (xs (i + 1)), .int (xs (i + 2))] (ok_fSh_moves X.l X.N M (xs (i + 1)) (xs (i + 2)) h1) rfl mw_X10_moves wd_910 rfl rfl rfl rfl rfl rfl rfl dL_law_1040 (fun _ => ?_)
  refine a_aload_n C dL_law_1043 rfl 1 rfl ?_
  refine a_sc C hs hL (j := 1) (by decide) (by omega) dL_law_1044 dL_law_1045 dL_law_1046 dL_law_1047 dL_law_1048 ?_
  refine a_sc C hs hL (j := 2) (by decide) (by omega) dL_law_1049 dL_law_1050 dL_law_1051 dL_law_1052 dL_law_1053 ?_
  refine a_callVI C [.int (xs (i + 1)), .int (xs (i + 2))] (ok_fMd_moves X.l X.N M1 (xs (i + 1)) (xs (i + 2)) h2) rfl mw_X11_moves wd_1535 rfl rfl rfl rfl rfl rfl rfl dL_law_1054 (fun _ => ?_)
  exact a_icmp_eq C 1528 dL_law_1057 (by decide) (fun _ => kk M2 h3) (fun h => absurd rfl h)
theorem lc_26 (C : Cx X RL cL_law 500) (hs : Sc X b L xs) (hL : L ≤ 3072) (hi : i + 6 ≤ L) (hI : Inv M) (kk : ∀ M2, Inv M2 → WA X M2 (lvL X b i) 1528 []) : WA X M (lvL X b i) 1062 [] := by
  obtain ⟨r, h1, h2⟩ := s_led (xs (i + 1)) M hI
  refine a_aload_n C dL_law_1062 rfl 2 rfl ?_
  refine a_sc C hs hL (j := 1) (by decide) (by omega) dL_law_1063 dL_law_1064 dL_law_1065 dL_law_1066 dL_law_1067 ?_
  refine a_callVI C [.int (xs (i + 1))] (ok_fSh_led X.l X.N M (xs (i + 1)) h1) rfl mw_X10_led wd_914 rfl rfl rfl rfl rfl rfl rfl dL_law_1068 (fun _ => ?_)
  refine a_aload_n C dL_law_1071 rfl 1 rfl ?_
  refine a_sc C hs hL (j := 1) (by decide) (by omega) dL_law_1072 dL_law_1073 dL_law_1074 dL_law_1075 dL_law_1076 ?_
  refine a_callVI C [.int (xs (i + 1))] (ok_fMd_led X.l X.N M (xs (i + 1)) h2) rfl mw_X11_led wd_1539 rfl rfl rfl rfl rfl rfl rfl dL_law_1077 (fun _ => ?_)
  exact a_icmp_eq C 1528 dL_law_1080 (by decide) (fun _ => kk M hI) (fun h => absurd rfl h)
theorem lc_27 (C : Cx X RL cL_law 500) (hs : Sc X b L xs) (hL : L ≤ 3072) (hi : i + 6 ≤ L) (hI : Inv M) (kk : ∀ M2, Inv M2 → WA X M2 (lvL X b i) 1528 []) : WA X M (lvL X b i) 1085 [] := by
  obtain ⟨r, M1, M2, h1, h2, h3⟩ := s_image M hI
  refine a_aload_n C dL_law_1085 rfl 2 rfl ?_
  refine a_callVI C [] (ok_fSh_image X.l X.N M  h1) rfl mw_X10_image wd_918 rfl rfl rfl rfl rfl rfl rfl dL_law_1086 (fun _ => ?_)
  refine a_aload_n C dL_law_1089 rfl 1 rfl ?_
  refine a_callVI C [] (ok_fMd_image X.l X.N M1  h2) rfl mw_X11_image wd_1543 rfl rfl rfl rfl rfl rfl rfl dL_law_1090 (fun _ => ?_)
  exact a_icmp_eq C 1528 dL_law_1093 (by decide) (fun _ => kk M2 h3) (fun h => absurd rfl h)
theorem lc_28 (C : Cx X RL cL_law 500) (hs : Sc X b L xs) (hL : L ≤ 3072) (hi : i + 6 ≤ L) (hI : Inv M) (kk : ∀ M2, Inv M2 → WA X M2 (lvL X b i) 1528 []) : WA X M (lvL X b i) 1098 [] := by
  obtain ⟨r, M1, M2, h1, h2, h3⟩ := s_back M hI
  refine a_aload_n C dL_law_1098 rfl 2 rfl ?_
  refine a_callVI C [] (ok_fSh_back X.l X.N M  h1) rfl mw_X10_back wd_924 rfl rfl rfl rfl rfl rfl rfl dL_law_1099 (fun _ => ?_)
  refine a_aload_n C dL_law_1102 rfl 1 rfl ?_
  refine a_callVI C [] (ok_fMd_back X.l X.N M1  h2) rfl mw_X11_back wd_1547 rfl rfl rfl rfl rfl rfl rfl dL_law_1103 (fun _ => ?_)
  exact a_icmp_eq C 1528 dL_law_1106 (by decide) (fun _ => kk M2 h3) (fun h => absurd rfl h)
theorem lc_29 (C : Cx X RL cL_law 500) (hs : Sc X b L xs) (hL : L ≤ 3072) (hi : i + 6 ≤ L) (hI : Inv M) (kk : ∀ M2, Inv M2 → WA X M2 (lvL X b i) 1528 []) : WA X M (lvL X b i) 1111 [] := by
  obtain ⟨r, M1, M2, h1, h2, h3⟩ := s_undo M hI
  refine a_aload_n C dL_law_1111 rfl 2 rfl ?_
  refine a_callVI C [] (ok_fSh_undo X.l X.N M  h1) rfl mw_X10_undo wd_928 rfl rfl rfl rfl rfl rfl rfl dL_law_1112 (fun _ => ?_)
  refine a_aload_n C dL_law_1115 rfl 1 rfl ?_
  refine a_callVI C [] (ok_fMd_undo X.l X.N M1  h2) rfl mw_X11_undo wd_1266 rfl rfl rfl rfl rfl rfl rfl dL_law_1116 (fun _ => ?_)
  exact a_icmp_eq C 1528 dL_law_1119 (by decide) (fun _ => kk M2 h3) (fun h => absurd rfl h)
theorem lc_30 (C : Cx X RL cL_law 500) (hs : Sc X b L xs) (hL : L ≤ 3072) (hi : i + 6 ≤ L) (hI : Inv M) (kk : ∀ M2, Inv M2 → WA X M2 (lvL X b i) 1528 []) : WA X M (lvL X b i) 1124 [] := by
  obtain ⟨r, M1, M2, h1, h2, h3⟩ := s_redo M hI
  refine a_aload_n C dL_law_1124 rfl 2 rfl ?_
  refine a_callVI C [] (ok_fSh_redo X.l X.N M  h1) rfl mw_X10_redo wd_936 rfl rfl rfl rfl rfl rfl rfl dL_law_1125 (fun _ => ?_)
  refine a_aload_n C dL_law_1128 rfl 1 rfl ?_
  refine a_callVI C [] (ok_fMd_redo X.l X.N M1  h2) rfl mw_X11_redo wd_1270 rfl rfl rfl rfl rfl rfl rfl dL_law_1129 (fun _ => ?_)
  exact a_icmp_eq C 1528 dL_law_1132 (by decide) (fun _ => kk M2 h3) (fun h => absurd rfl h)
theorem lc_31 (C : Cx X RL cL_law 500) (hs : Sc X b L xs) (hL : L ≤ 3072) (hi : i + 6 ≤ L) (hI : Inv M) (kk : ∀ M2, Inv M2 → WA X M2 (lvL X b i) 1528 []) : WA X M (lvL X b i) 1137 [] := by
  obtain ⟨r, M1, M2, h1, h2, h3⟩ := s_body (xs (i + 1)) M hI
  refine a_aload_n C dL_law_1137 rfl 2 rfl ?_
  refine a_sc C hs hL (j := 1) (by decide) (by omega) dL_law_1138 dL_law_1139 dL_law_1140 dL_law_1141 dL_law_1142 ?_
  refine a_callVI C [.int (xs (i + 1))] (ok_fSh_body X.l X.N M (xs (i + 1)) h1) rfl mw_X10_body wd_948 rfl rfl rfl rfl rfl rfl rfl dL_law_1143 (fun _ => ?_)
  refine a_aload_n C dL_law_1146 rfl 1 rfl ?_
  refine a_sc C hs hL (j := 1) (by decide) (by omega) dL_law_1147 dL_law_1148 dL_law_1149 dL_law_1150 dL_law_1151 ?_
  refine a_callVI C [.int (xs (i + 1))] (ok_fMd_body X.l X.N M1 (xs (i + 1)) h2) rfl mw_X11_body wd_1551 rfl rfl rfl rfl rfl rfl rfl dL_law_1152 (fun _ => ?_)
  exact a_icmp_eq C 1528 dL_law_1155 (by decide) (fun _ => kk M2 h3) (fun h => absurd rfl h)
theorem lc_32 (C : Cx X RL cL_law 500) (hs : Sc X b L xs) (hL : L ≤ 3072) (hi : i + 6 ≤ L) (hI : Inv M) (kk : ∀ M2, Inv M2 → WA X M2 (lvL X b i) 1528 []) : WA X M (lvL X b i) 1160 [] := by
  obtain ⟨r, M1, M2, h1, h2, h3⟩ := s_act (xs (i + 1)) (xs (i + 2)) (xs (i + 3)) M hI
  refine a_aload_n C dL_law_1160 rfl 2 rfl ?_
  refine a_sc C hs hL (j := 1) (by decide) (by omega) dL_law_1161 dL_law_1162 dL_law_1163 dL_law_1164 dL_law_1165 ?_
  refine a_sc C hs hL (j := 2) (by decide) (by omega) dL_law_1166 dL_law_1167 dL_law_1168 dL_law_1169 dL_law_1170 ?_
  refine a_sc C hs hL (j := 3) (by decide) (by omega) dL_law_1171 dL_law_1172 dL_law_1173 dL_law_1174 dL_law_1175 ?_
  refine a_callVI C [.int (xs (i + 1)), .int (xs (i + 2)), .int (xs (i + 3))] (ok_fSh_act X.l X.N M (xs (i + 1)) (xs (i + 2)) (xs (i + 3)) h1) rfl mw_X10_act wd_959 rfl rfl rfl rfl rfl rfl rfl dL_law_1176 (fun _ => ?_)
  refine a_aload_n C dL_law_1179 rfl 1 rfl ?_
  refine a_sc C hs hL (j := 1) (by decide) (by omega) dL_law_1180 dL_law_1181 dL_law_1182 dL_law_1183 dL_law_1184 ?_
  refine a_sc C hs hL (j := 2) (by decide) (by omega) dL_law_1185 dL_law_1186 dL_law_1187 dL_law_1188 dL_law_1189 ?_
  refine a_sc C hs hL (j := 3) (by decide) (by omega) dL_law_1190 dL_law_1191 dL_law_1192 dL_law_1193 dL_law_1194 ?_
  refine a_callVI C [.int (xs (i + 1)), .int (xs (i + 2)), .int (xs (i + 3))] (ok_fMd_act X.l X.N M1 (xs (i + 1)) (xs (i + 2)) (xs (i + 3)) h2) rfl mw_X11_act wd_1555 rfl rfl rfl rfl rfl rfl rfl dL_law_1195 (fun _ => ?_)
  exact a_icmp_eq C 1528 dL_law_1198 (by decide) (fun _ => kk M2 h3) (fun h => absurd rfl h)
theorem lc_33 (C : Cx X RL cL_law 500) (hs : Sc X b L xs) (hL : L ≤ 3072) (hi : i + 6 ≤ L) (hI : Inv M) (kk : ∀ M2, Inv M2 → WA X M2 (lvL X b i) 1528 []) : WA X M (lvL X b i) 1203 [] := by
  obtain ⟨r, h1, h2⟩ := s_trace (xs (i + 1)) M hI
  refine a_aload_n C dL_law_1203 rfl 2 rfl ?_
  refine a_sc C hs hL (j := 1) (by decide) (by omega) dL_law_1204 dL_law_1205 dL_law_1206 dL_law_1207 dL_law_1208 ?_
  refine a_callVI C [.int (xs (i + 1))] (ok_fSh_trace X.l X.N M (xs (i + 1)) h1) rfl mw_X10_trace wd_991 rfl rfl rfl rfl rfl rfl rfl dL_law_1209 (fun _ => ?_)
  refine a_aload_n C dL_law_1212 rfl 1 rfl ?_
  refine a_sc C hs hL (j := 1) (by decide) (by omega) dL_law_1213 dL_law_1214 dL_law_1215 dL_law_1216 dL_law_1217 ?_
  refine a_callVI C [.int (xs (i + 1))] (ok_fMd_trace X.l X.N M (xs (i + 1)) h2) rfl mw_X11_trace wd_1582 rfl rfl rfl rfl rfl rfl rfl dL_law_1218 (fun _ => ?_)
  exact a_icmp_eq C 1528 dL_law_1221 (by decide) (fun _ => kk M hI) (fun h => absurd rfl h)
theorem lc_34 (C : Cx X RL cL_law 500) (hs : Sc X b L xs) (hL : L ≤ 3072) (hi : i + 6 ≤ L) (hI : Inv M) (kk : ∀ M2, Inv M2 → WA X M2 (lvL X b i) 1528 []) : WA X M (lvL X b i) 1226 [] := by
  obtain ⟨r, M1, M2, h1, h2, h3⟩ := s_keep (xs (i + 1)) (xs (i + 2)) M hI
  refine a_aload_n C dL_law_1226 rfl 2 rfl ?_
  refine a_sc C hs hL (j := 1) (by decide) (by omega) dL_law_1227 dL_law_1228 dL_law_1229 dL_law_1230 dL_law_1231 ?_
  refine a_sc C hs hL (j := 2) (by decide) (by omega) dL_law_1232 dL_law_1233 dL_law_1234 dL_law_1235 dL_law_1236 ?_
  refine a_callVI C [.int (xs (i + 1)), .int (xs (i + 2))] (ok_fSh_keep X.l X.N M (xs (i + 1)) (xs (i + 2)) h1) rfl mw_X10_keep wd_1000 rfl rfl rfl rfl rfl rfl rfl dL_law_1237 (fun _ => ?_)
  refine a_aload_n C dL_law_1240 rfl 1 rfl ?_
  refine a_sc C hs hL (j := 1) (by decide) (by omega) dL_law_1241 dL_law_1242 dL_law_1243 dL_law_1244 dL_law_1245 ?_
  refine a_sc C hs hL (j := 2) (by decide) (by omega) dL_law_1246 dL_law_1247 dL_law_1248 dL_law_1249 dL_law_1250 ?_
  refine a_callVI C [.int (xs (i + 1)), .int (xs (i + 2))] (ok_fMd_keep X.l X.N M1 (xs (i + 1)) (xs (i + 2)) h2) rfl mw_X11_keep wd_1586 rfl rfl rfl rfl rfl rfl rfl dL_law_1251 (fun _ => ?_)
  exact a_icmp_eq C 1528 dL_law_1254 (by decide) (fun _ => kk M2 h3) (fun h => absurd rfl h)
theorem lc_35 (C : Cx X RL cL_law 500) (hs : Sc X b L xs) (hL : L ≤ 3072) (hi : i + 6 ≤ L) (hI : Inv M) (kk : ∀ M2, Inv M2 → WA X M2 (lvL X b i) 1528 []) : WA X M (lvL X b i) 1259 [] := by
  obtain ⟨r, M1, M2, h1, h2, h3⟩ := s_row (xs (i + 1)) (xs (i + 2)) (xs (i + 3)) M hI
  refine a_aload_n C dL_law_1259 rfl 2 rfl ?_
  refine a_sc C hs hL (j := 1) (by decide) (by omega) dL_law_1260 dL_law_1261 dL_law_1262 dL_law_1263 dL_law_1264 ?_
  refine a_sc C hs hL (j := 2) (by decide) (by omega) dL_law_1265 dL_law_1266 dL_law_1267 dL_law_1268 dL_law_1269 ?_
  refine a_sc C hs hL (j := 3) (by decide) (by omega) dL_law_1270 dL_law_1271 dL_law_1272 dL_law_1273 dL_law_1274 ?_
  refine a_callVI C [.int (xs (i + 1)), .int (xs (i + 2)), .int (xs (i + 3))] (ok_fSh_row X.l X.N M (xs (i + 1)) (xs (i + 2)) (xs (i + 3)) h1) rfl mw_X10_row wd_1013 rfl rfl rfl rfl rfl rfl rfl dL_law_1275 (fun _ => ?_)
  refine a_aload_n C dL_law_1278 rfl 1 rfl ?_
  refine a_sc C hs hL (j := 1) (by decide) (by omega) dL_law_1279 dL_law_1280 dL_law_1281 dL_law_1282 dL_law_1283 ?_
  refine a_sc C hs hL (j := 2) (by decide) (by omega) dL_law_1284 dL_law_1285 dL_law_1286 dL_law_1287 dL_law_1288 ?_
  refine a_sc C hs hL (j := 3) (by decide) (by omega) dL_law_1289 dL_law_1290 dL_law_1291 dL_law_1292 dL_law_1293 ?_
  refine a_callVI C [.int (xs (i + 1)), .int (xs (i + 2)), .int (xs (i + 3))] (ok_fMd_row X.l X.N M1 (xs (i + 1)) (xs (i + 2)) (xs (i + 3)) h2) rfl mw_X11_row wd_1590 rfl rfl rfl rfl rfl rfl rfl dL_law_1294 (fun _ => ?_)
  exact a_icmp_eq C 1528 dL_law_1297 (by decide) (fun _ => kk M2 h3) (fun h => absurd rfl h)
theorem lc_36 (C : Cx X RL cL_law 500) (hs : Sc X b L xs) (hL : L ≤ 3072) (hi : i + 6 ≤ L) (hI : Inv M) (kk : ∀ M2, Inv M2 → WA X M2 (lvL X b i) 1528 []) : WA X M (lvL X b i) 1302 [] := by
  obtain ⟨r, M1, M2, h1, h2, h3⟩ := s_put (xs (i + 1)) (xs (i + 2)) ((slL (xs (i + 3)).toInt64 32) ||| ((xs (i + 4)).toInt64 &&& (4294967295))) M hI
  refine a_aload_n C dL_law_1302 rfl 2 rfl ?_
  refine a_sc C hs hL (j := 1) (by decide) (by omega) dL_law_1303 dL_law_1304 dL_law_1305 dL_law_1306 dL_law_1307 ?_
  refine a_sc C hs hL (j := 2) (by decide) (by omega) dL_law_1308 dL_law_1309 dL_law_1310 dL_law_1311 dL_law_1312 ?_
  refine a_sc C hs hL (j := 3) (by decide) (by omega) dL_law_1313 dL_law_1314 dL_law_1315 dL_law_1316 dL_law_1317 ?_
  refine a_i2l C dL_law_1318 ?_
  refine a_bipush C 32 dL_law_1319 (by decide) ?_
  refine a_lshl C dL_law_1321 ?_
  refine a_sc C hs hL (j := 4) (by decide) (by omega) dL_law_1322 dL_law_1323 dL_law_1324 dL_law_1325 dL_law_1326 ?_
  refine a_i2l C dL_law_1327 ?_
  refine a_ldc2_w C dL_law_1328 wd_1621 ?_
  refine a_land C dL_law_1331 ?_
  refine a_lor C dL_law_1332 ?_
  refine a_callVI C [.int (xs (i + 1)), .int (xs (i + 2)), .long ((slL (xs (i + 3)).toInt64 32) ||| ((xs (i + 4)).toInt64 &&& (4294967295)))] (ok_fSh_put X.l X.N M (xs (i + 1)) (xs (i + 2)) ((slL (xs (i + 3)).toInt64 32) ||| ((xs (i + 4)).toInt64 &&& (4294967295))) h1) rfl mw_X10_put wd_1027 rfl rfl rfl rfl rfl rfl rfl dL_law_1333 (fun _ => ?_)
  refine a_aload_n C dL_law_1336 rfl 1 rfl ?_
  refine a_sc C hs hL (j := 1) (by decide) (by omega) dL_law_1337 dL_law_1338 dL_law_1339 dL_law_1340 dL_law_1341 ?_
  refine a_sc C hs hL (j := 2) (by decide) (by omega) dL_law_1342 dL_law_1343 dL_law_1344 dL_law_1345 dL_law_1346 ?_
  refine a_sc C hs hL (j := 3) (by decide) (by omega) dL_law_1347 dL_law_1348 dL_law_1349 dL_law_1350 dL_law_1351 ?_
  refine a_i2l C dL_law_1352 ?_
  refine a_bipush C 32 dL_law_1353 (by decide) ?_
  refine a_lshl C dL_law_1355 ?_
  refine a_sc C hs hL (j := 4) (by decide) (by omega) dL_law_1356 dL_law_1357 dL_law_1358 dL_law_1359 dL_law_1360 ?_
  refine a_i2l C dL_law_1361 ?_
  refine a_ldc2_w C dL_law_1362 wd_1621 ?_
  refine a_land C dL_law_1365 ?_
  refine a_lor C dL_law_1366 ?_
  refine a_callVI C [.int (xs (i + 1)), .int (xs (i + 2)), .long ((slL (xs (i + 3)).toInt64 32) ||| ((xs (i + 4)).toInt64 &&& (4294967295)))] (ok_fMd_put X.l X.N M1 (xs (i + 1)) (xs (i + 2)) ((slL (xs (i + 3)).toInt64 32) ||| ((xs (i + 4)).toInt64 &&& (4294967295))) h2) rfl mw_X11_put wd_1594 rfl rfl rfl rfl rfl rfl rfl dL_law_1367 (fun _ => ?_)
  exact a_icmp_eq C 1528 dL_law_1370 (by decide) (fun _ => kk M2 h3) (fun h => absurd rfl h)
theorem lc_37 (C : Cx X RL cL_law 500) (hs : Sc X b L xs) (hL : L ≤ 3072) (hi : i + 6 ≤ L) (hI : Inv M) (kk : ∀ M2, Inv M2 → WA X M2 (lvL X b i) 1528 []) : WA X M (lvL X b i) 1375 [] := by
  obtain ⟨r, h1, h2⟩ := s_element (xs (i + 1)) (xs (i + 2)) M hI
  refine a_aload_n C dL_law_1375 rfl 2 rfl ?_
  refine a_sc C hs hL (j := 1) (by decide) (by omega) dL_law_1376 dL_law_1377 dL_law_1378 dL_law_1379 dL_law_1380 ?_
  refine a_sc C hs hL (j := 2) (by decide) (by omega) dL_law_1381 dL_law_1382 dL_law_1383 dL_law_1384 dL_law_1385 ?_
  refine a_callVL C [.int (xs (i + 1)), .int (xs (i + 2))] (ok_fSh_element X.l X.N M (xs (i + 1)) (xs (i + 2)) h1) rfl mw_X10_element wd_1043 rfl rfl rfl rfl rfl rfl rfl dL_law_1386 ?_
  refine a_aload_n C dL_law_1389 rfl 1 rfl ?_
  refine a_sc C hs hL (j := 1) (by decide) (by omega) dL_law_1390 dL_law_1391 dL_law_1392 dL_law_1393 dL_law_1394 ?_
  refine a_sc C hs hL (j := 2) (by decide) (by omega) dL_law_1395 dL_law_1396 dL_law_1397 dL_law_1398 dL_law_1399 ?_
  refine a_callVL C [.int (xs (i + 1)), .int (xs (i + 2))] (ok_fMd_element X.l X.N M (xs (i + 1)) (xs (i + 2)) h2) rfl mw_X11_element wd_1605 rfl rfl rfl rfl rfl rfl rfl dL_law_1400 ?_
  refine a_lcmp C dL_law_1403 ?_
  exact a_if_eq C 1528 dL_law_1404 (by decide) (fun _ => kk M hI) (fun h => absurd (lg_self r) h)
theorem lc_38 (C : Cx X RL cL_law 500) (hs : Sc X b L xs) (hL : L ≤ 3072) (hi : i + 6 ≤ L) (hI : Inv M) (kk : ∀ M2, Inv M2 → WA X M2 (lvL X b i) 1528 []) : WA X M (lvL X b i) 1409 [] := by
  obtain ⟨r, M1, M2, h1, h2, h3⟩ := s_shift (xs (i + 1)) (xs (i + 2)) (xs (i + 3)) (xs (i + 4)) (xs (i + 5)) M hI
  refine a_aload_n C dL_law_1409 rfl 2 rfl ?_
  refine a_sc C hs hL (j := 1) (by decide) (by omega) dL_law_1410 dL_law_1411 dL_law_1412 dL_law_1413 dL_law_1414 ?_
  refine a_sc C hs hL (j := 2) (by decide) (by omega) dL_law_1415 dL_law_1416 dL_law_1417 dL_law_1418 dL_law_1419 ?_
  refine a_sc C hs hL (j := 3) (by decide) (by omega) dL_law_1420 dL_law_1421 dL_law_1422 dL_law_1423 dL_law_1424 ?_
  refine a_sc C hs hL (j := 4) (by decide) (by omega) dL_law_1425 dL_law_1426 dL_law_1427 dL_law_1428 dL_law_1429 ?_
  refine a_sc C hs hL (j := 5) (by decide) (by omega) dL_law_1430 dL_law_1431 dL_law_1432 dL_law_1433 dL_law_1434 ?_
  refine a_callVI C [.int (xs (i + 1)), .int (xs (i + 2)), .int (xs (i + 3)), .int (xs (i + 4)), .int (xs (i + 5))] (ok_fSh_shift X.l X.N M (xs (i + 1)) (xs (i + 2)) (xs (i + 3)) (xs (i + 4)) (xs (i + 5)) h1) rfl mw_X10_shift wd_1047 rfl rfl rfl rfl rfl rfl rfl dL_law_1435 (fun _ => ?_)
  refine a_aload_n C dL_law_1438 rfl 1 rfl ?_
  refine a_sc C hs hL (j := 1) (by decide) (by omega) dL_law_1439 dL_law_1440 dL_law_1441 dL_law_1442 dL_law_1443 ?_
  refine a_sc C hs hL (j := 2) (by decide) (by omega) dL_law_1444 dL_law_1445 dL_law_1446 dL_law_1447 dL_law_1448 ?_
  refine a_sc C hs hL (j := 3) (by decide) (by omega) dL_law_1449 dL_law_1450 dL_law_1451 dL_law_1452 dL_law_1453 ?_
  refine a_sc C hs hL (j := 4) (by decide) (by omega) dL_law_1454 dL_law_1455 dL_law_1456 dL_law_1457 dL_law_1458 ?_
  refine a_sc C hs hL (j := 5) (by decide) (by omega) dL_law_1459 dL_law_1460 dL_law_1461 dL_law_1462 dL_law_1463 ?_
  refine a_callVI C [.int (xs (i + 1)), .int (xs (i + 2)), .int (xs (i + 3)), .int (xs (i + 4)), .int (xs (i + 5))] (ok_fMd_shift X.l X.N M1 (xs (i + 1)) (xs (i + 2)) (xs (i + 3)) (xs (i + 4)) (xs (i + 5)) h2) rfl mw_X11_shift wd_1609 rfl rfl rfl rfl rfl rfl rfl dL_law_1464 (fun _ => ?_)
  exact a_icmp_eq C 1528 dL_law_1467 (by decide) (fun _ => kk M2 h3) (fun h => absurd rfl h)
theorem lc_39 (C : Cx X RL cL_law 500) (hs : Sc X b L xs) (hL : L ≤ 3072) (hi : i + 6 ≤ L) (hI : Inv M) (kk : ∀ M2, Inv M2 → WA X M2 (lvL X b i) 1528 []) : WA X M (lvL X b i) 1472 [] := by
  obtain ⟨r, h1, h2⟩ := s_taken (xs (i + 1)) (xs (i + 2)) M hI
  refine a_aload_n C dL_law_1472 rfl 2 rfl ?_
  refine a_sc C hs hL (j := 1) (by decide) (by omega) dL_law_1473 dL_law_1474 dL_law_1475 dL_law_1476 dL_law_1477 ?_
  refine a_sc C hs hL (j := 2) (by decide) (by omega) dL_law_1478 dL_law_1479 dL_law_1480 dL_law_1481 dL_law_1482 ?_
  refine a_callVI C [.int (xs (i + 1)), .int (xs (i + 2))] (ok_fSh_taken X.l X.N M (xs (i + 1)) (xs (i + 2)) h1) rfl mw_X10_taken wd_1052 rfl rfl rfl rfl rfl rfl rfl dL_law_1483 (fun _ => ?_)
  refine a_aload_n C dL_law_1486 rfl 1 rfl ?_
  refine a_sc C hs hL (j := 1) (by decide) (by omega) dL_law_1487 dL_law_1488 dL_law_1489 dL_law_1490 dL_law_1491 ?_
  refine a_sc C hs hL (j := 2) (by decide) (by omega) dL_law_1492 dL_law_1493 dL_law_1494 dL_law_1495 dL_law_1496 ?_
  refine a_callVI C [.int (xs (i + 1)), .int (xs (i + 2))] (ok_fMd_taken X.l X.N M (xs (i + 1)) (xs (i + 2)) h2) rfl mw_X11_taken wd_1613 rfl rfl rfl rfl rfl rfl rfl dL_law_1497 (fun _ => ?_)
  exact a_icmp_eq C 1528 dL_law_1500 (by decide) (fun _ => kk M hI) (fun h => absurd rfl h)
theorem lc_40 (C : Cx X RL cL_law 500) (hs : Sc X b L xs) (hL : L ≤ 3072) (hi : i + 6 ≤ L) (hI : Inv M) (kk : ∀ M2, Inv M2 → WA X M2 (lvL X b i) 1528 []) : WA X M (lvL X b i) 1505 [] := by
  obtain ⟨r, h1, h2⟩ := s_count (xs (i + 1)) M hI
  refine a_aload_n C dL_law_1505 rfl 2 rfl ?_
  refine a_sc C hs hL (j := 1) (by decide) (by omega) dL_law_1506 dL_law_1507 dL_law_1508 dL_law_1509 dL_law_1510 ?_
  refine a_callVI C [.int (xs (i + 1))] (ok_fSh_count X.l X.N M (xs (i + 1)) h1) rfl mw_X10_count wd_1063 rfl rfl rfl rfl rfl rfl rfl dL_law_1511 (fun _ => ?_)
  refine a_aload_n C dL_law_1514 rfl 1 rfl ?_
  refine a_sc C hs hL (j := 1) (by decide) (by omega) dL_law_1515 dL_law_1516 dL_law_1517 dL_law_1518 dL_law_1519 ?_
  refine a_callVI C [.int (xs (i + 1))] (ok_fMd_count X.l X.N M (xs (i + 1)) h2) rfl mw_X11_count wd_1617 rfl rfl rfl rfl rfl rfl rfl dL_law_1520 (fun _ => ?_)
  exact a_icmp_eq C 1528 dL_law_1523 (by decide) (fun _ => kk M hI) (fun h => absurd rfl h)
end LAWR
