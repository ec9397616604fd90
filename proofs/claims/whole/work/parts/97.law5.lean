/-! THE LAW: its cases -/
section LAW4
variable {p : Program} {l : Launch} {e : Env} {s : State} {m : MethodId} {args : Array Value} {below : List Frame} {meth : Method} {c : Code} {D : va_G} {cI cR cL : ClassId} {A0 : Nat → Prop} {Q : State → Prop}
variable {cl sl : Nat} {adX adM : Nat → Nat} {q : Nat} {X M : Mem} {o : Nat → Int64} {b L : Nat} {xs : Nat → Int32} {i : Int32} {cf : Cf}
/-- what a case hands on -/
abbrev KL (p : Program) (l : Launch) (e : Env) (s : State) (m : MethodId) (args : Array Value) (below : List Frame) (meth : Method) (c : Code) (D : va_G) (cI cR cL : ClassId) (A0 : Nat → Prop) (Q : State → Prop) (cl sl : Nat) (adX adM : Nat → Nat) (q b : Nat) (i : Int32) : Prop :=
  ∀ (c1 : Cf) (X1 M1 : Mem) (o1 : Nat → Int64), GC c1 → XC c1 X1 → MC c1 M1 → LC p l e room_1 s m args below meth c 9 D A0 Q (WL cI cR cL adX adM q X1 M1 o1) (cl + 2) (sl + 12) 2652 (lo5 b (adX 0) (adM 0) q i) []
theorem case_0 (E : EL p s m args meth c cL_law 9 RL D cI cR cL A0) (hl9 : l.stackTraces = false) (hS : va_X b L xs s s.heap) (hbl : b < s.heap.size) (hbA : ¬ A0 b) (hin : ∀ j : Int32, j ∈ ([1, 2, 3, 4, 5, 6] : List Int32) → vp_in (i + j) L) (hG : GC cf) (hX : XC cf X) (hM : MC cf M) (hc : cl + 2 ≤ 601024 ∧ sl + 12 ≤ 7293034) (K : KL p l e s m args below meth c D cI cR cL A0 Q cl sl adX adM q b i) : LC p l e room_1 s m args below meth c 9 D A0 Q (WL cI cR cL adX adM q X M o) cl sl 276 (lo5 b (adX 0) (adM 0) q i) [] := by
  obtain ⟨c1, X1, M1, w, v, o1, g1, g2, g3, hw, hm, ht, ho⟩ := wL_insert hl9 hG hX hM (sv xs i 1) (sv xs i 2) (sv xs i 3) (sv xs i 4) (sv xs i 5) (sv xs i 6) D cI cR cL adX q o
  refine lc_aload_n E.1 (pc := 276) dL_law_276 rfl ?_
  refine lc_sc E hS hbl hbA (pc := 277) (j := 1) kc_1 (hin 1 (by decide)) dL_law_277 dL_law_278 dL_law_280 dL_law_281 dL_law_282 rfl rfl ?_
  refine lc_sc E hS hbl hbA (pc := 283) (j := 2) kc_2 (hin 2 (by decide)) dL_law_283 dL_law_284 dL_law_286 dL_law_287 dL_law_288 rfl rfl ?_
  refine lc_sc E hS hbl hbA (pc := 289) (j := 3) kc_3 (hin 3 (by decide)) dL_law_289 dL_law_290 dL_law_292 dL_law_293 dL_law_294 rfl rfl ?_
  refine lc_sc E hS hbl hbA (pc := 295) (j := 4) kc_4 (hin 4 (by decide)) dL_law_295 dL_law_296 dL_law_298 dL_law_299 dL_law_300 rfl rfl ?_
  refine lc_sc E hS hbl hbA (pc := 301) (j := 5) kc_5 (hin 5 (by decide)) dL_law_301 dL_law_302 dL_law_304 dL_law_305 dL_law_306 rfl rfl ?_
  refine lc_sb E hS hbl hbA (pc := 307) (j := 6) kb_6 (hin 6 (by decide)) dL_law_307 dL_law_308 dL_law_310 dL_law_312 dL_law_313 rfl rfl ?_
  refine lc_aload_n E.1 (pc := 314) dL_law_314 rfl ?_
  refine lc_lW E (pc := 315) [.ref (adX 0), .int (sv xs i 1), .int (sv xs i 2), .int (sv xs i 3), .int (sv xs i 4), .int (sv xs i 5), .int (sv xs i 6), .ref q] [] dL_law_315 mwL_insert hw rfl rfl (Nat.le_of_ble_eq_true rfl) (by decide) (by omega) ?_
  refine lc_istore E.1 (lo' := (lo6 b (adX 0) (adM 0) q i w)) (pc := 318) dL_law_318 (by decide) rfl rfl ?_
  refine lc_aload_n E.1 (pc := 320) dL_law_320 rfl ?_
  refine lc_sc E hS hbl hbA (pc := 321) (j := 1) kc_1 (hin 1 (by decide)) dL_law_321 dL_law_322 dL_law_324 dL_law_325 dL_law_326 rfl rfl ?_
  refine lc_sc E hS hbl hbA (pc := 327) (j := 2) kc_2 (hin 2 (by decide)) dL_law_327 dL_law_328 dL_law_330 dL_law_331 dL_law_332 rfl rfl ?_
  refine lc_sc E hS hbl hbA (pc := 333) (j := 3) kc_3 (hin 3 (by decide)) dL_law_333 dL_law_334 dL_law_336 dL_law_337 dL_law_338 rfl rfl ?_
  refine lc_sc E hS hbl hbA (pc := 339) (j := 4) kc_4 (hin 4 (by decide)) dL_law_339 dL_law_340 dL_law_342 dL_law_343 dL_law_344 rfl rfl ?_
  refine lc_sc E hS hbl hbA (pc := 345) (j := 5) kc_5 (hin 5 (by decide)) dL_law_345 dL_law_346 dL_law_348 dL_law_349 dL_law_350 rfl rfl ?_
  refine lc_sb E hS hbl hbA (pc := 351) (j := 6) kb_6 (hin 6 (by decide)) dL_law_351 dL_law_352 dL_law_354 dL_law_356 dL_law_357 rfl rfl ?_
  refine lc_lM E (pc := 358) [.int (sv xs i 1), .int (sv xs i 2), .int (sv xs i 3), .int (sv xs i 4), .int (sv xs i 5), .int (sv xs i 6)] [] dL_law_358 mvL_insert (ctX9_insert hm) rfl rfl rfl (Nat.le_of_ble_eq_true rfl) (by decide) (by omega) ?_
  refine lc_widen (cl' := cl + 2) (sl' := sl + 12) (by omega) (by omega) ?_
  exact lc_tail E (pc := 361) ht ho hc dL_law_361 dL_law_363 dL_law_364 dL_law_367 dL_law_369 dL_law_374 dL_law_376 dL_law_379 dL_law_380 dL_law_381 dL_law_382 dL_law_384 dL_law_385 dL_law_386 dL_law_391 (by decide) (K c1 X1 M1 o1 g1 g2 g3)
theorem case_1 (E : EL p s m args meth c cL_law 9 RL D cI cR cL A0) (hl9 : l.stackTraces = false) (hS : va_X b L xs s s.heap) (hbl : b < s.heap.size) (hbA : ¬ A0 b) (hin : ∀ j : Int32, j ∈ ([1, 2, 3, 4, 5, 6] : List Int32) → vp_in (i + j) L) (hG : GC cf) (hX : XC cf X) (hM : MC cf M) (hc : cl + 2 ≤ 601024 ∧ sl + 12 ≤ 7293034) (K : KL p l e s m args below meth c D cI cR cL A0 Q cl sl adX adM q b i) : LC p l e room_1 s m args below meth c 9 D A0 Q (WL cI cR cL adX adM q X M o) cl sl 394 (lo5 b (adX 0) (adM 0) q i) [] := by
  obtain ⟨c1, X1, M1, w, v, o1, g1, g2, g3, hw, hm, ht, ho⟩ := wL_remove hl9 hG hX hM (sv xs i 1) D cI cR cL adX q o
  refine lc_aload_n E.1 (pc := 394) dL_law_394 rfl ?_
  refine lc_sc E hS hbl hbA (pc := 395) (j := 1) kc_1 (hin 1 (by decide)) dL_law_395 dL_law_396 dL_law_398 dL_law_399 dL_law_400 rfl rfl ?_
  refine lc_aload_n E.1 (pc := 401) dL_law_401 rfl ?_
  refine lc_lW E (pc := 402) [.ref (adX 0), .int (sv xs i 1), .ref q] [] dL_law_402 mwL_remove hw rfl rfl (Nat.le_of_ble_eq_true rfl) (by decide) (by omega) ?_
  refine lc_istore E.1 (lo' := (lo6 b (adX 0) (adM 0) q i w)) (pc := 405) dL_law_405 (by decide) rfl rfl ?_
  refine lc_aload_n E.1 (pc := 407) dL_law_407 rfl ?_
  refine lc_sc E hS hbl hbA (pc := 408) (j := 1) kc_1 (hin 1 (by decide)) dL_law_408 dL_law_409 dL_law_411 dL_law_412 dL_law_413 rfl rfl ?_
  refine lc_lM E (pc := 414) [.int (sv xs i 1)] [] dL_law_414 mvL_remove (ctX9_remove hm) rfl rfl rfl (Nat.le_of_ble_eq_true rfl) (by decide) (by omega) ?_
  refine lc_widen (cl' := cl + 2) (sl' := sl + 12) (by omega) (by omega) ?_
  exact lc_tail E (pc := 417) ht ho hc dL_law_417 dL_law_419 dL_law_420 dL_law_423 dL_law_425 dL_law_430 dL_law_432 dL_law_435 dL_law_436 dL_law_437 dL_law_438 dL_law_440 dL_law_441 dL_law_442 dL_law_447 (by decide) (K c1 X1 M1 o1 g1 g2 g3)
theorem case_2 (E : EL p s m args meth c cL_law 9 RL D cI cR cL A0) (hl9 : l.stackTraces = false) (hS : va_X b L xs s s.heap) (hbl : b < s.heap.size) (hbA : ¬ A0 b) (hin : ∀ j : Int32, j ∈ ([1, 2, 3, 4, 5, 6] : List Int32) → vp_in (i + j) L) (hG : GC cf) (hX : XC cf X) (hM : MC cf M) (hc : cl + 2 ≤ 601024 ∧ sl + 12 ≤ 7293034) (K : KL p l e s m args below meth c D cI cR cL A0 Q cl sl adX adM q b i) : LC p l e room_1 s m args below meth c 9 D A0 Q (WL cI cR cL adX adM q X M o) cl sl 450 (lo5 b (adX 0) (adM 0) q i) [] := by
  obtain ⟨c1, X1, M1, w, v, o1, g1, g2, g3, hw, hm, ht, ho⟩ := wL_exchange hl9 hG hX hM (sv xs i 1) (sv xs i 2) D cI cR cL adX q o
  refine lc_aload_n E.1 (pc := 450) dL_law_450 rfl ?_
  refine lc_sc E hS hbl hbA (pc := 451) (j := 1) kc_1 (hin 1 (by decide)) dL_law_451 dL_law_452 dL_law_454 dL_law_455 dL_law_456 rfl rfl ?_
  refine lc_sc E hS hbl hbA (pc := 457) (j := 2) kc_2 (hin 2 (by decide)) dL_law_457 dL_law_458 dL_law_460 dL_law_461 dL_law_462 rfl rfl ?_
  refine lc_aload_n E.1 (pc := 463) dL_law_463 rfl ?_
  refine lc_lW E (pc := 464) [.ref (adX 0), .int (sv xs i 1), .int (sv xs i 2), .ref q] [] dL_law_464 mwL_exchange hw rfl rfl (Nat.le_of_ble_eq_true rfl) (by decide) (by omega) ?_
  refine lc_istore E.1 (lo' := (lo6 b (adX 0) (adM 0) q i w)) (pc := 467) dL_law_467 (by decide) rfl rfl ?_
  refine lc_aload_n E.1 (pc := 469) dL_law_469 rfl ?_
  refine lc_sc E hS hbl hbA (pc := 470) (j := 1) kc_1 (hin 1 (by decide)) dL_law_470 dL_law_471 dL_law_473 dL_law_474 dL_law_475 rfl rfl ?_
  refine lc_sc E hS hbl hbA (pc := 476) (j := 2) kc_2 (hin 2 (by decide)) dL_law_476 dL_law_477 dL_law_479 dL_law_480 dL_law_481 rfl rfl ?_
  refine lc_lM E (pc := 482) [.int (sv xs i 1), .int (sv xs i 2)] [] dL_law_482 mvL_exchange (ctX9_exchange hm) rfl rfl rfl (Nat.le_of_ble_eq_true rfl) (by decide) (by omega) ?_
  refine lc_widen (cl' := cl + 2) (sl' := sl + 12) (by omega) (by omega) ?_
  exact lc_tail E (pc := 485) ht ho hc dL_law_485 dL_law_487 dL_law_488 dL_law_491 dL_law_493 dL_law_498 dL_law_500 dL_law_503 dL_law_504 dL_law_505 dL_law_506 dL_law_508 dL_law_509 dL_law_510 dL_law_515 (by decide) (K c1 X1 M1 o1 g1 g2 g3)
theorem case_3 (E : EL p s m args meth c cL_law 9 RL D cI cR cL A0) (hl9 : l.stackTraces = false) (hS : va_X b L xs s s.heap) (hbl : b < s.heap.size) (hbA : ¬ A0 b) (hin : ∀ j : Int32, j ∈ ([1, 2, 3, 4, 5, 6] : List Int32) → vp_in (i + j) L) (hG : GC cf) (hX : XC cf X) (hM : MC cf M) (hc : cl + 2 ≤ 601024 ∧ sl + 12 ≤ 7293034) (K : KL p l e s m args below meth c D cI cR cL A0 Q cl sl adX adM q b i) : LC p l e room_1 s m args below meth c 9 D A0 Q (WL cI cR cL adX adM q X M o) cl sl 518 (lo5 b (adX 0) (adM 0) q i) [] := by
  obtain ⟨c1, X1, M1, w, v, o1, g1, g2, g3, hw, hm, ht, ho⟩ := wL_setRegister hl9 hG hX hM (sv xs i 1) (sv xs i 2) D cI cR cL adX q o
  refine lc_aload_n E.1 (pc := 518) dL_law_518 rfl ?_
  refine lc_sc E hS hbl hbA (pc := 519) (j := 1) kc_1 (hin 1 (by decide)) dL_law_519 dL_law_520 dL_law_522 dL_law_523 dL_law_524 rfl rfl ?_
  refine lc_sc E hS hbl hbA (pc := 525) (j := 2) kc_2 (hin 2 (by decide)) dL_law_525 dL_law_526 dL_law_528 dL_law_529 dL_law_530 rfl rfl ?_
  refine lc_aload_n E.1 (pc := 531) dL_law_531 rfl ?_
  refine lc_lW E (pc := 532) [.ref (adX 0), .int (sv xs i 1), .int (sv xs i 2), .ref q] [] dL_law_532 mwL_setRegister hw rfl rfl (Nat.le_of_ble_eq_true rfl) (by decide) (by omega) ?_
  refine lc_istore E.1 (lo' := (lo6 b (adX 0) (adM 0) q i w)) (pc := 535) dL_law_535 (by decide) rfl rfl ?_
  refine lc_aload_n E.1 (pc := 537) dL_law_537 rfl ?_
  refine lc_sc E hS hbl hbA (pc := 538) (j := 1) kc_1 (hin 1 (by decide)) dL_law_538 dL_law_539 dL_law_541 dL_law_542 dL_law_543 rfl rfl ?_
  refine lc_sc E hS hbl hbA (pc := 544) (j := 2) kc_2 (hin 2 (by decide)) dL_law_544 dL_law_545 dL_law_547 dL_law_548 dL_law_549 rfl rfl ?_
  refine lc_lM E (pc := 550) [.int (sv xs i 1), .int (sv xs i 2)] [] dL_law_550 mvL_setRegister (ctX9_setRegister hm) rfl rfl rfl (Nat.le_of_ble_eq_true rfl) (by decide) (by omega) ?_
  refine lc_widen (cl' := cl + 2) (sl' := sl + 12) (by omega) (by omega) ?_
  exact lc_tail E (pc := 553) ht ho hc dL_law_553 dL_law_555 dL_law_556 dL_law_559 dL_law_561 dL_law_566 dL_law_568 dL_law_571 dL_law_572 dL_law_573 dL_law_574 dL_law_576 dL_law_577 dL_law_578 dL_law_583 (by decide) (K c1 X1 M1 o1 g1 g2 g3)
theorem case_4 (E : EL p s m args meth c cL_law 9 RL D cI cR cL A0) (hl9 : l.stackTraces = false) (hS : va_X b L xs s s.heap) (hbl : b < s.heap.size) (hbA : ¬ A0 b) (hin : ∀ j : Int32, j ∈ ([1, 2, 3, 4, 5, 6] : List Int32) → vp_in (i + j) L) (hG : GC cf) (hX : XC cf X) (hM : MC cf M) (hc : cl + 2 ≤ 601024 ∧ sl + 12 ≤ 7293034) (K : KL p l e s m args below meth c D cI cR cL A0 Q cl sl adX adM q b i) : LC p l e room_1 s m args below meth c 9 D A0 Q (WL cI cR cL adX adM q X M o) cl sl 586 (lo5 b (adX 0) (adM 0) q i) [] := by
  obtain ⟨c1, X1, M1, w, v, o1, g1, g2, g3, hw, hm, ht, ho⟩ := wL_setCell hl9 hG hX hM (sv xs i 1) (sv xs i 2) D cI cR cL adX q o
  refine lc_aload_n E.1 (pc := 586) dL_law_586 rfl ?_
  refine lc_sc E hS hbl hbA (pc := 587) (j := 1) kc_1 (hin 1 (by decide)) dL_law_587 dL_law_588 dL_law_590 dL_law_591 dL_law_592 rfl rfl ?_
  refine lc_sc E hS hbl hbA (pc := 593) (j := 2) kc_2 (hin 2 (by decide)) dL_law_593 dL_law_594 dL_law_596 dL_law_597 dL_law_598 rfl rfl ?_
  refine lc_aload_n E.1 (pc := 599) dL_law_599 rfl ?_
  refine lc_lW E (pc := 600) [.ref (adX 0), .int (sv xs i 1), .int (sv xs i 2), .ref q] [] dL_law_600 mwL_setCell hw rfl rfl (Nat.le_of_ble_eq_true rfl) (by decide) (by omega) ?_
  refine lc_istore E.1 (lo' := (lo6 b (adX 0) (adM 0) q i w)) (pc := 603) dL_law_603 (by decide) rfl rfl ?_
  refine lc_aload_n E.1 (pc := 605) dL_law_605 rfl ?_
  refine lc_sc E hS hbl hbA (pc := 606) (j := 1) kc_1 (hin 1 (by decide)) dL_law_606 dL_law_607 dL_law_609 dL_law_610 dL_law_611 rfl rfl ?_
  refine lc_sc E hS hbl hbA (pc := 612) (j := 2) kc_2 (hin 2 (by decide)) dL_law_612 dL_law_613 dL_law_615 dL_law_616 dL_law_617 rfl rfl ?_
  refine lc_lM E (pc := 618) [.int (sv xs i 1), .int (sv xs i 2)] [] dL_law_618 mvL_setCell (ctX9_setCell hm) rfl rfl rfl (Nat.le_of_ble_eq_true rfl) (by decide) (by omega) ?_
  refine lc_widen (cl' := cl + 2) (sl' := sl + 12) (by omega) (by omega) ?_
  exact lc_tail E (pc := 621) ht ho hc dL_law_621 dL_law_623 dL_law_624 dL_law_627 dL_law_629 dL_law_634 dL_law_636 dL_law_639 dL_law_640 dL_law_641 dL_law_642 dL_law_644 dL_law_645 dL_law_646 dL_law_651 (by decide) (K c1 X1 M1 o1 g1 g2 g3)
theorem case_5 (E : EL p s m args meth c cL_law 9 RL D cI cR cL A0) (hl9 : l.stackTraces = false) (hS : va_X b L xs s s.heap) (hbl : b < s.heap.size) (hbA : ¬ A0 b) (hin : ∀ j : Int32, j ∈ ([1, 2, 3, 4, 5, 6] : List Int32) → vp_in (i + j) L) (hG : GC cf) (hX : XC cf X) (hM : MC cf M) (hc : cl + 2 ≤ 601024 ∧ sl + 12 ≤ 7293034) (K : KL p l e s m args below meth c D cI cR cL A0 Q cl sl adX adM q b i) : LC p l e room_1 s m args below meth c 9 D A0 Q (WL cI cR cL adX adM q X M o) cl sl 654 (lo5 b (adX 0) (adM 0) q i) [] := by
  obtain ⟨c1, X1, M1, w, v, o1, g1, g2, g3, hw, hm, ht, ho⟩ := wL_setSlots hl9 hG hX hM (sv xs i 1) (sv xs i 2) D cI cR cL adX q o
  refine lc_aload_n E.1 (pc := 654) dL_law_654 rfl ?_
  refine lc_sc E hS hbl hbA (pc := 655) (j := 1) kc_1 (hin 1 (by decide)) dL_law_655 dL_law_656 dL_law_658 dL_law_659 dL_law_660 rfl rfl ?_
  refine lc_sc E hS hbl hbA (pc := 661) (j := 2) kc_2 (hin 2 (by decide)) dL_law_661 dL_law_662 dL_law_664 dL_law_665 dL_law_666 rfl rfl ?_
  refine lc_aload_n E.1 (pc := 667) dL_law_667 rfl ?_
  refine lc_lW E (pc := 668) [.ref (adX 0), .int (sv xs i 1), .int (sv xs i 2), .ref q] [] dL_law_668 mwL_setSlots hw rfl rfl (Nat.le_of_ble_eq_true rfl) (by decide) (by omega) ?_
  refine lc_istore E.1 (lo' := (lo6 b (adX 0) (adM 0) q i w)) (pc := 671) dL_law_671 (by decide) rfl rfl ?_
  refine lc_aload_n E.1 (pc := 673) dL_law_673 rfl ?_
  refine lc_sc E hS hbl hbA (pc := 674) (j := 1) kc_1 (hin 1 (by decide)) dL_law_674 dL_law_675 dL_law_677 dL_law_678 dL_law_679 rfl rfl ?_
  refine lc_sc E hS hbl hbA (pc := 680) (j := 2) kc_2 (hin 2 (by decide)) dL_law_680 dL_law_681 dL_law_683 dL_law_684 dL_law_685 rfl rfl ?_
  refine lc_lM E (pc := 686) [.int (sv xs i 1), .int (sv xs i 2)] [] dL_law_686 mvL_setSlots (ctX9_setSlots hm) rfl rfl rfl (Nat.le_of_ble_eq_true rfl) (by decide) (by omega) ?_
  refine lc_widen (cl' := cl + 2) (sl' := sl + 12) (by omega) (by omega) ?_
  exact lc_tail E (pc := 689) ht ho hc dL_law_689 dL_law_691 dL_law_692 dL_law_695 dL_law_697 dL_law_702 dL_law_704 dL_law_707 dL_law_708 dL_law_709 dL_law_710 dL_law_712 dL_law_713 dL_law_714 dL_law_719 (by decide) (K c1 X1 M1 o1 g1 g2 g3)
theorem case_6 (E : EL p s m args meth c cL_law 9 RL D cI cR cL A0) (hl9 : l.stackTraces = false) (hS : va_X b L xs s s.heap) (hbl : b < s.heap.size) (hbA : ¬ A0 b) (hin : ∀ j : Int32, j ∈ ([1, 2, 3, 4, 5, 6] : List Int32) → vp_in (i + j) L) (hG : GC cf) (hX : XC cf X) (hM : MC cf M) (hc : cl + 2 ≤ 601024 ∧ sl + 12 ≤ 7293034) (K : KL p l e s m args below meth c D cI cR cL A0 Q cl sl adX adM q b i) : LC p l e room_1 s m args below meth c 9 D A0 Q (WL cI cR cL adX adM q X M o) cl sl 722 (lo5 b (adX 0) (adM 0) q i) [] := by
  obtain ⟨c1, X1, M1, w, v, o1, g1, g2, g3, hw, hm, ht, ho⟩ := wL_setLatency hl9 hG hX hM (sv xs i 1) (sv xs i 2) D cI cR cL adX q o
  refine lc_aload_n E.1 (pc := 722) dL_law_722 rfl ?_
  refine lc_sc E hS hbl hbA (pc := 723) (j := 1) kc_1 (hin 1 (by decide)) dL_law_723 dL_law_724 dL_law_726 dL_law_727 dL_law_728 rfl rfl ?_
  refine lc_sc E hS hbl hbA (pc := 729) (j := 2) kc_2 (hin 2 (by decide)) dL_law_729 dL_law_730 dL_law_732 dL_law_733 dL_law_734 rfl rfl ?_
  refine lc_aload_n E.1 (pc := 735) dL_law_735 rfl ?_
  refine lc_lW E (pc := 736) [.ref (adX 0), .int (sv xs i 1), .int (sv xs i 2), .ref q] [] dL_law_736 mwL_setLatency hw rfl rfl (Nat.le_of_ble_eq_true rfl) (by decide) (by omega) ?_
  refine lc_istore E.1 (lo' := (lo6 b (adX 0) (adM 0) q i w)) (pc := 739) dL_law_739 (by decide) rfl rfl ?_
  refine lc_aload_n E.1 (pc := 741) dL_law_741 rfl ?_
  refine lc_sc E hS hbl hbA (pc := 742) (j := 1) kc_1 (hin 1 (by decide)) dL_law_742 dL_law_743 dL_law_745 dL_law_746 dL_law_747 rfl rfl ?_
  refine lc_sc E hS hbl hbA (pc := 748) (j := 2) kc_2 (hin 2 (by decide)) dL_law_748 dL_law_749 dL_law_751 dL_law_752 dL_law_753 rfl rfl ?_
  refine lc_lM E (pc := 754) [.int (sv xs i 1), .int (sv xs i 2)] [] dL_law_754 mvL_setLatency (ctX9_setLatency hm) rfl rfl rfl (Nat.le_of_ble_eq_true rfl) (by decide) (by omega) ?_
  refine lc_widen (cl' := cl + 2) (sl' := sl + 12) (by omega) (by omega) ?_
  exact lc_tail E (pc := 757) ht ho hc dL_law_757 dL_law_759 dL_law_760 dL_law_763 dL_law_765 dL_law_770 dL_law_772 dL_law_775 dL_law_776 dL_law_777 dL_law_778 dL_law_780 dL_law_781 dL_law_782 dL_law_787 (by decide) (K c1 X1 M1 o1 g1 g2 g3)
theorem case_7 (E : EL p s m args meth c cL_law 9 RL D cI cR cL A0) (hl9 : l.stackTraces = false) (hS : va_X b L xs s s.heap) (hbl : b < s.heap.size) (hbA : ¬ A0 b) (hin : ∀ j : Int32, j ∈ ([1, 2, 3, 4, 5, 6] : List Int32) → vp_in (i + j) L) (hG : GC cf) (hX : XC cf X) (hM : MC cf M) (hc : cl + 2 ≤ 601024 ∧ sl + 12 ≤ 7293034) (K : KL p l e s m args below meth c D cI cR cL A0 Q cl sl adX adM q b i) : LC p l e room_1 s m args below meth c 9 D A0 Q (WL cI cR cL adX adM q X M o) cl sl 790 (lo5 b (adX 0) (adM 0) q i) [] := by
  obtain ⟨c1, X1, M1, w, v, o1, g1, g2, g3, hw, hm, ht, ho⟩ := wL_setDelay hl9 hG hX hM (sv xs i 1) D cI cR cL adX q o
  refine lc_aload_n E.1 (pc := 790) dL_law_790 rfl ?_
  refine lc_sc E hS hbl hbA (pc := 791) (j := 1) kc_1 (hin 1 (by decide)) dL_law_791 dL_law_792 dL_law_794 dL_law_795 dL_law_796 rfl rfl ?_
  refine lc_aload_n E.1 (pc := 797) dL_law_797 rfl ?_
  refine lc_lW E (pc := 798) [.ref (adX 0), .int (sv xs i 1), .ref q] [] dL_law_798 mwL_setDelay hw rfl rfl (Nat.le_of_ble_eq_true rfl) (by decide) (by omega) ?_
  refine lc_istore E.1 (lo' := (lo6 b (adX 0) (adM 0) q i w)) (pc := 801) dL_law_801 (by decide) rfl rfl ?_
  refine lc_aload_n E.1 (pc := 803) dL_law_803 rfl ?_
  refine lc_sc E hS hbl hbA (pc := 804) (j := 1) kc_1 (hin 1 (by decide)) dL_law_804 dL_law_805 dL_law_807 dL_law_808 dL_law_809 rfl rfl ?_
  refine lc_lM E (pc := 810) [.int (sv xs i 1)] [] dL_law_810 mvL_setDelay (ctX9_setDelay hm) rfl rfl rfl (Nat.le_of_ble_eq_true rfl) (by decide) (by omega) ?_
  refine lc_widen (cl' := cl + 2) (sl' := sl + 12) (by omega) (by omega) ?_
  exact lc_tail E (pc := 813) ht ho hc dL_law_813 dL_law_815 dL_law_816 dL_law_819 dL_law_821 dL_law_826 dL_law_828 dL_law_831 dL_law_832 dL_law_833 dL_law_834 dL_law_836 dL_law_837 dL_law_838 dL_law_843 (by decide) (K c1 X1 M1 o1 g1 g2 g3)
theorem case_8 (E : EL p s m args meth c cL_law 9 RL D cI cR cL A0) (hl9 : l.stackTraces = false) (hS : va_X b L xs s s.heap) (hbl : b < s.heap.size) (hbA : ¬ A0 b) (hin : ∀ j : Int32, j ∈ ([1, 2, 3, 4, 5, 6] : List Int32) → vp_in (i + j) L) (hG : GC cf) (hX : XC cf X) (hM : MC cf M) (hc : cl + 2 ≤ 601024 ∧ sl + 12 ≤ 7293034) (K : KL p l e s m args below meth c D cI cR cL A0 Q cl sl adX adM q b i) : LC p l e room_1 s m args below meth c 9 D A0 Q (WL cI cR cL adX adM q X M o) cl sl 846 (lo5 b (adX 0) (adM 0) q i) [] := by
  obtain ⟨c1, X1, M1, w, v, o1, g1, g2, g3, hw, hm, ht, ho⟩ := wL_lay hl9 hG hX hM (sv xs i 1) (sv xs i 2) D cI cR cL adX q o
  refine lc_aload_n E.1 (pc := 846) dL_law_846 rfl ?_
  refine lc_sc E hS hbl hbA (pc := 847) (j := 1) kc_1 (hin 1 (by decide)) dL_law_847 dL_law_848 dL_law_850 dL_law_851 dL_law_852 rfl rfl ?_
  refine lc_sc E hS hbl hbA (pc := 853) (j := 2) kc_2 (hin 2 (by decide)) dL_law_853 dL_law_854 dL_law_856 dL_law_857 dL_law_858 rfl rfl ?_
  refine lc_aload_n E.1 (pc := 859) dL_law_859 rfl ?_
  refine lc_lW E (pc := 860) [.ref (adX 0), .int (sv xs i 1), .int (sv xs i 2), .ref q] [] dL_law_860 mwL_lay hw rfl rfl (Nat.le_of_ble_eq_true rfl) (by decide) (by omega) ?_
  refine lc_istore E.1 (lo' := (lo6 b (adX 0) (adM 0) q i w)) (pc := 863) dL_law_863 (by decide) rfl rfl ?_
  refine lc_aload_n E.1 (pc := 865) dL_law_865 rfl ?_
  refine lc_sc E hS hbl hbA (pc := 866) (j := 1) kc_1 (hin 1 (by decide)) dL_law_866 dL_law_867 dL_law_869 dL_law_870 dL_law_871 rfl rfl ?_
  refine lc_sc E hS hbl hbA (pc := 872) (j := 2) kc_2 (hin 2 (by decide)) dL_law_872 dL_law_873 dL_law_875 dL_law_876 dL_law_877 rfl rfl ?_
  refine lc_lM E (pc := 878) [.int (sv xs i 1), .int (sv xs i 2)] [] dL_law_878 mvL_lay (ctX9_lay hm) rfl rfl rfl (Nat.le_of_ble_eq_true rfl) (by decide) (by omega) ?_
  refine lc_widen (cl' := cl + 2) (sl' := sl + 12) (by omega) (by omega) ?_
  exact lc_tail E (pc := 881) ht ho hc dL_law_881 dL_law_883 dL_law_884 dL_law_887 dL_law_889 dL_law_894 dL_law_896 dL_law_899 dL_law_900 dL_law_901 dL_law_902 dL_law_904 dL_law_905 dL_law_906 dL_law_911 (by decide) (K c1 X1 M1 o1 g1 g2 g3)
theorem case_9 (E : EL p s m args meth c cL_law 9 RL D cI cR cL A0) (hl9 : l.stackTraces = false) (hS : va_X b L xs s s.heap) (hbl : b < s.heap.size) (hbA : ¬ A0 b) (hin : ∀ j : Int32, j ∈ ([1, 2, 3, 4, 5, 6] : List Int32) → vp_in (i + j) L) (hG : GC cf) (hX : XC cf X) (hM : MC cf M) (hc : cl + 2 ≤ 601024 ∧ sl + 12 ≤ 7293034) (K : KL p l e s m args below meth c D cI cR cL A0 Q cl sl adX adM q b i) : LC p l e room_1 s m args below meth c 9 D A0 Q (WL cI cR cL adX adM q X M o) cl sl 914 (lo5 b (adX 0) (adM 0) q i) [] := by
  obtain ⟨c1, X1, M1, w, v, o1, g1, g2, g3, hw, hm, ht, ho⟩ := wL_takeOut hl9 hG hX hM (sv xs i 1) D cI cR cL adX q o
  refine lc_aload_n E.1 (pc := 914) dL_law_914 rfl ?_
  refine lc_sc E hS hbl hbA (pc := 915) (j := 1) kc_1 (hin 1 (by decide)) dL_law_915 dL_law_916 dL_law_918 dL_law_919 dL_law_920 rfl rfl ?_
  refine lc_aload_n E.1 (pc := 921) dL_law_921 rfl ?_
  refine lc_lW E (pc := 922) [.ref (adX 0), .int (sv xs i 1), .ref q] [] dL_law_922 mwL_takeOut hw rfl rfl (Nat.le_of_ble_eq_true rfl) (by decide) (by omega) ?_
  refine lc_istore E.1 (lo' := (lo6 b (adX 0) (adM 0) q i w)) (pc := 925) dL_law_925 (by decide) rfl rfl ?_
  refine lc_aload_n E.1 (pc := 927) dL_law_927 rfl ?_
  refine lc_sc E hS hbl hbA (pc := 928) (j := 1) kc_1 (hin 1 (by decide)) dL_law_928 dL_law_929 dL_law_931 dL_law_932 dL_law_933 rfl rfl ?_
  refine lc_lM E (pc := 934) [.int (sv xs i 1)] [] dL_law_934 mvL_takeOut (ctX9_takeOut hm) rfl rfl rfl (Nat.le_of_ble_eq_true rfl) (by decide) (by omega) ?_
  refine lc_widen (cl' := cl + 2) (sl' := sl + 12) (by omega) (by omega) ?_
  exact lc_tail E (pc := 937) ht ho hc dL_law_937 dL_law_939 dL_law_940 dL_law_943 dL_law_945 dL_law_950 dL_law_952 dL_law_955 dL_law_956 dL_law_957 dL_law_958 dL_law_960 dL_law_961 dL_law_962 dL_law_967 (by decide) (K c1 X1 M1 o1 g1 g2 g3)
theorem case_10 (E : EL p s m args meth c cL_law 9 RL D cI cR cL A0) (hl9 : l.stackTraces = false) (hS : va_X b L xs s s.heap) (hbl : b < s.heap.size) (hbA : ¬ A0 b) (hin : ∀ j : Int32, j ∈ ([1, 2, 3, 4, 5, 6] : List Int32) → vp_in (i + j) L) (hG : GC cf) (hX : XC cf X) (hM : MC cf M) (hc : cl + 2 ≤ 601024 ∧ sl + 12 ≤ 7293034) (K : KL p l e s m args below meth c D cI cR cL A0 Q cl sl adX adM q b i) : LC p l e room_1 s m args below meth c 9 D A0 Q (WL cI cR cL adX adM q X M o) cl sl 970 (lo5 b (adX 0) (adM 0) q i) [] := by
  refine lc_widen (cl' := cl + 2) (sl' := sl + 12) (by omega) (by omega) ?_
  obtain ⟨c1, X1, M1, g1, g2, g3, r, h1, h2, -⟩ := a_pack hG hX hM
  refine lc_aload_n E.1 (pc := 970) dL_law_970 rfl ?_
  refine lc_lX E (pc := 971) dL_law_971 mxL_pack (ctX8_pack h1) rfl (Nat.le_of_ble_eq_true rfl) (by decide) hc ?_
  refine lc_aload_n E.1 (pc := 974) dL_law_974 rfl ?_
  refine lc_lM E (pc := 975) [] [.int r] dL_law_975 mvL_pack (ctX9_pack h2) rfl rfl rfl (Nat.le_of_ble_eq_true rfl) (by decide) hc ?_
  exact lc_eqY E.1 (pc := 978) (tgt := 2652) dL_law_978 rfl (K c1 X1 M1 o g1 g2 g3)
theorem case_11 (E : EL p s m args meth c cL_law 9 RL D cI cR cL A0) (hl9 : l.stackTraces = false) (hS : va_X b L xs s s.heap) (hbl : b < s.heap.size) (hbA : ¬ A0 b) (hin : ∀ j : Int32, j ∈ ([1, 2, 3, 4, 5, 6] : List Int32) → vp_in (i + j) L) (hG : GC cf) (hX : XC cf X) (hM : MC cf M) (hc : cl + 2 ≤ 601024 ∧ sl + 12 ≤ 7293034) (K : KL p l e s m args below meth c D cI cR cL A0 Q cl sl adX adM q b i) : LC p l e room_1 s m args below meth c 9 D A0 Q (WL cI cR cL adX adM q X M o) cl sl 983 (lo5 b (adX 0) (adM 0) q i) [] := by
  obtain ⟨c1, X1, M1, w, v, o1, g1, g2, g3, hw, hm, ht, ho⟩ := wL_append hl9 hG hX hM (sv xs i 1) D cI cR cL adX q o
  refine lc_aload_n E.1 (pc := 983) dL_law_983 rfl ?_
  refine lc_sc E hS hbl hbA (pc := 984) (j := 1) kc_1 (hin 1 (by decide)) dL_law_984 dL_law_985 dL_law_987 dL_law_988 dL_law_989 rfl rfl ?_
  refine lc_aload_n E.1 (pc := 990) dL_law_990 rfl ?_
  refine lc_lW E (pc := 991) [.ref (adX 0), .int (sv xs i 1), .ref q] [] dL_law_991 mwL_append hw rfl rfl (Nat.le_of_ble_eq_true rfl) (by decide) (by omega) ?_
  refine lc_istore E.1 (lo' := (lo6 b (adX 0) (adM 0) q i w)) (pc := 994) dL_law_994 (by decide) rfl rfl ?_
  refine lc_aload_n E.1 (pc := 996) dL_law_996 rfl ?_
  refine lc_sc E hS hbl hbA (pc := 997) (j := 1) kc_1 (hin 1 (by decide)) dL_law_997 dL_law_998 dL_law_1000 dL_law_1001 dL_law_1002 rfl rfl ?_
  refine lc_lM E (pc := 1003) [.int (sv xs i 1)] [] dL_law_1003 mvL_append (ctX9_append hm) rfl rfl rfl (Nat.le_of_ble_eq_true rfl) (by decide) (by omega) ?_
  refine lc_widen (cl' := cl + 2) (sl' := sl + 12) (by omega) (by omega) ?_
  exact lc_tail E (pc := 1006) ht ho hc dL_law_1006 dL_law_1008 dL_law_1009 dL_law_1012 dL_law_1014 dL_law_1019 dL_law_1021 dL_law_1024 dL_law_1025 dL_law_1026 dL_law_1027 dL_law_1029 dL_law_1030 dL_law_1031 dL_law_1036 (by decide) (K c1 X1 M1 o1 g1 g2 g3)
theorem case_12 (E : EL p s m args meth c cL_law 9 RL D cI cR cL A0) (hl9 : l.stackTraces = false) (hS : va_X b L xs s s.heap) (hbl : b < s.heap.size) (hbA : ¬ A0 b) (hin : ∀ j : Int32, j ∈ ([1, 2, 3, 4, 5, 6] : List Int32) → vp_in (i + j) L) (hG : GC cf) (hX : XC cf X) (hM : MC cf M) (hc : cl + 2 ≤ 601024 ∧ sl + 12 ≤ 7293034) (K : KL p l e s m args below meth c D cI cR cL A0 Q cl sl adX adM q b i) : LC p l e room_1 s m args below meth c 9 D A0 Q (WL cI cR cL adX adM q X M o) cl sl 1039 (lo5 b (adX 0) (adM 0) q i) [] := by
  refine lc_widen (cl' := cl + 2) (sl' := sl + 12) (by omega) (by omega) ?_
  obtain ⟨c1, X1, M1, g1, g2, g3, r, h1, h2, -⟩ := a_clearBuffer hG hX hM
  refine lc_aload_n E.1 (pc := 1039) dL_law_1039 rfl ?_
  refine lc_lX E (pc := 1040) dL_law_1040 mxL_clearBuffer (ctX8_clearBuffer h1) rfl (Nat.le_of_ble_eq_true rfl) (by decide) hc ?_
  refine lc_aload_n E.1 (pc := 1043) dL_law_1043 rfl ?_
  refine lc_lM E (pc := 1044) [] [.int r] dL_law_1044 mvL_clearBuffer (ctX9_clearBuffer h2) rfl rfl rfl (Nat.le_of_ble_eq_true rfl) (by decide) hc ?_
  exact lc_eqY E.1 (pc := 1047) (tgt := 2652) dL_law_1047 rfl (K c1 X1 M1 o g1 g2 g3)
theorem case_13 (E : EL p s m args meth c cL_law 9 RL D cI cR cL A0) (hl9 : l.stackTraces = false) (hS : va_X b L xs s s.heap) (hbl : b < s.heap.size) (hbA : ¬ A0 b) (hin : ∀ j : Int32, j ∈ ([1, 2, 3, 4, 5, 6] : List Int32) → vp_in (i + j) L) (hG : GC cf) (hX : XC cf X) (hM : MC cf M) (hc : cl + 2 ≤ 601024 ∧ sl + 12 ≤ 7293034) (K : KL p l e s m args below meth c D cI cR cL A0 Q cl sl adX adM q b i) : LC p l e room_1 s m args below meth c 9 D A0 Q (WL cI cR cL adX adM q X M o) cl sl 1052 (lo5 b (adX 0) (adM 0) q i) [] := by
  refine lc_widen (cl' := cl + 2) (sl' := sl + 12) (by omega) (by omega) ?_
  obtain ⟨c1, X1, M1, g1, g2, g3, r, h1, h2, -⟩ := a_firstError hG hX hM
  refine lc_aload_n E.1 (pc := 1052) dL_law_1052 rfl ?_
  refine lc_lX E (pc := 1053) dL_law_1053 mxL_firstError (ctX8_firstError h1) rfl (Nat.le_of_ble_eq_true rfl) (by decide) hc ?_
  refine lc_aload_n E.1 (pc := 1056) dL_law_1056 rfl ?_
  refine lc_lM E (pc := 1057) [] [.int r] dL_law_1057 mvL_firstError (ctX9_firstError h2) rfl rfl rfl (Nat.le_of_ble_eq_true rfl) (by decide) hc ?_
  exact lc_eqY E.1 (pc := 1060) (tgt := 2652) dL_law_1060 rfl (K c1 X1 M1 o g1 g2 g3)
theorem case_14 (E : EL p s m args meth c cL_law 9 RL D cI cR cL A0) (hl9 : l.stackTraces = false) (hS : va_X b L xs s s.heap) (hbl : b < s.heap.size) (hbA : ¬ A0 b) (hin : ∀ j : Int32, j ∈ ([1, 2, 3, 4, 5, 6] : List Int32) → vp_in (i + j) L) (hG : GC cf) (hX : XC cf X) (hM : MC cf M) (hc : cl + 2 ≤ 601024 ∧ sl + 12 ≤ 7293034) (K : KL p l e s m args below meth c D cI cR cL A0 Q cl sl adX adM q b i) : LC p l e room_1 s m args below meth c 9 D A0 Q (WL cI cR cL adX adM q X M o) cl sl 1065 (lo5 b (adX 0) (adM 0) q i) [] := by
  obtain ⟨c1, X1, M1, w, v, o1, g1, g2, g3, hw, hm, ht, ho⟩ := wL_addAll hl9 hG hX hM  D cI cR cL adX q o
  refine lc_aload_n E.1 (pc := 1065) dL_law_1065 rfl ?_
  refine lc_aload_n E.1 (pc := 1066) dL_law_1066 rfl ?_
  refine lc_lW E (pc := 1067) [.ref (adX 0), .ref q] [] dL_law_1067 mwL_addAll hw rfl rfl (Nat.le_of_ble_eq_true rfl) (by decide) (by omega) ?_
  refine lc_istore E.1 (lo' := (lo6 b (adX 0) (adM 0) q i w)) (pc := 1070) dL_law_1070 (by decide) rfl rfl ?_
  refine lc_aload_n E.1 (pc := 1072) dL_law_1072 rfl ?_
  refine lc_lM E (pc := 1073) [] [] dL_law_1073 mvL_addAll (ctX9_addAll hm) rfl rfl rfl (Nat.le_of_ble_eq_true rfl) (by decide) (by omega) ?_
  refine lc_widen (cl' := cl + 2) (sl' := sl + 12) (by omega) (by omega) ?_
  exact lc_tail E (pc := 1076) ht ho hc dL_law_1076 dL_law_1078 dL_law_1079 dL_law_1082 dL_law_1084 dL_law_1089 dL_law_1091 dL_law_1094 dL_law_1095 dL_law_1096 dL_law_1097 dL_law_1099 dL_law_1100 dL_law_1101 dL_law_1106 (by decide) (K c1 X1 M1 o1 g1 g2 g3)
theorem case_15 (E : EL p s m args meth c cL_law 9 RL D cI cR cL A0) (hl9 : l.stackTraces = false) (hS : va_X b L xs s s.heap) (hbl : b < s.heap.size) (hbA : ¬ A0 b) (hin : ∀ j : Int32, j ∈ ([1, 2, 3, 4, 5, 6] : List Int32) → vp_in (i + j) L) (hG : GC cf) (hX : XC cf X) (hM : MC cf M) (hc : cl + 2 ≤ 601024 ∧ sl + 12 ≤ 7293034) (K : KL p l e s m args below meth c D cI cR cL A0 Q cl sl adX adM q b i) : LC p l e room_1 s m args below meth c 9 D A0 Q (WL cI cR cL adX adM q X M o) cl sl 1109 (lo5 b (adX 0) (adM 0) q i) [] := by
  obtain ⟨c1, X1, M1, w, v, o1, g1, g2, g3, hw, hm, ht, ho⟩ := wL_undo hl9 hG hX hM  D cI cR cL adX q o
  refine lc_aload_n E.1 (pc := 1109) dL_law_1109 rfl ?_
  refine lc_aload_n E.1 (pc := 1110) dL_law_1110 rfl ?_
  refine lc_lW E (pc := 1111) [.ref (adX 0), .ref q] [] dL_law_1111 mwL_undo hw rfl rfl (Nat.le_of_ble_eq_true rfl) (by decide) (by omega) ?_
  refine lc_istore E.1 (lo' := (lo6 b (adX 0) (adM 0) q i w)) (pc := 1114) dL_law_1114 (by decide) rfl rfl ?_
  refine lc_aload_n E.1 (pc := 1116) dL_law_1116 rfl ?_
  refine lc_lM E (pc := 1117) [] [] dL_law_1117 mvL_undo (ctX9_undo hm) rfl rfl rfl (Nat.le_of_ble_eq_true rfl) (by decide) (by omega) ?_
  refine lc_widen (cl' := cl + 2) (sl' := sl + 12) (by omega) (by omega) ?_
  exact lc_tail E (pc := 1120) ht ho hc dL_law_1120 dL_law_1122 dL_law_1123 dL_law_1126 dL_law_1128 dL_law_1133 dL_law_1135 dL_law_1138 dL_law_1139 dL_law_1140 dL_law_1141 dL_law_1143 dL_law_1144 dL_law_1145 dL_law_1150 (by decide) (K c1 X1 M1 o1 g1 g2 g3)
theorem case_16 (E : EL p s m args meth c cL_law 9 RL D cI cR cL A0) (hl9 : l.stackTraces = false) (hS : va_X b L xs s s.heap) (hbl : b < s.heap.size) (hbA : ¬ A0 b) (hin : ∀ j : Int32, j ∈ ([1, 2, 3, 4, 5, 6] : List Int32) → vp_in (i + j) L) (hG : GC cf) (hX : XC cf X) (hM : MC cf M) (hc : cl + 2 ≤ 601024 ∧ sl + 12 ≤ 7293034) (K : KL p l e s m args below meth c D cI cR cL A0 Q cl sl adX adM q b i) : LC p l e room_1 s m args below meth c 9 D A0 Q (WL cI cR cL adX adM q X M o) cl sl 1153 (lo5 b (adX 0) (adM 0) q i) [] := by
  refine lc_widen (cl' := cl + 2) (sl' := sl + 12) (by omega) (by omega) ?_
  obtain ⟨c1, X1, M1, g1, g2, g3, r, h1, h2, -⟩ := a_savedStates hG hX hM
  refine lc_aload_n E.1 (pc := 1153) dL_law_1153 rfl ?_
  refine lc_lX E (pc := 1154) dL_law_1154 mxL_savedStates (ctX8_savedStates h1) rfl (Nat.le_of_ble_eq_true rfl) (by decide) hc ?_
  refine lc_aload_n E.1 (pc := 1157) dL_law_1157 rfl ?_
  refine lc_lM E (pc := 1158) [] [.int r] dL_law_1158 mvL_savedStates (ctX9_savedStates h2) rfl rfl rfl (Nat.le_of_ble_eq_true rfl) (by decide) hc ?_
  exact lc_eqY E.1 (pc := 1161) (tgt := 2652) dL_law_1161 rfl (K c1 X1 M1 o g1 g2 g3)
theorem case_17 (E : EL p s m args meth c cL_law 9 RL D cI cR cL A0) (hl9 : l.stackTraces = false) (hS : va_X b L xs s s.heap) (hbl : b < s.heap.size) (hbA : ¬ A0 b) (hin : ∀ j : Int32, j ∈ ([1, 2, 3, 4, 5, 6] : List Int32) → vp_in (i + j) L) (hG : GC cf) (hX : XC cf X) (hM : MC cf M) (hc : cl + 2 ≤ 601024 ∧ sl + 12 ≤ 7293034) (K : KL p l e s m args below meth c D cI cR cL A0 Q cl sl adX adM q b i) : LC p l e room_1 s m args below meth c 9 D A0 Q (WL cI cR cL adX adM q X M o) cl sl 1166 (lo5 b (adX 0) (adM 0) q i) [] := by
  refine lc_widen (cl' := cl + 2) (sl' := sl + 12) (by omega) (by omega) ?_
  obtain ⟨c1, X1, M1, g1, g2, g3, r, h1, h2, -⟩ := a_keep hG hX hM
  refine lc_aload_n E.1 (pc := 1166) dL_law_1166 rfl ?_
  refine lc_lX E (pc := 1167) dL_law_1167 mxL_keep (ctX8_keep h1) rfl (Nat.le_of_ble_eq_true rfl) (by decide) hc ?_
  refine lc_aload_n E.1 (pc := 1170) dL_law_1170 rfl ?_
  refine lc_lM E (pc := 1171) [] [.int r] dL_law_1171 mvL_keep (ctX9_keep h2) rfl rfl rfl (Nat.le_of_ble_eq_true rfl) (by decide) hc ?_
  exact lc_eqY E.1 (pc := 1174) (tgt := 2652) dL_law_1174 rfl (K c1 X1 M1 o g1 g2 g3)
theorem case_18 (E : EL p s m args meth c cL_law 9 RL D cI cR cL A0) (hl9 : l.stackTraces = false) (hS : va_X b L xs s s.heap) (hbl : b < s.heap.size) (hbA : ¬ A0 b) (hin : ∀ j : Int32, j ∈ ([1, 2, 3, 4, 5, 6] : List Int32) → vp_in (i + j) L) (hG : GC cf) (hX : XC cf X) (hM : MC cf M) (hc : cl + 2 ≤ 601024 ∧ sl + 12 ≤ 7293034) (K : KL p l e s m args below meth c D cI cR cL A0 Q cl sl adX adM q b i) : LC p l e room_1 s m args below meth c 9 D A0 Q (WL cI cR cL adX adM q X M o) cl sl 1179 (lo5 b (adX 0) (adM 0) q i) [] := by
  obtain ⟨c1, X1, M1, w, v, o1, g1, g2, g3, hw, hm, ht, ho⟩ := wL_goBack hl9 hG hX hM  D cI cR cL adX q o
  refine lc_aload_n E.1 (pc := 1179) dL_law_1179 rfl ?_
  refine lc_aload_n E.1 (pc := 1180) dL_law_1180 rfl ?_
  refine lc_lW E (pc := 1181) [.ref (adX 0), .ref q] [] dL_law_1181 mwL_goBack hw rfl rfl (Nat.le_of_ble_eq_true rfl) (by decide) (by omega) ?_
  refine lc_istore E.1 (lo' := (lo6 b (adX 0) (adM 0) q i w)) (pc := 1184) dL_law_1184 (by decide) rfl rfl ?_
  refine lc_aload_n E.1 (pc := 1186) dL_law_1186 rfl ?_
  refine lc_lM E (pc := 1187) [] [] dL_law_1187 mvL_goBack (ctX9_goBack hm) rfl rfl rfl (Nat.le_of_ble_eq_true rfl) (by decide) (by omega) ?_
  refine lc_widen (cl' := cl + 2) (sl' := sl + 12) (by omega) (by omega) ?_
  exact lc_tail E (pc := 1190) ht ho hc dL_law_1190 dL_law_1192 dL_law_1193 dL_law_1196 dL_law_1198 dL_law_1203 dL_law_1205 dL_law_1208 dL_law_1209 dL_law_1210 dL_law_1211 dL_law_1213 dL_law_1214 dL_law_1215 dL_law_1220 (by decide) (K c1 X1 M1 o1 g1 g2 g3)
theorem case_19 (E : EL p s m args meth c cL_law 9 RL D cI cR cL A0) (hl9 : l.stackTraces = false) (hS : va_X b L xs s s.heap) (hbl : b < s.heap.size) (hbA : ¬ A0 b) (hin : ∀ j : Int32, j ∈ ([1, 2, 3, 4, 5, 6] : List Int32) → vp_in (i + j) L) (hG : GC cf) (hX : XC cf X) (hM : MC cf M) (hc : cl + 2 ≤ 601024 ∧ sl + 12 ≤ 7293034) (K : KL p l e s m args below meth c D cI cR cL A0 Q cl sl adX adM q b i) : LC p l e room_1 s m args below meth c 9 D A0 Q (WL cI cR cL adX adM q X M o) cl sl 1223 (lo5 b (adX 0) (adM 0) q i) [] := by
  refine lc_widen (cl' := cl + 2) (sl' := sl + 12) (by omega) (by omega) ?_
  obtain ⟨c1, X1, M1, g1, g2, g3, r, h1, h2, -⟩ := a_steps hG hX hM
  refine lc_aload_n E.1 (pc := 1223) dL_law_1223 rfl ?_
  refine lc_lX E (pc := 1224) dL_law_1224 mxL_steps (ctX8_steps h1) rfl (Nat.le_of_ble_eq_true rfl) (by decide) hc ?_
  refine lc_aload_n E.1 (pc := 1227) dL_law_1227 rfl ?_
  refine lc_lM E (pc := 1228) [] [.int r] dL_law_1228 mvL_steps (ctX9_steps h2) rfl rfl rfl (Nat.le_of_ble_eq_true rfl) (by decide) hc ?_
  exact lc_eqY E.1 (pc := 1231) (tgt := 2652) dL_law_1231 rfl (K c1 X1 M1 o g1 g2 g3)
theorem case_20 (E : EL p s m args meth c cL_law 9 RL D cI cR cL A0) (hl9 : l.stackTraces = false) (hS : va_X b L xs s s.heap) (hbl : b < s.heap.size) (hbA : ¬ A0 b) (hin : ∀ j : Int32, j ∈ ([1, 2, 3, 4, 5, 6] : List Int32) → vp_in (i + j) L) (hG : GC cf) (hX : XC cf X) (hM : MC cf M) (hc : cl + 2 ≤ 601024 ∧ sl + 12 ≤ 7293034) (K : KL p l e s m args below meth c D cI cR cL A0 Q cl sl adX adM q b i) : LC p l e room_1 s m args below meth c 9 D A0 Q (WL cI cR cL adX adM q X M o) cl sl 1236 (lo5 b (adX 0) (adM 0) q i) [] := by
  obtain ⟨c1, X1, M1, w, v, o1, g1, g2, g3, hw, hm, ht, ho⟩ := wL_kindOf hl9 hG hX hM (sv xs i 1) D cI cR cL adX q o
  refine lc_aload_n E.1 (pc := 1236) dL_law_1236 rfl ?_
  refine lc_sc E hS hbl hbA (pc := 1237) (j := 1) kc_1 (hin 1 (by decide)) dL_law_1237 dL_law_1238 dL_law_1240 dL_law_1241 dL_law_1242 rfl rfl ?_
  refine lc_aload_n E.1 (pc := 1243) dL_law_1243 rfl ?_
  refine lc_lW E (pc := 1244) [.ref (adX 0), .int (sv xs i 1), .ref q] [] dL_law_1244 mwL_kindOf hw rfl rfl (Nat.le_of_ble_eq_true rfl) (by decide) (by omega) ?_
  refine lc_istore E.1 (lo' := (lo6 b (adX 0) (adM 0) q i w)) (pc := 1247) dL_law_1247 (by decide) rfl rfl ?_
  refine lc_aload_n E.1 (pc := 1249) dL_law_1249 rfl ?_
  refine lc_sc E hS hbl hbA (pc := 1250) (j := 1) kc_1 (hin 1 (by decide)) dL_law_1250 dL_law_1251 dL_law_1253 dL_law_1254 dL_law_1255 rfl rfl ?_
  refine lc_lM E (pc := 1256) [.int (sv xs i 1)] [] dL_law_1256 mvL_kindOf (ctX9_kindOf hm) rfl rfl rfl (Nat.le_of_ble_eq_true rfl) (by decide) (by omega) ?_
  refine lc_widen (cl' := cl + 2) (sl' := sl + 12) (by omega) (by omega) ?_
  exact lc_tail E (pc := 1259) ht ho hc dL_law_1259 dL_law_1261 dL_law_1262 dL_law_1265 dL_law_1267 dL_law_1272 dL_law_1274 dL_law_1277 dL_law_1278 dL_law_1279 dL_law_1280 dL_law_1282 dL_law_1283 dL_law_1284 dL_law_1289 (by decide) (K c1 X1 M1 o1 g1 g2 g3)
theorem case_21 (E : EL p s m args meth c cL_law 9 RL D cI cR cL A0) (hl9 : l.stackTraces = false) (hS : va_X b L xs s s.heap) (hbl : b < s.heap.size) (hbA : ¬ A0 b) (hin : ∀ j : Int32, j ∈ ([1, 2, 3, 4, 5, 6] : List Int32) → vp_in (i + j) L) (hG : GC cf) (hX : XC cf X) (hM : MC cf M) (hc : cl + 2 ≤ 601024 ∧ sl + 12 ≤ 7293034) (K : KL p l e s m args below meth c D cI cR cL A0 Q cl sl adX adM q b i) : LC p l e room_1 s m args below meth c 9 D A0 Q (WL cI cR cL adX adM q X M o) cl sl 1292 (lo5 b (adX 0) (adM 0) q i) [] := by
  obtain ⟨c1, X1, M1, w, v, o1, g1, g2, g3, hw, hm, ht, ho⟩ := wL_readBy hl9 hG hX hM (sv xs i 1) D cI cR cL adX q o
  refine lc_aload_n E.1 (pc := 1292) dL_law_1292 rfl ?_
  refine lc_sc E hS hbl hbA (pc := 1293) (j := 1) kc_1 (hin 1 (by decide)) dL_law_1293 dL_law_1294 dL_law_1296 dL_law_1297 dL_law_1298 rfl rfl ?_
  refine lc_aload_n E.1 (pc := 1299) dL_law_1299 rfl ?_
  refine lc_lW E (pc := 1300) [.ref (adX 0), .int (sv xs i 1), .ref q] [] dL_law_1300 mwL_readBy hw rfl rfl (Nat.le_of_ble_eq_true rfl) (by decide) (by omega) ?_
  refine lc_istore E.1 (lo' := (lo6 b (adX 0) (adM 0) q i w)) (pc := 1303) dL_law_1303 (by decide) rfl rfl ?_
  refine lc_aload_n E.1 (pc := 1305) dL_law_1305 rfl ?_
  refine lc_sc E hS hbl hbA (pc := 1306) (j := 1) kc_1 (hin 1 (by decide)) dL_law_1306 dL_law_1307 dL_law_1309 dL_law_1310 dL_law_1311 rfl rfl ?_
  refine lc_lM E (pc := 1312) [.int (sv xs i 1)] [] dL_law_1312 mvL_readBy (ctX9_readBy hm) rfl rfl rfl (Nat.le_of_ble_eq_true rfl) (by decide) (by omega) ?_
  refine lc_widen (cl' := cl + 2) (sl' := sl + 12) (by omega) (by omega) ?_
  exact lc_tail E (pc := 1315) ht ho hc dL_law_1315 dL_law_1317 dL_law_1318 dL_law_1321 dL_law_1323 dL_law_1328 dL_law_1330 dL_law_1333 dL_law_1334 dL_law_1335 dL_law_1336 dL_law_1338 dL_law_1339 dL_law_1340 dL_law_1345 (by decide) (K c1 X1 M1 o1 g1 g2 g3)
theorem case_22 (E : EL p s m args meth c cL_law 9 RL D cI cR cL A0) (hl9 : l.stackTraces = false) (hS : va_X b L xs s s.heap) (hbl : b < s.heap.size) (hbA : ¬ A0 b) (hin : ∀ j : Int32, j ∈ ([1, 2, 3, 4, 5, 6] : List Int32) → vp_in (i + j) L) (hG : GC cf) (hX : XC cf X) (hM : MC cf M) (hc : cl + 2 ≤ 601024 ∧ sl + 12 ≤ 7293034) (K : KL p l e s m args below meth c D cI cR cL A0 Q cl sl adX adM q b i) : LC p l e room_1 s m args below meth c 9 D A0 Q (WL cI cR cL adX adM q X M o) cl sl 1348 (lo5 b (adX 0) (adM 0) q i) [] := by
  obtain ⟨c1, X1, M1, w, v, o1, g1, g2, g3, hw, hm, ht, ho⟩ := wL_writtenBy hl9 hG hX hM (sv xs i 1) D cI cR cL adX q o
  refine lc_aload_n E.1 (pc := 1348) dL_law_1348 rfl ?_
  refine lc_sc E hS hbl hbA (pc := 1349) (j := 1) kc_1 (hin 1 (by decide)) dL_law_1349 dL_law_1350 dL_law_1352 dL_law_1353 dL_law_1354 rfl rfl ?_
  refine lc_aload_n E.1 (pc := 1355) dL_law_1355 rfl ?_
  refine lc_lW E (pc := 1356) [.ref (adX 0), .int (sv xs i 1), .ref q] [] dL_law_1356 mwL_writtenBy hw rfl rfl (Nat.le_of_ble_eq_true rfl) (by decide) (by omega) ?_
  refine lc_istore E.1 (lo' := (lo6 b (adX 0) (adM 0) q i w)) (pc := 1359) dL_law_1359 (by decide) rfl rfl ?_
  refine lc_aload_n E.1 (pc := 1361) dL_law_1361 rfl ?_
  refine lc_sc E hS hbl hbA (pc := 1362) (j := 1) kc_1 (hin 1 (by decide)) dL_law_1362 dL_law_1363 dL_law_1365 dL_law_1366 dL_law_1367 rfl rfl ?_
  refine lc_lM E (pc := 1368) [.int (sv xs i 1)] [] dL_law_1368 mvL_writtenBy (ctX9_writtenBy hm) rfl rfl rfl (Nat.le_of_ble_eq_true rfl) (by decide) (by omega) ?_
  refine lc_widen (cl' := cl + 2) (sl' := sl + 12) (by omega) (by omega) ?_
  exact lc_tail E (pc := 1371) ht ho hc dL_law_1371 dL_law_1373 dL_law_1374 dL_law_1377 dL_law_1379 dL_law_1384 dL_law_1386 dL_law_1389 dL_law_1390 dL_law_1391 dL_law_1392 dL_law_1394 dL_law_1395 dL_law_1396 dL_law_1401 (by decide) (K c1 X1 M1 o1 g1 g2 g3)
theorem case_23 (E : EL p s m args meth c cL_law 9 RL D cI cR cL A0) (hl9 : l.stackTraces = false) (hS : va_X b L xs s s.heap) (hbl : b < s.heap.size) (hbA : ¬ A0 b) (hin : ∀ j : Int32, j ∈ ([1, 2, 3, 4, 5, 6] : List Int32) → vp_in (i + j) L) (hG : GC cf) (hX : XC cf X) (hM : MC cf M) (hc : cl + 2 ≤ 601024 ∧ sl + 12 ≤ 7293034) (K : KL p l e s m args below meth c D cI cR cL A0 Q cl sl adX adM q b i) : LC p l e room_1 s m args below meth c 9 D A0 Q (WL cI cR cL adX adM q X M o) cl sl 1404 (lo5 b (adX 0) (adM 0) q i) [] := by
  obtain ⟨c1, X1, M1, w, v, o1, g1, g2, g3, hw, hm, ht, ho⟩ := wL_latencyOf hl9 hG hX hM (sv xs i 1) D cI cR cL adX q o
  refine lc_aload_n E.1 (pc := 1404) dL_law_1404 rfl ?_
  refine lc_sc E hS hbl hbA (pc := 1405) (j := 1) kc_1 (hin 1 (by decide)) dL_law_1405 dL_law_1406 dL_law_1408 dL_law_1409 dL_law_1410 rfl rfl ?_
  refine lc_aload_n E.1 (pc := 1411) dL_law_1411 rfl ?_
  refine lc_lW E (pc := 1412) [.ref (adX 0), .int (sv xs i 1), .ref q] [] dL_law_1412 mwL_latencyOf hw rfl rfl (Nat.le_of_ble_eq_true rfl) (by decide) (by omega) ?_
  refine lc_istore E.1 (lo' := (lo6 b (adX 0) (adM 0) q i w)) (pc := 1415) dL_law_1415 (by decide) rfl rfl ?_
  refine lc_aload_n E.1 (pc := 1417) dL_law_1417 rfl ?_
  refine lc_sc E hS hbl hbA (pc := 1418) (j := 1) kc_1 (hin 1 (by decide)) dL_law_1418 dL_law_1419 dL_law_1421 dL_law_1422 dL_law_1423 rfl rfl ?_
  refine lc_lM E (pc := 1424) [.int (sv xs i 1)] [] dL_law_1424 mvL_latencyOf (ctX9_latencyOf hm) rfl rfl rfl (Nat.le_of_ble_eq_true rfl) (by decide) (by omega) ?_
  refine lc_widen (cl' := cl + 2) (sl' := sl + 12) (by omega) (by omega) ?_
  exact lc_tail E (pc := 1427) ht ho hc dL_law_1427 dL_law_1429 dL_law_1430 dL_law_1433 dL_law_1435 dL_law_1440 dL_law_1442 dL_law_1445 dL_law_1446 dL_law_1447 dL_law_1448 dL_law_1450 dL_law_1451 dL_law_1452 dL_law_1457 (by decide) (K c1 X1 M1 o1 g1 g2 g3)
theorem case_24 (E : EL p s m args meth c cL_law 9 RL D cI cR cL A0) (hl9 : l.stackTraces = false) (hS : va_X b L xs s s.heap) (hbl : b < s.heap.size) (hbA : ¬ A0 b) (hin : ∀ j : Int32, j ∈ ([1, 2, 3, 4, 5, 6] : List Int32) → vp_in (i + j) L) (hG : GC cf) (hX : XC cf X) (hM : MC cf M) (hc : cl + 2 ≤ 601024 ∧ sl + 12 ≤ 7293034) (K : KL p l e s m args below meth c D cI cR cL A0 Q cl sl adX adM q b i) : LC p l e room_1 s m args below meth c 9 D A0 Q (WL cI cR cL adX adM q X M o) cl sl 1460 (lo5 b (adX 0) (adM 0) q i) [] := by
  obtain ⟨c1, X1, M1, w, v, o1, g1, g2, g3, hw, hm, ht, ho⟩ := wL_separation hl9 hG hX hM (sv xs i 1) (sv xs i 2) D cI cR cL adX q o
  refine lc_aload_n E.1 (pc := 1460) dL_law_1460 rfl ?_
  refine lc_sc E hS hbl hbA (pc := 1461) (j := 1) kc_1 (hin 1 (by decide)) dL_law_1461 dL_law_1462 dL_law_1464 dL_law_1465 dL_law_1466 rfl rfl ?_
  refine lc_sc E hS hbl hbA (pc := 1467) (j := 2) kc_2 (hin 2 (by decide)) dL_law_1467 dL_law_1468 dL_law_1470 dL_law_1471 dL_law_1472 rfl rfl ?_
  refine lc_aload_n E.1 (pc := 1473) dL_law_1473 rfl ?_
  refine lc_lW E (pc := 1474) [.ref (adX 0), .int (sv xs i 1), .int (sv xs i 2), .ref q] [] dL_law_1474 mwL_separation hw rfl rfl (Nat.le_of_ble_eq_true rfl) (by decide) (by omega) ?_
  refine lc_istore E.1 (lo' := (lo6 b (adX 0) (adM 0) q i w)) (pc := 1477) dL_law_1477 (by decide) rfl rfl ?_
  refine lc_aload_n E.1 (pc := 1479) dL_law_1479 rfl ?_
  refine lc_sc E hS hbl hbA (pc := 1480) (j := 1) kc_1 (hin 1 (by decide)) dL_law_1480 dL_law_1481 dL_law_1483 dL_law_1484 dL_law_1485 rfl rfl ?_
  refine lc_sc E hS hbl hbA (pc := 1486) (j := 2) kc_2 (hin 2 (by decide)) dL_law_1486 dL_law_1487 dL_law_1489 dL_law_1490 dL_law_1491 rfl rfl ?_
  refine lc_lM E (pc := 1492) [.int (sv xs i 1), .int (sv xs i 2)] [] dL_law_1492 mvL_separation (ctX9_separation hm) rfl rfl rfl (Nat.le_of_ble_eq_true rfl) (by decide) (by omega) ?_
  refine lc_widen (cl' := cl + 2) (sl' := sl + 12) (by omega) (by omega) ?_
  exact lc_tail E (pc := 1495) ht ho hc dL_law_1495 dL_law_1497 dL_law_1498 dL_law_1501 dL_law_1503 dL_law_1508 dL_law_1510 dL_law_1513 dL_law_1514 dL_law_1515 dL_law_1516 dL_law_1518 dL_law_1519 dL_law_1520 dL_law_1525 (by decide) (K c1 X1 M1 o1 g1 g2 g3)
theorem case_25 (E : EL p s m args meth c cL_law 9 RL D cI cR cL A0) (hl9 : l.stackTraces = false) (hS : va_X b L xs s s.heap) (hbl : b < s.heap.size) (hbA : ¬ A0 b) (hin : ∀ j : Int32, j ∈ ([1, 2, 3, 4, 5, 6] : List Int32) → vp_in (i + j) L) (hG : GC cf) (hX : XC cf X) (hM : MC cf M) (hc : cl + 2 ≤ 601024 ∧ sl + 12 ≤ 7293034) (K : KL p l e s m args below meth c D cI cR cL A0 Q cl sl adX adM q b i) : LC p l e room_1 s m args below meth c 9 D A0 Q (WL cI cR cL adX adM q X M o) cl sl 1528 (lo5 b (adX 0) (adM 0) q i) [] := by
  obtain ⟨c1, X1, M1, w, v, o1, g1, g2, g3, hw, hm, ht, ho⟩ := wL_carried hl9 hG hX hM (sv xs i 1) (sv xs i 2) D cI cR cL adX q o
  refine lc_aload_n E.1 (pc := 1528) dL_law_1528 rfl ?_
  refine lc_sc E hS hbl hbA (pc := 1529) (j := 1) kc_1 (hin 1 (by decide)) dL_law_1529 dL_law_1530 dL_law_1532 dL_law_1533 dL_law_1534 rfl rfl ?_
  refine lc_sc E hS hbl hbA (pc := 1535) (j := 2) kc_2 (hin 2 (by decide)) dL_law_1535 dL_law_1536 dL_law_1538 dL_law_1539 dL_law_1540 rfl rfl ?_
  refine lc_aload_n E.1 (pc := 1541) dL_law_1541 rfl ?_
  refine lc_lW E (pc := 1542) [.ref (adX 0), .int (sv xs i 1), .int (sv xs i 2), .ref q] [] dL_law_1542 mwL_carried hw rfl rfl (Nat.le_of_ble_eq_true rfl) (by decide) (by omega) ?_
  refine lc_istore E.1 (lo' := (lo6 b (adX 0) (adM 0) q i w)) (pc := 1545) dL_law_1545 (by decide) rfl rfl ?_
  refine lc_aload_n E.1 (pc := 1547) dL_law_1547 rfl ?_
  refine lc_sc E hS hbl hbA (pc := 1548) (j := 1) kc_1 (hin 1 (by decide)) dL_law_1548 dL_law_1549 dL_law_1551 dL_law_1552 dL_law_1553 rfl rfl ?_
  refine lc_sc E hS hbl hbA (pc := 1554) (j := 2) kc_2 (hin 2 (by decide)) dL_law_1554 dL_law_1555 dL_law_1557 dL_law_1558 dL_law_1559 rfl rfl ?_
  refine lc_lM E (pc := 1560) [.int (sv xs i 1), .int (sv xs i 2)] [] dL_law_1560 mvL_carried (ctX9_carried hm) rfl rfl rfl (Nat.le_of_ble_eq_true rfl) (by decide) (by omega) ?_
  refine lc_widen (cl' := cl + 2) (sl' := sl + 12) (by omega) (by omega) ?_
  exact lc_tail E (pc := 1563) ht ho hc dL_law_1563 dL_law_1565 dL_law_1566 dL_law_1569 dL_law_1571 dL_law_1576 dL_law_1578 dL_law_1581 dL_law_1582 dL_law_1583 dL_law_1584 dL_law_1586 dL_law_1587 dL_law_1588 dL_law_1593 (by decide) (K c1 X1 M1 o1 g1 g2 g3)
theorem case_26 (E : EL p s m args meth c cL_law 9 RL D cI cR cL A0) (hl9 : l.stackTraces = false) (hS : va_X b L xs s s.heap) (hbl : b < s.heap.size) (hbA : ¬ A0 b) (hin : ∀ j : Int32, j ∈ ([1, 2, 3, 4, 5, 6] : List Int32) → vp_in (i + j) L) (hG : GC cf) (hX : XC cf X) (hM : MC cf M) (hc : cl + 2 ≤ 601024 ∧ sl + 12 ≤ 7293034) (K : KL p l e s m args below meth c D cI cR cL A0 Q cl sl adX adM q b i) : LC p l e room_1 s m args below meth c 9 D A0 Q (WL cI cR cL adX adM q X M o) cl sl 1596 (lo5 b (adX 0) (adM 0) q i) [] := by
  obtain ⟨c1, X1, M1, w, v, o1, g1, g2, g3, hw, hm, ht, ho⟩ := wL_heightOf hl9 hG hX hM (sv xs i 1) D cI cR cL adX q o
  refine lc_aload_n E.1 (pc := 1596) dL_law_1596 rfl ?_
  refine lc_sc E hS hbl hbA (pc := 1597) (j := 1) kc_1 (hin 1 (by decide)) dL_law_1597 dL_law_1598 dL_law_1600 dL_law_1601 dL_law_1602 rfl rfl ?_
  refine lc_aload_n E.1 (pc := 1603) dL_law_1603 rfl ?_
  refine lc_lW E (pc := 1604) [.ref (adX 0), .int (sv xs i 1), .ref q] [] dL_law_1604 mwL_heightOf hw rfl rfl (Nat.le_of_ble_eq_true rfl) (by decide) (by omega) ?_
  refine lc_istore E.1 (lo' := (lo6 b (adX 0) (adM 0) q i w)) (pc := 1607) dL_law_1607 (by decide) rfl rfl ?_
  refine lc_aload_n E.1 (pc := 1609) dL_law_1609 rfl ?_
  refine lc_sc E hS hbl hbA (pc := 1610) (j := 1) kc_1 (hin 1 (by decide)) dL_law_1610 dL_law_1611 dL_law_1613 dL_law_1614 dL_law_1615 rfl rfl ?_
  refine lc_lM E (pc := 1616) [.int (sv xs i 1)] [] dL_law_1616 mvL_heightOf (ctX9_heightOf hm) rfl rfl rfl (Nat.le_of_ble_eq_true rfl) (by decide) (by omega) ?_
  refine lc_widen (cl' := cl + 2) (sl' := sl + 12) (by omega) (by omega) ?_
  exact lc_tail E (pc := 1619) ht ho hc dL_law_1619 dL_law_1621 dL_law_1622 dL_law_1625 dL_law_1627 dL_law_1632 dL_law_1634 dL_law_1637 dL_law_1638 dL_law_1639 dL_law_1640 dL_law_1642 dL_law_1643 dL_law_1644 dL_law_1649 (by decide) (K c1 X1 M1 o1 g1 g2 g3)
theorem case_27 (E : EL p s m args meth c cL_law 9 RL D cI cR cL A0) (hl9 : l.stackTraces = false) (hS : va_X b L xs s s.heap) (hbl : b < s.heap.size) (hbA : ¬ A0 b) (hin : ∀ j : Int32, j ∈ ([1, 2, 3, 4, 5, 6] : List Int32) → vp_in (i + j) L) (hG : GC cf) (hX : XC cf X) (hM : MC cf M) (hc : cl + 2 ≤ 601024 ∧ sl + 12 ≤ 7293034) (K : KL p l e s m args below meth c D cI cR cL A0 Q cl sl adX adM q b i) : LC p l e room_1 s m args below meth c 9 D A0 Q (WL cI cR cL adX adM q X M o) cl sl 1652 (lo5 b (adX 0) (adM 0) q i) [] := by
  obtain ⟨c1, X1, M1, w, v, o1, g1, g2, g3, hw, hm, ht, ho⟩ := wL_earliestOf hl9 hG hX hM (sv xs i 1) D cI cR cL adX q o
  refine lc_aload_n E.1 (pc := 1652) dL_law_1652 rfl ?_
  refine lc_sc E hS hbl hbA (pc := 1653) (j := 1) kc_1 (hin 1 (by decide)) dL_law_1653 dL_law_1654 dL_law_1656 dL_law_1657 dL_law_1658 rfl rfl ?_
  refine lc_aload_n E.1 (pc := 1659) dL_law_1659 rfl ?_
  refine lc_lW E (pc := 1660) [.ref (adX 0), .int (sv xs i 1), .ref q] [] dL_law_1660 mwL_earliestOf hw rfl rfl (Nat.le_of_ble_eq_true rfl) (by decide) (by omega) ?_
  refine lc_istore E.1 (lo' := (lo6 b (adX 0) (adM 0) q i w)) (pc := 1663) dL_law_1663 (by decide) rfl rfl ?_
  refine lc_aload_n E.1 (pc := 1665) dL_law_1665 rfl ?_
  refine lc_sc E hS hbl hbA (pc := 1666) (j := 1) kc_1 (hin 1 (by decide)) dL_law_1666 dL_law_1667 dL_law_1669 dL_law_1670 dL_law_1671 rfl rfl ?_
  refine lc_lM E (pc := 1672) [.int (sv xs i 1)] [] dL_law_1672 mvL_earliestOf (ctX9_earliestOf hm) rfl rfl rfl (Nat.le_of_ble_eq_true rfl) (by decide) (by omega) ?_
  refine lc_widen (cl' := cl + 2) (sl' := sl + 12) (by omega) (by omega) ?_
  exact lc_tail E (pc := 1675) ht ho hc dL_law_1675 dL_law_1677 dL_law_1678 dL_law_1681 dL_law_1683 dL_law_1688 dL_law_1690 dL_law_1693 dL_law_1694 dL_law_1695 dL_law_1696 dL_law_1698 dL_law_1699 dL_law_1700 dL_law_1705 (by decide) (K c1 X1 M1 o1 g1 g2 g3)
theorem case_28 (E : EL p s m args meth c cL_law 9 RL D cI cR cL A0) (hl9 : l.stackTraces = false) (hS : va_X b L xs s s.heap) (hbl : b < s.heap.size) (hbA : ¬ A0 b) (hin : ∀ j : Int32, j ∈ ([1, 2, 3, 4, 5, 6] : List Int32) → vp_in (i + j) L) (hG : GC cf) (hX : XC cf X) (hM : MC cf M) (hc : cl + 2 ≤ 601024 ∧ sl + 12 ≤ 7293034) (K : KL p l e s m args below meth c D cI cR cL A0 Q cl sl adX adM q b i) : LC p l e room_1 s m args below meth c 9 D A0 Q (WL cI cR cL adX adM q X M o) cl sl 1708 (lo5 b (adX 0) (adM 0) q i) [] := by
  refine lc_widen (cl' := cl + 2) (sl' := sl + 12) (by omega) (by omega) ?_
  obtain ⟨c1, X1, M1, g1, g2, g3, r, h1, h2, -⟩ := a_spanByHeights hG hX hM
  refine lc_aload_n E.1 (pc := 1708) dL_law_1708 rfl ?_
  refine lc_lX E (pc := 1709) dL_law_1709 mxL_spanByHeights (ctX8_spanByHeights h1) rfl (Nat.le_of_ble_eq_true rfl) (by decide) hc ?_
  refine lc_aload_n E.1 (pc := 1712) dL_law_1712 rfl ?_
  refine lc_lM E (pc := 1713) [] [.int r] dL_law_1713 mvL_spanByHeights (ctX9_spanByHeights h2) rfl rfl rfl (Nat.le_of_ble_eq_true rfl) (by decide) hc ?_
  exact lc_eqY E.1 (pc := 1716) (tgt := 2652) dL_law_1716 rfl (K c1 X1 M1 o g1 g2 g3)
theorem case_29 (E : EL p s m args meth c cL_law 9 RL D cI cR cL A0) (hl9 : l.stackTraces = false) (hS : va_X b L xs s s.heap) (hbl : b < s.heap.size) (hbA : ¬ A0 b) (hin : ∀ j : Int32, j ∈ ([1, 2, 3, 4, 5, 6] : List Int32) → vp_in (i + j) L) (hG : GC cf) (hX : XC cf X) (hM : MC cf M) (hc : cl + 2 ≤ 601024 ∧ sl + 12 ≤ 7293034) (K : KL p l e s m args below meth c D cI cR cL A0 Q cl sl adX adM q b i) : LC p l e room_1 s m args below meth c 9 D A0 Q (WL cI cR cL adX adM q X M o) cl sl 1721 (lo5 b (adX 0) (adM 0) q i) [] := by
  refine lc_widen (cl' := cl + 2) (sl' := sl + 12) (by omega) (by omega) ?_
  obtain ⟨c1, X1, M1, g1, g2, g3, r, h1, h2, -⟩ := a_spanByEarliest hG hX hM
  refine lc_aload_n E.1 (pc := 1721) dL_law_1721 rfl ?_
  refine lc_lX E (pc := 1722) dL_law_1722 mxL_spanByEarliest (ctX8_spanByEarliest h1) rfl (Nat.le_of_ble_eq_true rfl) (by decide) hc ?_
  refine lc_aload_n E.1 (pc := 1725) dL_law_1725 rfl ?_
  refine lc_lM E (pc := 1726) [] [.int r] dL_law_1726 mvL_spanByEarliest (ctX9_spanByEarliest h2) rfl rfl rfl (Nat.le_of_ble_eq_true rfl) (by decide) hc ?_
  exact lc_eqY E.1 (pc := 1729) (tgt := 2652) dL_law_1729 rfl (K c1 X1 M1 o g1 g2 g3)
theorem case_30 (E : EL p s m args meth c cL_law 9 RL D cI cR cL A0) (hl9 : l.stackTraces = false) (hS : va_X b L xs s s.heap) (hbl : b < s.heap.size) (hbA : ¬ A0 b) (hin : ∀ j : Int32, j ∈ ([1, 2, 3, 4, 5, 6] : List Int32) → vp_in (i + j) L) (hG : GC cf) (hX : XC cf X) (hM : MC cf M) (hc : cl + 2 ≤ 601024 ∧ sl + 12 ≤ 7293034) (K : KL p l e s m args below meth c D cI cR cL A0 Q cl sl adX adM q b i) : LC p l e room_1 s m args below meth c 9 D A0 Q (WL cI cR cL adX adM q X M o) cl sl 1734 (lo5 b (adX 0) (adM 0) q i) [] := by
  obtain ⟨c1, X1, M1, w, v, o1, g1, g2, g3, hw, hm, ht, ho⟩ := wL_bundleOf hl9 hG hX hM (sv xs i 1) D cI cR cL adX q o
  refine lc_aload_n E.1 (pc := 1734) dL_law_1734 rfl ?_
  refine lc_sc E hS hbl hbA (pc := 1735) (j := 1) kc_1 (hin 1 (by decide)) dL_law_1735 dL_law_1736 dL_law_1738 dL_law_1739 dL_law_1740 rfl rfl ?_
  refine lc_aload_n E.1 (pc := 1741) dL_law_1741 rfl ?_
  refine lc_lW E (pc := 1742) [.ref (adX 0), .int (sv xs i 1), .ref q] [] dL_law_1742 mwL_bundleOf hw rfl rfl (Nat.le_of_ble_eq_true rfl) (by decide) (by omega) ?_
  refine lc_istore E.1 (lo' := (lo6 b (adX 0) (adM 0) q i w)) (pc := 1745) dL_law_1745 (by decide) rfl rfl ?_
  refine lc_aload_n E.1 (pc := 1747) dL_law_1747 rfl ?_
  refine lc_sc E hS hbl hbA (pc := 1748) (j := 1) kc_1 (hin 1 (by decide)) dL_law_1748 dL_law_1749 dL_law_1751 dL_law_1752 dL_law_1753 rfl rfl ?_
  refine lc_lM E (pc := 1754) [.int (sv xs i 1)] [] dL_law_1754 mvL_bundleOf (ctX9_bundleOf hm) rfl rfl rfl (Nat.le_of_ble_eq_true rfl) (by decide) (by omega) ?_
  refine lc_widen (cl' := cl + 2) (sl' := sl + 12) (by omega) (by omega) ?_
  exact lc_tail E (pc := 1757) ht ho hc dL_law_1757 dL_law_1759 dL_law_1760 dL_law_1763 dL_law_1765 dL_law_1770 dL_law_1772 dL_law_1775 dL_law_1776 dL_law_1777 dL_law_1778 dL_law_1780 dL_law_1781 dL_law_1782 dL_law_1787 (by decide) (K c1 X1 M1 o1 g1 g2 g3)
theorem case_31 (E : EL p s m args meth c cL_law 9 RL D cI cR cL A0) (hl9 : l.stackTraces = false) (hS : va_X b L xs s s.heap) (hbl : b < s.heap.size) (hbA : ¬ A0 b) (hin : ∀ j : Int32, j ∈ ([1, 2, 3, 4, 5, 6] : List Int32) → vp_in (i + j) L) (hG : GC cf) (hX : XC cf X) (hM : MC cf M) (hc : cl + 2 ≤ 601024 ∧ sl + 12 ≤ 7293034) (K : KL p l e s m args below meth c D cI cR cL A0 Q cl sl adX adM q b i) : LC p l e room_1 s m args below meth c 9 D A0 Q (WL cI cR cL adX adM q X M o) cl sl 1790 (lo5 b (adX 0) (adM 0) q i) [] := by
  obtain ⟨c1, X1, M1, w, v, o1, g1, g2, g3, hw, hm, ht, ho⟩ := wL_stepsIn hl9 hG hX hM (sv xs i 1) D cI cR cL adX q o
  refine lc_aload_n E.1 (pc := 1790) dL_law_1790 rfl ?_
  refine lc_sc E hS hbl hbA (pc := 1791) (j := 1) kc_1 (hin 1 (by decide)) dL_law_1791 dL_law_1792 dL_law_1794 dL_law_1795 dL_law_1796 rfl rfl ?_
  refine lc_aload_n E.1 (pc := 1797) dL_law_1797 rfl ?_
  refine lc_lW E (pc := 1798) [.ref (adX 0), .int (sv xs i 1), .ref q] [] dL_law_1798 mwL_stepsIn hw rfl rfl (Nat.le_of_ble_eq_true rfl) (by decide) (by omega) ?_
  refine lc_istore E.1 (lo' := (lo6 b (adX 0) (adM 0) q i w)) (pc := 1801) dL_law_1801 (by decide) rfl rfl ?_
  refine lc_aload_n E.1 (pc := 1803) dL_law_1803 rfl ?_
  refine lc_sc E hS hbl hbA (pc := 1804) (j := 1) kc_1 (hin 1 (by decide)) dL_law_1804 dL_law_1805 dL_law_1807 dL_law_1808 dL_law_1809 rfl rfl ?_
  refine lc_lM E (pc := 1810) [.int (sv xs i 1)] [] dL_law_1810 mvL_stepsIn (ctX9_stepsIn hm) rfl rfl rfl (Nat.le_of_ble_eq_true rfl) (by decide) (by omega) ?_
  refine lc_widen (cl' := cl + 2) (sl' := sl + 12) (by omega) (by omega) ?_
  exact lc_tail E (pc := 1813) ht ho hc dL_law_1813 dL_law_1815 dL_law_1816 dL_law_1819 dL_law_1821 dL_law_1826 dL_law_1828 dL_law_1831 dL_law_1832 dL_law_1833 dL_law_1834 dL_law_1836 dL_law_1837 dL_law_1838 dL_law_1843 (by decide) (K c1 X1 M1 o1 g1 g2 g3)
theorem case_32 (E : EL p s m args meth c cL_law 9 RL D cI cR cL A0) (hl9 : l.stackTraces = false) (hS : va_X b L xs s s.heap) (hbl : b < s.heap.size) (hbA : ¬ A0 b) (hin : ∀ j : Int32, j ∈ ([1, 2, 3, 4, 5, 6] : List Int32) → vp_in (i + j) L) (hG : GC cf) (hX : XC cf X) (hM : MC cf M) (hc : cl + 2 ≤ 601024 ∧ sl + 12 ≤ 7293034) (K : KL p l e s m args below meth c D cI cR cL A0 Q cl sl adX adM q b i) : LC p l e room_1 s m args below meth c 9 D A0 Q (WL cI cR cL adX adM q X M o) cl sl 1846 (lo5 b (adX 0) (adM 0) q i) [] := by
  refine lc_widen (cl' := cl + 2) (sl' := sl + 12) (by omega) (by omega) ?_
  obtain ⟨c1, X1, M1, g1, g2, g3, r, h1, h2, -⟩ := a_bundles hG hX hM
  refine lc_aload_n E.1 (pc := 1846) dL_law_1846 rfl ?_
  refine lc_lX E (pc := 1847) dL_law_1847 mxL_bundles (ctX8_bundles h1) rfl (Nat.le_of_ble_eq_true rfl) (by decide) hc ?_
  refine lc_aload_n E.1 (pc := 1850) dL_law_1850 rfl ?_
  refine lc_lM E (pc := 1851) [] [.int r] dL_law_1851 mvL_bundles (ctX9_bundles h2) rfl rfl rfl (Nat.le_of_ble_eq_true rfl) (by decide) hc ?_
  exact lc_eqY E.1 (pc := 1854) (tgt := 2652) dL_law_1854 rfl (K c1 X1 M1 o g1 g2 g3)
theorem case_33 (E : EL p s m args meth c cL_law 9 RL D cI cR cL A0) (hl9 : l.stackTraces = false) (hS : va_X b L xs s s.heap) (hbl : b < s.heap.size) (hbA : ¬ A0 b) (hin : ∀ j : Int32, j ∈ ([1, 2, 3, 4, 5, 6] : List Int32) → vp_in (i + j) L) (hG : GC cf) (hX : XC cf X) (hM : MC cf M) (hc : cl + 2 ≤ 601024 ∧ sl + 12 ≤ 7293034) (K : KL p l e s m args below meth c D cI cR cL A0 Q cl sl adX adM q b i) : LC p l e room_1 s m args below meth c 9 D A0 Q (WL cI cR cL adX adM q X M o) cl sl 1859 (lo5 b (adX 0) (adM 0) q i) [] := by
  refine lc_widen (cl' := cl + 2) (sl' := sl + 12) (by omega) (by omega) ?_
  obtain ⟨c1, X1, M1, g1, g2, g3, r, h1, h2, -⟩ := a_whyWrong hG hX hM
  refine lc_aload_n E.1 (pc := 1859) dL_law_1859 rfl ?_
  refine lc_lX E (pc := 1860) dL_law_1860 mxL_whyWrong (ctX8_whyWrong h1) rfl (Nat.le_of_ble_eq_true rfl) (by decide) hc ?_
  refine lc_aload_n E.1 (pc := 1863) dL_law_1863 rfl ?_
  refine lc_lM E (pc := 1864) [] [.int r] dL_law_1864 mvL_whyWrong (ctX9_whyWrong h2) rfl rfl rfl (Nat.le_of_ble_eq_true rfl) (by decide) hc ?_
  exact lc_eqY E.1 (pc := 1867) (tgt := 2652) dL_law_1867 rfl (K c1 X1 M1 o g1 g2 g3)
theorem case_34 (E : EL p s m args meth c cL_law 9 RL D cI cR cL A0) (hl9 : l.stackTraces = false) (hS : va_X b L xs s s.heap) (hbl : b < s.heap.size) (hbA : ¬ A0 b) (hin : ∀ j : Int32, j ∈ ([1, 2, 3, 4, 5, 6] : List Int32) → vp_in (i + j) L) (hG : GC cf) (hX : XC cf X) (hM : MC cf M) (hc : cl + 2 ≤ 601024 ∧ sl + 12 ≤ 7293034) (K : KL p l e s m args below meth c D cI cR cL A0 Q cl sl adX adM q b i) : LC p l e room_1 s m args below meth c 9 D A0 Q (WL cI cR cL adX adM q X M o) cl sl 1872 (lo5 b (adX 0) (adM 0) q i) [] := by
  refine lc_widen (cl' := cl + 2) (sl' := sl + 12) (by omega) (by omega) ?_
  obtain ⟨c1, X1, M1, g1, g2, g3, r, h1, h2, -⟩ := a_wrongAt hG hX hM
  refine lc_aload_n E.1 (pc := 1872) dL_law_1872 rfl ?_
  refine lc_lX E (pc := 1873) dL_law_1873 mxL_wrongAt (ctX8_wrongAt h1) rfl (Nat.le_of_ble_eq_true rfl) (by decide) hc ?_
  refine lc_aload_n E.1 (pc := 1876) dL_law_1876 rfl ?_
  refine lc_lM E (pc := 1877) [] [.int r] dL_law_1877 mvL_wrongAt (ctX9_wrongAt h2) rfl rfl rfl (Nat.le_of_ble_eq_true rfl) (by decide) hc ?_
  exact lc_eqY E.1 (pc := 1880) (tgt := 2652) dL_law_1880 rfl (K c1 X1 M1 o g1 g2 g3)
theorem case_35 (E : EL p s m args meth c cL_law 9 RL D cI cR cL A0) (hl9 : l.stackTraces = false) (hS : va_X b L xs s s.heap) (hbl : b < s.heap.size) (hbA : ¬ A0 b) (hin : ∀ j : Int32, j ∈ ([1, 2, 3, 4, 5, 6] : List Int32) → vp_in (i + j) L) (hG : GC cf) (hX : XC cf X) (hM : MC cf M) (hc : cl + 2 ≤ 601024 ∧ sl + 12 ≤ 7293034) (K : KL p l e s m args below meth c D cI cR cL A0 Q cl sl adX adM q b i) : LC p l e room_1 s m args below meth c 9 D A0 Q (WL cI cR cL adX adM q X M o) cl sl 1885 (lo5 b (adX 0) (adM 0) q i) [] := by
  refine lc_widen (cl' := cl + 2) (sl' := sl + 12) (by omega) (by omega) ?_
  obtain ⟨c1, X1, M1, g1, g2, g3, r, h1, h2, -⟩ := a_wouldPack hG hX hM
  refine lc_aload_n E.1 (pc := 1885) dL_law_1885 rfl ?_
  refine lc_lX E (pc := 1886) dL_law_1886 mxL_wouldPack (ctX8_wouldPack h1) rfl (Nat.le_of_ble_eq_true rfl) (by decide) hc ?_
  refine lc_aload_n E.1 (pc := 1889) dL_law_1889 rfl ?_
  refine lc_lM E (pc := 1890) [] [.int r] dL_law_1890 mvL_wouldPack (ctX9_wouldPack h2) rfl rfl rfl (Nat.le_of_ble_eq_true rfl) (by decide) hc ?_
  exact lc_eqY E.1 (pc := 1893) (tgt := 2652) dL_law_1893 rfl (K c1 X1 M1 o g1 g2 g3)
theorem case_36 (E : EL p s m args meth c cL_law 9 RL D cI cR cL A0) (hl9 : l.stackTraces = false) (hS : va_X b L xs s s.heap) (hbl : b < s.heap.size) (hbA : ¬ A0 b) (hin : ∀ j : Int32, j ∈ ([1, 2, 3, 4, 5, 6] : List Int32) → vp_in (i + j) L) (hG : GC cf) (hX : XC cf X) (hM : MC cf M) (hc : cl + 2 ≤ 601024 ∧ sl + 12 ≤ 7293034) (K : KL p l e s m args below meth c D cI cR cL A0 Q cl sl adX adM q b i) : LC p l e room_1 s m args below meth c 9 D A0 Q (WL cI cR cL adX adM q X M o) cl sl 1898 (lo5 b (adX 0) (adM 0) q i) [] := by
  refine lc_widen (cl' := cl + 2) (sl' := sl + 12) (by omega) (by omega) ?_
  obtain ⟨c1, X1, M1, g1, g2, g3, r, h1, h2, -, hp⟩ := a_filledShare hG hX hM
  refine lc_aload_n E.1 (pc := 1898) dL_law_1898 rfl ?_
  refine lc_lX E (pc := 1899) dL_law_1899 mxL_filledShare (ctX8_filledShare h1) rfl (Nat.le_of_ble_eq_true rfl) (by decide) hc ?_
  refine lc_dstore E.1 (lo' := [some (.ref b), some (.ref (adX 0)), some (.ref (adM 0)), some (.ref q), some (.int i), some (.double r), none, none, none]) (pc := 1902) dL_law_1902 (by decide) rfl rfl ?_
  refine lc_aload_n E.1 (pc := 1904) dL_law_1904 rfl ?_
  refine lc_lM E (pc := 1905) [] [] dL_law_1905 mvL_filledShare (ctX9_filledShare h2) rfl rfl rfl (Nat.le_of_ble_eq_true rfl) (by decide) hc ?_
  refine lc_dstore E.1 (lo' := [some (.ref b), some (.ref (adX 0)), some (.ref (adM 0)), some (.ref q), some (.int i), some (.double r), none, some (.double r), none]) (pc := 1908) dL_law_1908 (by decide) rfl rfl ?_
  refine lc_dload E.1 (pc := 1910) dL_law_1910 rfl ?_
  refine lc_dload E.1 (pc := 1912) dL_law_1912 rfl ?_
  refine lc_dcmp E.1 (pc := 1914) dL_law_1914 ?_
  refine lc_if0 E.1 (pc := 1915) (tgt := 1936) dL_law_1915 rfl (by rw [hp]; rfl) ?_
  exact lc_goto E.1 (pc := 1936) (tgt := 2652) dL_law_1936 rfl (lc_lo (lo' := (lo5 b (adX 0) (adM 0) q i)) ⟨rfl, rfl, rfl, rfl, rfl, trivial⟩ (K c1 X1 M1 o g1 g2 g3))
theorem case_37 (E : EL p s m args meth c cL_law 9 RL D cI cR cL A0) (hl9 : l.stackTraces = false) (hS : va_X b L xs s s.heap) (hbl : b < s.heap.size) (hbA : ¬ A0 b) (hin : ∀ j : Int32, j ∈ ([1, 2, 3, 4, 5, 6] : List Int32) → vp_in (i + j) L) (hG : GC cf) (hX : XC cf X) (hM : MC cf M) (hc : cl + 2 ≤ 601024 ∧ sl + 12 ≤ 7293034) (K : KL p l e s m args below meth c D cI cR cL A0 Q cl sl adX adM q b i) : LC p l e room_1 s m args below meth c 9 D A0 Q (WL cI cR cL adX adM q X M o) cl sl 1939 (lo5 b (adX 0) (adM 0) q i) [] := by
  obtain ⟨c1, X1, M1, w, v, o1, g1, g2, g3, hw, hm, ht, ho⟩ := wL_registerInOrder hl9 hG hX hM (sv xs i 1) D cI cR cL adX q o
  refine lc_aload_n E.1 (pc := 1939) dL_law_1939 rfl ?_
  refine lc_sc E hS hbl hbA (pc := 1940) (j := 1) kc_1 (hin 1 (by decide)) dL_law_1940 dL_law_1941 dL_law_1943 dL_law_1944 dL_law_1945 rfl rfl ?_
  refine lc_aload_n E.1 (pc := 1946) dL_law_1946 rfl ?_
  refine lc_lW E (pc := 1947) [.ref (adX 0), .int (sv xs i 1), .ref q] [] dL_law_1947 mwL_registerInOrder hw rfl rfl (Nat.le_of_ble_eq_true rfl) (by decide) (by omega) ?_
  refine lc_istore E.1 (lo' := (lo6 b (adX 0) (adM 0) q i w)) (pc := 1950) dL_law_1950 (by decide) rfl rfl ?_
  refine lc_aload_n E.1 (pc := 1952) dL_law_1952 rfl ?_
  refine lc_sc E hS hbl hbA (pc := 1953) (j := 1) kc_1 (hin 1 (by decide)) dL_law_1953 dL_law_1954 dL_law_1956 dL_law_1957 dL_law_1958 rfl rfl ?_
  refine lc_lM E (pc := 1959) [.int (sv xs i 1)] [] dL_law_1959 mvL_registerInOrder (ctX9_registerInOrder hm) rfl rfl rfl (Nat.le_of_ble_eq_true rfl) (by decide) (by omega) ?_
  refine lc_widen (cl' := cl + 2) (sl' := sl + 12) (by omega) (by omega) ?_
  exact lc_tail E (pc := 1962) ht ho hc dL_law_1962 dL_law_1964 dL_law_1965 dL_law_1968 dL_law_1970 dL_law_1975 dL_law_1977 dL_law_1980 dL_law_1981 dL_law_1982 dL_law_1983 dL_law_1985 dL_law_1986 dL_law_1987 dL_law_1992 (by decide) (K c1 X1 M1 o1 g1 g2 g3)
theorem case_38 (E : EL p s m args meth c cL_law 9 RL D cI cR cL A0) (hl9 : l.stackTraces = false) (hS : va_X b L xs s s.heap) (hbl : b < s.heap.size) (hbA : ¬ A0 b) (hin : ∀ j : Int32, j ∈ ([1, 2, 3, 4, 5, 6] : List Int32) → vp_in (i + j) L) (hG : GC cf) (hX : XC cf X) (hM : MC cf M) (hc : cl + 2 ≤ 601024 ∧ sl + 12 ≤ 7293034) (K : KL p l e s m args below meth c D cI cR cL A0 Q cl sl adX adM q b i) : LC p l e room_1 s m args below meth c 9 D A0 Q (WL cI cR cL adX adM q X M o) cl sl 1995 (lo5 b (adX 0) (adM 0) q i) [] := by
  obtain ⟨c1, X1, M1, w, v, o1, g1, g2, g3, hw, hm, ht, ho⟩ := wL_registerInBundles hl9 hG hX hM (sv xs i 1) D cI cR cL adX q o
  refine lc_aload_n E.1 (pc := 1995) dL_law_1995 rfl ?_
  refine lc_sc E hS hbl hbA (pc := 1996) (j := 1) kc_1 (hin 1 (by decide)) dL_law_1996 dL_law_1997 dL_law_1999 dL_law_2000 dL_law_2001 rfl rfl ?_
  refine lc_aload_n E.1 (pc := 2002) dL_law_2002 rfl ?_
  refine lc_lW E (pc := 2003) [.ref (adX 0), .int (sv xs i 1), .ref q] [] dL_law_2003 mwL_registerInBundles hw rfl rfl (Nat.le_of_ble_eq_true rfl) (by decide) (by omega) ?_
  refine lc_istore E.1 (lo' := (lo6 b (adX 0) (adM 0) q i w)) (pc := 2006) dL_law_2006 (by decide) rfl rfl ?_
  refine lc_aload_n E.1 (pc := 2008) dL_law_2008 rfl ?_
  refine lc_sc E hS hbl hbA (pc := 2009) (j := 1) kc_1 (hin 1 (by decide)) dL_law_2009 dL_law_2010 dL_law_2012 dL_law_2013 dL_law_2014 rfl rfl ?_
  refine lc_lM E (pc := 2015) [.int (sv xs i 1)] [] dL_law_2015 mvL_registerInBundles (ctX9_registerInBundles hm) rfl rfl rfl (Nat.le_of_ble_eq_true rfl) (by decide) (by omega) ?_
  refine lc_widen (cl' := cl + 2) (sl' := sl + 12) (by omega) (by omega) ?_
  exact lc_tail E (pc := 2018) ht ho hc dL_law_2018 dL_law_2020 dL_law_2021 dL_law_2024 dL_law_2026 dL_law_2031 dL_law_2033 dL_law_2036 dL_law_2037 dL_law_2038 dL_law_2039 dL_law_2041 dL_law_2042 dL_law_2043 dL_law_2048 (by decide) (K c1 X1 M1 o1 g1 g2 g3)
theorem case_39 (E : EL p s m args meth c cL_law 9 RL D cI cR cL A0) (hl9 : l.stackTraces = false) (hS : va_X b L xs s s.heap) (hbl : b < s.heap.size) (hbA : ¬ A0 b) (hin : ∀ j : Int32, j ∈ ([1, 2, 3, 4, 5, 6] : List Int32) → vp_in (i + j) L) (hG : GC cf) (hX : XC cf X) (hM : MC cf M) (hc : cl + 2 ≤ 601024 ∧ sl + 12 ≤ 7293034) (K : KL p l e s m args below meth c D cI cR cL A0 Q cl sl adX adM q b i) : LC p l e room_1 s m args below meth c 9 D A0 Q (WL cI cR cL adX adM q X M o) cl sl 2051 (lo5 b (adX 0) (adM 0) q i) [] := by
  obtain ⟨c1, X1, M1, w, v, o1, g1, g2, g3, hw, hm, ht, ho⟩ := wL_cellInOrder hl9 hG hX hM (sv xs i 1) D cI cR cL adX q o
  refine lc_aload_n E.1 (pc := 2051) dL_law_2051 rfl ?_
  refine lc_sc E hS hbl hbA (pc := 2052) (j := 1) kc_1 (hin 1 (by decide)) dL_law_2052 dL_law_2053 dL_law_2055 dL_law_2056 dL_law_2057 rfl rfl ?_
  refine lc_aload_n E.1 (pc := 2058) dL_law_2058 rfl ?_
  refine lc_lW E (pc := 2059) [.ref (adX 0), .int (sv xs i 1), .ref q] [] dL_law_2059 mwL_cellInOrder hw rfl rfl (Nat.le_of_ble_eq_true rfl) (by decide) (by omega) ?_
  refine lc_istore E.1 (lo' := (lo6 b (adX 0) (adM 0) q i w)) (pc := 2062) dL_law_2062 (by decide) rfl rfl ?_
  refine lc_aload_n E.1 (pc := 2064) dL_law_2064 rfl ?_
  refine lc_sc E hS hbl hbA (pc := 2065) (j := 1) kc_1 (hin 1 (by decide)) dL_law_2065 dL_law_2066 dL_law_2068 dL_law_2069 dL_law_2070 rfl rfl ?_
  refine lc_lM E (pc := 2071) [.int (sv xs i 1)] [] dL_law_2071 mvL_cellInOrder (ctX9_cellInOrder hm) rfl rfl rfl (Nat.le_of_ble_eq_true rfl) (by decide) (by omega) ?_
  refine lc_widen (cl' := cl + 2) (sl' := sl + 12) (by omega) (by omega) ?_
  exact lc_tail E (pc := 2074) ht ho hc dL_law_2074 dL_law_2076 dL_law_2077 dL_law_2080 dL_law_2082 dL_law_2087 dL_law_2089 dL_law_2092 dL_law_2093 dL_law_2094 dL_law_2095 dL_law_2097 dL_law_2098 dL_law_2099 dL_law_2104 (by decide) (K c1 X1 M1 o1 g1 g2 g3)
theorem case_40 (E : EL p s m args meth c cL_law 9 RL D cI cR cL A0) (hl9 : l.stackTraces = false) (hS : va_X b L xs s s.heap) (hbl : b < s.heap.size) (hbA : ¬ A0 b) (hin : ∀ j : Int32, j ∈ ([1, 2, 3, 4, 5, 6] : List Int32) → vp_in (i + j) L) (hG : GC cf) (hX : XC cf X) (hM : MC cf M) (hc : cl + 2 ≤ 601024 ∧ sl + 12 ≤ 7293034) (K : KL p l e s m args below meth c D cI cR cL A0 Q cl sl adX adM q b i) : LC p l e room_1 s m args below meth c 9 D A0 Q (WL cI cR cL adX adM q X M o) cl sl 2107 (lo5 b (adX 0) (adM 0) q i) [] := by
  obtain ⟨c1, X1, M1, w, v, o1, g1, g2, g3, hw, hm, ht, ho⟩ := wL_cellInBundles hl9 hG hX hM (sv xs i 1) D cI cR cL adX q o
  refine lc_aload_n E.1 (pc := 2107) dL_law_2107 rfl ?_
  refine lc_sc E hS hbl hbA (pc := 2108) (j := 1) kc_1 (hin 1 (by decide)) dL_law_2108 dL_law_2109 dL_law_2111 dL_law_2112 dL_law_2113 rfl rfl ?_
  refine lc_aload_n E.1 (pc := 2114) dL_law_2114 rfl ?_
  refine lc_lW E (pc := 2115) [.ref (adX 0), .int (sv xs i 1), .ref q] [] dL_law_2115 mwL_cellInBundles hw rfl rfl (Nat.le_of_ble_eq_true rfl) (by decide) (by omega) ?_
  refine lc_istore E.1 (lo' := (lo6 b (adX 0) (adM 0) q i w)) (pc := 2118) dL_law_2118 (by decide) rfl rfl ?_
  refine lc_aload_n E.1 (pc := 2120) dL_law_2120 rfl ?_
  refine lc_sc E hS hbl hbA (pc := 2121) (j := 1) kc_1 (hin 1 (by decide)) dL_law_2121 dL_law_2122 dL_law_2124 dL_law_2125 dL_law_2126 rfl rfl ?_
  refine lc_lM E (pc := 2127) [.int (sv xs i 1)] [] dL_law_2127 mvL_cellInBundles (ctX9_cellInBundles hm) rfl rfl rfl (Nat.le_of_ble_eq_true rfl) (by decide) (by omega) ?_
  refine lc_widen (cl' := cl + 2) (sl' := sl + 12) (by omega) (by omega) ?_
  exact lc_tail E (pc := 2130) ht ho hc dL_law_2130 dL_law_2132 dL_law_2133 dL_law_2136 dL_law_2138 dL_law_2143 dL_law_2145 dL_law_2148 dL_law_2149 dL_law_2150 dL_law_2151 dL_law_2153 dL_law_2154 dL_law_2155 dL_law_2160 (by decide) (K c1 X1 M1 o1 g1 g2 g3)
theorem case_41 (E : EL p s m args meth c cL_law 9 RL D cI cR cL A0) (hl9 : l.stackTraces = false) (hS : va_X b L xs s s.heap) (hbl : b < s.heap.size) (hbA : ¬ A0 b) (hin : ∀ j : Int32, j ∈ ([1, 2, 3, 4, 5, 6] : List Int32) → vp_in (i + j) L) (hG : GC cf) (hX : XC cf X) (hM : MC cf M) (hc : cl + 2 ≤ 601024 ∧ sl + 12 ≤ 7293034) (K : KL p l e s m args below meth c D cI cR cL A0 Q cl sl adX adM q b i) : LC p l e room_1 s m args below meth c 9 D A0 Q (WL cI cR cL adX adM q X M o) cl sl 2163 (lo5 b (adX 0) (adM 0) q i) [] := by
  obtain ⟨c1, X1, M1, w, v, o1, g1, g2, g3, hw, hm, ht, ho⟩ := wL_registerAt hl9 hG hX hM (sv xs i 1) (sv xs i 2) D cI cR cL adX q o
  refine lc_aload_n E.1 (pc := 2163) dL_law_2163 rfl ?_
  refine lc_sc E hS hbl hbA (pc := 2164) (j := 1) kc_1 (hin 1 (by decide)) dL_law_2164 dL_law_2165 dL_law_2167 dL_law_2168 dL_law_2169 rfl rfl ?_
  refine lc_sc E hS hbl hbA (pc := 2170) (j := 2) kc_2 (hin 2 (by decide)) dL_law_2170 dL_law_2171 dL_law_2173 dL_law_2174 dL_law_2175 rfl rfl ?_
  refine lc_aload_n E.1 (pc := 2176) dL_law_2176 rfl ?_
  refine lc_lW E (pc := 2177) [.ref (adX 0), .int (sv xs i 1), .int (sv xs i 2), .ref q] [] dL_law_2177 mwL_registerAt hw rfl rfl (Nat.le_of_ble_eq_true rfl) (by decide) (by omega) ?_
  refine lc_istore E.1 (lo' := (lo6 b (adX 0) (adM 0) q i w)) (pc := 2180) dL_law_2180 (by decide) rfl rfl ?_
  refine lc_aload_n E.1 (pc := 2182) dL_law_2182 rfl ?_
  refine lc_sc E hS hbl hbA (pc := 2183) (j := 1) kc_1 (hin 1 (by decide)) dL_law_2183 dL_law_2184 dL_law_2186 dL_law_2187 dL_law_2188 rfl rfl ?_
  refine lc_sc E hS hbl hbA (pc := 2189) (j := 2) kc_2 (hin 2 (by decide)) dL_law_2189 dL_law_2190 dL_law_2192 dL_law_2193 dL_law_2194 rfl rfl ?_
  refine lc_lM E (pc := 2195) [.int (sv xs i 1), .int (sv xs i 2)] [] dL_law_2195 mvL_registerAt (ctX9_registerAt hm) rfl rfl rfl (Nat.le_of_ble_eq_true rfl) (by decide) (by omega) ?_
  refine lc_widen (cl' := cl + 2) (sl' := sl + 12) (by omega) (by omega) ?_
  exact lc_tail E (pc := 2198) ht ho hc dL_law_2198 dL_law_2200 dL_law_2201 dL_law_2204 dL_law_2206 dL_law_2211 dL_law_2213 dL_law_2216 dL_law_2217 dL_law_2218 dL_law_2219 dL_law_2221 dL_law_2222 dL_law_2223 dL_law_2228 (by decide) (K c1 X1 M1 o1 g1 g2 g3)
theorem case_42 (E : EL p s m args meth c cL_law 9 RL D cI cR cL A0) (hl9 : l.stackTraces = false) (hS : va_X b L xs s s.heap) (hbl : b < s.heap.size) (hbA : ¬ A0 b) (hin : ∀ j : Int32, j ∈ ([1, 2, 3, 4, 5, 6] : List Int32) → vp_in (i + j) L) (hG : GC cf) (hX : XC cf X) (hM : MC cf M) (hc : cl + 2 ≤ 601024 ∧ sl + 12 ≤ 7293034) (K : KL p l e s m args below meth c D cI cR cL A0 Q cl sl adX adM q b i) : LC p l e room_1 s m args below meth c 9 D A0 Q (WL cI cR cL adX adM q X M o) cl sl 2231 (lo5 b (adX 0) (adM 0) q i) [] := by
  refine lc_widen (cl' := cl + 2) (sl' := sl + 12) (by omega) (by omega) ?_
  obtain ⟨c1, X1, M1, g1, g2, g3, r, h1, h2, -⟩ := a_doesAgree hG hX hM
  refine lc_aload_n E.1 (pc := 2231) dL_law_2231 rfl ?_
  refine lc_lX E (pc := 2232) dL_law_2232 mxL_doesAgree (ctX8_doesAgree h1) rfl (Nat.le_of_ble_eq_true rfl) (by decide) hc ?_
  refine lc_aload_n E.1 (pc := 2235) dL_law_2235 rfl ?_
  refine lc_lM E (pc := 2236) [] [.int r] dL_law_2236 mvL_doesAgree (ctX9_doesAgree h2) rfl rfl rfl (Nat.le_of_ble_eq_true rfl) (by decide) hc ?_
  exact lc_eqY E.1 (pc := 2239) (tgt := 2652) dL_law_2239 rfl (K c1 X1 M1 o g1 g2 g3)
theorem case_43 (E : EL p s m args meth c cL_law 9 RL D cI cR cL A0) (hl9 : l.stackTraces = false) (hS : va_X b L xs s s.heap) (hbl : b < s.heap.size) (hbA : ¬ A0 b) (hin : ∀ j : Int32, j ∈ ([1, 2, 3, 4, 5, 6] : List Int32) → vp_in (i + j) L) (hG : GC cf) (hX : XC cf X) (hM : MC cf M) (hc : cl + 2 ≤ 601024 ∧ sl + 12 ≤ 7293034) (K : KL p l e s m args below meth c D cI cR cL A0 Q cl sl adX adM q b i) : LC p l e room_1 s m args below meth c 9 D A0 Q (WL cI cR cL adX adM q X M o) cl sl 2244 (lo5 b (adX 0) (adM 0) q i) [] := by
  refine lc_widen (cl' := cl + 2) (sl' := sl + 12) (by omega) (by omega) ?_
  obtain ⟨c1, X1, M1, g1, g2, g3, r, h1, h2, -⟩ := a_beatByUnits hG hX hM
  refine lc_aload_n E.1 (pc := 2244) dL_law_2244 rfl ?_
  refine lc_lX E (pc := 2245) dL_law_2245 mxL_beatByUnits (ctX8_beatByUnits h1) rfl (Nat.le_of_ble_eq_true rfl) (by decide) hc ?_
  refine lc_aload_n E.1 (pc := 2248) dL_law_2248 rfl ?_
  refine lc_lM E (pc := 2249) [] [.int r] dL_law_2249 mvL_beatByUnits (ctX9_beatByUnits h2) rfl rfl rfl (Nat.le_of_ble_eq_true rfl) (by decide) hc ?_
  exact lc_eqY E.1 (pc := 2252) (tgt := 2652) dL_law_2252 rfl (K c1 X1 M1 o g1 g2 g3)
theorem case_44 (E : EL p s m args meth c cL_law 9 RL D cI cR cL A0) (hl9 : l.stackTraces = false) (hS : va_X b L xs s s.heap) (hbl : b < s.heap.size) (hbA : ¬ A0 b) (hin : ∀ j : Int32, j ∈ ([1, 2, 3, 4, 5, 6] : List Int32) → vp_in (i + j) L) (hG : GC cf) (hX : XC cf X) (hM : MC cf M) (hc : cl + 2 ≤ 601024 ∧ sl + 12 ≤ 7293034) (K : KL p l e s m args below meth c D cI cR cL A0 Q cl sl adX adM q b i) : LC p l e room_1 s m args below meth c 9 D A0 Q (WL cI cR cL adX adM q X M o) cl sl 2257 (lo5 b (adX 0) (adM 0) q i) [] := by
  refine lc_widen (cl' := cl + 2) (sl' := sl + 12) (by omega) (by omega) ?_
  obtain ⟨c1, X1, M1, g1, g2, g3, r, h1, h2, -⟩ := a_beatByCircles hG hX hM
  refine lc_aload_n E.1 (pc := 2257) dL_law_2257 rfl ?_
  refine lc_lX E (pc := 2258) dL_law_2258 mxL_beatByCircles (ctX8_beatByCircles h1) rfl (Nat.le_of_ble_eq_true rfl) (by decide) hc ?_
  refine lc_aload_n E.1 (pc := 2261) dL_law_2261 rfl ?_
  refine lc_lM E (pc := 2262) [] [.int r] dL_law_2262 mvL_beatByCircles (ctX9_beatByCircles h2) rfl rfl rfl (Nat.le_of_ble_eq_true rfl) (by decide) hc ?_
  exact lc_eqY E.1 (pc := 2265) (tgt := 2652) dL_law_2265 rfl (K c1 X1 M1 o g1 g2 g3)
theorem case_45 (E : EL p s m args meth c cL_law 9 RL D cI cR cL A0) (hl9 : l.stackTraces = false) (hS : va_X b L xs s s.heap) (hbl : b < s.heap.size) (hbA : ¬ A0 b) (hin : ∀ j : Int32, j ∈ ([1, 2, 3, 4, 5, 6] : List Int32) → vp_in (i + j) L) (hG : GC cf) (hX : XC cf X) (hM : MC cf M) (hc : cl + 2 ≤ 601024 ∧ sl + 12 ≤ 7293034) (K : KL p l e s m args below meth c D cI cR cL A0 Q cl sl adX adM q b i) : LC p l e room_1 s m args below meth c 9 D A0 Q (WL cI cR cL adX adM q X M o) cl sl 2270 (lo5 b (adX 0) (adM 0) q i) [] := by
  refine lc_widen (cl' := cl + 2) (sl' := sl + 12) (by omega) (by omega) ?_
  obtain ⟨c1, X1, M1, g1, g2, g3, r, h1, h2, -⟩ := a_beatByRounds hG hX hM
  refine lc_aload_n E.1 (pc := 2270) dL_law_2270 rfl ?_
  refine lc_lX E (pc := 2271) dL_law_2271 mxL_beatByRounds (ctX8_beatByRounds h1) rfl (Nat.le_of_ble_eq_true rfl) (by decide) hc ?_
  refine lc_aload_n E.1 (pc := 2274) dL_law_2274 rfl ?_
  refine lc_lM E (pc := 2275) [] [.int r] dL_law_2275 mvL_beatByRounds (ctX9_beatByRounds h2) rfl rfl rfl (Nat.le_of_ble_eq_true rfl) (by decide) hc ?_
  exact lc_eqY E.1 (pc := 2278) (tgt := 2652) dL_law_2278 rfl (K c1 X1 M1 o g1 g2 g3)
theorem case_46 (E : EL p s m args meth c cL_law 9 RL D cI cR cL A0) (hl9 : l.stackTraces = false) (hS : va_X b L xs s s.heap) (hbl : b < s.heap.size) (hbA : ¬ A0 b) (hin : ∀ j : Int32, j ∈ ([1, 2, 3, 4, 5, 6] : List Int32) → vp_in (i + j) L) (hG : GC cf) (hX : XC cf X) (hM : MC cf M) (hc : cl + 2 ≤ 601024 ∧ sl + 12 ≤ 7293034) (K : KL p l e s m args below meth c D cI cR cL A0 Q cl sl adX adM q b i) : LC p l e room_1 s m args below meth c 9 D A0 Q (WL cI cR cL adX adM q X M o) cl sl 2283 (lo5 b (adX 0) (adM 0) q i) [] := by
  refine lc_widen (cl' := cl + 2) (sl' := sl + 12) (by omega) (by omega) ?_
  obtain ⟨c1, X1, M1, g1, g2, g3, r, h1, h2, -⟩ := a_beat hG hX hM
  refine lc_aload_n E.1 (pc := 2283) dL_law_2283 rfl ?_
  refine lc_lX E (pc := 2284) dL_law_2284 mxL_beat (ctX8_beat h1) rfl (Nat.le_of_ble_eq_true rfl) (by decide) hc ?_
  refine lc_aload_n E.1 (pc := 2287) dL_law_2287 rfl ?_
  refine lc_lM E (pc := 2288) [] [.int r] dL_law_2288 mvL_beat (ctX9_beat h2) rfl rfl rfl (Nat.le_of_ble_eq_true rfl) (by decide) hc ?_
  exact lc_eqY E.1 (pc := 2291) (tgt := 2652) dL_law_2291 rfl (K c1 X1 M1 o g1 g2 g3)
theorem case_47 (E : EL p s m args meth c cL_law 9 RL D cI cR cL A0) (hl9 : l.stackTraces = false) (hS : va_X b L xs s s.heap) (hbl : b < s.heap.size) (hbA : ¬ A0 b) (hin : ∀ j : Int32, j ∈ ([1, 2, 3, 4, 5, 6] : List Int32) → vp_in (i + j) L) (hG : GC cf) (hX : XC cf X) (hM : MC cf M) (hc : cl + 2 ≤ 601024 ∧ sl + 12 ≤ 7293034) (K : KL p l e s m args below meth c D cI cR cL A0 Q cl sl adX adM q b i) : LC p l e room_1 s m args below meth c 9 D A0 Q (WL cI cR cL adX adM q X M o) cl sl 2296 (lo5 b (adX 0) (adM 0) q i) [] := by
  obtain ⟨c1, X1, M1, w, v, o1, g1, g2, g3, hw, hm, ht, ho⟩ := wL_loopBundleOf hl9 hG hX hM (sv xs i 1) D cI cR cL adX q o
  refine lc_aload_n E.1 (pc := 2296) dL_law_2296 rfl ?_
  refine lc_sc E hS hbl hbA (pc := 2297) (j := 1) kc_1 (hin 1 (by decide)) dL_law_2297 dL_law_2298 dL_law_2300 dL_law_2301 dL_law_2302 rfl rfl ?_
  refine lc_aload_n E.1 (pc := 2303) dL_law_2303 rfl ?_
  refine lc_lW E (pc := 2304) [.ref (adX 0), .int (sv xs i 1), .ref q] [] dL_law_2304 mwL_loopBundleOf hw rfl rfl (Nat.le_of_ble_eq_true rfl) (by decide) (by omega) ?_
  refine lc_istore E.1 (lo' := (lo6 b (adX 0) (adM 0) q i w)) (pc := 2307) dL_law_2307 (by decide) rfl rfl ?_
  refine lc_aload_n E.1 (pc := 2309) dL_law_2309 rfl ?_
  refine lc_sc E hS hbl hbA (pc := 2310) (j := 1) kc_1 (hin 1 (by decide)) dL_law_2310 dL_law_2311 dL_law_2313 dL_law_2314 dL_law_2315 rfl rfl ?_
  refine lc_lM E (pc := 2316) [.int (sv xs i 1)] [] dL_law_2316 mvL_loopBundleOf (ctX9_loopBundleOf hm) rfl rfl rfl (Nat.le_of_ble_eq_true rfl) (by decide) (by omega) ?_
  refine lc_widen (cl' := cl + 2) (sl' := sl + 12) (by omega) (by omega) ?_
  exact lc_tail E (pc := 2319) ht ho hc dL_law_2319 dL_law_2321 dL_law_2322 dL_law_2325 dL_law_2327 dL_law_2332 dL_law_2334 dL_law_2337 dL_law_2338 dL_law_2339 dL_law_2340 dL_law_2342 dL_law_2343 dL_law_2344 dL_law_2349 (by decide) (K c1 X1 M1 o1 g1 g2 g3)
theorem case_48 (E : EL p s m args meth c cL_law 9 RL D cI cR cL A0) (hl9 : l.stackTraces = false) (hS : va_X b L xs s s.heap) (hbl : b < s.heap.size) (hbA : ¬ A0 b) (hin : ∀ j : Int32, j ∈ ([1, 2, 3, 4, 5, 6] : List Int32) → vp_in (i + j) L) (hG : GC cf) (hX : XC cf X) (hM : MC cf M) (hc : cl + 2 ≤ 601024 ∧ sl + 12 ≤ 7293034) (K : KL p l e s m args below meth c D cI cR cL A0 Q cl sl adX adM q b i) : LC p l e room_1 s m args below meth c 9 D A0 Q (WL cI cR cL adX adM q X M o) cl sl 2352 (lo5 b (adX 0) (adM 0) q i) [] := by
  refine lc_widen (cl' := cl + 2) (sl' := sl + 12) (by omega) (by omega) ?_
  obtain ⟨c1, X1, M1, g1, g2, g3, r, h1, h2, -⟩ := a_jumpBundle hG hX hM
  refine lc_aload_n E.1 (pc := 2352) dL_law_2352 rfl ?_
  refine lc_lX E (pc := 2353) dL_law_2353 mxL_jumpBundle (ctX8_jumpBundle h1) rfl (Nat.le_of_ble_eq_true rfl) (by decide) hc ?_
  refine lc_aload_n E.1 (pc := 2356) dL_law_2356 rfl ?_
  refine lc_lM E (pc := 2357) [] [.int r] dL_law_2357 mvL_jumpBundle (ctX9_jumpBundle h2) rfl rfl rfl (Nat.le_of_ble_eq_true rfl) (by decide) hc ?_
  exact lc_eqY E.1 (pc := 2360) (tgt := 2652) dL_law_2360 rfl (K c1 X1 M1 o g1 g2 g3)
theorem case_49 (E : EL p s m args meth c cL_law 9 RL D cI cR cL A0) (hl9 : l.stackTraces = false) (hS : va_X b L xs s s.heap) (hbl : b < s.heap.size) (hbA : ¬ A0 b) (hin : ∀ j : Int32, j ∈ ([1, 2, 3, 4, 5, 6] : List Int32) → vp_in (i + j) L) (hG : GC cf) (hX : XC cf X) (hM : MC cf M) (hc : cl + 2 ≤ 601024 ∧ sl + 12 ≤ 7293034) (K : KL p l e s m args below meth c D cI cR cL A0 Q cl sl adX adM q b i) : LC p l e room_1 s m args below meth c 9 D A0 Q (WL cI cR cL adX adM q X M o) cl sl 2365 (lo5 b (adX 0) (adM 0) q i) [] := by
  refine lc_widen (cl' := cl + 2) (sl' := sl + 12) (by omega) (by omega) ?_
  obtain ⟨c1, X1, M1, g1, g2, g3, r, h1, h2, -⟩ := a_overlap hG hX hM
  refine lc_aload_n E.1 (pc := 2365) dL_law_2365 rfl ?_
  refine lc_lX E (pc := 2366) dL_law_2366 mxL_overlap (ctX8_overlap h1) rfl (Nat.le_of_ble_eq_true rfl) (by decide) hc ?_
  refine lc_aload_n E.1 (pc := 2369) dL_law_2369 rfl ?_
  refine lc_lM E (pc := 2370) [] [.int r] dL_law_2370 mvL_overlap (ctX9_overlap h2) rfl rfl rfl (Nat.le_of_ble_eq_true rfl) (by decide) hc ?_
  exact lc_eqY E.1 (pc := 2373) (tgt := 2652) dL_law_2373 rfl (K c1 X1 M1 o g1 g2 g3)
theorem case_50 (E : EL p s m args meth c cL_law 9 RL D cI cR cL A0) (hl9 : l.stackTraces = false) (hS : va_X b L xs s s.heap) (hbl : b < s.heap.size) (hbA : ¬ A0 b) (hin : ∀ j : Int32, j ∈ ([1, 2, 3, 4, 5, 6] : List Int32) → vp_in (i + j) L) (hG : GC cf) (hX : XC cf X) (hM : MC cf M) (hc : cl + 2 ≤ 601024 ∧ sl + 12 ≤ 7293034) (K : KL p l e s m args below meth c D cI cR cL A0 Q cl sl adX adM q b i) : LC p l e room_1 s m args below meth c 9 D A0 Q (WL cI cR cL adX adM q X M o) cl sl 2378 (lo5 b (adX 0) (adM 0) q i) [] := by
  obtain ⟨c1, X1, M1, w, v, o1, g1, g2, g3, hw, hm, ht, ho⟩ := wL_loopBundles hl9 hG hX hM (sv xs i 1) D cI cR cL adX q o
  refine lc_aload_n E.1 (pc := 2378) dL_law_2378 rfl ?_
  refine lc_sc E hS hbl hbA (pc := 2379) (j := 1) kc_1 (hin 1 (by decide)) dL_law_2379 dL_law_2380 dL_law_2382 dL_law_2383 dL_law_2384 rfl rfl ?_
  refine lc_aload_n E.1 (pc := 2385) dL_law_2385 rfl ?_
  refine lc_lW E (pc := 2386) [.ref (adX 0), .int (sv xs i 1), .ref q] [] dL_law_2386 mwL_loopBundles hw rfl rfl (Nat.le_of_ble_eq_true rfl) (by decide) (by omega) ?_
  refine lc_istore E.1 (lo' := (lo6 b (adX 0) (adM 0) q i w)) (pc := 2389) dL_law_2389 (by decide) rfl rfl ?_
  refine lc_aload_n E.1 (pc := 2391) dL_law_2391 rfl ?_
  refine lc_sc E hS hbl hbA (pc := 2392) (j := 1) kc_1 (hin 1 (by decide)) dL_law_2392 dL_law_2393 dL_law_2395 dL_law_2396 dL_law_2397 rfl rfl ?_
  refine lc_lM E (pc := 2398) [.int (sv xs i 1)] [] dL_law_2398 mvL_loopBundles (ctX9_loopBundles hm) rfl rfl rfl (Nat.le_of_ble_eq_true rfl) (by decide) (by omega) ?_
  refine lc_widen (cl' := cl + 2) (sl' := sl + 12) (by omega) (by omega) ?_
  exact lc_tail E (pc := 2401) ht ho hc dL_law_2401 dL_law_2403 dL_law_2404 dL_law_2407 dL_law_2409 dL_law_2414 dL_law_2416 dL_law_2419 dL_law_2420 dL_law_2421 dL_law_2422 dL_law_2424 dL_law_2425 dL_law_2426 dL_law_2431 (by decide) (K c1 X1 M1 o1 g1 g2 g3)
theorem case_51 (E : EL p s m args meth c cL_law 9 RL D cI cR cL A0) (hl9 : l.stackTraces = false) (hS : va_X b L xs s s.heap) (hbl : b < s.heap.size) (hbA : ¬ A0 b) (hin : ∀ j : Int32, j ∈ ([1, 2, 3, 4, 5, 6] : List Int32) → vp_in (i + j) L) (hG : GC cf) (hX : XC cf X) (hM : MC cf M) (hc : cl + 2 ≤ 601024 ∧ sl + 12 ≤ 7293034) (K : KL p l e s m args below meth c D cI cR cL A0 Q cl sl adX adM q b i) : LC p l e room_1 s m args below meth c 9 D A0 Q (WL cI cR cL adX adM q X M o) cl sl 2434 (lo5 b (adX 0) (adM 0) q i) [] := by
  obtain ⟨c1, X1, M1, w, v, o1, g1, g2, g3, hw, hm, ht, ho⟩ := wL_registerInLoop hl9 hG hX hM (sv xs i 1) (sv xs i 2) D cI cR cL adX q o
  refine lc_aload_n E.1 (pc := 2434) dL_law_2434 rfl ?_
  refine lc_sc E hS hbl hbA (pc := 2435) (j := 1) kc_1 (hin 1 (by decide)) dL_law_2435 dL_law_2436 dL_law_2438 dL_law_2439 dL_law_2440 rfl rfl ?_
  refine lc_sc E hS hbl hbA (pc := 2441) (j := 2) kc_2 (hin 2 (by decide)) dL_law_2441 dL_law_2442 dL_law_2444 dL_law_2445 dL_law_2446 rfl rfl ?_
  refine lc_aload_n E.1 (pc := 2447) dL_law_2447 rfl ?_
  refine lc_lW E (pc := 2448) [.ref (adX 0), .int (sv xs i 1), .int (sv xs i 2), .ref q] [] dL_law_2448 mwL_registerInLoop hw rfl rfl (Nat.le_of_ble_eq_true rfl) (by decide) (by omega) ?_
  refine lc_istore E.1 (lo' := (lo6 b (adX 0) (adM 0) q i w)) (pc := 2451) dL_law_2451 (by decide) rfl rfl ?_
  refine lc_aload_n E.1 (pc := 2453) dL_law_2453 rfl ?_
  refine lc_sc E hS hbl hbA (pc := 2454) (j := 1) kc_1 (hin 1 (by decide)) dL_law_2454 dL_law_2455 dL_law_2457 dL_law_2458 dL_law_2459 rfl rfl ?_
  refine lc_sc E hS hbl hbA (pc := 2460) (j := 2) kc_2 (hin 2 (by decide)) dL_law_2460 dL_law_2461 dL_law_2463 dL_law_2464 dL_law_2465 rfl rfl ?_
  refine lc_lM E (pc := 2466) [.int (sv xs i 1), .int (sv xs i 2)] [] dL_law_2466 mvL_registerInLoop (ctX9_registerInLoop hm) rfl rfl rfl (Nat.le_of_ble_eq_true rfl) (by decide) (by omega) ?_
  refine lc_widen (cl' := cl + 2) (sl' := sl + 12) (by omega) (by omega) ?_
  exact lc_tail E (pc := 2469) ht ho hc dL_law_2469 dL_law_2471 dL_law_2472 dL_law_2475 dL_law_2477 dL_law_2482 dL_law_2484 dL_law_2487 dL_law_2488 dL_law_2489 dL_law_2490 dL_law_2492 dL_law_2493 dL_law_2494 dL_law_2499 (by decide) (K c1 X1 M1 o1 g1 g2 g3)
theorem case_52 (E : EL p s m args meth c cL_law 9 RL D cI cR cL A0) (hl9 : l.stackTraces = false) (hS : va_X b L xs s s.heap) (hbl : b < s.heap.size) (hbA : ¬ A0 b) (hin : ∀ j : Int32, j ∈ ([1, 2, 3, 4, 5, 6] : List Int32) → vp_in (i + j) L) (hG : GC cf) (hX : XC cf X) (hM : MC cf M) (hc : cl + 2 ≤ 601024 ∧ sl + 12 ≤ 7293034) (K : KL p l e s m args below meth c D cI cR cL A0 Q cl sl adX adM q b i) : LC p l e room_1 s m args below meth c 9 D A0 Q (WL cI cR cL adX adM q X M o) cl sl 2502 (lo5 b (adX 0) (adM 0) q i) [] := by
  obtain ⟨c1, X1, M1, w, v, o1, g1, g2, g3, hw, hm, ht, ho⟩ := wL_registerInRounds hl9 hG hX hM (sv xs i 1) (sv xs i 2) D cI cR cL adX q o
  refine lc_aload_n E.1 (pc := 2502) dL_law_2502 rfl ?_
  refine lc_sc E hS hbl hbA (pc := 2503) (j := 1) kc_1 (hin 1 (by decide)) dL_law_2503 dL_law_2504 dL_law_2506 dL_law_2507 dL_law_2508 rfl rfl ?_
  refine lc_sc E hS hbl hbA (pc := 2509) (j := 2) kc_2 (hin 2 (by decide)) dL_law_2509 dL_law_2510 dL_law_2512 dL_law_2513 dL_law_2514 rfl rfl ?_
  refine lc_aload_n E.1 (pc := 2515) dL_law_2515 rfl ?_
  refine lc_lW E (pc := 2516) [.ref (adX 0), .int (sv xs i 1), .int (sv xs i 2), .ref q] [] dL_law_2516 mwL_registerInRounds hw rfl rfl (Nat.le_of_ble_eq_true rfl) (by decide) (by omega) ?_
  refine lc_istore E.1 (lo' := (lo6 b (adX 0) (adM 0) q i w)) (pc := 2519) dL_law_2519 (by decide) rfl rfl ?_
  refine lc_aload_n E.1 (pc := 2521) dL_law_2521 rfl ?_
  refine lc_sc E hS hbl hbA (pc := 2522) (j := 1) kc_1 (hin 1 (by decide)) dL_law_2522 dL_law_2523 dL_law_2525 dL_law_2526 dL_law_2527 rfl rfl ?_
  refine lc_sc E hS hbl hbA (pc := 2528) (j := 2) kc_2 (hin 2 (by decide)) dL_law_2528 dL_law_2529 dL_law_2531 dL_law_2532 dL_law_2533 rfl rfl ?_
  refine lc_lM E (pc := 2534) [.int (sv xs i 1), .int (sv xs i 2)] [] dL_law_2534 mvL_registerInRounds (ctX9_registerInRounds hm) rfl rfl rfl (Nat.le_of_ble_eq_true rfl) (by decide) (by omega) ?_
  refine lc_widen (cl' := cl + 2) (sl' := sl + 12) (by omega) (by omega) ?_
  exact lc_tail E (pc := 2537) ht ho hc dL_law_2537 dL_law_2539 dL_law_2540 dL_law_2543 dL_law_2545 dL_law_2550 dL_law_2552 dL_law_2555 dL_law_2556 dL_law_2557 dL_law_2558 dL_law_2560 dL_law_2561 dL_law_2562 dL_law_2567 (by decide) (K c1 X1 M1 o1 g1 g2 g3)
theorem case_53 (E : EL p s m args meth c cL_law 9 RL D cI cR cL A0) (hl9 : l.stackTraces = false) (hS : va_X b L xs s s.heap) (hbl : b < s.heap.size) (hbA : ¬ A0 b) (hin : ∀ j : Int32, j ∈ ([1, 2, 3, 4, 5, 6] : List Int32) → vp_in (i + j) L) (hG : GC cf) (hX : XC cf X) (hM : MC cf M) (hc : cl + 2 ≤ 601024 ∧ sl + 12 ≤ 7293034) (K : KL p l e s m args below meth c D cI cR cL A0 Q cl sl adX adM q b i) : LC p l e room_1 s m args below meth c 9 D A0 Q (WL cI cR cL adX adM q X M o) cl sl 2570 (lo5 b (adX 0) (adM 0) q i) [] := by
  obtain ⟨c1, X1, M1, w, v, o1, g1, g2, g3, hw, hm, ht, ho⟩ := wL_cellInLoop hl9 hG hX hM (sv xs i 1) (sv xs i 2) D cI cR cL adX q o
  refine lc_aload_n E.1 (pc := 2570) dL_law_2570 rfl ?_
  refine lc_sc E hS hbl hbA (pc := 2571) (j := 1) kc_1 (hin 1 (by decide)) dL_law_2571 dL_law_2572 dL_law_2574 dL_law_2575 dL_law_2576 rfl rfl ?_
  refine lc_sc E hS hbl hbA (pc := 2577) (j := 2) kc_2 (hin 2 (by decide)) dL_law_2577 dL_law_2578 dL_law_2580 dL_law_2581 dL_law_2582 rfl rfl ?_
  refine lc_aload_n E.1 (pc := 2583) dL_law_2583 rfl ?_
  refine lc_lW E (pc := 2584) [.ref (adX 0), .int (sv xs i 1), .int (sv xs i 2), .ref q] [] dL_law_2584 mwL_cellInLoop hw rfl rfl (Nat.le_of_ble_eq_true rfl) (by decide) (by omega) ?_
  refine lc_istore E.1 (lo' := (lo6 b (adX 0) (adM 0) q i w)) (pc := 2587) dL_law_2587 (by decide) rfl rfl ?_
  refine lc_aload_n E.1 (pc := 2589) dL_law_2589 rfl ?_
  refine lc_sc E hS hbl hbA (pc := 2590) (j := 1) kc_1 (hin 1 (by decide)) dL_law_2590 dL_law_2591 dL_law_2593 dL_law_2594 dL_law_2595 rfl rfl ?_
  refine lc_sc E hS hbl hbA (pc := 2596) (j := 2) kc_2 (hin 2 (by decide)) dL_law_2596 dL_law_2597 dL_law_2599 dL_law_2600 dL_law_2601 rfl rfl ?_
  refine lc_lM E (pc := 2602) [.int (sv xs i 1), .int (sv xs i 2)] [] dL_law_2602 mvL_cellInLoop (ctX9_cellInLoop hm) rfl rfl rfl (Nat.le_of_ble_eq_true rfl) (by decide) (by omega) ?_
  refine lc_widen (cl' := cl + 2) (sl' := sl + 12) (by omega) (by omega) ?_
  exact lc_tail E (pc := 2605) ht ho hc dL_law_2605 dL_law_2607 dL_law_2608 dL_law_2611 dL_law_2613 dL_law_2618 dL_law_2620 dL_law_2623 dL_law_2624 dL_law_2625 dL_law_2626 dL_law_2628 dL_law_2629 dL_law_2630 dL_law_2635 (by decide) (K c1 X1 M1 o1 g1 g2 g3)
theorem case_54 (E : EL p s m args meth c cL_law 9 RL D cI cR cL A0) (hl9 : l.stackTraces = false) (hS : va_X b L xs s s.heap) (hbl : b < s.heap.size) (hbA : ¬ A0 b) (hin : ∀ j : Int32, j ∈ ([1, 2, 3, 4, 5, 6] : List Int32) → vp_in (i + j) L) (hG : GC cf) (hX : XC cf X) (hM : MC cf M) (hc : cl + 2 ≤ 601024 ∧ sl + 12 ≤ 7293034) (K : KL p l e s m args below meth c D cI cR cL A0 Q cl sl adX adM q b i) : LC p l e room_1 s m args below meth c 9 D A0 Q (WL cI cR cL adX adM q X M o) cl sl 2638 (lo5 b (adX 0) (adM 0) q i) [] := by
  refine lc_widen (cl' := cl + 2) (sl' := sl + 12) (by omega) (by omega) ?_
  obtain ⟨c1, X1, M1, g1, g2, g3, r, h1, h2, -, hp⟩ := a_digest hG hX hM
  refine lc_aload_n E.1 (pc := 2638) dL_law_2638 rfl ?_
  refine lc_lX E (pc := 2639) dL_law_2639 mxL_digest (ctX8_digest h1) rfl (Nat.le_of_ble_eq_true rfl) (by decide) hc ?_
  refine lc_aload_n E.1 (pc := 2642) dL_law_2642 rfl ?_
  refine lc_lM E (pc := 2643) [] [.long r] dL_law_2643 mvL_digest (ctX9_digest h2) rfl rfl rfl (Nat.le_of_ble_eq_true rfl) (by decide) hc ?_
  refine lc_lcmp E.1 (pc := 2646) dL_law_2646 ?_
  exact lc_if0 E.1 (pc := 2647) (tgt := 2652) dL_law_2647 rfl (lg_cmp_self _) (K c1 X1 M1 o g1 g2 g3)
theorem law_call (E : EL p s m args meth c cL_law 9 RL D cI cR cL A0) (hl9 : l.stackTraces = false) (hS : va_X b L xs s s.heap) (hbl : b < s.heap.size) (hbA : ¬ A0 b) (hin : ∀ j : Int32, j ∈ ([1, 2, 3, 4, 5, 6] : List Int32) → vp_in (i + j) L) (hG : GC cf) (hX : XC cf X) (hM : MC cf M) (hc : cl + 2 ≤ 601024 ∧ sl + 12 ≤ 7293034) (K : KL p l e s m args below meth c D cI cR cL A0 Q cl sl adX adM q b i) (hin0 : vp_in i L) : LC p l e room_1 s m args below meth c 9 D A0 Q (WL cI cR cL adX adM q X M o) cl sl 33 (lo5 b (adX 0) (adM 0) q i) [] := by
  refine lc_aload_n E.1 (pc := 33) dL_law_33 rfl ?_
  refine lc_iload E.1 (pc := 34) dL_law_34 rfl ?_
  refine lc_sld E.1 (pc := 36) hS hbl hbA hin0 dL_law_36 ?_
  refine lc_bipush E.1 (v := 63) (pc := 37) dL_law_37 (by decide +kernel) ?_
  refine lc_iand E.1 (pc := 39) dL_law_39 ?_
  have hx := i63 (xs i.toNatClampNeg)
  generalize xs i.toNatClampNeg &&& 63 = x at hx ⊢
  obtain ⟨t, ht, hx⟩ := hx
  by_cases h55 : 55 ≤ t
  · exact lc_tabOut E.1 (pc := 40) (tgt := 2652) dL_law_40 (by rw [hx]; omega) rfl (lc_widen (cl' := cl + 2) (sl' := sl + 12) (by omega) (by omega) (K cf X M o hG hX hM))

  rcases (show t = 0 ∨ t = 1 ∨ t = 2 ∨ t = 3 ∨ t = 4 ∨ t = 5 ∨ t = 6 ∨ t = 7 ∨ t = 8 ∨ t = 9 ∨ t = 10 ∨ t = 11 ∨ t = 12 ∨ t = 13 ∨ t = 14 ∨ t = 15 ∨ t = 16 ∨ t = 17 ∨ t = 18 ∨ t = 19 ∨ t = 20 ∨ t = 21 ∨ t = 22 ∨ t = 23 ∨ t = 24 ∨ t = 25 ∨ t = 26 ∨ t = 27 ∨ t = 28 ∨ t = 29 ∨ t = 30 ∨ t = 31 ∨ t = 32 ∨ t = 33 ∨ t = 34 ∨ t = 35 ∨ t = 36 ∨ t = 37 ∨ t = 38 ∨ t = 39 ∨ t = 40 ∨ t = 41 ∨ t = 42 ∨ t = 43 ∨ t = 44 ∨ t = 45 ∨ t = 46 ∨ t = 47 ∨ t = 48 ∨ t = 49 ∨ t = 50 ∨ t = 51 ∨ t = 52 ∨ t = 53 ∨ t = 54 by omega) with rfl | rfl | rfl | rfl | rfl | rfl | rfl | rfl | rfl | rfl | rfl | rfl | rfl | rfl | rfl | rfl | rfl | rfl | rfl | rfl | rfl | rfl | rfl | rfl | rfl | rfl | rfl | rfl | rfl | rfl | rfl | rfl | rfl | rfl | rfl | rfl | rfl | rfl | rfl | rfl | rfl | rfl | rfl | rfl | rfl | rfl | rfl | rfl | rfl | rfl | rfl | rfl | rfl | rfl | rfl
  · exact lc_tabIn E.1 (pc := 40) (tgt := 276) dL_law_40 0 hx (by decide) (by decide) rfl rfl (case_0 E hl9 hS hbl hbA hin hG hX hM hc K)
  · exact lc_tabIn E.1 (pc := 40) (tgt := 394) dL_law_40 1 hx (by decide) (by decide) rfl rfl (case_1 E hl9 hS hbl hbA hin hG hX hM hc K)
  · exact lc_tabIn E.1 (pc := 40) (tgt := 450) dL_law_40 2 hx (by decide) (by decide) rfl rfl (case_2 E hl9 hS hbl hbA hin hG hX hM hc K)
  · exact lc_tabIn E.1 (pc := 40) (tgt := 518) dL_law_40 3 hx (by decide) (by decide) rfl rfl (case_3 E hl9 hS hbl hbA hin hG hX hM hc K)
  · exact lc_tabIn E.1 (pc := 40) (tgt := 586) dL_law_40 4 hx (by decide) (by decide) rfl rfl (case_4 E hl9 hS hbl hbA hin hG hX hM hc K)
  · exact lc_tabIn E.1 (pc := 40) (tgt := 654) dL_law_40 5 hx (by decide) (by decide) rfl rfl (case_5 E hl9 hS hbl hbA hin hG hX hM hc K)
  · exact lc_tabIn E.1 (pc := 40) (tgt := 722) dL_law_40 6 hx (by decide) (by decide) rfl rfl (case_6 E hl9 hS hbl hbA hin hG hX hM hc K)
  · exact lc_tabIn E.1 (pc := 40) (tgt := 790) dL_law_40 7 hx (by decide) (by decide) rfl rfl (case_7 E hl9 hS hbl hbA hin hG hX hM hc K)
  · exact lc_tabIn E.1 (pc := 40) (tgt := 846) dL_law_40 8 hx (by decide) (by decide) rfl rfl (case_8 E hl9 hS hbl hbA hin hG hX hM hc K)
  · exact lc_tabIn E.1 (pc := 40) (tgt := 914) dL_law_40 9 hx (by decide) (by decide) rfl rfl (case_9 E hl9 hS hbl hbA hin hG hX hM hc K)
  · exact lc_tabIn E.1 (pc := 40) (tgt := 970) dL_law_40 10 hx (by decide) (by decide) rfl rfl (case_10 E hl9 hS hbl hbA hin hG hX hM hc K)
  · exact lc_tabIn E.1 (pc := 40) (tgt := 983) dL_law_40 11 hx (by decide) (by decide) rfl rfl (case_11 E hl9 hS hbl hbA hin hG hX hM hc K)
  · exact lc_tabIn E.1 (pc := 40) (tgt := 1039) dL_law_40 12 hx (by decide) (by decide) rfl rfl (case_12 E hl9 hS hbl hbA hin hG hX hM hc K)
  · exact lc_tabIn E.1 (pc := 40) (tgt := 1052) dL_law_40 13 hx (by decide) (by decide) rfl rfl (case_13 E hl9 hS hbl hbA hin hG hX hM hc K)
  · exact lc_tabIn E.1 (pc := 40) (tgt := 1065) dL_law_40 14 hx (by decide) (by decide) rfl rfl (case_14 E hl9 hS hbl hbA hin hG hX hM hc K)
  · exact lc_tabIn E.1 (pc := 40) (tgt := 1109) dL_law_40 15 hx (by decide) (by decide) rfl rfl (case_15 E hl9 hS hbl hbA hin hG hX hM hc K)
  · exact lc_tabIn E.1 (pc := 40) (tgt := 1153) dL_law_40 16 hx (by decide) (by decide) rfl rfl (case_16 E hl9 hS hbl hbA hin hG hX hM hc K)
  · exact lc_tabIn E.1 (pc := 40) (tgt := 1166) dL_law_40 17 hx (by decide) (by decide) rfl rfl (case_17 E hl9 hS hbl hbA hin hG hX hM hc K)
  · exact lc_tabIn E.1 (pc := 40) (tgt := 1179) dL_law_40 18 hx (by decide) (by decide) rfl rfl (case_18 E hl9 hS hbl hbA hin hG hX hM hc K)
  · exact lc_tabIn E.1 (pc := 40) (tgt := 1223) dL_law_40 19 hx (by decide) (by decide) rfl rfl (case_19 E hl9 hS hbl hbA hin hG hX hM hc K)
  · exact lc_tabIn E.1 (pc := 40) (tgt := 1236) dL_law_40 20 hx (by decide) (by decide) rfl rfl (case_20 E hl9 hS hbl hbA hin hG hX hM hc K)
  · exact lc_tabIn E.1 (pc := 40) (tgt := 1292) dL_law_40 21 hx (by decide) (by decide) rfl rfl (case_21 E hl9 hS hbl hbA hin hG hX hM hc K)
  · exact lc_tabIn E.1 (pc := 40) (tgt := 1348) dL_law_40 22 hx (by decide) (by decide) rfl rfl (case_22 E hl9 hS hbl hbA hin hG hX hM hc K)
  · exact lc_tabIn E.1 (pc := 40) (tgt := 1404) dL_law_40 23 hx (by decide) (by decide) rfl rfl (case_23 E hl9 hS hbl hbA hin hG hX hM hc K)
  · exact lc_tabIn E.1 (pc := 40) (tgt := 1460) dL_law_40 24 hx (by decide) (by decide) rfl rfl (case_24 E hl9 hS hbl hbA hin hG hX hM hc K)
  · exact lc_tabIn E.1 (pc := 40) (tgt := 1528) dL_law_40 25 hx (by decide) (by decide) rfl rfl (case_25 E hl9 hS hbl hbA hin hG hX hM hc K)
  · exact lc_tabIn E.1 (pc := 40) (tgt := 1596) dL_law_40 26 hx (by decide) (by decide) rfl rfl (case_26 E hl9 hS hbl hbA hin hG hX hM hc K)
  · exact lc_tabIn E.1 (pc := 40) (tgt := 1652) dL_law_40 27 hx (by decide) (by decide) rfl rfl (case_27 E hl9 hS hbl hbA hin hG hX hM hc K)
  · exact lc_tabIn E.1 (pc := 40) (tgt := 1708) dL_law_40 28 hx (by decide) (by decide) rfl rfl (case_28 E hl9 hS hbl hbA hin hG hX hM hc K)
  · exact lc_tabIn E.1 (pc := 40) (tgt := 1721) dL_law_40 29 hx (by decide) (by decide) rfl rfl (case_29 E hl9 hS hbl hbA hin hG hX hM hc K)
  · exact lc_tabIn E.1 (pc := 40) (tgt := 1734) dL_law_40 30 hx (by decide) (by decide) rfl rfl (case_30 E hl9 hS hbl hbA hin hG hX hM hc K)
  · exact lc_tabIn E.1 (pc := 40) (tgt := 1790) dL_law_40 31 hx (by decide) (by decide) rfl rfl (case_31 E hl9 hS hbl hbA hin hG hX hM hc K)
  · exact lc_tabIn E.1 (pc := 40) (tgt := 1846) dL_law_40 32 hx (by decide) (by decide) rfl rfl (case_32 E hl9 hS hbl hbA hin hG hX hM hc K)
  · exact lc_tabIn E.1 (pc := 40) (tgt := 1859) dL_law_40 33 hx (by decide) (by decide) rfl rfl (case_33 E hl9 hS hbl hbA hin hG hX hM hc K)
  · exact lc_tabIn E.1 (pc := 40) (tgt := 1872) dL_law_40 34 hx (by decide) (by decide) rfl rfl (case_34 E hl9 hS hbl hbA hin hG hX hM hc K)
  · exact lc_tabIn E.1 (pc := 40) (tgt := 1885) dL_law_40 35 hx (by decide) (by decide) rfl rfl (case_35 E hl9 hS hbl hbA hin hG hX hM hc K)
  · exact lc_tabIn E.1 (pc := 40) (tgt := 1898) dL_law_40 36 hx (by decide) (by decide) rfl rfl (case_36 E hl9 hS hbl hbA hin hG hX hM hc K)
  · exact lc_tabIn E.1 (pc := 40) (tgt := 1939) dL_law_40 37 hx (by decide) (by decide) rfl rfl (case_37 E hl9 hS hbl hbA hin hG hX hM hc K)
  · exact lc_tabIn E.1 (pc := 40) (tgt := 1995) dL_law_40 38 hx (by decide) (by decide) rfl rfl (case_38 E hl9 hS hbl hbA hin hG hX hM hc K)
  · exact lc_tabIn E.1 (pc := 40) (tgt := 2051) dL_law_40 39 hx (by decide) (by decide) rfl rfl (case_39 E hl9 hS hbl hbA hin hG hX hM hc K)
  · exact lc_tabIn E.1 (pc := 40) (tgt := 2107) dL_law_40 40 hx (by decide) (by decide) rfl rfl (case_40 E hl9 hS hbl hbA hin hG hX hM hc K)
  · exact lc_tabIn E.1 (pc := 40) (tgt := 2163) dL_law_40 41 hx (by decide) (by decide) rfl rfl (case_41 E hl9 hS hbl hbA hin hG hX hM hc K)
  · exact lc_tabIn E.1 (pc := 40) (tgt := 2231) dL_law_40 42 hx (by decide) (by decide) rfl rfl (case_42 E hl9 hS hbl hbA hin hG hX hM hc K)
  · exact lc_tabIn E.1 (pc := 40) (tgt := 2244) dL_law_40 43 hx (by decide) (by decide) rfl rfl (case_43 E hl9 hS hbl hbA hin hG hX hM hc K)
  · exact lc_tabIn E.1 (pc := 40) (tgt := 2257) dL_law_40 44 hx (by decide) (by decide) rfl rfl (case_44 E hl9 hS hbl hbA hin hG hX hM hc K)
  · exact lc_tabIn E.1 (pc := 40) (tgt := 2270) dL_law_40 45 hx (by decide) (by decide) rfl rfl (case_45 E hl9 hS hbl hbA hin hG hX hM hc K)
  · exact lc_tabIn E.1 (pc := 40) (tgt := 2283) dL_law_40 46 hx (by decide) (by decide) rfl rfl (case_46 E hl9 hS hbl hbA hin hG hX hM hc K)
  · exact lc_tabIn E.1 (pc := 40) (tgt := 2296) dL_law_40 47 hx (by decide) (by decide) rfl rfl (case_47 E hl9 hS hbl hbA hin hG hX hM hc K)
  · exact lc_tabIn E.1 (pc := 40) (tgt := 2352) dL_law_40 48 hx (by decide) (by decide) rfl rfl (case_48 E hl9 hS hbl hbA hin hG hX hM hc K)
  · exact lc_tabIn E.1 (pc := 40) (tgt := 2365) dL_law_40 49 hx (by decide) (by decide) rfl rfl (case_49 E hl9 hS hbl hbA hin hG hX hM hc K)
  · exact lc_tabIn E.1 (pc := 40) (tgt := 2378) dL_law_40 50 hx (by decide) (by decide) rfl rfl (case_50 E hl9 hS hbl hbA hin hG hX hM hc K)
  · exact lc_tabIn E.1 (pc := 40) (tgt := 2434) dL_law_40 51 hx (by decide) (by decide) rfl rfl (case_51 E hl9 hS hbl hbA hin hG hX hM hc K)
  · exact lc_tabIn E.1 (pc := 40) (tgt := 2502) dL_law_40 52 hx (by decide) (by decide) rfl rfl (case_52 E hl9 hS hbl hbA hin hG hX hM hc K)
  · exact lc_tabIn E.1 (pc := 40) (tgt := 2570) dL_law_40 53 hx (by decide) (by decide) rfl rfl (case_53 E hl9 hS hbl hbA hin hG hX hM hc K)
  · exact lc_tabIn E.1 (pc := 40) (tgt := 2638) dL_law_40 54 hx (by decide) (by decide) rfl rfl (case_54 E hl9 hS hbl hbA hin hG hX hM hc K)
end LAW4
