def fL_law_L464 (L9 : Nat) (xs : Nat → Int32) (K100 : Int32 → Int64 → Int32 → Mem → (Nat → Int64) → Option (Unit × Mem)) (v4 : Int64) (v6 : Int32) (s0 : Int32) (s1 : Int32) (μ : Mem) (w : Nat → Int64) : Option (Unit × Mem) :=
  K100 (s1 + s0) v4 (v6 + (1 : Int32)) μ w
set_option maxRecDepth 20000 in
theorem kL_law_L464 {p : Program} {l : Launch} {e : Env} {s : State} {m : MethodId} {args : Array Value} {below : List Frame} {meth : Method} {c : Code} {D : va_G} {cI cR cL : ClassId} {ad : Nat → Nat} {q : Nat} {A0 : Nat → Prop} {b L9 : Nat} {xs : Nat → Int32} {Q : State → Prop} (E : EG p s m args meth c cL_law 15 RL D cI cR cL ad q A0) (X : EM9 l s A0) (S : ES s A0 b L9 xs) (hE : HE p l e s m args below meth c A0 Q) {K100 : Int32 → Int64 → Int32 → Mem → (Nat → Int64) → Option (Unit × Mem)} {X100 : Nat} (hK100 : ∀ (v3 : Int32) (v4 : Int64) (v6 : Int32) (μ : Mem) (w : Nat → Int64) (cl : Nat), cl + X100 ≤ MCq → LGW p l e room_1 s m args below meth c 15 D cI cR cL ad q A0 (fun (_ : Unit) (_ : Mem) => Q) (K100 v3 v4 v6 μ w) cl (6 * cl) 100 [some (.ref b), some (.ref (ad 0)), some (.ref q), some (.int v3), some (.long v4), none, some (.int v6), none, none, none, none, none, none, none, none] [] μ w) (v4 : Int64) (v6 : Int32) (s0 : Int32) (s1 : Int32) (μ : Mem) (w : Nat → Int64) (cl : Nat) (hc0 : cl + (0 + X100) ≤ MCq) : LGW p l e room_1 s m args below meth c 15 D cI cR cL ad q A0 (fun (_ : Unit) (_ : Mem) => Q) (fL_law_L464 L9 xs K100 v4 v6 s0 s1 μ w) cl (6 * cl) 464 [some (.ref b), some (.ref (ad 0)), some (.ref q), none, some (.long v4), none, some (.int v6), none, none, none, none, none, none, none, none] [.int s0, .int s1] μ w := by
  rw [fL_law_L464]
  refine lg_iadd E (pc := 464) dL_law_464 ?_
  refine lg_istore_n E (pc := 465) (lo' := [some (.ref b), some (.ref (ad 0)), some (.ref q), some (.int (s1 + s0)), some (.long v4), none, some (.int v6), none, none, none, none, none, none, none, none]) dL_law_465 (Nat.le_of_ble_eq_true rfl) rfl rfl ?_
  refine lg_iinc E (pc := 466) (lo' := [some (.ref b), some (.ref (ad 0)), some (.ref q), some (.int (s1 + s0)), some (.long v4), none, some (.int (v6 + (1 : Int32))), none, none, none, none, none, none, none, none]) dL_law_466 rfl kc_1 (Nat.le_of_ble_eq_true rfl) rfl rfl ?_
  refine lg_goto E (pc := 469) (tgt := 100) dL_law_469 rfl ?_
  exact lg_lo (lo' := [some (.ref b), some (.ref (ad 0)), some (.ref q), some (.int (s1 + s0)), some (.long v4), none, some (.int (v6 + (1 : Int32))), none, none, none, none, none, none, none, none]) ⟨rfl, rfl, rfl, rfl, rfl, rfl, trivial⟩ (hK100 (s1 + s0) v4 (v6 + (1 : Int32)) μ w _ (by omega))
def fL_law_L453 (L9 : Nat) (xs : Nat → Int32) (K100 : Int32 → Int64 → Int32 → Mem → (Nat → Int64) → Option (Unit × Mem)) (v3 : Int32) (v4 : Int64) (v6 : Int32) (v14 : Int32) (μ : Mem) (w : Nat → Int64) : Option (Unit × Mem) :=
  if v14 = 0 then
  fL_law_L464 L9 xs K100 v4 v6 (1 : Int32) v3 μ w
  else
  fL_law_L464 L9 xs K100 v4 v6 (0 : Int32) v3 μ w
set_option maxRecDepth 20000 in
theorem kL_law_L453 {p : Program} {l : Launch} {e : Env} {s : State} {m : MethodId} {args : Array Value} {below : List Frame} {meth : Method} {c : Code} {D : va_G} {cI cR cL : ClassId} {ad : Nat → Nat} {q : Nat} {A0 : Nat → Prop} {b L9 : Nat} {xs : Nat → Int32} {Q : State → Prop} (E : EG p s m args meth c cL_law 15 RL D cI cR cL ad q A0) (X : EM9 l s A0) (S : ES s A0 b L9 xs) (hE : HE p l e s m args below meth c A0 Q) {K100 : Int32 → Int64 → Int32 → Mem → (Nat → Int64) → Option (Unit × Mem)} {X100 : Nat} (hK100 : ∀ (v3 : Int32) (v4 : Int64) (v6 : Int32) (μ : Mem) (w : Nat → Int64) (cl : Nat), cl + X100 ≤ MCq → LGW p l e room_1 s m args below meth c 15 D cI cR cL ad q A0 (fun (_ : Unit) (_ : Mem) => Q) (K100 v3 v4 v6 μ w) cl (6 * cl) 100 [some (.ref b), some (.ref (ad 0)), some (.ref q), some (.int v3), some (.long v4), none, some (.int v6), none, none, none, none, none, none, none, none] [] μ w) (v3 : Int32) (v4 : Int64) (v6 : Int32) (v14 : Int32) (μ : Mem) (w : Nat → Int64) (cl : Nat) (hc0 : cl + (0 + X100) ≤ MCq) : LGW p l e room_1 s m args below meth c 15 D cI cR cL ad q A0 (fun (_ : Unit) (_ : Mem) => Q) (fL_law_L453 L9 xs K100 v3 v4 v6 v14 μ w) cl (6 * cl) 453 [some (.ref b), some (.ref (ad 0)), some (.ref q), some (.int v3), some (.long v4), none, some (.int v6), none, none, none, none, none, none, none, some (.int v14)] [] μ w := by
  rw [fL_law_L453]
  refine lg_iload_n E (pc := 453) dL_law_453 rfl ?_
  refine lg_iload E (pc := 454) dL_law_454 rfl ?_
  refine lg_if_eq E (pc := 456) (tgt := 463) dL_law_456 rfl ?_ ?_
  · refine lg_iconst E (pc := 463) dL_law_463 kc_1 ?_
    exact lg_lo (lo' := [some (.ref b), some (.ref (ad 0)), some (.ref q), none, some (.long v4), none, some (.int v6), none, none, none, none, none, none, none, none]) ⟨rfl, rfl, rfl, rfl, rfl, trivial⟩ (kL_law_L464 E X S hE (X100 := X100) hK100 v4 v6 (1 : Int32) v3 μ w _ (by omega))
  · refine lg_iconst E (pc := 459) dL_law_459 kc_0 ?_
    refine lg_goto E (pc := 460) (tgt := 464) dL_law_460 rfl ?_
    exact lg_lo (lo' := [some (.ref b), some (.ref (ad 0)), some (.ref q), none, some (.long v4), none, some (.int v6), none, none, none, none, none, none, none, none]) ⟨rfl, rfl, rfl, rfl, rfl, trivial⟩ (kL_law_L464 E X S hE (X100 := X100) hK100 v4 v6 (0 : Int32) v3 μ w _ (by omega))
def fL_law_L424 (L9 : Nat) (xs : Nat → Int32) (K100 : Int32 → Int64 → Int32 → Mem → (Nat → Int64) → Option (Unit × Mem)) (v3 : Int32) (v4 : Int64) (v6 : Int32) (v9 : Int32) (s0 : Int32) (μ : Mem) (w : Nat → Int64) : Option (Unit × Mem) :=
  if s0 = 0 then
  fL_law_L453 L9 xs K100 v3 v4 v6 s0 μ w
  else
  bd (fX8_savedStates μ) fun r86 μ85 =>
  if r86 = v9 then
  bd (fL_seen μ85) fun r88 μ87 =>
  (lld w v3).bind fun r89 =>
  if (lg_cmp r88 r89) = 0 then
  fL_law_L453 L9 xs K100 v3 v4 v6 s0 μ87 w
  else
  none
  else
  none
set_option maxRecDepth 20000 in
theorem kL_law_L424 {p : Program} {l : Launch} {e : Env} {s : State} {m : MethodId} {args : Array Value} {below : List Frame} {meth : Method} {c : Code} {D : va_G} {cI cR cL : ClassId} {ad : Nat → Nat} {q : Nat} {A0 : Nat → Prop} {b L9 : Nat} {xs : Nat → Int32} {Q : State → Prop} (E : EG p s m args meth c cL_law 15 RL D cI cR cL ad q A0) (X : EM9 l s A0) (S : ES s A0 b L9 xs) (hE : HE p l e s m args below meth c A0 Q) {K100 : Int32 → Int64 → Int32 → Mem → (Nat → Int64) → Option (Unit × Mem)} {X100 : Nat} (hK100 : ∀ (v3 : Int32) (v4 : Int64) (v6 : Int32) (μ : Mem) (w : Nat → Int64) (cl : Nat), cl + X100 ≤ MCq → LGW p l e room_1 s m args below meth c 15 D cI cR cL ad q A0 (fun (_ : Unit) (_ : Mem) => Q) (K100 v3 v4 v6 μ w) cl (6 * cl) 100 [some (.ref b), some (.ref (ad 0)), some (.ref q), some (.int v3), some (.long v4), none, some (.int v6), none, none, none, none, none, none, none, none] [] μ w) (v3 : Int32) (v4 : Int64) (v6 : Int32) (v9 : Int32) (s0 : Int32) (μ : Mem) (w : Nat → Int64) (cl : Nat) (hc0 : cl + (2438 + X100) ≤ MCq) : LGW p l e room_1 s m args below meth c 15 D cI cR cL ad q A0 (fun (_ : Unit) (_ : Mem) => Q) (fL_law_L424 L9 xs K100 v3 v4 v6 v9 s0 μ w) cl (6 * cl) 424 [some (.ref b), some (.ref (ad 0)), some (.ref q), some (.int v3), some (.long v4), none, some (.int v6), none, none, some (.int v9), none, none, none, none, none] [.int s0] μ w := by
  rw [fL_law_L424]
  refine lg_istore E (pc := 424) (lo' := [some (.ref b), some (.ref (ad 0)), some (.ref q), some (.int v3), some (.long v4), none, some (.int v6), none, none, some (.int v9), none, none, none, none, some (.int s0)]) dL_law_424 (Nat.le_of_ble_eq_true rfl) rfl rfl ?_
  refine lg_iload E (pc := 426) dL_law_426 rfl ?_
  refine lg_if_eq E (pc := 428) (tgt := 453) dL_law_428 rfl ?_ ?_
  · exact lg_lo (lo' := [some (.ref b), some (.ref (ad 0)), some (.ref q), some (.int v3), some (.long v4), none, some (.int v6), none, none, none, none, none, none, none, some (.int s0)]) ⟨rfl, rfl, rfl, rfl, rfl, rfl, rfl, trivial⟩ (kL_law_L453 E X S hE (X100 := X100) hK100 v3 v4 v6 s0 μ w _ (by omega))
  · refine lg_aload_n E (pc := 431) dL_law_431 rfl ?_
    refine lg_callVi E (pc := 432) (d := 0) (ci := 8) (o9 := 0) [] [] dL_law_432 cv_L_237 (fun h => ctX8_savedStates h) (Nat.le_of_ble_eq_true rfl) sx_0 ci_8 rfl rfl (Nat.le_of_ble_eq_true rfl) ⟨(Nat.le_of_ble_eq_true rfl), (Nat.le_of_ble_eq_true rfl)⟩ (mch0 (by omega)) ?_
    intro r86 μ85
    refine lg_iload E (pc := 435) dL_law_435 rfl ?_
    refine lg_icmp_ne E (pc := 437) (tgt := 451) dL_law_437 rfl ?_ ?_
    · refine lg_iconst E (pc := 451) dL_law_451 kc_0 ?_
      exact lg_none
    · refine lg_aload_n E (pc := 440) dL_law_440 rfl ?_
      refine lg_mcallSj E X (pc := 441) (d := 11) [.ref (ad 0)] [] dL_law_441 cv_L_318 (fun h => cmL_seen X.1 h) rfl rfl (Nat.le_of_ble_eq_true rfl) ⟨(Nat.le_of_ble_eq_true rfl), (Nat.le_of_ble_eq_true rfl)⟩ (mch (by omega)) ?_
      intro r88 μ87
      refine lg_aload_n E (pc := 444) dL_law_444 rfl ?_
      refine lg_iload_n E (pc := 445) dL_law_445 rfl ?_
      refine lg_lald E (pc := 446) dL_law_446 ?_
      intro r89
      refine lg_lcmp E (pc := 447) dL_law_447 ?_
      refine lg_if_eq E (pc := 448) (tgt := 453) dL_law_448 rfl ?_ ?_
      · exact lg_lo (lo' := [some (.ref b), some (.ref (ad 0)), some (.ref q), some (.int v3), some (.long v4), none, some (.int v6), none, none, none, none, none, none, none, some (.int s0)]) ⟨rfl, rfl, rfl, rfl, rfl, rfl, rfl, trivial⟩ (kL_law_L453 E X S hE (X100 := X100) hK100 v3 v4 v6 s0 μ87 w _ (by omega))
      · refine lg_iconst E (pc := 451) dL_law_451 kc_0 ?_
        exact lg_none
def fL_law_L409 (L9 : Nat) (xs : Nat → Int32) (K100 : Int32 → Int64 → Int32 → Mem → (Nat → Int64) → Option (Unit × Mem)) (v3 : Int32) (v4 : Int64) (v6 : Int32) (v9 : Int32) (s0 : Int32) (μ : Mem) (w : Nat → Int64) : Option (Unit × Mem) :=
  if (-1999 : Int32) ≤ s0 then
  fL_law_L424 L9 xs K100 v3 v4 v6 v9 (0 : Int32) μ w
  else
  fL_law_L424 L9 xs K100 v3 v4 v6 v9 (1 : Int32) μ w
set_option maxRecDepth 20000 in
theorem kL_law_L409 {p : Program} {l : Launch} {e : Env} {s : State} {m : MethodId} {args : Array Value} {below : List Frame} {meth : Method} {c : Code} {D : va_G} {cI cR cL : ClassId} {ad : Nat → Nat} {q : Nat} {A0 : Nat → Prop} {b L9 : Nat} {xs : Nat → Int32} {Q : State → Prop} (E : EG p s m args meth c cL_law 15 RL D cI cR cL ad q A0) (X : EM9 l s A0) (S : ES s A0 b L9 xs) (hE : HE p l e s m args below meth c A0 Q) {K100 : Int32 → Int64 → Int32 → Mem → (Nat → Int64) → Option (Unit × Mem)} {X100 : Nat} (hK100 : ∀ (v3 : Int32) (v4 : Int64) (v6 : Int32) (μ : Mem) (w : Nat → Int64) (cl : Nat), cl + X100 ≤ MCq → LGW p l e room_1 s m args below meth c 15 D cI cR cL ad q A0 (fun (_ : Unit) (_ : Mem) => Q) (K100 v3 v4 v6 μ w) cl (6 * cl) 100 [some (.ref b), some (.ref (ad 0)), some (.ref q), some (.int v3), some (.long v4), none, some (.int v6), none, none, none, none, none, none, none, none] [] μ w) (v3 : Int32) (v4 : Int64) (v6 : Int32) (v9 : Int32) (s0 : Int32) (μ : Mem) (w : Nat → Int64) (cl : Nat) (hc0 : cl + (2438 + X100) ≤ MCq) : LGW p l e room_1 s m args below meth c 15 D cI cR cL ad q A0 (fun (_ : Unit) (_ : Mem) => Q) (fL_law_L409 L9 xs K100 v3 v4 v6 v9 s0 μ w) cl (6 * cl) 409 [some (.ref b), some (.ref (ad 0)), some (.ref q), some (.int v3), some (.long v4), none, some (.int v6), none, none, some (.int v9), none, none, none, none, none] [.int s0] μ w := by
  rw [fL_law_L409]
  refine lg_istore E (pc := 409) (lo' := [some (.ref b), some (.ref (ad 0)), some (.ref q), some (.int v3), some (.long v4), none, some (.int v6), none, none, some (.int v9), none, none, none, some (.int s0), none]) dL_law_409 (Nat.le_of_ble_eq_true rfl) rfl rfl ?_
  refine lg_iload E (pc := 411) dL_law_411 rfl ?_
  refine lg_sipush E (pc := 413) dL_law_413 ks_m1999 ?_
  refine lg_icmp_ge E (pc := 416) (tgt := 423) dL_law_416 rfl ?_ ?_
  · refine lg_iconst E (pc := 423) dL_law_423 kc_0 ?_
    exact lg_lo (lo' := [some (.ref b), some (.ref (ad 0)), some (.ref q), some (.int v3), some (.long v4), none, some (.int v6), none, none, some (.int v9), none, none, none, none, none]) ⟨rfl, rfl, rfl, rfl, rfl, rfl, rfl, trivial⟩ (kL_law_L424 E X S hE (X100 := X100) hK100 v3 v4 v6 v9 (0 : Int32) μ w _ (by omega))
  · refine lg_iconst E (pc := 419) dL_law_419 kc_1 ?_
    refine lg_goto E (pc := 420) (tgt := 424) dL_law_420 rfl ?_
    exact lg_lo (lo' := [some (.ref b), some (.ref (ad 0)), some (.ref q), some (.int v3), some (.long v4), none, some (.int v6), none, none, some (.int v9), none, none, none, none, none]) ⟨rfl, rfl, rfl, rfl, rfl, rfl, rfl, trivial⟩ (kL_law_L424 E X S hE (X100 := X100) hK100 v3 v4 v6 v9 (1 : Int32) μ w _ (by omega))
def fL_law_L580 (L9 : Nat) (xs : Nat → Int32) (v4 : Int64) (μ : Mem) (w : Nat → Int64) : Option (Unit × Mem) :=
  bd (fL_call μ (10 : Int32) (0 : Int32) (0 : Int32) (0 : Int32) (0 : Int32)) fun r91 μ90 =>
  if r91 = (-2013 : Int32) then
  bz (fX8_goBack μ90) fun r93 μ92 =>
  if r93 = (3 : Int32) then
  bd (fL_seen μ92) fun r95 μ94 =>
  if (lg_cmp r95 v4) = 0 then
  bd (fX8_savedStates μ94) fun r97 μ96 =>
  if r97 = (1 : Int32) then
  some ((), μ96)
  else
  none
  else
  none
  else
  none
  else
  none
set_option maxRecDepth 20000 in
theorem kL_law_L580 {p : Program} {l : Launch} {e : Env} {s : State} {m : MethodId} {args : Array Value} {below : List Frame} {meth : Method} {c : Code} {D : va_G} {cI cR cL : ClassId} {ad : Nat → Nat} {q : Nat} {A0 : Nat → Prop} {b L9 : Nat} {xs : Nat → Int32} {Q : State → Prop} (E : EG p s m args meth c cL_law 15 RL D cI cR cL ad q A0) (X : EM9 l s A0) (S : ES s A0 b L9 xs) (hE : HE p l e s m args below meth c A0 Q) (v4 : Int64) (μ : Mem) (w : Nat → Int64) (cl : Nat) (hc0 : cl + (2441) ≤ MCq) : LGW p l e room_1 s m args below meth c 15 D cI cR cL ad q A0 (fun (_ : Unit) (_ : Mem) => Q) (fL_law_L580 L9 xs v4 μ w) cl (6 * cl) 580 [none, some (.ref (ad 0)), none, none, some (.long v4), none, none, none, none, none, none, none, none, none, none] [] μ w := by
  rw [fL_law_L580]
  refine lg_aload_n E (pc := 580) dL_law_580 rfl ?_
  refine lg_bipush E (pc := 581) dL_law_581 kb_10 ?_
  refine lg_iconst E (pc := 583) dL_law_583 kc_0 ?_
  refine lg_iconst E (pc := 584) dL_law_584 kc_0 ?_
  refine lg_iconst E (pc := 585) dL_law_585 kc_0 ?_
  refine lg_iconst E (pc := 586) dL_law_586 kc_0 ?_
  refine lg_mcallH E X (pc := 587) (d := 10) [.ref (ad 0), .int (10 : Int32), .int (0 : Int32), .int (0 : Int32), .int (0 : Int32), .int (0 : Int32)] [] dL_law_587 cvH_L_161 (fun h => cmL_call X.1 h) rfl rfl (Nat.le_of_ble_eq_true rfl) ⟨(Nat.le_of_ble_eq_true rfl), (Nat.le_of_ble_eq_true rfl)⟩ (mch (by omega)) ?_
  intro r91 μ90
  refine lg_sipush E (pc := 590) dL_law_590 ks_m2013 ?_
  refine lg_icmp_ne E (pc := 593) (tgt := 626) dL_law_593 rfl ?_ ?_
  · refine lg_iconst E (pc := 626) dL_law_626 kc_0 ?_
    exact lg_none
  · refine lg_aload_n E (pc := 596) dL_law_596 rfl ?_
    refine lg_ycallVi E X (pc := 597) (d := 7) (mc1 := 1) (ci := 8) (o9 := 0) [] [] dL_law_597 cv_L_67 (fun h => cxX8_goBack X.1 h) (Nat.le_of_ble_eq_true rfl) sx_0 ci_8 rfl rfl (Nat.le_of_ble_eq_true rfl) ⟨(Nat.le_of_ble_eq_true rfl), (Nat.le_of_ble_eq_true rfl)⟩ (mch (by omega)) ?_
    intro r93 μ92
    refine lg_iconst E (pc := 600) dL_law_600 kc_3 ?_
    refine lg_icmp_ne E (pc := 601) (tgt := 626) dL_law_601 rfl ?_ ?_
    · refine lg_iconst E (pc := 626) dL_law_626 kc_0 ?_
      exact lg_none
    · refine lg_aload_n E (pc := 604) dL_law_604 rfl ?_
      refine lg_mcallSj E X (pc := 605) (d := 11) [.ref (ad 0)] [] dL_law_605 cv_L_318 (fun h => cmL_seen X.1 h) rfl rfl (Nat.le_of_ble_eq_true rfl) ⟨(Nat.le_of_ble_eq_true rfl), (Nat.le_of_ble_eq_true rfl)⟩ (mch (by omega)) ?_
      intro r95 μ94
      refine lg_lload E (pc := 608) dL_law_608 rfl ?_
      refine lg_lcmp E (pc := 610) dL_law_610 ?_
      refine lg_if_ne E (pc := 611) (tgt := 626) dL_law_611 rfl ?_ ?_
      · refine lg_iconst E (pc := 626) dL_law_626 kc_0 ?_
        exact lg_none
      · refine lg_aload_n E (pc := 614) dL_law_614 rfl ?_
        refine lg_callVi E (pc := 615) (d := 0) (ci := 8) (o9 := 0) [] [] dL_law_615 cv_L_237 (fun h => ctX8_savedStates h) (Nat.le_of_ble_eq_true rfl) sx_0 ci_8 rfl rfl (Nat.le_of_ble_eq_true rfl) ⟨(Nat.le_of_ble_eq_true rfl), (Nat.le_of_ble_eq_true rfl)⟩ (mch0 (by omega)) ?_
        intro r97 μ96
        refine lg_iconst E (pc := 618) dL_law_618 kc_1 ?_
        refine lg_icmp_ne E (pc := 619) (tgt := 626) dL_law_619 rfl ?_ ?_
        · refine lg_iconst E (pc := 626) dL_law_626 kc_0 ?_
          exact lg_none
        · refine lg_iconst E (pc := 622) dL_law_622 kc_1 ?_
          refine lg_goto E (pc := 623) (tgt := 627) dL_law_623 rfl ?_
          exact lg_one hE (by omega)
def fL_law_L552 (L9 : Nat) (xs : Nat → Int32) : Nat → Int64 → Int32 → Mem → (Nat → Int64) → Option (Unit × Mem)
  | 0, _, _, _, _ => none
  | n + 1, v4, v6, μ, w =>   if (5 : Int32) ≤ v6 then
  fL_law_L580 L9 xs v4 μ w
  else
  bd (fX8_savedStates μ) fun r99 μ98 =>
  if r99 ≤ 0 then
  fL_law_L580 L9 xs v4 μ98 w
  else
  bz (fX8_undo μ98) fun r101 μ100 =>
  if 0 ≤ r101 then
  fL_law_L552 L9 xs n v4 (v6 + (1 : Int32)) μ100 w
  else
  none
set_option maxRecDepth 20000 in
theorem kL_law_L552 {p : Program} {l : Launch} {e : Env} {s : State} {m : MethodId} {args : Array Value} {below : List Frame} {meth : Method} {c : Code} {D : va_G} {cI cR cL : ClassId} {ad : Nat → Nat} {q : Nat} {A0 : Nat → Prop} {b L9 : Nat} {xs : Nat → Int32} {Q : State → Prop} (E : EG p s m args meth c cL_law 15 RL D cI cR cL ad q A0) (X : EM9 l s A0) (S : ES s A0 b L9 xs) (hE : HE p l e s m args below meth c A0 Q) (n : Nat) : ∀ (v4 : Int64) (v6 : Int32) (μ : Mem) (w : Nat → Int64) (cl : Nat), cl + (qmu 1 n + 2441) ≤ MCq → LGW p l e room_1 s m args below meth c 15 D cI cR cL ad q A0 (fun (_ : Unit) (_ : Mem) => Q) (fL_law_L552 L9 xs n v4 v6 μ w) cl (6 * cl) 552 [none, some (.ref (ad 0)), none, none, some (.long v4), none, some (.int v6), none, none, none, none, none, none, none, none] [] μ w := by
  induction n with
  | zero =>
    intros
    exact lg_none
  | succ n ih =>
    intro v4 v6 μ w cl hc0
    rw [fL_law_L552]
    rw [qmu_s] at hc0
    refine lg_iload E (pc := 552) dL_law_552 rfl ?_
    refine lg_iconst E (pc := 554) dL_law_554 kc_5 ?_
    refine lg_icmp_ge E (pc := 555) (tgt := 580) dL_law_555 rfl ?_ ?_
    · exact lg_lo (lo' := [none, some (.ref (ad 0)), none, none, some (.long v4), none, none, none, none, none, none, none, none, none, none]) ⟨rfl, rfl, trivial⟩ (kL_law_L580 E X S hE v4 μ w _ (by omega))
    · refine lg_aload_n E (pc := 558) dL_law_558 rfl ?_
      refine lg_callVi E (pc := 559) (d := 0) (ci := 8) (o9 := 0) [] [] dL_law_559 cv_L_237 (fun h => ctX8_savedStates h) (Nat.le_of_ble_eq_true rfl) sx_0 ci_8 rfl rfl (Nat.le_of_ble_eq_true rfl) ⟨(Nat.le_of_ble_eq_true rfl), (Nat.le_of_ble_eq_true rfl)⟩ (mch0 (by omega)) ?_
      intro r99 μ98
      refine lg_if_le E (pc := 562) (tgt := 580) dL_law_562 rfl ?_ ?_
      · exact lg_lo (lo' := [none, some (.ref (ad 0)), none, none, some (.long v4), none, none, none, none, none, none, none, none, none, none]) ⟨rfl, rfl, trivial⟩ (kL_law_L580 E X S hE v4 μ98 w _ (by omega))
      · refine lg_aload_n E (pc := 565) dL_law_565 rfl ?_
        refine lg_ycallVi E X (pc := 566) (d := 7) (mc1 := 1) (ci := 8) (o9 := 0) [] [] dL_law_566 cv_L_64 (fun h => cxX8_undo X.1 h) (Nat.le_of_ble_eq_true rfl) sx_0 ci_8 rfl rfl (Nat.le_of_ble_eq_true rfl) ⟨(Nat.le_of_ble_eq_true rfl), (Nat.le_of_ble_eq_true rfl)⟩ (mch (by omega)) ?_
        intro r101 μ100
        refine lg_if_ge E (pc := 569) (tgt := 574) dL_law_569 rfl ?_ ?_
        · refine lg_iinc E (pc := 574) (lo' := [none, some (.ref (ad 0)), none, none, some (.long v4), none, some (.int (v6 + (1 : Int32))), none, none, none, none, none, none, none, none]) dL_law_574 rfl kc_1 (Nat.le_of_ble_eq_true rfl) rfl rfl ?_
          refine lg_goto E (pc := 577) (tgt := 552) dL_law_577 rfl ?_
          exact lg_lo (lo' := [none, some (.ref (ad 0)), none, none, some (.long v4), none, some (.int (v6 + (1 : Int32))), none, none, none, none, none, none, none, none]) ⟨rfl, rfl, rfl, trivial⟩ (ih v4 (v6 + (1 : Int32)) μ100 w _ (by omega))
        · refine lg_iconst E (pc := 572) dL_law_572 kc_0 ?_
          exact lg_none
def fL_law_L549 (L9 : Nat) (xs : Nat → Int32) (v4 : Int64) (μ : Mem) (w : Nat → Int64) : Option (Unit × Mem) :=
  fL_law_L552 L9 xs 7 v4 (0 : Int32) μ w
set_option maxRecDepth 20000 in
theorem kL_law_L549 {p : Program} {l : Launch} {e : Env} {s : State} {m : MethodId} {args : Array Value} {below : List Frame} {meth : Method} {c : Code} {D : va_G} {cI cR cL : ClassId} {ad : Nat → Nat} {q : Nat} {A0 : Nat → Prop} {b L9 : Nat} {xs : Nat → Int32} {Q : State → Prop} (E : EG p s m args meth c cL_law 15 RL D cI cR cL ad q A0) (X : EM9 l s A0) (S : ES s A0 b L9 xs) (hE : HE p l e s m args below meth c A0 Q) (v4 : Int64) (μ : Mem) (w : Nat → Int64) (cl : Nat) (hc0 : cl + (2448) ≤ MCq) : LGW p l e room_1 s m args below meth c 15 D cI cR cL ad q A0 (fun (_ : Unit) (_ : Mem) => Q) (fL_law_L549 L9 xs v4 μ w) cl (6 * cl) 549 [none, some (.ref (ad 0)), none, none, some (.long v4), none, none, none, none, none, none, none, none, none, none] [] μ w := by
  rw [fL_law_L549]
  refine lg_iconst E (pc := 549) dL_law_549 kc_0 ?_
  refine lg_istore E (pc := 550) (lo' := [none, some (.ref (ad 0)), none, none, some (.long v4), none, some (.int (0 : Int32)), none, none, none, none, none, none, none, none]) dL_law_550 (Nat.le_of_ble_eq_true rfl) rfl rfl ?_
  exact lg_lo (lo' := [none, some (.ref (ad 0)), none, none, some (.long v4), none, some (.int (0 : Int32)), none, none, none, none, none, none, none, none]) ⟨rfl, rfl, rfl, trivial⟩ (kL_law_L552 E X S hE 7 v4 (0 : Int32) μ w _ (by rw [show qmu 1 7 = 7 from rfl]; omega))
def fL_law_L491 (L9 : Nat) (xs : Nat → Int32) : Nat → Int32 → Int64 → Int32 → Mem → (Nat → Int64) → Option (Unit × Mem)
  | 0, _, _, _, _, _ => none
  | n + 1, v3, v4, v6, μ, w =>   bd (fX8_savedStates μ) fun r103 μ102 =>
  if r103 ≤ 0 then
  fL_law_L549 L9 xs v4 μ102 w
  else
  if v3 ≤ v6 then
  fL_law_L549 L9 xs v4 μ102 w
  else
  bd (fX8_savedStates μ102) fun r105 μ104 =>
  if (4 : Int32) < v6 then
  none
  else
  bd (fL_seen μ104) fun r107 μ106 =>
  (lld w (v3 - v6)).bind fun r108 =>
  if (lg_cmp r107 r108) = 0 then
  bz (fX8_undo μ106) fun r110 μ109 =>
  if r110 = (r105 - (1 : Int32)) then
  fL_law_L491 L9 xs n v3 v4 (v6 + (1 : Int32)) μ109 w
  else
  none
  else
  none
set_option maxRecDepth 20000 in
theorem kL_law_L491 {p : Program} {l : Launch} {e : Env} {s : State} {m : MethodId} {args : Array Value} {below : List Frame} {meth : Method} {c : Code} {D : va_G} {cI cR cL : ClassId} {ad : Nat → Nat} {q : Nat} {A0 : Nat → Prop} {b L9 : Nat} {xs : Nat → Int32} {Q : State → Prop} (E : EG p s m args meth c cL_law 15 RL D cI cR cL ad q A0) (X : EM9 l s A0) (S : ES s A0 b L9 xs) (hE : HE p l e s m args below meth c A0 Q) (n : Nat) : ∀ (v3 : Int32) (v4 : Int64) (v6 : Int32) (μ : Mem) (w : Nat → Int64) (cl : Nat), cl + (qmu 2439 n + 2448) ≤ MCq → LGW p l e room_1 s m args below meth c 15 D cI cR cL ad q A0 (fun (_ : Unit) (_ : Mem) => Q) (fL_law_L491 L9 xs n v3 v4 v6 μ w) cl (6 * cl) 491 [none, some (.ref (ad 0)), some (.ref q), some (.int v3), some (.long v4), none, some (.int v6), none, none, none, none, none, none, none, none] [] μ w := by
  induction n with
  | zero =>
    intros
    exact lg_none
  | succ n ih =>
    intro v3 v4 v6 μ w cl hc0
    rw [fL_law_L491]
    rw [qmu_s] at hc0
    refine lg_aload_n E (pc := 491) dL_law_491 rfl ?_
    refine lg_callVi E (pc := 492) (d := 0) (ci := 8) (o9 := 0) [] [] dL_law_492 cv_L_237 (fun h => ctX8_savedStates h) (Nat.le_of_ble_eq_true rfl) sx_0 ci_8 rfl rfl (Nat.le_of_ble_eq_true rfl) ⟨(Nat.le_of_ble_eq_true rfl), (Nat.le_of_ble_eq_true rfl)⟩ (mch0 (by omega)) ?_
    intro r103 μ102
    refine lg_if_le E (pc := 495) (tgt := 549) dL_law_495 rfl ?_ ?_
    · exact lg_lo (lo' := [none, some (.ref (ad 0)), none, none, some (.long v4), none, none, none, none, none, none, none, none, none, none]) ⟨rfl, rfl, trivial⟩ (kL_law_L549 E X S hE v4 μ102 w _ (by omega))
    · refine lg_iload E (pc := 498) dL_law_498 rfl ?_
      refine lg_iload_n E (pc := 500) dL_law_500 rfl ?_
      refine lg_icmp_ge E (pc := 501) (tgt := 549) dL_law_501 rfl ?_ ?_
      · exact lg_lo (lo' := [none, some (.ref (ad 0)), none, none, some (.long v4), none, none, none, none, none, none, none, none, none, none]) ⟨rfl, rfl, trivial⟩ (kL_law_L549 E X S hE v4 μ102 w _ (by omega))
      · refine lg_aload_n E (pc := 504) dL_law_504 rfl ?_
        refine lg_callVi E (pc := 505) (d := 0) (ci := 8) (o9 := 0) [] [] dL_law_505 cv_L_237 (fun h => ctX8_savedStates h) (Nat.le_of_ble_eq_true rfl) sx_0 ci_8 rfl rfl (Nat.le_of_ble_eq_true rfl) ⟨(Nat.le_of_ble_eq_true rfl), (Nat.le_of_ble_eq_true rfl)⟩ (mch0 (by omega)) ?_
        intro r105 μ104
        refine lg_istore E (pc := 508) (lo' := [none, some (.ref (ad 0)), some (.ref q), some (.int v3), some (.long v4), none, some (.int v6), some (.int r105), none, none, none, none, none, none, none]) dL_law_508 (Nat.le_of_ble_eq_true rfl) rfl rfl ?_
        refine lg_iload E (pc := 510) dL_law_510 rfl ?_
        refine lg_iconst E (pc := 512) dL_law_512 kc_4 ?_
        refine lg_icmp_gt E (pc := 513) (tgt := 541) dL_law_513 rfl ?_ ?_
        · refine lg_iconst E (pc := 541) dL_law_541 kc_0 ?_
          exact lg_none
        · refine lg_aload_n E (pc := 516) dL_law_516 rfl ?_
          refine lg_mcallSj E X (pc := 517) (d := 11) [.ref (ad 0)] [] dL_law_517 cv_L_318 (fun h => cmL_seen X.1 h) rfl rfl (Nat.le_of_ble_eq_true rfl) ⟨(Nat.le_of_ble_eq_true rfl), (Nat.le_of_ble_eq_true rfl)⟩ (mch (by omega)) ?_
          intro r107 μ106
          refine lg_aload_n E (pc := 520) dL_law_520 rfl ?_
          refine lg_iload_n E (pc := 521) dL_law_521 rfl ?_
          refine lg_iload E (pc := 522) dL_law_522 rfl ?_
          refine lg_isub E (pc := 524) dL_law_524 ?_
          refine lg_lald E (pc := 525) dL_law_525 ?_
          intro r108
          refine lg_lcmp E (pc := 526) dL_law_526 ?_
          refine lg_if_ne E (pc := 527) (tgt := 541) dL_law_527 rfl ?_ ?_
          · refine lg_iconst E (pc := 541) dL_law_541 kc_0 ?_
            exact lg_none
          · refine lg_aload_n E (pc := 530) dL_law_530 rfl ?_
            refine lg_ycallVi E X (pc := 531) (d := 7) (mc1 := 1) (ci := 8) (o9 := 0) [] [] dL_law_531 cv_L_64 (fun h => cxX8_undo X.1 h) (Nat.le_of_ble_eq_true rfl) sx_0 ci_8 rfl rfl (Nat.le_of_ble_eq_true rfl) ⟨(Nat.le_of_ble_eq_true rfl), (Nat.le_of_ble_eq_true rfl)⟩ (mch (by omega)) ?_
            intro r110 μ109
            refine lg_iload E (pc := 534) dL_law_534 rfl ?_
            refine lg_iconst E (pc := 536) dL_law_536 kc_1 ?_
            refine lg_isub E (pc := 537) dL_law_537 ?_
            refine lg_icmp_eq E (pc := 538) (tgt := 543) dL_law_538 rfl ?_ ?_
            · refine lg_iinc E (pc := 543) (lo' := [none, some (.ref (ad 0)), some (.ref q), some (.int v3), some (.long v4), none, some (.int (v6 + (1 : Int32))), some (.int r105), none, none, none, none, none, none, none]) dL_law_543 rfl kc_1 (Nat.le_of_ble_eq_true rfl) rfl rfl ?_
              refine lg_goto E (pc := 546) (tgt := 491) dL_law_546 rfl ?_
              exact lg_lo (lo' := [none, some (.ref (ad 0)), some (.ref q), some (.int v3), some (.long v4), none, some (.int (v6 + (1 : Int32))), none, none, none, none, none, none, none, none]) ⟨rfl, rfl, rfl, rfl, rfl, trivial⟩ (ih v3 v4 (v6 + (1 : Int32)) μ109 w _ (by omega))
            · refine lg_iconst E (pc := 541) dL_law_541 kc_0 ?_
              exact lg_none
def fL_law_L100 (L9 : Nat) (xs : Nat → Int32) : Nat → Int32 → Int64 → Int32 → Mem → (Nat → Int64) → Option (Unit × Mem)
  | 0, _, _, _, _, _ => none
  | n + 1, v3, v4, v6, μ, w =>   if (26 : Int32) ≤ v6 then
  bd (fL_seen μ) fun r112 μ111 =>
  (lls w v3 r112).bind fun w113 =>
  bd (fL_refused μ111) fun r115 μ114 =>
  if r115 = 0 then
  none
  else
  fL_law_L491 L9 xs 29 v3 v4 (0 : Int32) μ114 w113
  else
  bd (fL_drawn L9 xs (fun _ _ => 0) v6) fun r117 _ =>
  bd (fL_part μ r117 (30 : Int32)) fun r119 μ118 =>
  bd (fL_seen μ118) fun r121 μ120 =>
  (lls w v3 r121).bind fun w122 =>
  bd (fX8_savedStates μ120) fun r124 μ123 =>
  bd (fL_part μ123 (r117 >>> ((5 : Int32) &&& 31)) (7 : Int32)) fun r126 μ125 =>
  bd (fL_part μ125 (r117 >>> ((8 : Int32) &&& 31)) (8 : Int32)) fun r128 μ127 =>
  bd (fL_part μ127 (r117 >>> ((10 : Int32) &&& 31)) (4 : Int32)) fun r130 μ129 =>
  if (10 : Int32) ≤ r119 then
  if (12 : Int32) ≤ r119 then
  if (15 : Int32) ≤ r119 then
  if (17 : Int32) ≤ r119 then
  if r119 = (17 : Int32) then
  bd (fL_call μ129 (4 : Int32) r130 r128 (0 : Int32) (0 : Int32)) fun r144 μ143 =>
  fL_law_L409 L9 xs (fL_law_L100 L9 xs n) v3 v4 v6 r124 r144 μ143 w122
  else
  if r119 = (18 : Int32) then
  bd (fL_call μ129 (5 : Int32) r128 (0 : Int32) (0 : Int32) (0 : Int32)) fun r142 μ141 =>
  fL_law_L409 L9 xs (fL_law_L100 L9 xs n) v3 v4 v6 r124 r142 μ141 w122
  else
  if (23 : Int32) ≤ r119 then
  if r119 = (23 : Int32) then
  bd (fL_call μ129 (7 : Int32) r126 (0 : Int32) (0 : Int32) (0 : Int32)) fun r138 μ137 =>
  fL_law_L409 L9 xs (fL_law_L100 L9 xs n) v3 v4 v6 r124 r138 μ137 w122
  else
  if (26 : Int32) ≤ r119 then
  if (28 : Int32) ≤ r119 then
  bd (fL_call μ129 (11 : Int32) (0 : Int32) (0 : Int32) (0 : Int32) (0 : Int32)) fun r132 μ131 =>
  fL_law_L409 L9 xs (fL_law_L100 L9 xs n) v3 v4 v6 r124 r132 μ131 w122
  else
  bz (fX8_setRegister μ129 r130 r128) fun r134 μ133 =>
  fL_law_L409 L9 xs (fL_law_L100 L9 xs n) v3 v4 v6 r124 r134 μ133 w122
  else
  bd (fX8_pack μ129) fun r136 μ135 =>
  fL_law_L409 L9 xs (fL_law_L100 L9 xs n) v3 v4 v6 r124 r136 μ135 w122
  else
  bd (fL_call μ129 (6 : Int32) r126 r128 (0 : Int32) (0 : Int32)) fun r140 μ139 =>
  fL_law_L409 L9 xs (fL_law_L100 L9 xs n) v3 v4 v6 r124 r140 μ139 w122
  else
  bd (fL_call μ129 (3 : Int32) r130 r128 (0 : Int32) (0 : Int32)) fun r146 μ145 =>
  fL_law_L409 L9 xs (fL_law_L100 L9 xs n) v3 v4 v6 r124 r146 μ145 w122
  else
  bd (fL_call μ129 (2 : Int32) r126 r130 (0 : Int32) (0 : Int32)) fun r148 μ147 =>
  fL_law_L409 L9 xs (fL_law_L100 L9 xs n) v3 v4 v6 r124 r148 μ147 w122
  else
  bd (fL_call μ129 (1 : Int32) r126 (0 : Int32) (0 : Int32) (0 : Int32)) fun r150 μ149 =>
  fL_law_L409 L9 xs (fL_law_L100 L9 xs n) v3 v4 v6 r124 r150 μ149 w122
  else
  bd (fL_part μ129 (r117 >>> ((3 : Int32) &&& 31)) (13 : Int32)) fun r152 μ151 =>
  bd (fL_part μ151 (r117 >>> ((6 : Int32) &&& 31)) (4 : Int32)) fun r154 μ153 =>
  bd (fL_call μ153 (0 : Int32) r126 r128 ((r152 ||| (r130 <<< ((4 : Int32) &&& 31))) ||| (r154 <<< ((8 : Int32) &&& 31))) ((3 : Int32) * r126)) fun r156 μ155 =>
  fL_law_L409 L9 xs (fL_law_L100 L9 xs n) v3 v4 v6 r124 r156 μ155 w122
set_option maxRecDepth 20000 in
theorem kL_law_L100 {p : Program} {l : Launch} {e : Env} {s : State} {m : MethodId} {args : Array Value} {below : List Frame} {meth : Method} {c : Code} {D : va_G} {cI cR cL : ClassId} {ad : Nat → Nat} {q : Nat} {A0 : Nat → Prop} {b L9 : Nat} {xs : Nat → Int32} {Q : State → Prop} (E : EG p s m args meth c cL_law 15 RL D cI cR cL ad q A0) (X : EM9 l s A0) (S : ES s A0 b L9 xs) (hE : HE p l e s m args below meth c A0 Q) (n : Nat) : ∀ (v3 : Int32) (v4 : Int64) (v6 : Int32) (μ : Mem) (w : Nat → Int64) (cl : Nat), cl + (qmu 4878 n + T100) ≤ MCq → LGW p l e room_1 s m args below meth c 15 D cI cR cL ad q A0 (fun (_ : Unit) (_ : Mem) => Q) (fL_law_L100 L9 xs n v3 v4 v6 μ w) cl (6 * cl) 100 [some (.ref b), some (.ref (ad 0)), some (.ref q), some (.int v3), some (.long v4), none, some (.int v6), none, none, none, none, none, none, none, none] [] μ w := by
  induction n with
  | zero =>
    intros
    exact lg_none
  | succ n ih =>
    intro v3 v4 v6 μ w cl hc0
    rw [fL_law_L100]
    rw [qmu_s] at hc0
    refine lg_iload E (pc := 100) dL_law_100 rfl ?_
    refine lg_bipush E (pc := 102) dL_law_102 kb_26 ?_
    refine lg_icmp_ge E (pc := 104) (tgt := 472) dL_law_104 rfl ?_ ?_
    · refine lg_aload_n E (pc := 472) dL_law_472 rfl ?_
      refine lg_iload_n E (pc := 473) dL_law_473 rfl ?_
      refine lg_aload_n E (pc := 474) dL_law_474 rfl ?_
      refine lg_mcallSj E X (pc := 475) (d := 11) [.ref (ad 0)] [.int v3, .ref q] dL_law_475 cv_L_318 (fun h => cmL_seen X.1 h) rfl rfl (Nat.le_of_ble_eq_true rfl) ⟨(Nat.le_of_ble_eq_true rfl), (Nat.le_of_ble_eq_true rfl)⟩ (mch (by omega)) ?_
      intro r112 μ111
      refine lg_last E (pc := 478) dL_law_478 ?_
      intro w113
      refine lg_aload_n E (pc := 479) dL_law_479 rfl ?_
      refine lg_mcallSi E X (pc := 480) (d := 12) [.ref (ad 0)] [] dL_law_480 cv_L_203 (fun h => cmL_refused X.1 h) rfl rfl (Nat.le_of_ble_eq_true rfl) ⟨(Nat.le_of_ble_eq_true rfl), (Nat.le_of_ble_eq_true rfl)⟩ (mch (by omega)) ?_
      intro r115 μ114
      refine lg_if_ne E (pc := 483) (tgt := 488) dL_law_483 rfl ?_ ?_
      · refine lg_iconst E (pc := 488) dL_law_488 kc_0 ?_
        refine lg_istore E (pc := 489) (lo' := [some (.ref b), some (.ref (ad 0)), some (.ref q), some (.int v3), some (.long v4), none, some (.int (0 : Int32)), none, none, none, none, none, none, none, none]) dL_law_489 (Nat.le_of_ble_eq_true rfl) rfl rfl ?_
        exact lg_lo (lo' := [none, some (.ref (ad 0)), some (.ref q), some (.int v3), some (.long v4), none, some (.int (0 : Int32)), none, none, none, none, none, none, none, none]) ⟨rfl, rfl, rfl, rfl, rfl, trivial⟩ (kL_law_L491 E X S hE 29 v3 v4 (0 : Int32) μ114 w113 _ (by have hT := T100_eq; omega))
      · refine lg_iconst E (pc := 486) dL_law_486 kc_0 ?_
        exact lg_none
    · refine lg_aload_n E (pc := 107) dL_law_107 rfl ?_
      refine lg_iload E (pc := 108) dL_law_108 rfl ?_
      refine lg_drawn E S (pc := 110) (d := 0) [.ref b, .int v6] [] dL_law_110 cv_L_322 (fun h => cdL_drawn h) fL_drawn_mem rfl rfl (Nat.le_of_ble_eq_true rfl) ⟨(Nat.le_of_ble_eq_true rfl), (Nat.le_of_ble_eq_true rfl)⟩ (mch0 (by omega)) ?_
      intro r117
      refine lg_istore E (pc := 113) (lo' := [some (.ref b), some (.ref (ad 0)), some (.ref q), some (.int v3), some (.long v4), none, some (.int v6), some (.int r117), none, none, none, none, none, none, none]) dL_law_113 (Nat.le_of_ble_eq_true rfl) rfl rfl ?_
      refine lg_iload E (pc := 115) dL_law_115 rfl ?_
      refine lg_bipush E (pc := 117) dL_law_117 kb_30 ?_
      refine lg_callSi E (pc := 119) (d := 0) [.int r117, .int (30 : Int32)] [] dL_law_119 cv_L_326 (fun h => ctL_part h) rfl rfl (Nat.le_of_ble_eq_true rfl) ⟨(Nat.le_of_ble_eq_true rfl), (Nat.le_of_ble_eq_true rfl)⟩ (mch0 (by omega)) ?_
      intro r119 μ118
      refine lg_istore E (pc := 122) (lo' := [some (.ref b), some (.ref (ad 0)), some (.ref q), some (.int v3), some (.long v4), none, some (.int v6), some (.int r117), some (.int r119), none, none, none, none, none, none]) dL_law_122 (Nat.le_of_ble_eq_true rfl) rfl rfl ?_
      refine lg_aload_n E (pc := 124) dL_law_124 rfl ?_
      refine lg_iload_n E (pc := 125) dL_law_125 rfl ?_
      refine lg_aload_n E (pc := 126) dL_law_126 rfl ?_
      refine lg_mcallSj E X (pc := 127) (d := 11) [.ref (ad 0)] [.int v3, .ref q] dL_law_127 cv_L_318 (fun h => cmL_seen X.1 h) rfl rfl (Nat.le_of_ble_eq_true rfl) ⟨(Nat.le_of_ble_eq_true rfl), (Nat.le_of_ble_eq_true rfl)⟩ (mch (by omega)) ?_
      intro r121 μ120
      refine lg_last E (pc := 130) dL_law_130 ?_
      intro w122
      refine lg_aload_n E (pc := 131) dL_law_131 rfl ?_
      refine lg_callVi E (pc := 132) (d := 0) (ci := 8) (o9 := 0) [] [] dL_law_132 cv_L_237 (fun h => ctX8_savedStates h) (Nat.le_of_ble_eq_true rfl) sx_0 ci_8 rfl rfl (Nat.le_of_ble_eq_true rfl) ⟨(Nat.le_of_ble_eq_true rfl), (Nat.le_of_ble_eq_true rfl)⟩ (mch0 (by omega)) ?_
      intro r124 μ123
      refine lg_istore E (pc := 135) (lo' := [some (.ref b), some (.ref (ad 0)), some (.ref q), some (.int v3), some (.long v4), none, some (.int v6), some (.int r117), some (.int r119), some (.int r124), none, none, none, none, none]) dL_law_135 (Nat.le_of_ble_eq_true rfl) rfl rfl ?_
      refine lg_iload E (pc := 137) dL_law_137 rfl ?_
      refine lg_iconst E (pc := 139) dL_law_139 kc_5 ?_
      refine lg_ishr E (pc := 140) dL_law_140 ?_
      refine lg_bipush E (pc := 141) dL_law_141 kb_7 ?_
      refine lg_callSi E (pc := 143) (d := 0) [.int (r117 >>> ((5 : Int32) &&& 31)), .int (7 : Int32)] [] dL_law_143 cv_L_326 (fun h => ctL_part h) rfl rfl (Nat.le_of_ble_eq_true rfl) ⟨(Nat.le_of_ble_eq_true rfl), (Nat.le_of_ble_eq_true rfl)⟩ (mch0 (by omega)) ?_
      intro r126 μ125
      refine lg_istore E (pc := 146) (lo' := [some (.ref b), some (.ref (ad 0)), some (.ref q), some (.int v3), some (.long v4), none, some (.int v6), some (.int r117), some (.int r119), some (.int r124), some (.int r126), none, none, none, none]) dL_law_146 (Nat.le_of_ble_eq_true rfl) rfl rfl ?_
      refine lg_iload E (pc := 148) dL_law_148 rfl ?_
      refine lg_bipush E (pc := 150) dL_law_150 kb_8 ?_
      refine lg_ishr E (pc := 152) dL_law_152 ?_
      refine lg_bipush E (pc := 153) dL_law_153 kb_8 ?_
      refine lg_callSi E (pc := 155) (d := 0) [.int (r117 >>> ((8 : Int32) &&& 31)), .int (8 : Int32)] [] dL_law_155 cv_L_326 (fun h => ctL_part h) rfl rfl (Nat.le_of_ble_eq_true rfl) ⟨(Nat.le_of_ble_eq_true rfl), (Nat.le_of_ble_eq_true rfl)⟩ (mch0 (by omega)) ?_
      intro r128 μ127
      refine lg_istore E (pc := 158) (lo' := [some (.ref b), some (.ref (ad 0)), some (.ref q), some (.int v3), some (.long v4), none, some (.int v6), some (.int r117), some (.int r119), some (.int r124), some (.int r126), some (.int r128), none, none, none]) dL_law_158 (Nat.le_of_ble_eq_true rfl) rfl rfl ?_
      refine lg_iload E (pc := 160) dL_law_160 rfl ?_
      refine lg_bipush E (pc := 162) dL_law_162 kb_10 ?_
      refine lg_ishr E (pc := 164) dL_law_164 ?_
      refine lg_iconst E (pc := 165) dL_law_165 kc_4 ?_
      refine lg_callSi E (pc := 166) (d := 0) [.int (r117 >>> ((10 : Int32) &&& 31)), .int (4 : Int32)] [] dL_law_166 cv_L_326 (fun h => ctL_part h) rfl rfl (Nat.le_of_ble_eq_true rfl) ⟨(Nat.le_of_ble_eq_true rfl), (Nat.le_of_ble_eq_true rfl)⟩ (mch0 (by omega)) ?_
      intro r130 μ129
      refine lg_istore E (pc := 169) (lo' := [some (.ref b), some (.ref (ad 0)), some (.ref q), some (.int v3), some (.long v4), none, some (.int v6), some (.int r117), some (.int r119), some (.int r124), some (.int r126), some (.int r128), some (.int r130), none, none]) dL_law_169 (Nat.le_of_ble_eq_true rfl) rfl rfl ?_
      refine lg_iload E (pc := 171) dL_law_171 rfl ?_
      refine lg_bipush E (pc := 173) dL_law_173 kb_10 ?_
      refine lg_icmp_ge E (pc := 175) (tgt := 221) dL_law_175 rfl ?_ ?_
      · refine lg_iload E (pc := 221) dL_law_221 rfl ?_
        refine lg_bipush E (pc := 223) dL_law_223 kb_12 ?_
        refine lg_icmp_ge E (pc := 225) (tgt := 241) dL_law_225 rfl ?_ ?_
        · refine lg_iload E (pc := 241) dL_law_241 rfl ?_
          refine lg_bipush E (pc := 243) dL_law_243 kb_15 ?_
          refine lg_icmp_ge E (pc := 245) (tgt := 262) dL_law_245 rfl ?_ ?_
          · refine lg_iload E (pc := 262) dL_law_262 rfl ?_
            refine lg_bipush E (pc := 264) dL_law_264 kb_17 ?_
            refine lg_icmp_ge E (pc := 266) (tgt := 283) dL_law_266 rfl ?_ ?_
            · refine lg_iload E (pc := 283) dL_law_283 rfl ?_
              refine lg_bipush E (pc := 285) dL_law_285 kb_17 ?_
              refine lg_icmp_ne E (pc := 287) (tgt := 304) dL_law_287 rfl ?_ ?_
              · refine lg_iload E (pc := 304) dL_law_304 rfl ?_
                refine lg_bipush E (pc := 306) dL_law_306 kb_18 ?_
                refine lg_icmp_ne E (pc := 308) (tgt := 324) dL_law_308 rfl ?_ ?_
                · refine lg_iload E (pc := 324) dL_law_324 rfl ?_
                  refine lg_bipush E (pc := 326) dL_law_326 kb_23 ?_
                  refine lg_icmp_ge E (pc := 328) (tgt := 346) dL_law_328 rfl ?_ ?_
                  · refine lg_iload E (pc := 346) dL_law_346 rfl ?_
                    refine lg_bipush E (pc := 348) dL_law_348 kb_23 ?_
                    refine lg_icmp_ne E (pc := 350) (tgt := 367) dL_law_350 rfl ?_ ?_
                    · refine lg_iload E (pc := 367) dL_law_367 rfl ?_
                      refine lg_bipush E (pc := 369) dL_law_369 kb_26 ?_
                      refine lg_icmp_ge E (pc := 371) (tgt := 381) dL_law_371 rfl ?_ ?_
                      · refine lg_iload E (pc := 381) dL_law_381 rfl ?_
                        refine lg_bipush E (pc := 383) dL_law_383 kb_28 ?_
                        refine lg_icmp_ge E (pc := 385) (tgt := 399) dL_law_385 rfl ?_ ?_
                        · refine lg_aload_n E (pc := 399) dL_law_399 rfl ?_
                          refine lg_bipush E (pc := 400) dL_law_400 kb_11 ?_
                          refine lg_iconst E (pc := 402) dL_law_402 kc_0 ?_
                          refine lg_iconst E (pc := 403) dL_law_403 kc_0 ?_
                          refine lg_iconst E (pc := 404) dL_law_404 kc_0 ?_
                          refine lg_iconst E (pc := 405) dL_law_405 kc_0 ?_
                          refine lg_mcallH E X (pc := 406) (d := 10) [.ref (ad 0), .int (11 : Int32), .int (0 : Int32), .int (0 : Int32), .int (0 : Int32), .int (0 : Int32)] [] dL_law_406 cvH_L_161 (fun h => cmL_call X.1 h) rfl rfl (Nat.le_of_ble_eq_true rfl) ⟨(Nat.le_of_ble_eq_true rfl), (Nat.le_of_ble_eq_true rfl)⟩ (mch (by omega)) ?_
                          intro r132 μ131
                          exact lg_lo (lo' := [some (.ref b), some (.ref (ad 0)), some (.ref q), some (.int v3), some (.long v4), none, some (.int v6), none, none, some (.int r124), none, none, none, none, none]) ⟨rfl, rfl, rfl, rfl, rfl, rfl, rfl, trivial⟩ (kL_law_L409 E X S hE (X100 := qmu 4878 n + T100) (fun y0 y1 y2 ν w9 c9 h9 => ih y0 y1 y2 ν w9 c9 (by omega)) v3 v4 v6 r124 r132 μ131 w122 _ (by omega))
                        · refine lg_aload_n E (pc := 388) dL_law_388 rfl ?_
                          refine lg_iload E (pc := 389) dL_law_389 rfl ?_
                          refine lg_iload E (pc := 391) dL_law_391 rfl ?_
                          refine lg_ycallVi E X (pc := 393) (d := 8) (mc1 := 1) (ci := 8) (o9 := 0) [.int r130, .int r128] [] dL_law_393 cv_L_130 (fun h => cxX8_setRegister X.1 h) (Nat.le_of_ble_eq_true rfl) sx_0 ci_8 rfl rfl (Nat.le_of_ble_eq_true rfl) ⟨(Nat.le_of_ble_eq_true rfl), (Nat.le_of_ble_eq_true rfl)⟩ (mch (by omega)) ?_
                          intro r134 μ133
                          refine lg_goto E (pc := 396) (tgt := 409) dL_law_396 rfl ?_
                          exact lg_lo (lo' := [some (.ref b), some (.ref (ad 0)), some (.ref q), some (.int v3), some (.long v4), none, some (.int v6), none, none, some (.int r124), none, none, none, none, none]) ⟨rfl, rfl, rfl, rfl, rfl, rfl, rfl, trivial⟩ (kL_law_L409 E X S hE (X100 := qmu 4878 n + T100) (fun y0 y1 y2 ν w9 c9 h9 => ih y0 y1 y2 ν w9 c9 (by omega)) v3 v4 v6 r124 r134 μ133 w122 _ (by omega))
                      · refine lg_aload_n E (pc := 374) dL_law_374 rfl ?_
                        refine lg_callVi E (pc := 375) (d := 5) (ci := 8) (o9 := 0) [] [] dL_law_375 cv_L_180 (fun h => ctX8_pack h) (Nat.le_of_ble_eq_true rfl) sx_0 ci_8 rfl rfl (Nat.le_of_ble_eq_true rfl) ⟨(Nat.le_of_ble_eq_true rfl), (Nat.le_of_ble_eq_true rfl)⟩ (mch0 (by omega)) ?_
                        intro r136 μ135
                        refine lg_goto E (pc := 378) (tgt := 409) dL_law_378 rfl ?_
                        exact lg_lo (lo' := [some (.ref b), some (.ref (ad 0)), some (.ref q), some (.int v3), some (.long v4), none, some (.int v6), none, none, some (.int r124), none, none, none, none, none]) ⟨rfl, rfl, rfl, rfl, rfl, rfl, rfl, trivial⟩ (kL_law_L409 E X S hE (X100 := qmu 4878 n + T100) (fun y0 y1 y2 ν w9 c9 h9 => ih y0 y1 y2 ν w9 c9 (by omega)) v3 v4 v6 r124 r136 μ135 w122 _ (by omega))
                    · refine lg_aload_n E (pc := 353) dL_law_353 rfl ?_
                      refine lg_bipush E (pc := 354) dL_law_354 kb_7 ?_
                      refine lg_iload E (pc := 356) dL_law_356 rfl ?_
                      refine lg_iconst E (pc := 358) dL_law_358 kc_0 ?_
                      refine lg_iconst E (pc := 359) dL_law_359 kc_0 ?_
                      refine lg_iconst E (pc := 360) dL_law_360 kc_0 ?_
                      refine lg_mcallH E X (pc := 361) (d := 10) [.ref (ad 0), .int (7 : Int32), .int r126, .int (0 : Int32), .int (0 : Int32), .int (0 : Int32)] [] dL_law_361 cvH_L_161 (fun h => cmL_call X.1 h) rfl rfl (Nat.le_of_ble_eq_true rfl) ⟨(Nat.le_of_ble_eq_true rfl), (Nat.le_of_ble_eq_true rfl)⟩ (mch (by omega)) ?_
                      intro r138 μ137
                      refine lg_goto E (pc := 364) (tgt := 409) dL_law_364 rfl ?_
                      exact lg_lo (lo' := [some (.ref b), some (.ref (ad 0)), some (.ref q), some (.int v3), some (.long v4), none, some (.int v6), none, none, some (.int r124), none, none, none, none, none]) ⟨rfl, rfl, rfl, rfl, rfl, rfl, rfl, trivial⟩ (kL_law_L409 E X S hE (X100 := qmu 4878 n + T100) (fun y0 y1 y2 ν w9 c9 h9 => ih y0 y1 y2 ν w9 c9 (by omega)) v3 v4 v6 r124 r138 μ137 w122 _ (by omega))
                  · refine lg_aload_n E (pc := 331) dL_law_331 rfl ?_
                    refine lg_bipush E (pc := 332) dL_law_332 kb_6 ?_
                    refine lg_iload E (pc := 334) dL_law_334 rfl ?_
                    refine lg_iload E (pc := 336) dL_law_336 rfl ?_
                    refine lg_iconst E (pc := 338) dL_law_338 kc_0 ?_
                    refine lg_iconst E (pc := 339) dL_law_339 kc_0 ?_
                    refine lg_mcallH E X (pc := 340) (d := 10) [.ref (ad 0), .int (6 : Int32), .int r126, .int r128, .int (0 : Int32), .int (0 : Int32)] [] dL_law_340 cvH_L_161 (fun h => cmL_call X.1 h) rfl rfl (Nat.le_of_ble_eq_true rfl) ⟨(Nat.le_of_ble_eq_true rfl), (Nat.le_of_ble_eq_true rfl)⟩ (mch (by omega)) ?_
                    intro r140 μ139
                    refine lg_goto E (pc := 343) (tgt := 409) dL_law_343 rfl ?_
                    exact lg_lo (lo' := [some (.ref b), some (.ref (ad 0)), some (.ref q), some (.int v3), some (.long v4), none, some (.int v6), none, none, some (.int r124), none, none, none, none, none]) ⟨rfl, rfl, rfl, rfl, rfl, rfl, rfl, trivial⟩ (kL_law_L409 E X S hE (X100 := qmu 4878 n + T100) (fun y0 y1 y2 ν w9 c9 h9 => ih y0 y1 y2 ν w9 c9 (by omega)) v3 v4 v6 r124 r140 μ139 w122 _ (by omega))
                · refine lg_aload_n E (pc := 311) dL_law_311 rfl ?_
                  refine lg_iconst E (pc := 312) dL_law_312 kc_5 ?_
                  refine lg_iload E (pc := 313) dL_law_313 rfl ?_
                  refine lg_iconst E (pc := 315) dL_law_315 kc_0 ?_
                  refine lg_iconst E (pc := 316) dL_law_316 kc_0 ?_
                  refine lg_iconst E (pc := 317) dL_law_317 kc_0 ?_
                  refine lg_mcallH E X (pc := 318) (d := 10) [.ref (ad 0), .int (5 : Int32), .int r128, .int (0 : Int32), .int (0 : Int32), .int (0 : Int32)] [] dL_law_318 cvH_L_161 (fun h => cmL_call X.1 h) rfl rfl (Nat.le_of_ble_eq_true rfl) ⟨(Nat.le_of_ble_eq_true rfl), (Nat.le_of_ble_eq_true rfl)⟩ (mch (by omega)) ?_
                  intro r142 μ141
                  refine lg_goto E (pc := 321) (tgt := 409) dL_law_321 rfl ?_
                  exact lg_lo (lo' := [some (.ref b), some (.ref (ad 0)), some (.ref q), some (.int v3), some (.long v4), none, some (.int v6), none, none, some (.int r124), none, none, none, none, none]) ⟨rfl, rfl, rfl, rfl, rfl, rfl, rfl, trivial⟩ (kL_law_L409 E X S hE (X100 := qmu 4878 n + T100) (fun y0 y1 y2 ν w9 c9 h9 => ih y0 y1 y2 ν w9 c9 (by omega)) v3 v4 v6 r124 r142 μ141 w122 _ (by omega))
              · refine lg_aload_n E (pc := 290) dL_law_290 rfl ?_
                refine lg_iconst E (pc := 291) dL_law_291 kc_4 ?_
                refine lg_iload E (pc := 292) dL_law_292 rfl ?_
                refine lg_iload E (pc := 294) dL_law_294 rfl ?_
                refine lg_iconst E (pc := 296) dL_law_296 kc_0 ?_
                refine lg_iconst E (pc := 297) dL_law_297 kc_0 ?_
                refine lg_mcallH E X (pc := 298) (d := 10) [.ref (ad 0), .int (4 : Int32), .int r130, .int r128, .int (0 : Int32), .int (0 : Int32)] [] dL_law_298 cvH_L_161 (fun h => cmL_call X.1 h) rfl rfl (Nat.le_of_ble_eq_true rfl) ⟨(Nat.le_of_ble_eq_true rfl), (Nat.le_of_ble_eq_true rfl)⟩ (mch (by omega)) ?_
                intro r144 μ143
                refine lg_goto E (pc := 301) (tgt := 409) dL_law_301 rfl ?_
                exact lg_lo (lo' := [some (.ref b), some (.ref (ad 0)), some (.ref q), some (.int v3), some (.long v4), none, some (.int v6), none, none, some (.int r124), none, none, none, none, none]) ⟨rfl, rfl, rfl, rfl, rfl, rfl, rfl, trivial⟩ (kL_law_L409 E X S hE (X100 := qmu 4878 n + T100) (fun y0 y1 y2 ν w9 c9 h9 => ih y0 y1 y2 ν w9 c9 (by omega)) v3 v4 v6 r124 r144 μ143 w122 _ (by omega))
            · refine lg_aload_n E (pc := 269) dL_law_269 rfl ?_
              refine lg_iconst E (pc := 270) dL_law_270 kc_3 ?_
              refine lg_iload E (pc := 271) dL_law_271 rfl ?_
              refine lg_iload E (pc := 273) dL_law_273 rfl ?_
              refine lg_iconst E (pc := 275) dL_law_275 kc_0 ?_
              refine lg_iconst E (pc := 276) dL_law_276 kc_0 ?_
              refine lg_mcallH E X (pc := 277) (d := 10) [.ref (ad 0), .int (3 : Int32), .int r130, .int r128, .int (0 : Int32), .int (0 : Int32)] [] dL_law_277 cvH_L_161 (fun h => cmL_call X.1 h) rfl rfl (Nat.le_of_ble_eq_true rfl) ⟨(Nat.le_of_ble_eq_true rfl), (Nat.le_of_ble_eq_true rfl)⟩ (mch (by omega)) ?_
              intro r146 μ145
              refine lg_goto E (pc := 280) (tgt := 409) dL_law_280 rfl ?_
              exact lg_lo (lo' := [some (.ref b), some (.ref (ad 0)), some (.ref q), some (.int v3), some (.long v4), none, some (.int v6), none, none, some (.int r124), none, none, none, none, none]) ⟨rfl, rfl, rfl, rfl, rfl, rfl, rfl, trivial⟩ (kL_law_L409 E X S hE (X100 := qmu 4878 n + T100) (fun y0 y1 y2 ν w9 c9 h9 => ih y0 y1 y2 ν w9 c9 (by omega)) v3 v4 v6 r124 r146 μ145 w122 _ (by omega))
          · refine lg_aload_n E (pc := 248) dL_law_248 rfl ?_
            refine lg_iconst E (pc := 249) dL_law_249 kc_2 ?_
            refine lg_iload E (pc := 250) dL_law_250 rfl ?_
            refine lg_iload E (pc := 252) dL_law_252 rfl ?_
            refine lg_iconst E (pc := 254) dL_law_254 kc_0 ?_
            refine lg_iconst E (pc := 255) dL_law_255 kc_0 ?_
            refine lg_mcallH E X (pc := 256) (d := 10) [.ref (ad 0), .int (2 : Int32), .int r126, .int r130, .int (0 : Int32), .int (0 : Int32)] [] dL_law_256 cvH_L_161 (fun h => cmL_call X.1 h) rfl rfl (Nat.le_of_ble_eq_true rfl) ⟨(Nat.le_of_ble_eq_true rfl), (Nat.le_of_ble_eq_true rfl)⟩ (mch (by omega)) ?_
            intro r148 μ147
            refine lg_goto E (pc := 259) (tgt := 409) dL_law_259 rfl ?_
            exact lg_lo (lo' := [some (.ref b), some (.ref (ad 0)), some (.ref q), some (.int v3), some (.long v4), none, some (.int v6), none, none, some (.int r124), none, none, none, none, none]) ⟨rfl, rfl, rfl, rfl, rfl, rfl, rfl, trivial⟩ (kL_law_L409 E X S hE (X100 := qmu 4878 n + T100) (fun y0 y1 y2 ν w9 c9 h9 => ih y0 y1 y2 ν w9 c9 (by omega)) v3 v4 v6 r124 r148 μ147 w122 _ (by omega))
        · refine lg_aload_n E (pc := 228) dL_law_228 rfl ?_
          refine lg_iconst E (pc := 229) dL_law_229 kc_1 ?_
          refine lg_iload E (pc := 230) dL_law_230 rfl ?_
          refine lg_iconst E (pc := 232) dL_law_232 kc_0 ?_
          refine lg_iconst E (pc := 233) dL_law_233 kc_0 ?_
          refine lg_iconst E (pc := 234) dL_law_234 kc_0 ?_
          refine lg_mcallH E X (pc := 235) (d := 10) [.ref (ad 0), .int (1 : Int32), .int r126, .int (0 : Int32), .int (0 : Int32), .int (0 : Int32)] [] dL_law_235 cvH_L_161 (fun h => cmL_call X.1 h) rfl rfl (Nat.le_of_ble_eq_true rfl) ⟨(Nat.le_of_ble_eq_true rfl), (Nat.le_of_ble_eq_true rfl)⟩ (mch (by omega)) ?_
          intro r150 μ149
          refine lg_goto E (pc := 238) (tgt := 409) dL_law_238 rfl ?_
          exact lg_lo (lo' := [some (.ref b), some (.ref (ad 0)), some (.ref q), some (.int v3), some (.long v4), none, some (.int v6), none, none, some (.int r124), none, none, none, none, none]) ⟨rfl, rfl, rfl, rfl, rfl, rfl, rfl, trivial⟩ (kL_law_L409 E X S hE (X100 := qmu 4878 n + T100) (fun y0 y1 y2 ν w9 c9 h9 => ih y0 y1 y2 ν w9 c9 (by omega)) v3 v4 v6 r124 r150 μ149 w122 _ (by omega))
      · refine lg_aload_n E (pc := 178) dL_law_178 rfl ?_
        refine lg_iconst E (pc := 179) dL_law_179 kc_0 ?_
        refine lg_iload E (pc := 180) dL_law_180 rfl ?_
        refine lg_iload E (pc := 182) dL_law_182 rfl ?_
        refine lg_iload E (pc := 184) dL_law_184 rfl ?_
        refine lg_iconst E (pc := 186) dL_law_186 kc_3 ?_
        refine lg_ishr E (pc := 187) dL_law_187 ?_
        refine lg_bipush E (pc := 188) dL_law_188 kb_13 ?_
        refine lg_callSi E (pc := 190) (d := 0) [.int (r117 >>> ((3 : Int32) &&& 31)), .int (13 : Int32)] [.int r128, .int r126, .int (0 : Int32), .ref (ad 0)] dL_law_190 cv_L_326 (fun h => ctL_part h) rfl rfl (Nat.le_of_ble_eq_true rfl) ⟨(Nat.le_of_ble_eq_true rfl), (Nat.le_of_ble_eq_true rfl)⟩ (mch0 (by omega)) ?_
        intro r152 μ151
        refine lg_iload E (pc := 193) dL_law_193 rfl ?_
        refine lg_iconst E (pc := 195) dL_law_195 kc_4 ?_
        refine lg_ishl E (pc := 196) dL_law_196 ?_
        refine lg_ior E (pc := 197) dL_law_197 ?_
        refine lg_iload E (pc := 198) dL_law_198 rfl ?_
        refine lg_bipush E (pc := 200) dL_law_200 kb_6 ?_
        refine lg_ishr E (pc := 202) dL_law_202 ?_
        refine lg_iconst E (pc := 203) dL_law_203 kc_4 ?_
        refine lg_callSi E (pc := 204) (d := 0) [.int (r117 >>> ((6 : Int32) &&& 31)), .int (4 : Int32)] [.int (r152 ||| (r130 <<< ((4 : Int32) &&& 31))), .int r128, .int r126, .int (0 : Int32), .ref (ad 0)] dL_law_204 cv_L_326 (fun h => ctL_part h) rfl rfl (Nat.le_of_ble_eq_true rfl) ⟨(Nat.le_of_ble_eq_true rfl), (Nat.le_of_ble_eq_true rfl)⟩ (mch0 (by omega)) ?_
        intro r154 μ153
        refine lg_bipush E (pc := 207) dL_law_207 kb_8 ?_
        refine lg_ishl E (pc := 209) dL_law_209 ?_
        refine lg_ior E (pc := 210) dL_law_210 ?_
        refine lg_iconst E (pc := 211) dL_law_211 kc_3 ?_
        refine lg_iload E (pc := 212) dL_law_212 rfl ?_
        refine lg_imul E (pc := 214) dL_law_214 ?_
        refine lg_mcallH E X (pc := 215) (d := 10) [.ref (ad 0), .int (0 : Int32), .int r126, .int r128, .int ((r152 ||| (r130 <<< ((4 : Int32) &&& 31))) ||| (r154 <<< ((8 : Int32) &&& 31))), .int ((3 : Int32) * r126)] [] dL_law_215 cvH_L_161 (fun h => cmL_call X.1 h) rfl rfl (Nat.le_of_ble_eq_true rfl) ⟨(Nat.le_of_ble_eq_true rfl), (Nat.le_of_ble_eq_true rfl)⟩ (mch (by omega)) ?_
        intro r156 μ155
        refine lg_goto E (pc := 218) (tgt := 409) dL_law_218 rfl ?_
        exact lg_lo (lo' := [some (.ref b), some (.ref (ad 0)), some (.ref q), some (.int v3), some (.long v4), none, some (.int v6), none, none, some (.int r124), none, none, none, none, none]) ⟨rfl, rfl, rfl, rfl, rfl, rfl, rfl, trivial⟩ (kL_law_L409 E X S hE (X100 := qmu 4878 n + T100) (fun y0 y1 y2 ν w9 c9 h9 => ih y0 y1 y2 ν w9 c9 (by omega)) v3 v4 v6 r124 r156 μ155 w122 _ (by omega))
def fL_law (L9 : Nat) (xs : Nat → Int32) (μ : Mem) (w : Nat → Int64) : Option (Unit × Mem) :=
  bz (fX8_insert μ (0 : Int32) (0 : Int32) (0 : Int32) (0 : Int32) (0 : Int32) (6 : Int32)) fun r158 μ157 =>
  if r158 = (1 : Int32) then
  bz (fX8_insert μ157 (1 : Int32) (3 : Int32) (1 : Int32) (0 : Int32) (0 : Int32) (0 : Int32)) fun r160 μ159 =>
  if r160 = (2 : Int32) then
  bz (fX8_insert μ159 (2 : Int32) (6 : Int32) (0 : Int32) (0 : Int32) (1 : Int32) (2 : Int32)) fun r162 μ161 =>
  if r162 = (3 : Int32) then
  bd (fX8_pack μ161) fun r164 μ163 =>
  if r164 = (5 : Int32) then
  bd (fX8_keep μ163) fun r166 μ165 =>
  if r166 = (3 : Int32) then
  bd (fL_seen μ165) fun r168 μ167 =>
  fL_law_L100 L9 xs 28 (0 : Int32) r168 (0 : Int32) μ167 w
  else
  none
  else
  none
  else
  none
  else
  none
  else
  none
set_option maxRecDepth 20000 in
theorem kL_law {p : Program} {l : Launch} {e : Env} {s : State} {m : MethodId} {args : Array Value} {below : List Frame} {meth : Method} {c : Code} {D : va_G} {cI cR cL : ClassId} {ad : Nat → Nat} {q : Nat} {A0 : Nat → Prop} {b L9 : Nat} {xs : Nat → Int32} {Q : State → Prop} (E : EG p s m args meth c cL_law 15 RL D cI cR cL ad q A0) (X : EM9 l s A0) (S : ES s A0 b L9 xs) (hE : HE p l e s m args below meth c A0 Q) (μ : Mem) (w : Nat → Int64) (cl : Nat) (hc0 : cl + (2448 + (qmu 4878 28 + T100)) ≤ MCq) : LGW p l e room_1 s m args below meth c 15 D cI cR cL ad q A0 (fun (_ : Unit) (_ : Mem) => Q) (fL_law L9 xs μ w) cl (6 * cl) 29 [some (.ref b), some (.ref (ad 0)), some (.ref q), some (.int (0 : Int32)), none, none, none, none, none, none, none, none, none, none, none] [] μ w := by
  rw [fL_law]
  refine lg_aload_n E (pc := 29) dL_law_29 rfl ?_
  refine lg_iconst E (pc := 30) dL_law_30 kc_0 ?_
  refine lg_iconst E (pc := 31) dL_law_31 kc_0 ?_
  refine lg_iconst E (pc := 32) dL_law_32 kc_0 ?_
  refine lg_iconst E (pc := 33) dL_law_33 kc_0 ?_
  refine lg_iconst E (pc := 34) dL_law_34 kc_0 ?_
  refine lg_bipush E (pc := 35) dL_law_35 kb_6 ?_
  refine lg_ycallVi E X (pc := 37) (d := 7) (mc1 := 1) (ci := 8) (o9 := 0) [.int (0 : Int32), .int (0 : Int32), .int (0 : Int32), .int (0 : Int32), .int (0 : Int32), .int (6 : Int32)] [] dL_law_37 cv_L_28 (fun h => cxX8_insert X.1 h) (Nat.le_of_ble_eq_true rfl) sx_0 ci_8 rfl rfl (Nat.le_of_ble_eq_true rfl) ⟨(Nat.le_of_ble_eq_true rfl), (Nat.le_of_ble_eq_true rfl)⟩ (mch (by omega)) ?_
  intro r158 μ157
  refine lg_iconst E (pc := 40) dL_law_40 kc_1 ?_
  refine lg_icmp_ne E (pc := 41) (tgt := 89) dL_law_41 rfl ?_ ?_
  · refine lg_iconst E (pc := 89) dL_law_89 kc_0 ?_
    exact lg_none
  · refine lg_aload_n E (pc := 44) dL_law_44 rfl ?_
    refine lg_iconst E (pc := 45) dL_law_45 kc_1 ?_
    refine lg_iconst E (pc := 46) dL_law_46 kc_3 ?_
    refine lg_iconst E (pc := 47) dL_law_47 kc_1 ?_
    refine lg_iconst E (pc := 48) dL_law_48 kc_0 ?_
    refine lg_iconst E (pc := 49) dL_law_49 kc_0 ?_
    refine lg_iconst E (pc := 50) dL_law_50 kc_0 ?_
    refine lg_ycallVi E X (pc := 51) (d := 7) (mc1 := 1) (ci := 8) (o9 := 0) [.int (1 : Int32), .int (3 : Int32), .int (1 : Int32), .int (0 : Int32), .int (0 : Int32), .int (0 : Int32)] [] dL_law_51 cv_L_28 (fun h => cxX8_insert X.1 h) (Nat.le_of_ble_eq_true rfl) sx_0 ci_8 rfl rfl (Nat.le_of_ble_eq_true rfl) ⟨(Nat.le_of_ble_eq_true rfl), (Nat.le_of_ble_eq_true rfl)⟩ (mch (by omega)) ?_
    intro r160 μ159
    refine lg_iconst E (pc := 54) dL_law_54 kc_2 ?_
    refine lg_icmp_ne E (pc := 55) (tgt := 89) dL_law_55 rfl ?_ ?_
    · refine lg_iconst E (pc := 89) dL_law_89 kc_0 ?_
      exact lg_none
    · refine lg_aload_n E (pc := 58) dL_law_58 rfl ?_
      refine lg_iconst E (pc := 59) dL_law_59 kc_2 ?_
      refine lg_bipush E (pc := 60) dL_law_60 kb_6 ?_
      refine lg_iconst E (pc := 62) dL_law_62 kc_0 ?_
      refine lg_iconst E (pc := 63) dL_law_63 kc_0 ?_
      refine lg_iconst E (pc := 64) dL_law_64 kc_1 ?_
      refine lg_iconst E (pc := 65) dL_law_65 kc_2 ?_
      refine lg_ycallVi E X (pc := 66) (d := 7) (mc1 := 1) (ci := 8) (o9 := 0) [.int (2 : Int32), .int (6 : Int32), .int (0 : Int32), .int (0 : Int32), .int (1 : Int32), .int (2 : Int32)] [] dL_law_66 cv_L_28 (fun h => cxX8_insert X.1 h) (Nat.le_of_ble_eq_true rfl) sx_0 ci_8 rfl rfl (Nat.le_of_ble_eq_true rfl) ⟨(Nat.le_of_ble_eq_true rfl), (Nat.le_of_ble_eq_true rfl)⟩ (mch (by omega)) ?_
      intro r162 μ161
      refine lg_iconst E (pc := 69) dL_law_69 kc_3 ?_
      refine lg_icmp_ne E (pc := 70) (tgt := 89) dL_law_70 rfl ?_ ?_
      · refine lg_iconst E (pc := 89) dL_law_89 kc_0 ?_
        exact lg_none
      · refine lg_aload_n E (pc := 73) dL_law_73 rfl ?_
        refine lg_callVi E (pc := 74) (d := 5) (ci := 8) (o9 := 0) [] [] dL_law_74 cv_L_180 (fun h => ctX8_pack h) (Nat.le_of_ble_eq_true rfl) sx_0 ci_8 rfl rfl (Nat.le_of_ble_eq_true rfl) ⟨(Nat.le_of_ble_eq_true rfl), (Nat.le_of_ble_eq_true rfl)⟩ (mch0 (by omega)) ?_
        intro r164 μ163
        refine lg_iconst E (pc := 77) dL_law_77 kc_5 ?_
        refine lg_icmp_ne E (pc := 78) (tgt := 89) dL_law_78 rfl ?_ ?_
        · refine lg_iconst E (pc := 89) dL_law_89 kc_0 ?_
          exact lg_none
        · refine lg_aload_n E (pc := 81) dL_law_81 rfl ?_
          refine lg_callVi E (pc := 82) (d := 2) (ci := 8) (o9 := 0) [] [] dL_law_82 cv_L_222 (fun h => ctX8_keep h) (Nat.le_of_ble_eq_true rfl) sx_0 ci_8 rfl rfl (Nat.le_of_ble_eq_true rfl) ⟨(Nat.le_of_ble_eq_true rfl), (Nat.le_of_ble_eq_true rfl)⟩ (mch0 (by omega)) ?_
          intro r166 μ165
          refine lg_iconst E (pc := 85) dL_law_85 kc_3 ?_
          refine lg_icmp_eq E (pc := 86) (tgt := 91) dL_law_86 rfl ?_ ?_
          · refine lg_aload_n E (pc := 91) dL_law_91 rfl ?_
            refine lg_mcallSj E X (pc := 92) (d := 11) [.ref (ad 0)] [] dL_law_92 cv_L_318 (fun h => cmL_seen X.1 h) rfl rfl (Nat.le_of_ble_eq_true rfl) ⟨(Nat.le_of_ble_eq_true rfl), (Nat.le_of_ble_eq_true rfl)⟩ (mch (by omega)) ?_
            intro r168 μ167
            refine lg_lstore E (pc := 95) (lo' := [some (.ref b), some (.ref (ad 0)), some (.ref q), some (.int (0 : Int32)), some (.long r168), none, none, none, none, none, none, none, none, none, none]) dL_law_95 (Nat.le_of_ble_eq_true rfl) rfl rfl ?_
            refine lg_iconst E (pc := 97) dL_law_97 kc_0 ?_
            refine lg_istore E (pc := 98) (lo' := [some (.ref b), some (.ref (ad 0)), some (.ref q), some (.int (0 : Int32)), some (.long r168), none, some (.int (0 : Int32)), none, none, none, none, none, none, none, none]) dL_law_98 (Nat.le_of_ble_eq_true rfl) rfl rfl ?_
            exact lg_lo (lo' := [some (.ref b), some (.ref (ad 0)), some (.ref q), some (.int (0 : Int32)), some (.long r168), none, some (.int (0 : Int32)), none, none, none, none, none, none, none, none]) ⟨rfl, rfl, rfl, rfl, rfl, rfl, trivial⟩ (kL_law_L100 E X S hE 28 (0 : Int32) r168 (0 : Int32) μ167 w _ (by omega))
          · refine lg_iconst E (pc := 89) dL_law_89 kc_0 ?_
            exact lg_none
