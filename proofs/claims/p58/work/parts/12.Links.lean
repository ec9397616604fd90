theorem dX2_writtenAgain_0 : decode cX2_writtenAgain 0 = .ok (.bipush (-99), 2) := by decide +kernel
theorem dX2_writtenAgain_2 : decode cX2_writtenAgain 2 = .ok (.istore_n 3, 1) := by decide +kernel
theorem dX2_writtenAgain_3 : decode cX2_writtenAgain 3 = .ok (.aload_n 0, 1) := by decide +kernel
theorem dX2_writtenAgain_4 : decode cX2_writtenAgain 4 = .ok (.getfield 15, 3) := by decide +kernel
theorem dX2_writtenAgain_7 : decode cX2_writtenAgain 7 = .ok (.iload_n 2, 1) := by decide +kernel
theorem dX2_writtenAgain_8 : decode cX2_writtenAgain 8 = .ok (.iaload, 1) := by decide +kernel
theorem dX2_writtenAgain_9 : decode cX2_writtenAgain 9 = .ok (.iconst (-1), 1) := by decide +kernel
theorem dX2_writtenAgain_10 : decode cX2_writtenAgain 10 = .ok (.if_icmp .ne 5, 3) := by decide +kernel
theorem dX2_writtenAgain_13 : decode cX2_writtenAgain 13 = .ok (.iload_n 3, 1) := by decide +kernel
theorem dX2_writtenAgain_14 : decode cX2_writtenAgain 14 = .ok (.ireturn, 1) := by decide +kernel
theorem dX2_writtenAgain_15 : decode cX2_writtenAgain 15 = .ok (.aload_n 0, 1) := by decide +kernel
theorem dX2_writtenAgain_16 : decode cX2_writtenAgain 16 = .ok (.getfield 9, 3) := by decide +kernel
theorem dX2_writtenAgain_19 : decode cX2_writtenAgain 19 = .ok (.iload_n 1, 1) := by decide +kernel
theorem dX2_writtenAgain_20 : decode cX2_writtenAgain 20 = .ok (.iaload, 1) := by decide +kernel
theorem dX2_writtenAgain_21 : decode cX2_writtenAgain 21 = .ok (.aload_n 0, 1) := by decide +kernel
theorem dX2_writtenAgain_22 : decode cX2_writtenAgain 22 = .ok (.getfield 15, 3) := by decide +kernel
theorem dX2_writtenAgain_25 : decode cX2_writtenAgain 25 = .ok (.iload_n 2, 1) := by decide +kernel
theorem dX2_writtenAgain_26 : decode cX2_writtenAgain 26 = .ok (.iaload, 1) := by decide +kernel
theorem dX2_writtenAgain_27 : decode cX2_writtenAgain 27 = .ok (.ishr, 1) := by decide +kernel
theorem dX2_writtenAgain_28 : decode cX2_writtenAgain 28 = .ok (.iconst 1, 1) := by decide +kernel
theorem dX2_writtenAgain_29 : decode cX2_writtenAgain 29 = .ok (.iand, 1) := by decide +kernel
theorem dX2_writtenAgain_30 : decode cX2_writtenAgain 30 = .ok (.iconst 1, 1) := by decide +kernel
theorem dX2_writtenAgain_31 : decode cX2_writtenAgain 31 = .ok (.if_icmp .ne 12, 3) := by decide +kernel
theorem dX2_writtenAgain_34 : decode cX2_writtenAgain 34 = .ok (.iconst 1, 1) := by decide +kernel
theorem dX2_writtenAgain_35 : decode cX2_writtenAgain 35 = .ok (.aload_n 0, 1) := by decide +kernel
theorem dX2_writtenAgain_36 : decode cX2_writtenAgain 36 = .ok (.getfield 18, 3) := by decide +kernel
theorem dX2_writtenAgain_39 : decode cX2_writtenAgain 39 = .ok (.iload_n 2, 1) := by decide +kernel
theorem dX2_writtenAgain_40 : decode cX2_writtenAgain 40 = .ok (.iaload, 1) := by decide +kernel
theorem dX2_writtenAgain_41 : decode cX2_writtenAgain 41 = .ok (.isub, 1) := by decide +kernel
theorem dX2_writtenAgain_42 : decode cX2_writtenAgain 42 = .ok (.istore_n 3, 1) := by decide +kernel
theorem dX2_writtenAgain_43 : decode cX2_writtenAgain 43 = .ok (.aload_n 0, 1) := by decide +kernel
theorem dX2_writtenAgain_44 : decode cX2_writtenAgain 44 = .ok (.getfield 15, 3) := by decide +kernel
theorem dX2_writtenAgain_47 : decode cX2_writtenAgain 47 = .ok (.iload_n 1, 1) := by decide +kernel
theorem dX2_writtenAgain_48 : decode cX2_writtenAgain 48 = .ok (.iaload, 1) := by decide +kernel
theorem dX2_writtenAgain_49 : decode cX2_writtenAgain 49 = .ok (.aload_n 0, 1) := by decide +kernel
theorem dX2_writtenAgain_50 : decode cX2_writtenAgain 50 = .ok (.getfield 15, 3) := by decide +kernel
theorem dX2_writtenAgain_53 : decode cX2_writtenAgain 53 = .ok (.iload_n 2, 1) := by decide +kernel
theorem dX2_writtenAgain_54 : decode cX2_writtenAgain 54 = .ok (.iaload, 1) := by decide +kernel
theorem dX2_writtenAgain_55 : decode cX2_writtenAgain 55 = .ok (.if_icmp .ne 23, 3) := by decide +kernel
theorem dX2_writtenAgain_58 : decode cX2_writtenAgain 58 = .ok (.iload_n 3, 1) := by decide +kernel
theorem dX2_writtenAgain_59 : decode cX2_writtenAgain 59 = .ok (.aload_n 0, 1) := by decide +kernel
theorem dX2_writtenAgain_60 : decode cX2_writtenAgain 60 = .ok (.getfield 18, 3) := by decide +kernel
theorem dX2_writtenAgain_63 : decode cX2_writtenAgain 63 = .ok (.iload_n 1, 1) := by decide +kernel
theorem dX2_writtenAgain_64 : decode cX2_writtenAgain 64 = .ok (.iaload, 1) := by decide +kernel
theorem dX2_writtenAgain_65 : decode cX2_writtenAgain 65 = .ok (.iconst 1, 1) := by decide +kernel
theorem dX2_writtenAgain_66 : decode cX2_writtenAgain 66 = .ok (.iadd, 1) := by decide +kernel
theorem dX2_writtenAgain_67 : decode cX2_writtenAgain 67 = .ok (.aload_n 0, 1) := by decide +kernel
theorem dX2_writtenAgain_68 : decode cX2_writtenAgain 68 = .ok (.getfield 18, 3) := by decide +kernel
theorem dX2_writtenAgain_71 : decode cX2_writtenAgain 71 = .ok (.iload_n 2, 1) := by decide +kernel
theorem dX2_writtenAgain_72 : decode cX2_writtenAgain 72 = .ok (.iaload, 1) := by decide +kernel
theorem dX2_writtenAgain_73 : decode cX2_writtenAgain 73 = .ok (.isub, 1) := by decide +kernel
theorem dX2_writtenAgain_74 : decode cX2_writtenAgain 74 = .ok (.invokestatic 75, 3) := by decide +kernel
theorem dX2_writtenAgain_77 : decode cX2_writtenAgain 77 = .ok (.istore_n 3, 1) := by decide +kernel
theorem dX2_writtenAgain_78 : decode cX2_writtenAgain 78 = .ok (.iload_n 3, 1) := by decide +kernel
theorem dX2_writtenAgain_79 : decode cX2_writtenAgain 79 = .ok (.ireturn, 1) := by decide +kernel
def fX2_writtenAgain_L43 (v1 : Int32) (v2 : Int32) (v3 : Int32) (μ : Mem) : Option (Int32 × Mem) :=
  (ld 20 (μ 77) v1).bind fun r9 =>
  (ld 20 (μ 77) v2).bind fun r10 =>
  if r9 = r10 then
  (ld 20 (μ 78) v1).bind fun r11 =>
  (ld 20 (μ 78) v2).bind fun r12 =>
  some ((jmax v3 ((r11 + (1 : Int32)) - r12)), μ)
  else
  some (v3, μ)
def fX2_writtenAgain (μ : Mem) (a1 : Int32) (a2 : Int32) : Option (Int32 × Mem) :=
  (ld 20 (μ 77) a2).bind fun r13 =>
  if r13 = (-1 : Int32) then
  some ((-99 : Int32), μ)
  else
  (ld 20 (μ 76) a1).bind fun r14 =>
  (ld 20 (μ 77) a2).bind fun r15 =>
  if ((r14 >>> (r15 &&& 31)) &&& (1 : Int32)) = (1 : Int32) then
  (ld 20 (μ 78) a2).bind fun r16 =>
  fX2_writtenAgain_L43 a1 a2 ((1 : Int32) - r16) μ
  else
  fX2_writtenAgain_L43 a1 a2 (-99 : Int32) μ
theorem kX2_writtenAgain_L43 {p : Program} {l : Launch} {e : Env} {s : State} {m : MethodId} {args : Array Value} {below : List Frame} {meth : Method} {c : Code} {D : va_G} {cI cR : ClassId} {ad : Nat → Nat} {A0 : Nat → Prop} (E : EV p s m args meth c cX2_writtenAgain 4 RX2 D cI cR ad shX NX A0) (hr : meth.sig.returnType = (some .int)) (v1 : Int32) (v2 : Int32) (v3 : Int32) (μ : Mem) : LL p l e (RM 1) s m args below meth c 4 D cI cR ad shX NX A0 (fun (r : Int32) μ' => KG below args s D cI cR ad shX NX A0 (some (.int r)) μ') (fX2_writtenAgain_L43 v1 v2 v3 μ) 0 0 43 [some (.ref (ad 75)), some (.int v1), some (.int v2), some (.int v3)] [] μ := by
  rw [fX2_writtenAgain_L43]
  refine ll_aload_n E (pc := 43) dX2_writtenAgain_43 rfl ?_
  refine ll_getfr E (pc := 44) (o9 := 75) (ci := 2) (k9 := 2) (q := 77) dX2_writtenAgain_44 fl_X2_15 (Nat.le_of_ble_eq_true rfl) fx_75_2 ?_
  refine ll_iload_n E (pc := 47) dX2_writtenAgain_47 rfl ?_
  refine ll_iald E (pc := 48) (a := 77) dX2_writtenAgain_48 (px_77).1 (px_77).2 ?_
  intro r9
  refine ll_aload_n E (pc := 49) dX2_writtenAgain_49 rfl ?_
  refine ll_getfr E (pc := 50) (o9 := 75) (ci := 2) (k9 := 2) (q := 77) dX2_writtenAgain_50 fl_X2_15 (Nat.le_of_ble_eq_true rfl) fx_75_2 ?_
  refine ll_iload_n E (pc := 53) dX2_writtenAgain_53 rfl ?_
  refine ll_iald E (pc := 54) (a := 77) dX2_writtenAgain_54 (px_77).1 (px_77).2 ?_
  intro r10
  refine ll_icmp_ne E (pc := 55) (tgt := 78) dX2_writtenAgain_55 rfl ?_ ?_
  · refine ll_iload_n E (pc := 78) dX2_writtenAgain_78 rfl ?_
    exact ll_ireturn E (pc := 79) hr dX2_writtenAgain_79
  · refine ll_iload_n E (pc := 58) dX2_writtenAgain_58 rfl ?_
    refine ll_aload_n E (pc := 59) dX2_writtenAgain_59 rfl ?_
    refine ll_getfr E (pc := 60) (o9 := 75) (ci := 2) (k9 := 3) (q := 78) dX2_writtenAgain_60 fl_X2_18 (Nat.le_of_ble_eq_true rfl) fx_75_3 ?_
    refine ll_iload_n E (pc := 63) dX2_writtenAgain_63 rfl ?_
    refine ll_iald E (pc := 64) (a := 78) dX2_writtenAgain_64 (px_78).1 (px_78).2 ?_
    intro r11
    refine ll_iconst E (pc := 65) dX2_writtenAgain_65 kc_1 ?_
    refine ll_iadd E (pc := 66) dX2_writtenAgain_66 ?_
    refine ll_aload_n E (pc := 67) dX2_writtenAgain_67 rfl ?_
    refine ll_getfr E (pc := 68) (o9 := 75) (ci := 2) (k9 := 3) (q := 78) dX2_writtenAgain_68 fl_X2_18 (Nat.le_of_ble_eq_true rfl) fx_75_3 ?_
    refine ll_iload_n E (pc := 71) dX2_writtenAgain_71 rfl ?_
    refine ll_iald E (pc := 72) (a := 78) dX2_writtenAgain_72 (px_78).1 (px_78).2 ?_
    intro r12
    refine ll_isub E (pc := 73) dX2_writtenAgain_73 ?_
    refine ll_max E (pc := 74) dX2_writtenAgain_74 mw_X2_75 mw_max1 mw_math mw_max2 (Nat.le_of_ble_eq_true rfl) ⟨(Nat.le_of_ble_eq_true rfl), (Nat.le_of_ble_eq_true rfl)⟩ ⟨(Nat.le_of_ble_eq_true rfl), (Nat.le_of_ble_eq_true rfl)⟩ ?_
    refine ll_istore_n E (pc := 77) (lo' := [some (.ref (ad 75)), some (.int v1), some (.int v2), some (.int (jmax v3 ((r11 + (1 : Int32)) - r12)))]) dX2_writtenAgain_77 (Nat.le_of_ble_eq_true rfl) rfl rfl ?_
    refine ll_iload_n E (pc := 78) dX2_writtenAgain_78 rfl ?_
    exact ll_ireturn E (pc := 79) hr dX2_writtenAgain_79
theorem ctX2_writtenAgain {l : Launch} {D : va_G} {cI cR : ClassId} {ad : Nat → Nat} {μ : Mem} {a1 : Int32} {a2 : Int32} {r : Int32} {μ' : Mem} (hf : fX2_writtenAgain μ a1 a2 = some (r, μ')) : CT l yX2_writtenAgain cX2_writtenAgain 4 (some .int) 1 D cI cR ad shX NX [.ref (ad 75), .int a1, .int a2] μ (some (.int r)) μ' :=
  ct_of (own := RX2) (ov := fun r => some (.int r)) (by decide +kernel) rfl (Nat.le_of_ble_eq_true rfl) (fun p e s m below meth c A0 E hr => by
    refine ll_lo (lo' := [some (.ref (ad 75)), some (.int a1), some (.int a2), none]) ⟨rfl, rfl, rfl, trivial⟩ ?_
    rw [fX2_writtenAgain]
    refine ll_bipush E (pc := 0) dX2_writtenAgain_0 kb_m99 ?_
    refine ll_istore_n E (pc := 2) (lo' := [some (.ref (ad 75)), some (.int a1), some (.int a2), some (.int (-99 : Int32))]) dX2_writtenAgain_2 (Nat.le_of_ble_eq_true rfl) rfl rfl ?_
    refine ll_aload_n E (pc := 3) dX2_writtenAgain_3 rfl ?_
    refine ll_getfr E (pc := 4) (o9 := 75) (ci := 2) (k9 := 2) (q := 77) dX2_writtenAgain_4 fl_X2_15 (Nat.le_of_ble_eq_true rfl) fx_75_2 ?_
    refine ll_iload_n E (pc := 7) dX2_writtenAgain_7 rfl ?_
    refine ll_iald E (pc := 8) (a := 77) dX2_writtenAgain_8 (px_77).1 (px_77).2 ?_
    intro r13
    refine ll_iconst E (pc := 9) dX2_writtenAgain_9 kc_m1 ?_
    refine ll_icmp_ne E (pc := 10) (tgt := 15) dX2_writtenAgain_10 rfl ?_ ?_
    · refine ll_aload_n E (pc := 15) dX2_writtenAgain_15 rfl ?_
      refine ll_getfr E (pc := 16) (o9 := 75) (ci := 2) (k9 := 1) (q := 76) dX2_writtenAgain_16 fl_X2_9 (Nat.le_of_ble_eq_true rfl) fx_75_1 ?_
      refine ll_iload_n E (pc := 19) dX2_writtenAgain_19 rfl ?_
      refine ll_iald E (pc := 20) (a := 76) dX2_writtenAgain_20 (px_76).1 (px_76).2 ?_
      intro r14
      refine ll_aload_n E (pc := 21) dX2_writtenAgain_21 rfl ?_
      refine ll_getfr E (pc := 22) (o9 := 75) (ci := 2) (k9 := 2) (q := 77) dX2_writtenAgain_22 fl_X2_15 (Nat.le_of_ble_eq_true rfl) fx_75_2 ?_
      refine ll_iload_n E (pc := 25) dX2_writtenAgain_25 rfl ?_
      refine ll_iald E (pc := 26) (a := 77) dX2_writtenAgain_26 (px_77).1 (px_77).2 ?_
      intro r15
      refine ll_ishr E (pc := 27) dX2_writtenAgain_27 ?_
      refine ll_iconst E (pc := 28) dX2_writtenAgain_28 kc_1 ?_
      refine ll_iand E (pc := 29) dX2_writtenAgain_29 ?_
      refine ll_iconst E (pc := 30) dX2_writtenAgain_30 kc_1 ?_
      refine ll_icmp_ne E (pc := 31) (tgt := 43) dX2_writtenAgain_31 rfl ?_ ?_
      · exact ll_lo (lo' := [some (.ref (ad 75)), some (.int a1), some (.int a2), some (.int (-99 : Int32))]) ⟨rfl, rfl, rfl, rfl, trivial⟩ (kX2_writtenAgain_L43 E hr a1 a2 (-99 : Int32) μ)
      · refine ll_iconst E (pc := 34) dX2_writtenAgain_34 kc_1 ?_
        refine ll_aload_n E (pc := 35) dX2_writtenAgain_35 rfl ?_
        refine ll_getfr E (pc := 36) (o9 := 75) (ci := 2) (k9 := 3) (q := 78) dX2_writtenAgain_36 fl_X2_18 (Nat.le_of_ble_eq_true rfl) fx_75_3 ?_
        refine ll_iload_n E (pc := 39) dX2_writtenAgain_39 rfl ?_
        refine ll_iald E (pc := 40) (a := 78) dX2_writtenAgain_40 (px_78).1 (px_78).2 ?_
        intro r16
        refine ll_isub E (pc := 41) dX2_writtenAgain_41 ?_
        refine ll_istore_n E (pc := 42) (lo' := [some (.ref (ad 75)), some (.int a1), some (.int a2), some (.int ((1 : Int32) - r16))]) dX2_writtenAgain_42 (Nat.le_of_ble_eq_true rfl) rfl rfl ?_
        exact ll_lo (lo' := [some (.ref (ad 75)), some (.int a1), some (.int a2), some (.int ((1 : Int32) - r16))]) ⟨rfl, rfl, rfl, rfl, trivial⟩ (kX2_writtenAgain_L43 E hr a1 a2 ((1 : Int32) - r16) μ)
    · refine ll_iload_n E (pc := 13) dX2_writtenAgain_13 rfl ?_
      exact ll_ireturn E (pc := 14) hr dX2_writtenAgain_14) hf
theorem dX2_handsOver_0 : decode cX2_handsOver 0 = .ok (.aload_n 0, 1) := by decide +kernel
theorem dX2_handsOver_1 : decode cX2_handsOver 1 = .ok (.getfield 15, 3) := by decide +kernel
theorem dX2_handsOver_4 : decode cX2_handsOver 4 = .ok (.iload_n 1, 1) := by decide +kernel
theorem dX2_handsOver_5 : decode cX2_handsOver 5 = .ok (.iaload, 1) := by decide +kernel
theorem dX2_handsOver_6 : decode cX2_handsOver 6 = .ok (.iconst (-1), 1) := by decide +kernel
theorem dX2_handsOver_7 : decode cX2_handsOver 7 = .ok (.if_icmp .eq 26, 3) := by decide +kernel
theorem dX2_handsOver_10 : decode cX2_handsOver 10 = .ok (.aload_n 0, 1) := by decide +kernel
theorem dX2_handsOver_11 : decode cX2_handsOver 11 = .ok (.getfield 9, 3) := by decide +kernel
theorem dX2_handsOver_14 : decode cX2_handsOver 14 = .ok (.iload_n 2, 1) := by decide +kernel
theorem dX2_handsOver_15 : decode cX2_handsOver 15 = .ok (.iaload, 1) := by decide +kernel
theorem dX2_handsOver_16 : decode cX2_handsOver 16 = .ok (.aload_n 0, 1) := by decide +kernel
theorem dX2_handsOver_17 : decode cX2_handsOver 17 = .ok (.getfield 15, 3) := by decide +kernel
theorem dX2_handsOver_20 : decode cX2_handsOver 20 = .ok (.iload_n 1, 1) := by decide +kernel
theorem dX2_handsOver_21 : decode cX2_handsOver 21 = .ok (.iaload, 1) := by decide +kernel
theorem dX2_handsOver_22 : decode cX2_handsOver 22 = .ok (.ishr, 1) := by decide +kernel
theorem dX2_handsOver_23 : decode cX2_handsOver 23 = .ok (.iconst 1, 1) := by decide +kernel
theorem dX2_handsOver_24 : decode cX2_handsOver 24 = .ok (.iand, 1) := by decide +kernel
theorem dX2_handsOver_25 : decode cX2_handsOver 25 = .ok (.iconst 1, 1) := by decide +kernel
theorem dX2_handsOver_26 : decode cX2_handsOver 26 = .ok (.if_icmp .ne 7, 3) := by decide +kernel
theorem dX2_handsOver_29 : decode cX2_handsOver 29 = .ok (.iconst 1, 1) := by decide +kernel
theorem dX2_handsOver_30 : decode cX2_handsOver 30 = .ok (.goto 4, 3) := by decide +kernel
theorem dX2_handsOver_33 : decode cX2_handsOver 33 = .ok (.iconst 0, 1) := by decide +kernel
theorem dX2_handsOver_34 : decode cX2_handsOver 34 = .ok (.ireturn, 1) := by decide +kernel
def fX2_handsOver (μ : Mem) (a1 : Int32) (a2 : Int32) : Option (Int32 × Mem) :=
  (ld 20 (μ 77) a1).bind fun r4 =>
  if r4 = (-1 : Int32) then
  some ((0 : Int32), μ)
  else
  (ld 20 (μ 76) a2).bind fun r5 =>
  (ld 20 (μ 77) a1).bind fun r6 =>
  if ((r5 >>> (r6 &&& 31)) &&& (1 : Int32)) = (1 : Int32) then
  some ((1 : Int32), μ)
  else
  some ((0 : Int32), μ)
theorem ctX2_handsOver {l : Launch} {D : va_G} {cI cR : ClassId} {ad : Nat → Nat} {μ : Mem} {a1 : Int32} {a2 : Int32} {r : Int32} {μ' : Mem} (hf : fX2_handsOver μ a1 a2 = some (r, μ')) : CT l yX2_handsOver cX2_handsOver 3 (some .boolean) 0 D cI cR ad shX NX [.ref (ad 75), .int a1, .int a2] μ (some (.int r)) μ' :=
  ct_of (own := RX2) (ov := fun r => some (.int r)) (by decide +kernel) rfl (Nat.le_of_ble_eq_true rfl) (fun p e s m below meth c A0 E hr => by
    refine ll_lo (lo' := [some (.ref (ad 75)), some (.int a1), some (.int a2)]) ⟨rfl, rfl, rfl, trivial⟩ ?_
    rw [fX2_handsOver]
    refine ll_aload_n E (pc := 0) dX2_handsOver_0 rfl ?_
    refine ll_getfr E (pc := 1) (o9 := 75) (ci := 2) (k9 := 2) (q := 77) dX2_handsOver_1 fl_X2_15 (Nat.le_of_ble_eq_true rfl) fx_75_2 ?_
    refine ll_iload_n E (pc := 4) dX2_handsOver_4 rfl ?_
    refine ll_iald E (pc := 5) (a := 77) dX2_handsOver_5 (px_77).1 (px_77).2 ?_
    intro r4
    refine ll_iconst E (pc := 6) dX2_handsOver_6 kc_m1 ?_
    refine ll_icmp_eq E (pc := 7) (tgt := 33) dX2_handsOver_7 rfl ?_ ?_
    · refine ll_iconst E (pc := 33) dX2_handsOver_33 kc_0 ?_
      exact ll_zreturn E (pc := 34) hr rfl dX2_handsOver_34
    · refine ll_aload_n E (pc := 10) dX2_handsOver_10 rfl ?_
      refine ll_getfr E (pc := 11) (o9 := 75) (ci := 2) (k9 := 1) (q := 76) dX2_handsOver_11 fl_X2_9 (Nat.le_of_ble_eq_true rfl) fx_75_1 ?_
      refine ll_iload_n E (pc := 14) dX2_handsOver_14 rfl ?_
      refine ll_iald E (pc := 15) (a := 76) dX2_handsOver_15 (px_76).1 (px_76).2 ?_
      intro r5
      refine ll_aload_n E (pc := 16) dX2_handsOver_16 rfl ?_
      refine ll_getfr E (pc := 17) (o9 := 75) (ci := 2) (k9 := 2) (q := 77) dX2_handsOver_17 fl_X2_15 (Nat.le_of_ble_eq_true rfl) fx_75_2 ?_
      refine ll_iload_n E (pc := 20) dX2_handsOver_20 rfl ?_
      refine ll_iald E (pc := 21) (a := 77) dX2_handsOver_21 (px_77).1 (px_77).2 ?_
      intro r6
      refine ll_ishr E (pc := 22) dX2_handsOver_22 ?_
      refine ll_iconst E (pc := 23) dX2_handsOver_23 kc_1 ?_
      refine ll_iand E (pc := 24) dX2_handsOver_24 ?_
      refine ll_iconst E (pc := 25) dX2_handsOver_25 kc_1 ?_
      refine ll_icmp_ne E (pc := 26) (tgt := 33) dX2_handsOver_26 rfl ?_ ?_
      · refine ll_iconst E (pc := 33) dX2_handsOver_33 kc_0 ?_
        exact ll_zreturn E (pc := 34) hr rfl dX2_handsOver_34
      · refine ll_iconst E (pc := 29) dX2_handsOver_29 kc_1 ?_
        refine ll_goto E (pc := 30) (tgt := 34) dX2_handsOver_30 rfl ?_
        exact ll_zreturn E (pc := 34) hr rfl dX2_handsOver_34) hf
theorem dX2_isWrittenFrom_0 : decode cX2_isWrittenFrom 0 = .ok (.iload_n 1, 1) := by decide +kernel
theorem dX2_isWrittenFrom_1 : decode cX2_isWrittenFrom 1 = .ok (.istore 4, 2) := by decide +kernel
theorem dX2_isWrittenFrom_3 : decode cX2_isWrittenFrom 3 = .ok (.iload 4, 2) := by decide +kernel
theorem dX2_isWrittenFrom_5 : decode cX2_isWrittenFrom 5 = .ok (.iload_n 2, 1) := by decide +kernel
theorem dX2_isWrittenFrom_6 : decode cX2_isWrittenFrom 6 = .ok (.if_icmp .ge 31, 3) := by decide +kernel
theorem dX2_isWrittenFrom_9 : decode cX2_isWrittenFrom 9 = .ok (.iload 4, 2) := by decide +kernel
theorem dX2_isWrittenFrom_11 : decode cX2_isWrittenFrom 11 = .ok (.aload_n 0, 1) := by decide +kernel
theorem dX2_isWrittenFrom_12 : decode cX2_isWrittenFrom 12 = .ok (.getfield 39, 3) := by decide +kernel
theorem dX2_isWrittenFrom_15 : decode cX2_isWrittenFrom 15 = .ok (.if_icmp .ge 22, 3) := by decide +kernel
theorem dX2_isWrittenFrom_18 : decode cX2_isWrittenFrom 18 = .ok (.aload_n 0, 1) := by decide +kernel
theorem dX2_isWrittenFrom_19 : decode cX2_isWrittenFrom 19 = .ok (.getfield 15, 3) := by decide +kernel
theorem dX2_isWrittenFrom_22 : decode cX2_isWrittenFrom 22 = .ok (.iload 4, 2) := by decide +kernel
theorem dX2_isWrittenFrom_24 : decode cX2_isWrittenFrom 24 = .ok (.iaload, 1) := by decide +kernel
theorem dX2_isWrittenFrom_25 : decode cX2_isWrittenFrom 25 = .ok (.iload_n 3, 1) := by decide +kernel
theorem dX2_isWrittenFrom_26 : decode cX2_isWrittenFrom 26 = .ok (.if_icmp .ne 5, 3) := by decide +kernel
theorem dX2_isWrittenFrom_29 : decode cX2_isWrittenFrom 29 = .ok (.iconst 1, 1) := by decide +kernel
theorem dX2_isWrittenFrom_30 : decode cX2_isWrittenFrom 30 = .ok (.ireturn, 1) := by decide +kernel
theorem dX2_isWrittenFrom_31 : decode cX2_isWrittenFrom 31 = .ok (.iinc 4 1, 3) := by decide +kernel
theorem dX2_isWrittenFrom_34 : decode cX2_isWrittenFrom 34 = .ok (.goto (-31), 3) := by decide +kernel
theorem dX2_isWrittenFrom_37 : decode cX2_isWrittenFrom 37 = .ok (.iconst 0, 1) := by decide +kernel
theorem dX2_isWrittenFrom_38 : decode cX2_isWrittenFrom 38 = .ok (.ireturn, 1) := by decide +kernel
def fX2_isWrittenFrom_L3 : Nat → Int32 → Int32 → Int32 → Mem → Option (Int32 × Mem)
  | 0, _, _, _, _ => none
  | n + 1, v2, v3, v4, μ =>   if v2 ≤ v4 then
  some ((0 : Int32), μ)
  else
  if (μ 75 0) ≤ v4 then
  some ((0 : Int32), μ)
  else
  (ld 20 (μ 77) v4).bind fun r2 =>
  if r2 = v3 then
  some ((1 : Int32), μ)
  else
  fX2_isWrittenFrom_L3 n v2 v3 (v4 + (1 : Int32)) μ
def fX2_isWrittenFrom (μ : Mem) (a1 : Int32) (a2 : Int32) (a3 : Int32) : Option (Int32 × Mem) :=
  fX2_isWrittenFrom_L3 fu a2 a3 a1 μ
theorem kX2_isWrittenFrom_L3 {p : Program} {l : Launch} {e : Env} {s : State} {m : MethodId} {args : Array Value} {below : List Frame} {meth : Method} {c : Code} {D : va_G} {cI cR : ClassId} {ad : Nat → Nat} {A0 : Nat → Prop} (E : EV p s m args meth c cX2_isWrittenFrom 5 RX2 D cI cR ad shX NX A0) (hr : meth.sig.returnType = (some .boolean)) (n : Nat) : ∀ (v2 : Int32) (v3 : Int32) (v4 : Int32) (μ : Mem), LL p l e (RM 0) s m args below meth c 5 D cI cR ad shX NX A0 (fun (r : Int32) μ' => KG below args s D cI cR ad shX NX A0 (some (.int r)) μ') (fX2_isWrittenFrom_L3 n v2 v3 v4 μ) 0 0 3 [some (.ref (ad 75)), none, some (.int v2), some (.int v3), some (.int v4)] [] μ := by
  induction n with
  | zero =>
    intros
    exact ll_none
  | succ n ih =>
    intro v2 v3 v4 μ
    rw [fX2_isWrittenFrom_L3]
    refine ll_iload E (pc := 3) dX2_isWrittenFrom_3 rfl ?_
    refine ll_iload_n E (pc := 5) dX2_isWrittenFrom_5 rfl ?_
    refine ll_icmp_ge E (pc := 6) (tgt := 37) dX2_isWrittenFrom_6 rfl ?_ ?_
    · refine ll_iconst E (pc := 37) dX2_isWrittenFrom_37 kc_0 ?_
      exact ll_zreturn E (pc := 38) hr rfl dX2_isWrittenFrom_38
    · refine ll_iload E (pc := 9) dX2_isWrittenFrom_9 rfl ?_
      refine ll_aload_n E (pc := 11) dX2_isWrittenFrom_11 rfl ?_
      refine ll_getf E (pc := 12) (o9 := 75) (ci := 2) (k9 := 0) dX2_isWrittenFrom_12 fl_X2_39 (Nat.le_of_ble_eq_true rfl) fx_75_0 ?_
      refine ll_icmp_ge E (pc := 15) (tgt := 37) dX2_isWrittenFrom_15 rfl ?_ ?_
      · refine ll_iconst E (pc := 37) dX2_isWrittenFrom_37 kc_0 ?_
        exact ll_zreturn E (pc := 38) hr rfl dX2_isWrittenFrom_38
      · refine ll_aload_n E (pc := 18) dX2_isWrittenFrom_18 rfl ?_
        refine ll_getfr E (pc := 19) (o9 := 75) (ci := 2) (k9 := 2) (q := 77) dX2_isWrittenFrom_19 fl_X2_15 (Nat.le_of_ble_eq_true rfl) fx_75_2 ?_
        refine ll_iload E (pc := 22) dX2_isWrittenFrom_22 rfl ?_
        refine ll_iald E (pc := 24) (a := 77) dX2_isWrittenFrom_24 (px_77).1 (px_77).2 ?_
        intro r2
        refine ll_iload_n E (pc := 25) dX2_isWrittenFrom_25 rfl ?_
        refine ll_icmp_ne E (pc := 26) (tgt := 31) dX2_isWrittenFrom_26 rfl ?_ ?_
        · refine ll_iinc E (pc := 31) (lo' := [some (.ref (ad 75)), none, some (.int v2), some (.int v3), some (.int (v4 + (1 : Int32)))]) dX2_isWrittenFrom_31 rfl kc_1 (Nat.le_of_ble_eq_true rfl) rfl rfl ?_
          refine ll_goto E (pc := 34) (tgt := 3) dX2_isWrittenFrom_34 rfl ?_
          exact ll_lo (lo' := [some (.ref (ad 75)), none, some (.int v2), some (.int v3), some (.int (v4 + (1 : Int32)))]) ⟨rfl, rfl, rfl, rfl, trivial⟩ (ih v2 v3 (v4 + (1 : Int32)) μ)
        · refine ll_iconst E (pc := 29) dX2_isWrittenFrom_29 kc_1 ?_
          exact ll_zreturn E (pc := 30) hr rfl dX2_isWrittenFrom_30
theorem ctX2_isWrittenFrom {l : Launch} {D : va_G} {cI cR : ClassId} {ad : Nat → Nat} {μ : Mem} {a1 : Int32} {a2 : Int32} {a3 : Int32} {r : Int32} {μ' : Mem} (hf : fX2_isWrittenFrom μ a1 a2 a3 = some (r, μ')) : CT l yX2_isWrittenFrom cX2_isWrittenFrom 5 (some .boolean) 0 D cI cR ad shX NX [.ref (ad 75), .int a1, .int a2, .int a3] μ (some (.int r)) μ' :=
  ct_of (own := RX2) (ov := fun r => some (.int r)) (by decide +kernel) rfl (Nat.le_of_ble_eq_true rfl) (fun p e s m below meth c A0 E hr => by
    refine ll_lo (lo' := [some (.ref (ad 75)), some (.int a1), some (.int a2), some (.int a3), none]) ⟨rfl, rfl, rfl, rfl, trivial⟩ ?_
    rw [fX2_isWrittenFrom]
    refine ll_iload_n E (pc := 0) dX2_isWrittenFrom_0 rfl ?_
    refine ll_istore E (pc := 1) (lo' := [some (.ref (ad 75)), some (.int a1), some (.int a2), some (.int a3), some (.int a1)]) dX2_isWrittenFrom_1 (Nat.le_of_ble_eq_true rfl) rfl rfl ?_
    exact ll_lo (lo' := [some (.ref (ad 75)), none, some (.int a2), some (.int a3), some (.int a1)]) ⟨rfl, rfl, rfl, rfl, trivial⟩ (kX2_isWrittenFrom_L3 E hr fu a2 a3 a1 μ)) hf
theorem dX2_meetInCells_0 : decode cX2_meetInCells 0 = .ok (.aload_n 0, 1) := by decide +kernel
theorem dX2_meetInCells_1 : decode cX2_meetInCells 1 = .ok (.iload_n 1, 1) := by decide +kernel
theorem dX2_meetInCells_2 : decode cX2_meetInCells 2 = .ok (.invokevirtual 90, 3) := by decide +kernel
theorem dX2_meetInCells_5 : decode cX2_meetInCells 5 = .ok (.ifCond .eq 37, 3) := by decide +kernel
theorem dX2_meetInCells_8 : decode cX2_meetInCells 8 = .ok (.aload_n 0, 1) := by decide +kernel
theorem dX2_meetInCells_9 : decode cX2_meetInCells 9 = .ok (.iload_n 2, 1) := by decide +kernel
theorem dX2_meetInCells_10 : decode cX2_meetInCells 10 = .ok (.invokevirtual 90, 3) := by decide +kernel
theorem dX2_meetInCells_13 : decode cX2_meetInCells 13 = .ok (.ifCond .eq 29, 3) := by decide +kernel
theorem dX2_meetInCells_16 : decode cX2_meetInCells 16 = .ok (.aload_n 0, 1) := by decide +kernel
theorem dX2_meetInCells_17 : decode cX2_meetInCells 17 = .ok (.getfield 87, 3) := by decide +kernel
theorem dX2_meetInCells_20 : decode cX2_meetInCells 20 = .ok (.iload_n 1, 1) := by decide +kernel
theorem dX2_meetInCells_21 : decode cX2_meetInCells 21 = .ok (.iaload, 1) := by decide +kernel
theorem dX2_meetInCells_22 : decode cX2_meetInCells 22 = .ok (.bipush 6, 2) := by decide +kernel
theorem dX2_meetInCells_24 : decode cX2_meetInCells 24 = .ok (.if_icmp .eq 14, 3) := by decide +kernel
theorem dX2_meetInCells_27 : decode cX2_meetInCells 27 = .ok (.aload_n 0, 1) := by decide +kernel
theorem dX2_meetInCells_28 : decode cX2_meetInCells 28 = .ok (.getfield 87, 3) := by decide +kernel
theorem dX2_meetInCells_31 : decode cX2_meetInCells 31 = .ok (.iload_n 2, 1) := by decide +kernel
theorem dX2_meetInCells_32 : decode cX2_meetInCells 32 = .ok (.iaload, 1) := by decide +kernel
theorem dX2_meetInCells_33 : decode cX2_meetInCells 33 = .ok (.bipush 6, 2) := by decide +kernel
theorem dX2_meetInCells_35 : decode cX2_meetInCells 35 = .ok (.if_icmp .ne 7, 3) := by decide +kernel
theorem dX2_meetInCells_38 : decode cX2_meetInCells 38 = .ok (.iconst 1, 1) := by decide +kernel
theorem dX2_meetInCells_39 : decode cX2_meetInCells 39 = .ok (.goto 4, 3) := by decide +kernel
theorem dX2_meetInCells_42 : decode cX2_meetInCells 42 = .ok (.iconst 0, 1) := by decide +kernel
theorem dX2_meetInCells_43 : decode cX2_meetInCells 43 = .ok (.ireturn, 1) := by decide +kernel
def fX2_meetInCells_L38  (μ : Mem) : Option (Int32 × Mem) :=
  some ((1 : Int32), μ)
def fX2_meetInCells (μ : Mem) (a1 : Int32) (a2 : Int32) : Option (Int32 × Mem) :=
  bd (fX6_usesCells μ a1) fun r8 μ7 =>
  if r8 = 0 then
  some ((0 : Int32), μ7)
  else
  bd (fX6_usesCells μ7 a2) fun r10 μ9 =>
  if r10 = 0 then
  some ((0 : Int32), μ9)
  else
  (ld 20 (μ9 2) a1).bind fun r11 =>
  if r11 = (6 : Int32) then
  fX2_meetInCells_L38 μ9
  else
  (ld 20 (μ9 2) a2).bind fun r12 =>
  if r12 = (6 : Int32) then
  fX2_meetInCells_L38 μ9
  else
  some ((0 : Int32), μ9)
theorem kX2_meetInCells_L38 {p : Program} {l : Launch} {e : Env} {s : State} {m : MethodId} {args : Array Value} {below : List Frame} {meth : Method} {c : Code} {D : va_G} {cI cR : ClassId} {ad : Nat → Nat} {A0 : Nat → Prop} (E : EV p s m args meth c cX2_meetInCells 3 RX2 D cI cR ad shX NX A0) (hr : meth.sig.returnType = (some .boolean))  (μ : Mem) : LL p l e (RM 1) s m args below meth c 3 D cI cR ad shX NX A0 (fun (r : Int32) μ' => KG below args s D cI cR ad shX NX A0 (some (.int r)) μ') (fX2_meetInCells_L38 μ) 0 0 38 [none, none, none] [] μ := by
  rw [fX2_meetInCells_L38]
  refine ll_iconst E (pc := 38) dX2_meetInCells_38 kc_1 ?_
  refine ll_goto E (pc := 39) (tgt := 43) dX2_meetInCells_39 rfl ?_
  exact ll_zreturn E (pc := 43) hr rfl dX2_meetInCells_43
theorem ctX2_meetInCells {l : Launch} {D : va_G} {cI cR : ClassId} {ad : Nat → Nat} {μ : Mem} {a1 : Int32} {a2 : Int32} {r : Int32} {μ' : Mem} (hf : fX2_meetInCells μ a1 a2 = some (r, μ')) : CT l yX2_meetInCells cX2_meetInCells 3 (some .boolean) 1 D cI cR ad shX NX [.ref (ad 1), .int a1, .int a2] μ (some (.int r)) μ' :=
  ct_of (own := RX2) (ov := fun r => some (.int r)) (by decide +kernel) rfl (Nat.le_of_ble_eq_true rfl) (fun p e s m below meth c A0 E hr => by
    refine ll_lo (lo' := [some (.ref (ad 1)), some (.int a1), some (.int a2)]) ⟨rfl, rfl, rfl, trivial⟩ ?_
    rw [fX2_meetInCells]
    refine ll_aload_n E (pc := 0) dX2_meetInCells_0 rfl ?_
    refine ll_iload_n E (pc := 1) dX2_meetInCells_1 rfl ?_
    refine ll_callVi E (pc := 2) (d := 0) (ci := 6) (o9 := 1) [.int a1] [] dX2_meetInCells_2 cv_X2_90 (fun h => ctX6_usesCells h) (Nat.le_of_ble_eq_true rfl) sx_1 ci_6 rfl rfl (Nat.le_of_ble_eq_true rfl) ⟨(Nat.le_of_ble_eq_true rfl), (Nat.le_of_ble_eq_true rfl)⟩ ⟨(Nat.le_of_ble_eq_true rfl), (Nat.le_of_ble_eq_true rfl)⟩ ?_
    intro r8 μ7
    refine ll_if_eq E (pc := 5) (tgt := 42) dX2_meetInCells_5 rfl ?_ ?_
    · refine ll_iconst E (pc := 42) dX2_meetInCells_42 kc_0 ?_
      exact ll_zreturn E (pc := 43) hr rfl dX2_meetInCells_43
    · refine ll_aload_n E (pc := 8) dX2_meetInCells_8 rfl ?_
      refine ll_iload_n E (pc := 9) dX2_meetInCells_9 rfl ?_
      refine ll_callVi E (pc := 10) (d := 0) (ci := 6) (o9 := 1) [.int a2] [] dX2_meetInCells_10 cv_X2_90 (fun h => ctX6_usesCells h) (Nat.le_of_ble_eq_true rfl) sx_1 ci_6 rfl rfl (Nat.le_of_ble_eq_true rfl) ⟨(Nat.le_of_ble_eq_true rfl), (Nat.le_of_ble_eq_true rfl)⟩ ⟨(Nat.le_of_ble_eq_true rfl), (Nat.le_of_ble_eq_true rfl)⟩ ?_
      intro r10 μ9
      refine ll_if_eq E (pc := 13) (tgt := 42) dX2_meetInCells_13 rfl ?_ ?_
      · refine ll_iconst E (pc := 42) dX2_meetInCells_42 kc_0 ?_
        exact ll_zreturn E (pc := 43) hr rfl dX2_meetInCells_43
      · refine ll_aload_n E (pc := 16) dX2_meetInCells_16 rfl ?_
        refine ll_getfr E (pc := 17) (o9 := 1) (ci := 6) (k9 := 1) (q := 2) dX2_meetInCells_17 fl_X2_87 (Nat.le_of_ble_eq_true rfl) fx_1_1 ?_
        refine ll_iload_n E (pc := 20) dX2_meetInCells_20 rfl ?_
        refine ll_iald E (pc := 21) (a := 2) dX2_meetInCells_21 (px_2).1 (px_2).2 ?_
        intro r11
        refine ll_bipush E (pc := 22) dX2_meetInCells_22 kb_6 ?_
        refine ll_icmp_eq E (pc := 24) (tgt := 38) dX2_meetInCells_24 rfl ?_ ?_
        · exact ll_lo (lo' := [none, none, none]) trivial (kX2_meetInCells_L38 E hr μ9)
        · refine ll_aload_n E (pc := 27) dX2_meetInCells_27 rfl ?_
          refine ll_getfr E (pc := 28) (o9 := 1) (ci := 6) (k9 := 1) (q := 2) dX2_meetInCells_28 fl_X2_87 (Nat.le_of_ble_eq_true rfl) fx_1_1 ?_
          refine ll_iload_n E (pc := 31) dX2_meetInCells_31 rfl ?_
          refine ll_iald E (pc := 32) (a := 2) dX2_meetInCells_32 (px_2).1 (px_2).2 ?_
          intro r12
          refine ll_bipush E (pc := 33) dX2_meetInCells_33 kb_6 ?_
          refine ll_icmp_ne E (pc := 35) (tgt := 42) dX2_meetInCells_35 rfl ?_ ?_
          · refine ll_iconst E (pc := 42) dX2_meetInCells_42 kc_0 ?_
            exact ll_zreturn E (pc := 43) hr rfl dX2_meetInCells_43
          · exact ll_lo (lo' := [none, none, none]) trivial (kX2_meetInCells_L38 E hr μ9)) hf
theorem dX2_areApart_0 : decode cX2_areApart 0 = .ok (.aload_n 1, 1) := by decide +kernel
theorem dX2_areApart_1 : decode cX2_areApart 1 = .ok (.getfield 94, 3) := by decide +kernel
theorem dX2_areApart_4 : decode cX2_areApart 4 = .ok (.iload_n 2, 1) := by decide +kernel
theorem dX2_areApart_5 : decode cX2_areApart 5 = .ok (.iaload, 1) := by decide +kernel
theorem dX2_areApart_6 : decode cX2_areApart 6 = .ok (.aload_n 1, 1) := by decide +kernel
theorem dX2_areApart_7 : decode cX2_areApart 7 = .ok (.getfield 94, 3) := by decide +kernel
theorem dX2_areApart_10 : decode cX2_areApart 10 = .ok (.iload_n 3, 1) := by decide +kernel
theorem dX2_areApart_11 : decode cX2_areApart 11 = .ok (.iaload, 1) := by decide +kernel
theorem dX2_areApart_12 : decode cX2_areApart 12 = .ok (.if_icmp .ne 47, 3) := by decide +kernel
theorem dX2_areApart_15 : decode cX2_areApart 15 = .ok (.aload_n 0, 1) := by decide +kernel
theorem dX2_areApart_16 : decode cX2_areApart 16 = .ok (.iload_n 2, 1) := by decide +kernel
theorem dX2_areApart_17 : decode cX2_areApart 17 = .ok (.iload_n 3, 1) := by decide +kernel
theorem dX2_areApart_18 : decode cX2_areApart 18 = .ok (.aload_n 1, 1) := by decide +kernel
theorem dX2_areApart_19 : decode cX2_areApart 19 = .ok (.getfield 94, 3) := by decide +kernel
theorem dX2_areApart_22 : decode cX2_areApart 22 = .ok (.iload_n 2, 1) := by decide +kernel
theorem dX2_areApart_23 : decode cX2_areApart 23 = .ok (.iaload, 1) := by decide +kernel
theorem dX2_areApart_24 : decode cX2_areApart 24 = .ok (.invokevirtual 71, 3) := by decide +kernel
theorem dX2_areApart_27 : decode cX2_areApart 27 = .ok (.ifCond .ne 32, 3) := by decide +kernel
theorem dX2_areApart_30 : decode cX2_areApart 30 = .ok (.aload_n 1, 1) := by decide +kernel
theorem dX2_areApart_31 : decode cX2_areApart 31 = .ok (.getfield 97, 3) := by decide +kernel
theorem dX2_areApart_34 : decode cX2_areApart 34 = .ok (.iload_n 2, 1) := by decide +kernel
theorem dX2_areApart_35 : decode cX2_areApart 35 = .ok (.iaload, 1) := by decide +kernel
theorem dX2_areApart_36 : decode cX2_areApart 36 = .ok (.bipush 12, 2) := by decide +kernel
theorem dX2_areApart_38 : decode cX2_areApart 38 = .ok (.invokestatic 100, 3) := by decide +kernel
theorem dX2_areApart_41 : decode cX2_areApart 41 = .ok (.aload_n 1, 1) := by decide +kernel
theorem dX2_areApart_42 : decode cX2_areApart 42 = .ok (.getfield 97, 3) := by decide +kernel
theorem dX2_areApart_45 : decode cX2_areApart 45 = .ok (.iload_n 3, 1) := by decide +kernel
theorem dX2_areApart_46 : decode cX2_areApart 46 = .ok (.iaload, 1) := by decide +kernel
theorem dX2_areApart_47 : decode cX2_areApart 47 = .ok (.bipush 12, 2) := by decide +kernel
theorem dX2_areApart_49 : decode cX2_areApart 49 = .ok (.invokestatic 100, 3) := by decide +kernel
theorem dX2_areApart_52 : decode cX2_areApart 52 = .ok (.if_icmp .eq 7, 3) := by decide +kernel
theorem dX2_areApart_55 : decode cX2_areApart 55 = .ok (.iconst 1, 1) := by decide +kernel
theorem dX2_areApart_56 : decode cX2_areApart 56 = .ok (.goto 4, 3) := by decide +kernel
theorem dX2_areApart_59 : decode cX2_areApart 59 = .ok (.iconst 0, 1) := by decide +kernel
theorem dX2_areApart_60 : decode cX2_areApart 60 = .ok (.ireturn, 1) := by decide +kernel
def fX2_areApart (μ : Mem) (a2 : Int32) (a3 : Int32) : Option (Int32 × Mem) :=
  (ld 20 (μ 4) a2).bind fun r12 =>
  (ld 20 (μ 4) a3).bind fun r13 =>
  if r12 = r13 then
  (ld 20 (μ 4) a2).bind fun r14 =>
  bd (fX2_isWrittenFrom μ a2 a3 r14) fun r16 μ15 =>
  if r16 = 0 then
  (ld 20 (μ15 6) a2).bind fun r17 =>
  bd (fJ9_floorMod_7cf53 μ15 r17 (12 : Int32)) fun r19 μ18 =>
  (ld 20 (μ18 6) a3).bind fun r20 =>
  bd (fJ9_floorMod_7cf53 μ18 r20 (12 : Int32)) fun r22 μ21 =>
  if r19 = r22 then
  some ((0 : Int32), μ21)
  else
  some ((1 : Int32), μ21)
  else
  some ((0 : Int32), μ15)
  else
  some ((0 : Int32), μ)
theorem ctX2_areApart {l : Launch} {D : va_G} {cI cR : ClassId} {ad : Nat → Nat} {μ : Mem} {a2 : Int32} {a3 : Int32} {r : Int32} {μ' : Mem} (hf : fX2_areApart μ a2 a3 = some (r, μ')) : CT l yX2_areApart cX2_areApart 4 (some .boolean) 1 D cI cR ad shX NX [.ref (ad 75), .ref (ad 1), .int a2, .int a3] μ (some (.int r)) μ' :=
  ct_of (own := RX2) (ov := fun r => some (.int r)) (by decide +kernel) rfl (Nat.le_of_ble_eq_true rfl) (fun p e s m below meth c A0 E hr => by
    refine ll_lo (lo' := [some (.ref (ad 75)), some (.ref (ad 1)), some (.int a2), some (.int a3)]) ⟨rfl, rfl, rfl, rfl, trivial⟩ ?_
    rw [fX2_areApart]
    refine ll_aload_n E (pc := 0) dX2_areApart_0 rfl ?_
    refine ll_getfr E (pc := 1) (o9 := 1) (ci := 6) (k9 := 3) (q := 4) dX2_areApart_1 fl_X2_94 (Nat.le_of_ble_eq_true rfl) fx_1_3 ?_
    refine ll_iload_n E (pc := 4) dX2_areApart_4 rfl ?_
    refine ll_iald E (pc := 5) (a := 4) dX2_areApart_5 (px_4).1 (px_4).2 ?_
    intro r12
    refine ll_aload_n E (pc := 6) dX2_areApart_6 rfl ?_
    refine ll_getfr E (pc := 7) (o9 := 1) (ci := 6) (k9 := 3) (q := 4) dX2_areApart_7 fl_X2_94 (Nat.le_of_ble_eq_true rfl) fx_1_3 ?_
    refine ll_iload_n E (pc := 10) dX2_areApart_10 rfl ?_
    refine ll_iald E (pc := 11) (a := 4) dX2_areApart_11 (px_4).1 (px_4).2 ?_
    intro r13
    refine ll_icmp_ne E (pc := 12) (tgt := 59) dX2_areApart_12 rfl ?_ ?_
    · refine ll_iconst E (pc := 59) dX2_areApart_59 kc_0 ?_
      exact ll_zreturn E (pc := 60) hr rfl dX2_areApart_60
    · refine ll_aload_n E (pc := 15) dX2_areApart_15 rfl ?_
      refine ll_iload_n E (pc := 16) dX2_areApart_16 rfl ?_
      refine ll_iload_n E (pc := 17) dX2_areApart_17 rfl ?_
      refine ll_aload_n E (pc := 18) dX2_areApart_18 rfl ?_
      refine ll_getfr E (pc := 19) (o9 := 1) (ci := 6) (k9 := 3) (q := 4) dX2_areApart_19 fl_X2_94 (Nat.le_of_ble_eq_true rfl) fx_1_3 ?_
      refine ll_iload_n E (pc := 22) dX2_areApart_22 rfl ?_
      refine ll_iald E (pc := 23) (a := 4) dX2_areApart_23 (px_4).1 (px_4).2 ?_
      intro r14
      refine ll_callVi E (pc := 24) (d := 0) (ci := 2) (o9 := 75) [.int a2, .int a3, .int r14] [] dX2_areApart_24 cv_X2_71 (fun h => ctX2_isWrittenFrom h) (Nat.le_of_ble_eq_true rfl) sx_75 ci_2 rfl rfl (Nat.le_of_ble_eq_true rfl) ⟨(Nat.le_of_ble_eq_true rfl), (Nat.le_of_ble_eq_true rfl)⟩ ⟨(Nat.le_of_ble_eq_true rfl), (Nat.le_of_ble_eq_true rfl)⟩ ?_
      intro r16 μ15
      refine ll_if_ne E (pc := 27) (tgt := 59) dX2_areApart_27 rfl ?_ ?_
      · refine ll_iconst E (pc := 59) dX2_areApart_59 kc_0 ?_
        exact ll_zreturn E (pc := 60) hr rfl dX2_areApart_60
      · refine ll_aload_n E (pc := 30) dX2_areApart_30 rfl ?_
        refine ll_getfr E (pc := 31) (o9 := 1) (ci := 6) (k9 := 5) (q := 6) dX2_areApart_31 fl_X2_97 (Nat.le_of_ble_eq_true rfl) fx_1_5 ?_
        refine ll_iload_n E (pc := 34) dX2_areApart_34 rfl ?_
        refine ll_iald E (pc := 35) (a := 6) dX2_areApart_35 (px_6).1 (px_6).2 ?_
        intro r17
        refine ll_bipush E (pc := 36) dX2_areApart_36 kb_12 ?_
        refine ll_callSi E (pc := 38) (d := 0) [.int r17, .int (12 : Int32)] [] dX2_areApart_38 cv_X2_100 (fun h => ctJ9_floorMod_7cf53 h) rfl rfl (Nat.le_of_ble_eq_true rfl) ⟨(Nat.le_of_ble_eq_true rfl), (Nat.le_of_ble_eq_true rfl)⟩ ⟨(Nat.le_of_ble_eq_true rfl), (Nat.le_of_ble_eq_true rfl)⟩ ?_
        intro r19 μ18
        refine ll_aload_n E (pc := 41) dX2_areApart_41 rfl ?_
        refine ll_getfr E (pc := 42) (o9 := 1) (ci := 6) (k9 := 5) (q := 6) dX2_areApart_42 fl_X2_97 (Nat.le_of_ble_eq_true rfl) fx_1_5 ?_
        refine ll_iload_n E (pc := 45) dX2_areApart_45 rfl ?_
        refine ll_iald E (pc := 46) (a := 6) dX2_areApart_46 (px_6).1 (px_6).2 ?_
        intro r20
        refine ll_bipush E (pc := 47) dX2_areApart_47 kb_12 ?_
        refine ll_callSi E (pc := 49) (d := 0) [.int r20, .int (12 : Int32)] [.int r19] dX2_areApart_49 cv_X2_100 (fun h => ctJ9_floorMod_7cf53 h) rfl rfl (Nat.le_of_ble_eq_true rfl) ⟨(Nat.le_of_ble_eq_true rfl), (Nat.le_of_ble_eq_true rfl)⟩ ⟨(Nat.le_of_ble_eq_true rfl), (Nat.le_of_ble_eq_true rfl)⟩ ?_
        intro r22 μ21
        refine ll_icmp_eq E (pc := 52) (tgt := 59) dX2_areApart_52 rfl ?_ ?_
        · refine ll_iconst E (pc := 59) dX2_areApart_59 kc_0 ?_
          exact ll_zreturn E (pc := 60) hr rfl dX2_areApart_60
        · refine ll_iconst E (pc := 55) dX2_areApart_55 kc_1 ?_
          refine ll_goto E (pc := 56) (tgt := 60) dX2_areApart_56 rfl ?_
          exact ll_zreturn E (pc := 60) hr rfl dX2_areApart_60) hf
theorem dX2_nearPair_0 : decode cX2_nearPair 0 = .ok (.aload_n 0, 1) := by decide +kernel
theorem dX2_nearPair_1 : decode cX2_nearPair 1 = .ok (.iload_n 2, 1) := by decide +kernel
theorem dX2_nearPair_2 : decode cX2_nearPair 2 = .ok (.iload_n 3, 1) := by decide +kernel
theorem dX2_nearPair_3 : decode cX2_nearPair 3 = .ok (.invokevirtual 63, 3) := by decide +kernel
theorem dX2_nearPair_6 : decode cX2_nearPair 6 = .ok (.istore 4, 2) := by decide +kernel
theorem dX2_nearPair_8 : decode cX2_nearPair 8 = .ok (.aload_n 0, 1) := by decide +kernel
theorem dX2_nearPair_9 : decode cX2_nearPair 9 = .ok (.iload_n 2, 1) := by decide +kernel
theorem dX2_nearPair_10 : decode cX2_nearPair 10 = .ok (.iload_n 3, 1) := by decide +kernel
theorem dX2_nearPair_11 : decode cX2_nearPair 11 = .ok (.invokevirtual 67, 3) := by decide +kernel
theorem dX2_nearPair_14 : decode cX2_nearPair 14 = .ok (.ifCond .eq 33, 3) := by decide +kernel
theorem dX2_nearPair_17 : decode cX2_nearPair 17 = .ok (.aload_n 0, 1) := by decide +kernel
theorem dX2_nearPair_18 : decode cX2_nearPair 18 = .ok (.iload_n 2, 1) := by decide +kernel
theorem dX2_nearPair_19 : decode cX2_nearPair 19 = .ok (.iconst 1, 1) := by decide +kernel
theorem dX2_nearPair_20 : decode cX2_nearPair 20 = .ok (.iadd, 1) := by decide +kernel
theorem dX2_nearPair_21 : decode cX2_nearPair 21 = .ok (.iload_n 3, 1) := by decide +kernel
theorem dX2_nearPair_22 : decode cX2_nearPair 22 = .ok (.aload_n 0, 1) := by decide +kernel
theorem dX2_nearPair_23 : decode cX2_nearPair 23 = .ok (.getfield 15, 3) := by decide +kernel
theorem dX2_nearPair_26 : decode cX2_nearPair 26 = .ok (.iload_n 2, 1) := by decide +kernel
theorem dX2_nearPair_27 : decode cX2_nearPair 27 = .ok (.iaload, 1) := by decide +kernel
theorem dX2_nearPair_28 : decode cX2_nearPair 28 = .ok (.invokevirtual 71, 3) := by decide +kernel
theorem dX2_nearPair_31 : decode cX2_nearPair 31 = .ok (.ifCond .ne 16, 3) := by decide +kernel
theorem dX2_nearPair_34 : decode cX2_nearPair 34 = .ok (.iload 4, 2) := by decide +kernel
theorem dX2_nearPair_36 : decode cX2_nearPair 36 = .ok (.aload_n 0, 1) := by decide +kernel
theorem dX2_nearPair_37 : decode cX2_nearPair 37 = .ok (.getfield 18, 3) := by decide +kernel
theorem dX2_nearPair_40 : decode cX2_nearPair 40 = .ok (.iload_n 2, 1) := by decide +kernel
theorem dX2_nearPair_41 : decode cX2_nearPair 41 = .ok (.iaload, 1) := by decide +kernel
theorem dX2_nearPair_42 : decode cX2_nearPair 42 = .ok (.invokestatic 75, 3) := by decide +kernel
theorem dX2_nearPair_45 : decode cX2_nearPair 45 = .ok (.istore 4, 2) := by decide +kernel
theorem dX2_nearPair_47 : decode cX2_nearPair 47 = .ok (.aload_n 1, 1) := by decide +kernel
theorem dX2_nearPair_48 : decode cX2_nearPair 48 = .ok (.iload_n 2, 1) := by decide +kernel
theorem dX2_nearPair_49 : decode cX2_nearPair 49 = .ok (.iload_n 3, 1) := by decide +kernel
theorem dX2_nearPair_50 : decode cX2_nearPair 50 = .ok (.invokestatic 80, 3) := by decide +kernel
theorem dX2_nearPair_53 : decode cX2_nearPair 53 = .ok (.ifCond .eq 35, 3) := by decide +kernel
theorem dX2_nearPair_56 : decode cX2_nearPair 56 = .ok (.aload_n 0, 1) := by decide +kernel
theorem dX2_nearPair_57 : decode cX2_nearPair 57 = .ok (.aload_n 1, 1) := by decide +kernel
theorem dX2_nearPair_58 : decode cX2_nearPair 58 = .ok (.iload_n 2, 1) := by decide +kernel
theorem dX2_nearPair_59 : decode cX2_nearPair 59 = .ok (.iload_n 3, 1) := by decide +kernel
theorem dX2_nearPair_60 : decode cX2_nearPair 60 = .ok (.invokevirtual 84, 3) := by decide +kernel
theorem dX2_nearPair_63 : decode cX2_nearPair 63 = .ok (.ifCond .ne 25, 3) := by decide +kernel
theorem dX2_nearPair_66 : decode cX2_nearPair 66 = .ok (.iload 4, 2) := by decide +kernel
theorem dX2_nearPair_68 : decode cX2_nearPair 68 = .ok (.aload_n 1, 1) := by decide +kernel
theorem dX2_nearPair_69 : decode cX2_nearPair 69 = .ok (.getfield 87, 3) := by decide +kernel
theorem dX2_nearPair_72 : decode cX2_nearPair 72 = .ok (.iload_n 2, 1) := by decide +kernel
theorem dX2_nearPair_73 : decode cX2_nearPair 73 = .ok (.iaload, 1) := by decide +kernel
theorem dX2_nearPair_74 : decode cX2_nearPair 74 = .ok (.iconst 5, 1) := by decide +kernel
theorem dX2_nearPair_75 : decode cX2_nearPair 75 = .ok (.if_icmp .ne 7, 3) := by decide +kernel
theorem dX2_nearPair_78 : decode cX2_nearPair 78 = .ok (.iconst 0, 1) := by decide +kernel
theorem dX2_nearPair_79 : decode cX2_nearPair 79 = .ok (.goto 4, 3) := by decide +kernel
theorem dX2_nearPair_82 : decode cX2_nearPair 82 = .ok (.iconst 1, 1) := by decide +kernel
theorem dX2_nearPair_83 : decode cX2_nearPair 83 = .ok (.invokestatic 75, 3) := by decide +kernel
theorem dX2_nearPair_86 : decode cX2_nearPair 86 = .ok (.istore 4, 2) := by decide +kernel
theorem dX2_nearPair_88 : decode cX2_nearPair 88 = .ok (.iload 4, 2) := by decide +kernel
theorem dX2_nearPair_90 : decode cX2_nearPair 90 = .ok (.ireturn, 1) := by decide +kernel
def fX2_nearPair_L83 (s0 : Int32) (s1 : Int32) (μ : Mem) : Option (Int32 × Mem) :=
  some ((jmax s1 s0), μ)
def fX2_nearPair_L47 (v2 : Int32) (v3 : Int32) (v4 : Int32) (μ : Mem) : Option (Int32 × Mem) :=
  bd (fX2_meetInCells μ v2 v3) fun r15 μ14 =>
  if r15 = 0 then
  some (v4, μ14)
  else
  bd (fX2_areApart μ14 v2 v3) fun r17 μ16 =>
  if r17 = 0 then
  (ld 20 (μ16 2) v2).bind fun r18 =>
  if r18 = (5 : Int32) then
  fX2_nearPair_L83 (0 : Int32) v4 μ16
  else
  fX2_nearPair_L83 (1 : Int32) v4 μ16
  else
  some (v4, μ16)
def fX2_nearPair (μ : Mem) (a2 : Int32) (a3 : Int32) : Option (Int32 × Mem) :=
  bd (fX2_writtenAgain μ a2 a3) fun r20 μ19 =>
  bd (fX2_handsOver μ19 a2 a3) fun r22 μ21 =>
  if r22 = 0 then
  fX2_nearPair_L47 a2 a3 r20 μ21
  else
  (ld 20 (μ21 77) a2).bind fun r23 =>
  bd (fX2_isWrittenFrom μ21 (a2 + (1 : Int32)) a3 r23) fun r25 μ24 =>
  if r25 = 0 then
  (ld 20 (μ24 78) a2).bind fun r26 =>
  fX2_nearPair_L47 a2 a3 (jmax r20 r26) μ24
  else
  fX2_nearPair_L47 a2 a3 r20 μ24
theorem kX2_nearPair_L83 {p : Program} {l : Launch} {e : Env} {s : State} {m : MethodId} {args : Array Value} {below : List Frame} {meth : Method} {c : Code} {D : va_G} {cI cR : ClassId} {ad : Nat → Nat} {A0 : Nat → Prop} (E : EV p s m args meth c cX2_nearPair 5 RX2 D cI cR ad shX NX A0) (hr : meth.sig.returnType = (some .int)) (s0 : Int32) (s1 : Int32) (μ : Mem) : LL p l e (RM 2) s m args below meth c 5 D cI cR ad shX NX A0 (fun (r : Int32) μ' => KG below args s D cI cR ad shX NX A0 (some (.int r)) μ') (fX2_nearPair_L83 s0 s1 μ) 0 0 83 [none, none, none, none, none] [.int s0, .int s1] μ := by
  rw [fX2_nearPair_L83]
  refine ll_max E (pc := 83) dX2_nearPair_83 mw_X2_75 mw_max1 mw_math mw_max2 (Nat.le_of_ble_eq_true rfl) ⟨(Nat.le_of_ble_eq_true rfl), (Nat.le_of_ble_eq_true rfl)⟩ ⟨(Nat.le_of_ble_eq_true rfl), (Nat.le_of_ble_eq_true rfl)⟩ ?_
  refine ll_istore E (pc := 86) (lo' := [none, none, none, none, some (.int (jmax s1 s0))]) dX2_nearPair_86 (Nat.le_of_ble_eq_true rfl) rfl rfl ?_
  refine ll_iload E (pc := 88) dX2_nearPair_88 rfl ?_
  exact ll_ireturn E (pc := 90) hr dX2_nearPair_90
theorem kX2_nearPair_L47 {p : Program} {l : Launch} {e : Env} {s : State} {m : MethodId} {args : Array Value} {below : List Frame} {meth : Method} {c : Code} {D : va_G} {cI cR : ClassId} {ad : Nat → Nat} {A0 : Nat → Prop} (E : EV p s m args meth c cX2_nearPair 5 RX2 D cI cR ad shX NX A0) (hr : meth.sig.returnType = (some .int)) (v2 : Int32) (v3 : Int32) (v4 : Int32) (μ : Mem) : LL p l e (RM 2) s m args below meth c 5 D cI cR ad shX NX A0 (fun (r : Int32) μ' => KG below args s D cI cR ad shX NX A0 (some (.int r)) μ') (fX2_nearPair_L47 v2 v3 v4 μ) 0 0 47 [some (.ref (ad 75)), some (.ref (ad 1)), some (.int v2), some (.int v3), some (.int v4)] [] μ := by
  rw [fX2_nearPair_L47]
  refine ll_aload_n E (pc := 47) dX2_nearPair_47 rfl ?_
  refine ll_iload_n E (pc := 48) dX2_nearPair_48 rfl ?_
  refine ll_iload_n E (pc := 49) dX2_nearPair_49 rfl ?_
  refine ll_callSi E (pc := 50) (d := 1) [.ref (ad 1), .int v2, .int v3] [] dX2_nearPair_50 cv_X2_80 (fun h => ctX2_meetInCells h) rfl rfl (Nat.le_of_ble_eq_true rfl) ⟨(Nat.le_of_ble_eq_true rfl), (Nat.le_of_ble_eq_true rfl)⟩ ⟨(Nat.le_of_ble_eq_true rfl), (Nat.le_of_ble_eq_true rfl)⟩ ?_
  intro r15 μ14
  refine ll_if_eq E (pc := 53) (tgt := 88) dX2_nearPair_53 rfl ?_ ?_
  · refine ll_iload E (pc := 88) dX2_nearPair_88 rfl ?_
    exact ll_ireturn E (pc := 90) hr dX2_nearPair_90
  · refine ll_aload_n E (pc := 56) dX2_nearPair_56 rfl ?_
    refine ll_aload_n E (pc := 57) dX2_nearPair_57 rfl ?_
    refine ll_iload_n E (pc := 58) dX2_nearPair_58 rfl ?_
    refine ll_iload_n E (pc := 59) dX2_nearPair_59 rfl ?_
    refine ll_callVi E (pc := 60) (d := 1) (ci := 2) (o9 := 75) [.ref (ad 1), .int v2, .int v3] [] dX2_nearPair_60 cv_X2_84 (fun h => ctX2_areApart h) (Nat.le_of_ble_eq_true rfl) sx_75 ci_2 rfl rfl (Nat.le_of_ble_eq_true rfl) ⟨(Nat.le_of_ble_eq_true rfl), (Nat.le_of_ble_eq_true rfl)⟩ ⟨(Nat.le_of_ble_eq_true rfl), (Nat.le_of_ble_eq_true rfl)⟩ ?_
    intro r17 μ16
    refine ll_if_ne E (pc := 63) (tgt := 88) dX2_nearPair_63 rfl ?_ ?_
    · refine ll_iload E (pc := 88) dX2_nearPair_88 rfl ?_
      exact ll_ireturn E (pc := 90) hr dX2_nearPair_90
    · refine ll_iload E (pc := 66) dX2_nearPair_66 rfl ?_
      refine ll_aload_n E (pc := 68) dX2_nearPair_68 rfl ?_
      refine ll_getfr E (pc := 69) (o9 := 1) (ci := 6) (k9 := 1) (q := 2) dX2_nearPair_69 fl_X2_87 (Nat.le_of_ble_eq_true rfl) fx_1_1 ?_
      refine ll_iload_n E (pc := 72) dX2_nearPair_72 rfl ?_
      refine ll_iald E (pc := 73) (a := 2) dX2_nearPair_73 (px_2).1 (px_2).2 ?_
      intro r18
      refine ll_iconst E (pc := 74) dX2_nearPair_74 kc_5 ?_
      refine ll_icmp_ne E (pc := 75) (tgt := 82) dX2_nearPair_75 rfl ?_ ?_
      · refine ll_iconst E (pc := 82) dX2_nearPair_82 kc_1 ?_
        exact ll_lo (lo' := [none, none, none, none, none]) trivial (kX2_nearPair_L83 E hr (1 : Int32) v4 μ16)
      · refine ll_iconst E (pc := 78) dX2_nearPair_78 kc_0 ?_
        refine ll_goto E (pc := 79) (tgt := 83) dX2_nearPair_79 rfl ?_
        exact ll_lo (lo' := [none, none, none, none, none]) trivial (kX2_nearPair_L83 E hr (0 : Int32) v4 μ16)
theorem ctX2_nearPair {l : Launch} {D : va_G} {cI cR : ClassId} {ad : Nat → Nat} {μ : Mem} {a2 : Int32} {a3 : Int32} {r : Int32} {μ' : Mem} (hf : fX2_nearPair μ a2 a3 = some (r, μ')) : CT l yX2_nearPair cX2_nearPair 5 (some .int) 2 D cI cR ad shX NX [.ref (ad 75), .ref (ad 1), .int a2, .int a3] μ (some (.int r)) μ' :=
  ct_of (own := RX2) (ov := fun r => some (.int r)) (by decide +kernel) rfl (Nat.le_of_ble_eq_true rfl) (fun p e s m below meth c A0 E hr => by
    refine ll_lo (lo' := [some (.ref (ad 75)), some (.ref (ad 1)), some (.int a2), some (.int a3), none]) ⟨rfl, rfl, rfl, rfl, trivial⟩ ?_
    rw [fX2_nearPair]
    refine ll_aload_n E (pc := 0) dX2_nearPair_0 rfl ?_
    refine ll_iload_n E (pc := 1) dX2_nearPair_1 rfl ?_
    refine ll_iload_n E (pc := 2) dX2_nearPair_2 rfl ?_
    refine ll_callVi E (pc := 3) (d := 1) (ci := 2) (o9 := 75) [.int a2, .int a3] [] dX2_nearPair_3 cv_X2_63 (fun h => ctX2_writtenAgain h) (Nat.le_of_ble_eq_true rfl) sx_75 ci_2 rfl rfl (Nat.le_of_ble_eq_true rfl) ⟨(Nat.le_of_ble_eq_true rfl), (Nat.le_of_ble_eq_true rfl)⟩ ⟨(Nat.le_of_ble_eq_true rfl), (Nat.le_of_ble_eq_true rfl)⟩ ?_
    intro r20 μ19
    refine ll_istore E (pc := 6) (lo' := [some (.ref (ad 75)), some (.ref (ad 1)), some (.int a2), some (.int a3), some (.int r20)]) dX2_nearPair_6 (Nat.le_of_ble_eq_true rfl) rfl rfl ?_
    refine ll_aload_n E (pc := 8) dX2_nearPair_8 rfl ?_
    refine ll_iload_n E (pc := 9) dX2_nearPair_9 rfl ?_
    refine ll_iload_n E (pc := 10) dX2_nearPair_10 rfl ?_
    refine ll_callVi E (pc := 11) (d := 0) (ci := 2) (o9 := 75) [.int a2, .int a3] [] dX2_nearPair_11 cv_X2_67 (fun h => ctX2_handsOver h) (Nat.le_of_ble_eq_true rfl) sx_75 ci_2 rfl rfl (Nat.le_of_ble_eq_true rfl) ⟨(Nat.le_of_ble_eq_true rfl), (Nat.le_of_ble_eq_true rfl)⟩ ⟨(Nat.le_of_ble_eq_true rfl), (Nat.le_of_ble_eq_true rfl)⟩ ?_
    intro r22 μ21
    refine ll_if_eq E (pc := 14) (tgt := 47) dX2_nearPair_14 rfl ?_ ?_
    · exact ll_lo (lo' := [some (.ref (ad 75)), some (.ref (ad 1)), some (.int a2), some (.int a3), some (.int r20)]) ⟨rfl, rfl, rfl, rfl, rfl, trivial⟩ (kX2_nearPair_L47 E hr a2 a3 r20 μ21)
    · refine ll_aload_n E (pc := 17) dX2_nearPair_17 rfl ?_
      refine ll_iload_n E (pc := 18) dX2_nearPair_18 rfl ?_
      refine ll_iconst E (pc := 19) dX2_nearPair_19 kc_1 ?_
      refine ll_iadd E (pc := 20) dX2_nearPair_20 ?_
      refine ll_iload_n E (pc := 21) dX2_nearPair_21 rfl ?_
      refine ll_aload_n E (pc := 22) dX2_nearPair_22 rfl ?_
      refine ll_getfr E (pc := 23) (o9 := 75) (ci := 2) (k9 := 2) (q := 77) dX2_nearPair_23 fl_X2_15 (Nat.le_of_ble_eq_true rfl) fx_75_2 ?_
      refine ll_iload_n E (pc := 26) dX2_nearPair_26 rfl ?_
      refine ll_iald E (pc := 27) (a := 77) dX2_nearPair_27 (px_77).1 (px_77).2 ?_
      intro r23
      refine ll_callVi E (pc := 28) (d := 0) (ci := 2) (o9 := 75) [.int (a2 + (1 : Int32)), .int a3, .int r23] [] dX2_nearPair_28 cv_X2_71 (fun h => ctX2_isWrittenFrom h) (Nat.le_of_ble_eq_true rfl) sx_75 ci_2 rfl rfl (Nat.le_of_ble_eq_true rfl) ⟨(Nat.le_of_ble_eq_true rfl), (Nat.le_of_ble_eq_true rfl)⟩ ⟨(Nat.le_of_ble_eq_true rfl), (Nat.le_of_ble_eq_true rfl)⟩ ?_
      intro r25 μ24
      refine ll_if_ne E (pc := 31) (tgt := 47) dX2_nearPair_31 rfl ?_ ?_
      · exact ll_lo (lo' := [some (.ref (ad 75)), some (.ref (ad 1)), some (.int a2), some (.int a3), some (.int r20)]) ⟨rfl, rfl, rfl, rfl, rfl, trivial⟩ (kX2_nearPair_L47 E hr a2 a3 r20 μ24)
      · refine ll_iload E (pc := 34) dX2_nearPair_34 rfl ?_
        refine ll_aload_n E (pc := 36) dX2_nearPair_36 rfl ?_
        refine ll_getfr E (pc := 37) (o9 := 75) (ci := 2) (k9 := 3) (q := 78) dX2_nearPair_37 fl_X2_18 (Nat.le_of_ble_eq_true rfl) fx_75_3 ?_
        refine ll_iload_n E (pc := 40) dX2_nearPair_40 rfl ?_
        refine ll_iald E (pc := 41) (a := 78) dX2_nearPair_41 (px_78).1 (px_78).2 ?_
        intro r26
        refine ll_max E (pc := 42) dX2_nearPair_42 mw_X2_75 mw_max1 mw_math mw_max2 (Nat.le_of_ble_eq_true rfl) ⟨(Nat.le_of_ble_eq_true rfl), (Nat.le_of_ble_eq_true rfl)⟩ ⟨(Nat.le_of_ble_eq_true rfl), (Nat.le_of_ble_eq_true rfl)⟩ ?_
        refine ll_istore E (pc := 45) (lo' := [some (.ref (ad 75)), some (.ref (ad 1)), some (.int a2), some (.int a3), some (.int (jmax r20 r26))]) dX2_nearPair_45 (Nat.le_of_ble_eq_true rfl) rfl rfl ?_
        exact ll_lo (lo' := [some (.ref (ad 75)), some (.ref (ad 1)), some (.int a2), some (.int a3), some (.int (jmax r20 r26))]) ⟨rfl, rfl, rfl, rfl, rfl, trivial⟩ (kX2_nearPair_L47 E hr a2 a3 (jmax r20 r26) μ24)) hf
theorem dX2_overPair_0 : decode cX2_overPair 0 = .ok (.aload_n 0, 1) := by decide +kernel
theorem dX2_overPair_1 : decode cX2_overPair 1 = .ok (.iload_n 2, 1) := by decide +kernel
theorem dX2_overPair_2 : decode cX2_overPair 2 = .ok (.iload_n 3, 1) := by decide +kernel
theorem dX2_overPair_3 : decode cX2_overPair 3 = .ok (.invokevirtual 63, 3) := by decide +kernel
theorem dX2_overPair_6 : decode cX2_overPair 6 = .ok (.istore 4, 2) := by decide +kernel
theorem dX2_overPair_8 : decode cX2_overPair 8 = .ok (.aload_n 0, 1) := by decide +kernel
theorem dX2_overPair_9 : decode cX2_overPair 9 = .ok (.iload_n 2, 1) := by decide +kernel
theorem dX2_overPair_10 : decode cX2_overPair 10 = .ok (.iload_n 3, 1) := by decide +kernel
theorem dX2_overPair_11 : decode cX2_overPair 11 = .ok (.invokevirtual 67, 3) := by decide +kernel
theorem dX2_overPair_14 : decode cX2_overPair 14 = .ok (.ifCond .eq 51, 3) := by decide +kernel
theorem dX2_overPair_17 : decode cX2_overPair 17 = .ok (.aload_n 0, 1) := by decide +kernel
theorem dX2_overPair_18 : decode cX2_overPair 18 = .ok (.iload_n 2, 1) := by decide +kernel
theorem dX2_overPair_19 : decode cX2_overPair 19 = .ok (.iconst 1, 1) := by decide +kernel
theorem dX2_overPair_20 : decode cX2_overPair 20 = .ok (.iadd, 1) := by decide +kernel
theorem dX2_overPair_21 : decode cX2_overPair 21 = .ok (.aload_n 0, 1) := by decide +kernel
theorem dX2_overPair_22 : decode cX2_overPair 22 = .ok (.getfield 39, 3) := by decide +kernel
theorem dX2_overPair_25 : decode cX2_overPair 25 = .ok (.aload_n 0, 1) := by decide +kernel
theorem dX2_overPair_26 : decode cX2_overPair 26 = .ok (.getfield 15, 3) := by decide +kernel
theorem dX2_overPair_29 : decode cX2_overPair 29 = .ok (.iload_n 2, 1) := by decide +kernel
theorem dX2_overPair_30 : decode cX2_overPair 30 = .ok (.iaload, 1) := by decide +kernel
theorem dX2_overPair_31 : decode cX2_overPair 31 = .ok (.invokevirtual 71, 3) := by decide +kernel
theorem dX2_overPair_34 : decode cX2_overPair 34 = .ok (.ifCond .ne 31, 3) := by decide +kernel
theorem dX2_overPair_37 : decode cX2_overPair 37 = .ok (.aload_n 0, 1) := by decide +kernel
theorem dX2_overPair_38 : decode cX2_overPair 38 = .ok (.iconst 0, 1) := by decide +kernel
theorem dX2_overPair_39 : decode cX2_overPair 39 = .ok (.iload_n 3, 1) := by decide +kernel
theorem dX2_overPair_40 : decode cX2_overPair 40 = .ok (.aload_n 0, 1) := by decide +kernel
theorem dX2_overPair_41 : decode cX2_overPair 41 = .ok (.getfield 15, 3) := by decide +kernel
theorem dX2_overPair_44 : decode cX2_overPair 44 = .ok (.iload_n 2, 1) := by decide +kernel
theorem dX2_overPair_45 : decode cX2_overPair 45 = .ok (.iaload, 1) := by decide +kernel
theorem dX2_overPair_46 : decode cX2_overPair 46 = .ok (.invokevirtual 71, 3) := by decide +kernel
theorem dX2_overPair_49 : decode cX2_overPair 49 = .ok (.ifCond .ne 16, 3) := by decide +kernel
theorem dX2_overPair_52 : decode cX2_overPair 52 = .ok (.iload 4, 2) := by decide +kernel
theorem dX2_overPair_54 : decode cX2_overPair 54 = .ok (.aload_n 0, 1) := by decide +kernel
theorem dX2_overPair_55 : decode cX2_overPair 55 = .ok (.getfield 18, 3) := by decide +kernel
theorem dX2_overPair_58 : decode cX2_overPair 58 = .ok (.iload_n 2, 1) := by decide +kernel
theorem dX2_overPair_59 : decode cX2_overPair 59 = .ok (.iaload, 1) := by decide +kernel
theorem dX2_overPair_60 : decode cX2_overPair 60 = .ok (.invokestatic 75, 3) := by decide +kernel
theorem dX2_overPair_63 : decode cX2_overPair 63 = .ok (.istore 4, 2) := by decide +kernel
theorem dX2_overPair_65 : decode cX2_overPair 65 = .ok (.aload_n 1, 1) := by decide +kernel
theorem dX2_overPair_66 : decode cX2_overPair 66 = .ok (.iload_n 2, 1) := by decide +kernel
theorem dX2_overPair_67 : decode cX2_overPair 67 = .ok (.iload_n 3, 1) := by decide +kernel
theorem dX2_overPair_68 : decode cX2_overPair 68 = .ok (.invokestatic 80, 3) := by decide +kernel
theorem dX2_overPair_71 : decode cX2_overPair 71 = .ok (.ifCond .eq 25, 3) := by decide +kernel
theorem dX2_overPair_74 : decode cX2_overPair 74 = .ok (.iload 4, 2) := by decide +kernel
theorem dX2_overPair_76 : decode cX2_overPair 76 = .ok (.aload_n 1, 1) := by decide +kernel
theorem dX2_overPair_77 : decode cX2_overPair 77 = .ok (.getfield 87, 3) := by decide +kernel
theorem dX2_overPair_80 : decode cX2_overPair 80 = .ok (.iload_n 2, 1) := by decide +kernel
theorem dX2_overPair_81 : decode cX2_overPair 81 = .ok (.iaload, 1) := by decide +kernel
theorem dX2_overPair_82 : decode cX2_overPair 82 = .ok (.iconst 5, 1) := by decide +kernel
theorem dX2_overPair_83 : decode cX2_overPair 83 = .ok (.if_icmp .ne 7, 3) := by decide +kernel
theorem dX2_overPair_86 : decode cX2_overPair 86 = .ok (.iconst 0, 1) := by decide +kernel
theorem dX2_overPair_87 : decode cX2_overPair 87 = .ok (.goto 4, 3) := by decide +kernel
theorem dX2_overPair_90 : decode cX2_overPair 90 = .ok (.iconst 1, 1) := by decide +kernel
theorem dX2_overPair_91 : decode cX2_overPair 91 = .ok (.invokestatic 75, 3) := by decide +kernel
theorem dX2_overPair_94 : decode cX2_overPair 94 = .ok (.istore 4, 2) := by decide +kernel
theorem dX2_overPair_96 : decode cX2_overPair 96 = .ok (.iload 4, 2) := by decide +kernel
theorem dX2_overPair_98 : decode cX2_overPair 98 = .ok (.ireturn, 1) := by decide +kernel
def fX2_overPair_L91 (s0 : Int32) (s1 : Int32) (μ : Mem) : Option (Int32 × Mem) :=
  some ((jmax s1 s0), μ)
def fX2_overPair_L65 (v2 : Int32) (v3 : Int32) (v4 : Int32) (μ : Mem) : Option (Int32 × Mem) :=
  bd (fX2_meetInCells μ v2 v3) fun r16 μ15 =>
  if r16 = 0 then
  some (v4, μ15)
  else
  (ld 20 (μ15 2) v2).bind fun r17 =>
  if r17 = (5 : Int32) then
  fX2_overPair_L91 (0 : Int32) v4 μ15
  else
  fX2_overPair_L91 (1 : Int32) v4 μ15
def fX2_overPair (μ : Mem) (a2 : Int32) (a3 : Int32) : Option (Int32 × Mem) :=
  bd (fX2_writtenAgain μ a2 a3) fun r19 μ18 =>
  bd (fX2_handsOver μ18 a2 a3) fun r21 μ20 =>
  if r21 = 0 then
  fX2_overPair_L65 a2 a3 r19 μ20
  else
  (ld 20 (μ20 77) a2).bind fun r22 =>
  bd (fX2_isWrittenFrom μ20 (a2 + (1 : Int32)) (μ20 75 0) r22) fun r24 μ23 =>
  if r24 = 0 then
  (ld 20 (μ23 77) a2).bind fun r25 =>
  bd (fX2_isWrittenFrom μ23 (0 : Int32) a3 r25) fun r27 μ26 =>
  if r27 = 0 then
  (ld 20 (μ26 78) a2).bind fun r28 =>
  fX2_overPair_L65 a2 a3 (jmax r19 r28) μ26
  else
  fX2_overPair_L65 a2 a3 r19 μ26
  else
  fX2_overPair_L65 a2 a3 r19 μ23
theorem kX2_overPair_L91 {p : Program} {l : Launch} {e : Env} {s : State} {m : MethodId} {args : Array Value} {below : List Frame} {meth : Method} {c : Code} {D : va_G} {cI cR : ClassId} {ad : Nat → Nat} {A0 : Nat → Prop} (E : EV p s m args meth c cX2_overPair 5 RX2 D cI cR ad shX NX A0) (hr : meth.sig.returnType = (some .int)) (s0 : Int32) (s1 : Int32) (μ : Mem) : LL p l e (RM 2) s m args below meth c 5 D cI cR ad shX NX A0 (fun (r : Int32) μ' => KG below args s D cI cR ad shX NX A0 (some (.int r)) μ') (fX2_overPair_L91 s0 s1 μ) 0 0 91 [none, none, none, none, none] [.int s0, .int s1] μ := by
  rw [fX2_overPair_L91]
  refine ll_max E (pc := 91) dX2_overPair_91 mw_X2_75 mw_max1 mw_math mw_max2 (Nat.le_of_ble_eq_true rfl) ⟨(Nat.le_of_ble_eq_true rfl), (Nat.le_of_ble_eq_true rfl)⟩ ⟨(Nat.le_of_ble_eq_true rfl), (Nat.le_of_ble_eq_true rfl)⟩ ?_
  refine ll_istore E (pc := 94) (lo' := [none, none, none, none, some (.int (jmax s1 s0))]) dX2_overPair_94 (Nat.le_of_ble_eq_true rfl) rfl rfl ?_
  refine ll_iload E (pc := 96) dX2_overPair_96 rfl ?_
  exact ll_ireturn E (pc := 98) hr dX2_overPair_98
theorem kX2_overPair_L65 {p : Program} {l : Launch} {e : Env} {s : State} {m : MethodId} {args : Array Value} {below : List Frame} {meth : Method} {c : Code} {D : va_G} {cI cR : ClassId} {ad : Nat → Nat} {A0 : Nat → Prop} (E : EV p s m args meth c cX2_overPair 5 RX2 D cI cR ad shX NX A0) (hr : meth.sig.returnType = (some .int)) (v2 : Int32) (v3 : Int32) (v4 : Int32) (μ : Mem) : LL p l e (RM 2) s m args below meth c 5 D cI cR ad shX NX A0 (fun (r : Int32) μ' => KG below args s D cI cR ad shX NX A0 (some (.int r)) μ') (fX2_overPair_L65 v2 v3 v4 μ) 0 0 65 [none, some (.ref (ad 1)), some (.int v2), some (.int v3), some (.int v4)] [] μ := by
  rw [fX2_overPair_L65]
  refine ll_aload_n E (pc := 65) dX2_overPair_65 rfl ?_
  refine ll_iload_n E (pc := 66) dX2_overPair_66 rfl ?_
  refine ll_iload_n E (pc := 67) dX2_overPair_67 rfl ?_
  refine ll_callSi E (pc := 68) (d := 1) [.ref (ad 1), .int v2, .int v3] [] dX2_overPair_68 cv_X2_80 (fun h => ctX2_meetInCells h) rfl rfl (Nat.le_of_ble_eq_true rfl) ⟨(Nat.le_of_ble_eq_true rfl), (Nat.le_of_ble_eq_true rfl)⟩ ⟨(Nat.le_of_ble_eq_true rfl), (Nat.le_of_ble_eq_true rfl)⟩ ?_
  intro r16 μ15
  refine ll_if_eq E (pc := 71) (tgt := 96) dX2_overPair_71 rfl ?_ ?_
  · refine ll_iload E (pc := 96) dX2_overPair_96 rfl ?_
    exact ll_ireturn E (pc := 98) hr dX2_overPair_98
  · refine ll_iload E (pc := 74) dX2_overPair_74 rfl ?_
    refine ll_aload_n E (pc := 76) dX2_overPair_76 rfl ?_
    refine ll_getfr E (pc := 77) (o9 := 1) (ci := 6) (k9 := 1) (q := 2) dX2_overPair_77 fl_X2_87 (Nat.le_of_ble_eq_true rfl) fx_1_1 ?_
    refine ll_iload_n E (pc := 80) dX2_overPair_80 rfl ?_
    refine ll_iald E (pc := 81) (a := 2) dX2_overPair_81 (px_2).1 (px_2).2 ?_
    intro r17
    refine ll_iconst E (pc := 82) dX2_overPair_82 kc_5 ?_
    refine ll_icmp_ne E (pc := 83) (tgt := 90) dX2_overPair_83 rfl ?_ ?_
    · refine ll_iconst E (pc := 90) dX2_overPair_90 kc_1 ?_
      exact ll_lo (lo' := [none, none, none, none, none]) trivial (kX2_overPair_L91 E hr (1 : Int32) v4 μ15)
    · refine ll_iconst E (pc := 86) dX2_overPair_86 kc_0 ?_
      refine ll_goto E (pc := 87) (tgt := 91) dX2_overPair_87 rfl ?_
      exact ll_lo (lo' := [none, none, none, none, none]) trivial (kX2_overPair_L91 E hr (0 : Int32) v4 μ15)
theorem ctX2_overPair {l : Launch} {D : va_G} {cI cR : ClassId} {ad : Nat → Nat} {μ : Mem} {a2 : Int32} {a3 : Int32} {r : Int32} {μ' : Mem} (hf : fX2_overPair μ a2 a3 = some (r, μ')) : CT l yX2_overPair cX2_overPair 5 (some .int) 2 D cI cR ad shX NX [.ref (ad 75), .ref (ad 1), .int a2, .int a3] μ (some (.int r)) μ' :=
  ct_of (own := RX2) (ov := fun r => some (.int r)) (by decide +kernel) rfl (Nat.le_of_ble_eq_true rfl) (fun p e s m below meth c A0 E hr => by
    refine ll_lo (lo' := [some (.ref (ad 75)), some (.ref (ad 1)), some (.int a2), some (.int a3), none]) ⟨rfl, rfl, rfl, rfl, trivial⟩ ?_
    rw [fX2_overPair]
    refine ll_aload_n E (pc := 0) dX2_overPair_0 rfl ?_
    refine ll_iload_n E (pc := 1) dX2_overPair_1 rfl ?_
    refine ll_iload_n E (pc := 2) dX2_overPair_2 rfl ?_
    refine ll_callVi E (pc := 3) (d := 1) (ci := 2) (o9 := 75) [.int a2, .int a3] [] dX2_overPair_3 cv_X2_63 (fun h => ctX2_writtenAgain h) (Nat.le_of_ble_eq_true rfl) sx_75 ci_2 rfl rfl (Nat.le_of_ble_eq_true rfl) ⟨(Nat.le_of_ble_eq_true rfl), (Nat.le_of_ble_eq_true rfl)⟩ ⟨(Nat.le_of_ble_eq_true rfl), (Nat.le_of_ble_eq_true rfl)⟩ ?_
    intro r19 μ18
    refine ll_istore E (pc := 6) (lo' := [some (.ref (ad 75)), some (.ref (ad 1)), some (.int a2), some (.int a3), some (.int r19)]) dX2_overPair_6 (Nat.le_of_ble_eq_true rfl) rfl rfl ?_
    refine ll_aload_n E (pc := 8) dX2_overPair_8 rfl ?_
    refine ll_iload_n E (pc := 9) dX2_overPair_9 rfl ?_
    refine ll_iload_n E (pc := 10) dX2_overPair_10 rfl ?_
    refine ll_callVi E (pc := 11) (d := 0) (ci := 2) (o9 := 75) [.int a2, .int a3] [] dX2_overPair_11 cv_X2_67 (fun h => ctX2_handsOver h) (Nat.le_of_ble_eq_true rfl) sx_75 ci_2 rfl rfl (Nat.le_of_ble_eq_true rfl) ⟨(Nat.le_of_ble_eq_true rfl), (Nat.le_of_ble_eq_true rfl)⟩ ⟨(Nat.le_of_ble_eq_true rfl), (Nat.le_of_ble_eq_true rfl)⟩ ?_
    intro r21 μ20
    refine ll_if_eq E (pc := 14) (tgt := 65) dX2_overPair_14 rfl ?_ ?_
    · exact ll_lo (lo' := [none, some (.ref (ad 1)), some (.int a2), some (.int a3), some (.int r19)]) ⟨rfl, rfl, rfl, rfl, trivial⟩ (kX2_overPair_L65 E hr a2 a3 r19 μ20)
    · refine ll_aload_n E (pc := 17) dX2_overPair_17 rfl ?_
      refine ll_iload_n E (pc := 18) dX2_overPair_18 rfl ?_
      refine ll_iconst E (pc := 19) dX2_overPair_19 kc_1 ?_
      refine ll_iadd E (pc := 20) dX2_overPair_20 ?_
      refine ll_aload_n E (pc := 21) dX2_overPair_21 rfl ?_
      refine ll_getf E (pc := 22) (o9 := 75) (ci := 2) (k9 := 0) dX2_overPair_22 fl_X2_39 (Nat.le_of_ble_eq_true rfl) fx_75_0 ?_
      refine ll_aload_n E (pc := 25) dX2_overPair_25 rfl ?_
      refine ll_getfr E (pc := 26) (o9 := 75) (ci := 2) (k9 := 2) (q := 77) dX2_overPair_26 fl_X2_15 (Nat.le_of_ble_eq_true rfl) fx_75_2 ?_
      refine ll_iload_n E (pc := 29) dX2_overPair_29 rfl ?_
      refine ll_iald E (pc := 30) (a := 77) dX2_overPair_30 (px_77).1 (px_77).2 ?_
      intro r22
      refine ll_callVi E (pc := 31) (d := 0) (ci := 2) (o9 := 75) [.int (a2 + (1 : Int32)), .int (μ20 75 0), .int r22] [] dX2_overPair_31 cv_X2_71 (fun h => ctX2_isWrittenFrom h) (Nat.le_of_ble_eq_true rfl) sx_75 ci_2 rfl rfl (Nat.le_of_ble_eq_true rfl) ⟨(Nat.le_of_ble_eq_true rfl), (Nat.le_of_ble_eq_true rfl)⟩ ⟨(Nat.le_of_ble_eq_true rfl), (Nat.le_of_ble_eq_true rfl)⟩ ?_
      intro r24 μ23
      refine ll_if_ne E (pc := 34) (tgt := 65) dX2_overPair_34 rfl ?_ ?_
      · exact ll_lo (lo' := [none, some (.ref (ad 1)), some (.int a2), some (.int a3), some (.int r19)]) ⟨rfl, rfl, rfl, rfl, trivial⟩ (kX2_overPair_L65 E hr a2 a3 r19 μ23)
      · refine ll_aload_n E (pc := 37) dX2_overPair_37 rfl ?_
        refine ll_iconst E (pc := 38) dX2_overPair_38 kc_0 ?_
        refine ll_iload_n E (pc := 39) dX2_overPair_39 rfl ?_
        refine ll_aload_n E (pc := 40) dX2_overPair_40 rfl ?_
        refine ll_getfr E (pc := 41) (o9 := 75) (ci := 2) (k9 := 2) (q := 77) dX2_overPair_41 fl_X2_15 (Nat.le_of_ble_eq_true rfl) fx_75_2 ?_
        refine ll_iload_n E (pc := 44) dX2_overPair_44 rfl ?_
        refine ll_iald E (pc := 45) (a := 77) dX2_overPair_45 (px_77).1 (px_77).2 ?_
        intro r25
        refine ll_callVi E (pc := 46) (d := 0) (ci := 2) (o9 := 75) [.int (0 : Int32), .int a3, .int r25] [] dX2_overPair_46 cv_X2_71 (fun h => ctX2_isWrittenFrom h) (Nat.le_of_ble_eq_true rfl) sx_75 ci_2 rfl rfl (Nat.le_of_ble_eq_true rfl) ⟨(Nat.le_of_ble_eq_true rfl), (Nat.le_of_ble_eq_true rfl)⟩ ⟨(Nat.le_of_ble_eq_true rfl), (Nat.le_of_ble_eq_true rfl)⟩ ?_
        intro r27 μ26
        refine ll_if_ne E (pc := 49) (tgt := 65) dX2_overPair_49 rfl ?_ ?_
        · exact ll_lo (lo' := [none, some (.ref (ad 1)), some (.int a2), some (.int a3), some (.int r19)]) ⟨rfl, rfl, rfl, rfl, trivial⟩ (kX2_overPair_L65 E hr a2 a3 r19 μ26)
        · refine ll_iload E (pc := 52) dX2_overPair_52 rfl ?_
          refine ll_aload_n E (pc := 54) dX2_overPair_54 rfl ?_
          refine ll_getfr E (pc := 55) (o9 := 75) (ci := 2) (k9 := 3) (q := 78) dX2_overPair_55 fl_X2_18 (Nat.le_of_ble_eq_true rfl) fx_75_3 ?_
          refine ll_iload_n E (pc := 58) dX2_overPair_58 rfl ?_
          refine ll_iald E (pc := 59) (a := 78) dX2_overPair_59 (px_78).1 (px_78).2 ?_
          intro r28
          refine ll_max E (pc := 60) dX2_overPair_60 mw_X2_75 mw_max1 mw_math mw_max2 (Nat.le_of_ble_eq_true rfl) ⟨(Nat.le_of_ble_eq_true rfl), (Nat.le_of_ble_eq_true rfl)⟩ ⟨(Nat.le_of_ble_eq_true rfl), (Nat.le_of_ble_eq_true rfl)⟩ ?_
          refine ll_istore E (pc := 63) (lo' := [some (.ref (ad 75)), some (.ref (ad 1)), some (.int a2), some (.int a3), some (.int (jmax r19 r28))]) dX2_overPair_63 (Nat.le_of_ble_eq_true rfl) rfl rfl ?_
          exact ll_lo (lo' := [none, some (.ref (ad 1)), some (.int a2), some (.int a3), some (.int (jmax r19 r28))]) ⟨rfl, rfl, rfl, rfl, trivial⟩ (kX2_overPair_L65 E hr a2 a3 (jmax r19 r28) μ26)) hf
theorem dX2_nearOf_0 : decode cX2_nearOf 0 = .ok (.iload_n 1, 1) := by decide +kernel
theorem dX2_nearOf_1 : decode cX2_nearOf 1 = .ok (.ifCond .lt 30, 3) := by decide +kernel
theorem dX2_nearOf_4 : decode cX2_nearOf 4 = .ok (.iload_n 1, 1) := by decide +kernel
theorem dX2_nearOf_5 : decode cX2_nearOf 5 = .ok (.iload_n 2, 1) := by decide +kernel
theorem dX2_nearOf_6 : decode cX2_nearOf 6 = .ok (.if_icmp .ge 25, 3) := by decide +kernel
theorem dX2_nearOf_9 : decode cX2_nearOf 9 = .ok (.iload_n 2, 1) := by decide +kernel
theorem dX2_nearOf_10 : decode cX2_nearOf 10 = .ok (.aload_n 0, 1) := by decide +kernel
theorem dX2_nearOf_11 : decode cX2_nearOf 11 = .ok (.getfield 39, 3) := by decide +kernel
theorem dX2_nearOf_14 : decode cX2_nearOf 14 = .ok (.if_icmp .ge 17, 3) := by decide +kernel
theorem dX2_nearOf_17 : decode cX2_nearOf 17 = .ok (.aload_n 0, 1) := by decide +kernel
theorem dX2_nearOf_18 : decode cX2_nearOf 18 = .ok (.getfield 21, 3) := by decide +kernel
theorem dX2_nearOf_21 : decode cX2_nearOf 21 = .ok (.iload_n 1, 1) := by decide +kernel
theorem dX2_nearOf_22 : decode cX2_nearOf 22 = .ok (.bipush 20, 2) := by decide +kernel
theorem dX2_nearOf_24 : decode cX2_nearOf 24 = .ok (.imul, 1) := by decide +kernel
theorem dX2_nearOf_25 : decode cX2_nearOf 25 = .ok (.iload_n 2, 1) := by decide +kernel
theorem dX2_nearOf_26 : decode cX2_nearOf 26 = .ok (.iadd, 1) := by decide +kernel
theorem dX2_nearOf_27 : decode cX2_nearOf 27 = .ok (.iaload, 1) := by decide +kernel
theorem dX2_nearOf_28 : decode cX2_nearOf 28 = .ok (.goto 5, 3) := by decide +kernel
theorem dX2_nearOf_31 : decode cX2_nearOf 31 = .ok (.bipush (-99), 2) := by decide +kernel
theorem dX2_nearOf_33 : decode cX2_nearOf 33 = .ok (.ireturn, 1) := by decide +kernel
def fX2_nearOf (μ : Mem) (a1 : Int32) (a2 : Int32) : Option (Int32 × Mem) :=
  if a1 < 0 then
  some ((-99 : Int32), μ)
  else
  if a2 ≤ a1 then
  some ((-99 : Int32), μ)
  else
  if (μ 75 0) ≤ a2 then
  some ((-99 : Int32), μ)
  else
  (ld 400 (μ 79) ((a1 * (20 : Int32)) + a2)).bind fun r2 =>
  some (r2, μ)
theorem ctX2_nearOf {l : Launch} {D : va_G} {cI cR : ClassId} {ad : Nat → Nat} {μ : Mem} {a1 : Int32} {a2 : Int32} {r : Int32} {μ' : Mem} (hf : fX2_nearOf μ a1 a2 = some (r, μ')) : CT l yX2_nearOf cX2_nearOf 3 (some .int) 0 D cI cR ad shX NX [.ref (ad 75), .int a1, .int a2] μ (some (.int r)) μ' :=
  ct_of (own := RX2) (ov := fun r => some (.int r)) (by decide +kernel) rfl (Nat.le_of_ble_eq_true rfl) (fun p e s m below meth c A0 E hr => by
    refine ll_lo (lo' := [some (.ref (ad 75)), some (.int a1), some (.int a2)]) ⟨rfl, rfl, rfl, trivial⟩ ?_
    rw [fX2_nearOf]
    refine ll_iload_n E (pc := 0) dX2_nearOf_0 rfl ?_
    refine ll_if_lt E (pc := 1) (tgt := 31) dX2_nearOf_1 rfl ?_ ?_
    · refine ll_bipush E (pc := 31) dX2_nearOf_31 kb_m99 ?_
      exact ll_ireturn E (pc := 33) hr dX2_nearOf_33
    · refine ll_iload_n E (pc := 4) dX2_nearOf_4 rfl ?_
      refine ll_iload_n E (pc := 5) dX2_nearOf_5 rfl ?_
      refine ll_icmp_ge E (pc := 6) (tgt := 31) dX2_nearOf_6 rfl ?_ ?_
      · refine ll_bipush E (pc := 31) dX2_nearOf_31 kb_m99 ?_
        exact ll_ireturn E (pc := 33) hr dX2_nearOf_33
      · refine ll_iload_n E (pc := 9) dX2_nearOf_9 rfl ?_
        refine ll_aload_n E (pc := 10) dX2_nearOf_10 rfl ?_
        refine ll_getf E (pc := 11) (o9 := 75) (ci := 2) (k9 := 0) dX2_nearOf_11 fl_X2_39 (Nat.le_of_ble_eq_true rfl) fx_75_0 ?_
        refine ll_icmp_ge E (pc := 14) (tgt := 31) dX2_nearOf_14 rfl ?_ ?_
        · refine ll_bipush E (pc := 31) dX2_nearOf_31 kb_m99 ?_
          exact ll_ireturn E (pc := 33) hr dX2_nearOf_33
        · refine ll_aload_n E (pc := 17) dX2_nearOf_17 rfl ?_
          refine ll_getfr E (pc := 18) (o9 := 75) (ci := 2) (k9 := 4) (q := 79) dX2_nearOf_18 fl_X2_21 (Nat.le_of_ble_eq_true rfl) fx_75_4 ?_
          refine ll_iload_n E (pc := 21) dX2_nearOf_21 rfl ?_
          refine ll_bipush E (pc := 22) dX2_nearOf_22 kb_20 ?_
          refine ll_imul E (pc := 24) dX2_nearOf_24 ?_
          refine ll_iload_n E (pc := 25) dX2_nearOf_25 rfl ?_
          refine ll_iadd E (pc := 26) dX2_nearOf_26 ?_
          refine ll_iald E (pc := 27) (a := 79) dX2_nearOf_27 (px_79).1 (px_79).2 ?_
          intro r2
          refine ll_goto E (pc := 28) (tgt := 33) dX2_nearOf_28 rfl ?_
          exact ll_ireturn E (pc := 33) hr dX2_nearOf_33) hf
theorem dX2_measureHeights_0 : decode cX2_measureHeights 0 = .ok (.aload_n 0, 1) := by decide +kernel
theorem dX2_measureHeights_1 : decode cX2_measureHeights 1 = .ok (.getfield 39, 3) := by decide +kernel
theorem dX2_measureHeights_4 : decode cX2_measureHeights 4 = .ok (.iconst 1, 1) := by decide +kernel
theorem dX2_measureHeights_5 : decode cX2_measureHeights 5 = .ok (.isub, 1) := by decide +kernel
theorem dX2_measureHeights_6 : decode cX2_measureHeights 6 = .ok (.istore_n 1, 1) := by decide +kernel
theorem dX2_measureHeights_7 : decode cX2_measureHeights 7 = .ok (.iload_n 1, 1) := by decide +kernel
theorem dX2_measureHeights_8 : decode cX2_measureHeights 8 = .ok (.ifCond .lt 75, 3) := by decide +kernel
theorem dX2_measureHeights_11 : decode cX2_measureHeights 11 = .ok (.aload_n 0, 1) := by decide +kernel
theorem dX2_measureHeights_12 : decode cX2_measureHeights 12 = .ok (.getfield 27, 3) := by decide +kernel
theorem dX2_measureHeights_15 : decode cX2_measureHeights 15 = .ok (.iload_n 1, 1) := by decide +kernel
theorem dX2_measureHeights_16 : decode cX2_measureHeights 16 = .ok (.aload_n 0, 1) := by decide +kernel
theorem dX2_measureHeights_17 : decode cX2_measureHeights 17 = .ok (.getfield 18, 3) := by decide +kernel
theorem dX2_measureHeights_20 : decode cX2_measureHeights 20 = .ok (.iload_n 1, 1) := by decide +kernel
theorem dX2_measureHeights_21 : decode cX2_measureHeights 21 = .ok (.iaload, 1) := by decide +kernel
theorem dX2_measureHeights_22 : decode cX2_measureHeights 22 = .ok (.iastore, 1) := by decide +kernel
theorem dX2_measureHeights_23 : decode cX2_measureHeights 23 = .ok (.iload_n 1, 1) := by decide +kernel
theorem dX2_measureHeights_24 : decode cX2_measureHeights 24 = .ok (.iconst 1, 1) := by decide +kernel
theorem dX2_measureHeights_25 : decode cX2_measureHeights 25 = .ok (.iadd, 1) := by decide +kernel
theorem dX2_measureHeights_26 : decode cX2_measureHeights 26 = .ok (.istore_n 2, 1) := by decide +kernel
theorem dX2_measureHeights_27 : decode cX2_measureHeights 27 = .ok (.iload_n 2, 1) := by decide +kernel
theorem dX2_measureHeights_28 : decode cX2_measureHeights 28 = .ok (.aload_n 0, 1) := by decide +kernel
theorem dX2_measureHeights_29 : decode cX2_measureHeights 29 = .ok (.getfield 39, 3) := by decide +kernel
theorem dX2_measureHeights_32 : decode cX2_measureHeights 32 = .ok (.if_icmp .ge 45, 3) := by decide +kernel
theorem dX2_measureHeights_35 : decode cX2_measureHeights 35 = .ok (.aload_n 0, 1) := by decide +kernel
theorem dX2_measureHeights_36 : decode cX2_measureHeights 36 = .ok (.iload_n 1, 1) := by decide +kernel
theorem dX2_measureHeights_37 : decode cX2_measureHeights 37 = .ok (.iload_n 2, 1) := by decide +kernel
theorem dX2_measureHeights_38 : decode cX2_measureHeights 38 = .ok (.invokevirtual 103, 3) := by decide +kernel
theorem dX2_measureHeights_41 : decode cX2_measureHeights 41 = .ok (.istore_n 3, 1) := by decide +kernel
theorem dX2_measureHeights_42 : decode cX2_measureHeights 42 = .ok (.iload_n 3, 1) := by decide +kernel
theorem dX2_measureHeights_43 : decode cX2_measureHeights 43 = .ok (.bipush (-99), 2) := by decide +kernel
theorem dX2_measureHeights_45 : decode cX2_measureHeights 45 = .ok (.if_icmp .eq 26, 3) := by decide +kernel
theorem dX2_measureHeights_48 : decode cX2_measureHeights 48 = .ok (.aload_n 0, 1) := by decide +kernel
theorem dX2_measureHeights_49 : decode cX2_measureHeights 49 = .ok (.getfield 27, 3) := by decide +kernel
theorem dX2_measureHeights_52 : decode cX2_measureHeights 52 = .ok (.iload_n 1, 1) := by decide +kernel
theorem dX2_measureHeights_53 : decode cX2_measureHeights 53 = .ok (.aload_n 0, 1) := by decide +kernel
theorem dX2_measureHeights_54 : decode cX2_measureHeights 54 = .ok (.getfield 27, 3) := by decide +kernel
theorem dX2_measureHeights_57 : decode cX2_measureHeights 57 = .ok (.iload_n 1, 1) := by decide +kernel
theorem dX2_measureHeights_58 : decode cX2_measureHeights 58 = .ok (.iaload, 1) := by decide +kernel
theorem dX2_measureHeights_59 : decode cX2_measureHeights 59 = .ok (.iload_n 3, 1) := by decide +kernel
theorem dX2_measureHeights_60 : decode cX2_measureHeights 60 = .ok (.aload_n 0, 1) := by decide +kernel
theorem dX2_measureHeights_61 : decode cX2_measureHeights 61 = .ok (.getfield 27, 3) := by decide +kernel
theorem dX2_measureHeights_64 : decode cX2_measureHeights 64 = .ok (.iload_n 2, 1) := by decide +kernel
theorem dX2_measureHeights_65 : decode cX2_measureHeights 65 = .ok (.iaload, 1) := by decide +kernel
theorem dX2_measureHeights_66 : decode cX2_measureHeights 66 = .ok (.iadd, 1) := by decide +kernel
theorem dX2_measureHeights_67 : decode cX2_measureHeights 67 = .ok (.invokestatic 75, 3) := by decide +kernel
theorem dX2_measureHeights_70 : decode cX2_measureHeights 70 = .ok (.iastore, 1) := by decide +kernel
theorem dX2_measureHeights_71 : decode cX2_measureHeights 71 = .ok (.iinc 2 1, 3) := by decide +kernel
theorem dX2_measureHeights_74 : decode cX2_measureHeights 74 = .ok (.goto (-47), 3) := by decide +kernel
theorem dX2_measureHeights_77 : decode cX2_measureHeights 77 = .ok (.iinc 1 (-1), 3) := by decide +kernel
theorem dX2_measureHeights_80 : decode cX2_measureHeights 80 = .ok (.goto (-73), 3) := by decide +kernel
theorem dX2_measureHeights_83 : decode cX2_measureHeights 83 = .ok (.return_, 1) := by decide +kernel
def fX2_measureHeights_L71 (K27 : Int32 → Int32 → Mem → Option (Unit × Mem)) (v1 : Int32) (v2 : Int32) (μ : Mem) : Option (Unit × Mem) :=
  K27 v1 (v2 + (1 : Int32)) μ
def fX2_measureHeights_L27 (K7 : Int32 → Mem → Option (Unit × Mem)) : Nat → Int32 → Int32 → Mem → Option (Unit × Mem)
  | 0, _, _, _ => none
  | n + 1, v1, v2, μ =>   if (μ 75 0) ≤ v2 then
  K7 (v1 + (-1 : Int32)) μ
  else
  bd (fX2_nearOf μ v1 v2) fun r9 μ8 =>
  if r9 = (-99 : Int32) then
  fX2_measureHeights_L71 (fX2_measureHeights_L27 K7 n) v1 v2 μ8
  else
  (ld 20 (μ8 81) v1).bind fun r10 =>
  (ld 20 (μ8 81) v2).bind fun r11 =>
  (ast 20 μ8 81 v1 (jmax r10 (r9 + r11))).bind fun μ12 =>
  fX2_measureHeights_L71 (fX2_measureHeights_L27 K7 n) v1 v2 μ12
def fX2_measureHeights_L7 : Nat → Int32 → Mem → Option (Unit × Mem)
  | 0, _, _ => none
  | n + 1, v1, μ =>   if v1 < 0 then
  some ((), μ)
  else
  (ld 20 (μ 78) v1).bind fun r13 =>
  (ast 20 μ 81 v1 r13).bind fun μ14 =>
  fX2_measureHeights_L27 (fX2_measureHeights_L7 n) fu v1 (v1 + (1 : Int32)) μ14
def fX2_measureHeights (μ : Mem) : Option (Unit × Mem) :=
  fX2_measureHeights_L7 fu ((μ 75 0) - (1 : Int32)) μ
theorem kX2_measureHeights_L71 {p : Program} {l : Launch} {e : Env} {s : State} {m : MethodId} {args : Array Value} {below : List Frame} {meth : Method} {c : Code} {D : va_G} {cI cR : ClassId} {ad : Nat → Nat} {A0 : Nat → Prop} (E : EV p s m args meth c cX2_measureHeights 4 RX2 D cI cR ad shX NX A0) (hr : meth.sig.returnType = none) {K27 : Int32 → Int32 → Mem → Option (Unit × Mem)} (hK27 : ∀ (v1 : Int32) (v2 : Int32) (μ : Mem), LL p l e (RM 1) s m args below meth c 4 D cI cR ad shX NX A0 (fun (r : Unit) μ' => KG below args s D cI cR ad shX NX A0 none μ') (K27 v1 v2 μ) 0 0 27 [some (.ref (ad 75)), some (.int v1), some (.int v2), none] [] μ) (v1 : Int32) (v2 : Int32) (μ : Mem) : LL p l e (RM 1) s m args below meth c 4 D cI cR ad shX NX A0 (fun (r : Unit) μ' => KG below args s D cI cR ad shX NX A0 none μ') (fX2_measureHeights_L71 K27 v1 v2 μ) 0 0 71 [some (.ref (ad 75)), some (.int v1), some (.int v2), none] [] μ := by
  rw [fX2_measureHeights_L71]
  refine ll_iinc E (pc := 71) (lo' := [some (.ref (ad 75)), some (.int v1), some (.int (v2 + (1 : Int32))), none]) dX2_measureHeights_71 rfl kc_1 (Nat.le_of_ble_eq_true rfl) rfl rfl ?_
  refine ll_goto E (pc := 74) (tgt := 27) dX2_measureHeights_74 rfl ?_
  exact ll_lo (lo' := [some (.ref (ad 75)), some (.int v1), some (.int (v2 + (1 : Int32))), none]) ⟨rfl, rfl, rfl, trivial⟩ (hK27 v1 (v2 + (1 : Int32)) μ)
theorem kX2_measureHeights_L27 {p : Program} {l : Launch} {e : Env} {s : State} {m : MethodId} {args : Array Value} {below : List Frame} {meth : Method} {c : Code} {D : va_G} {cI cR : ClassId} {ad : Nat → Nat} {A0 : Nat → Prop} (E : EV p s m args meth c cX2_measureHeights 4 RX2 D cI cR ad shX NX A0) (hr : meth.sig.returnType = none) {K7 : Int32 → Mem → Option (Unit × Mem)} (hK7 : ∀ (v1 : Int32) (μ : Mem), LL p l e (RM 1) s m args below meth c 4 D cI cR ad shX NX A0 (fun (r : Unit) μ' => KG below args s D cI cR ad shX NX A0 none μ') (K7 v1 μ) 0 0 7 [some (.ref (ad 75)), some (.int v1), none, none] [] μ) (n : Nat) : ∀ (v1 : Int32) (v2 : Int32) (μ : Mem), LL p l e (RM 1) s m args below meth c 4 D cI cR ad shX NX A0 (fun (r : Unit) μ' => KG below args s D cI cR ad shX NX A0 none μ') (fX2_measureHeights_L27 K7 n v1 v2 μ) 0 0 27 [some (.ref (ad 75)), some (.int v1), some (.int v2), none] [] μ := by
  induction n with
  | zero =>
    intros
    exact ll_none
  | succ n ih =>
    intro v1 v2 μ
    rw [fX2_measureHeights_L27]
    refine ll_iload_n E (pc := 27) dX2_measureHeights_27 rfl ?_
    refine ll_aload_n E (pc := 28) dX2_measureHeights_28 rfl ?_
    refine ll_getf E (pc := 29) (o9 := 75) (ci := 2) (k9 := 0) dX2_measureHeights_29 fl_X2_39 (Nat.le_of_ble_eq_true rfl) fx_75_0 ?_
    refine ll_icmp_ge E (pc := 32) (tgt := 77) dX2_measureHeights_32 rfl ?_ ?_
    · refine ll_iinc E (pc := 77) (lo' := [some (.ref (ad 75)), some (.int (v1 + (-1 : Int32))), some (.int v2), none]) dX2_measureHeights_77 rfl kc_m1 (Nat.le_of_ble_eq_true rfl) rfl rfl ?_
      refine ll_goto E (pc := 80) (tgt := 7) dX2_measureHeights_80 rfl ?_
      exact ll_lo (lo' := [some (.ref (ad 75)), some (.int (v1 + (-1 : Int32))), none, none]) ⟨rfl, rfl, trivial⟩ (hK7 (v1 + (-1 : Int32)) μ)
    · refine ll_aload_n E (pc := 35) dX2_measureHeights_35 rfl ?_
      refine ll_iload_n E (pc := 36) dX2_measureHeights_36 rfl ?_
      refine ll_iload_n E (pc := 37) dX2_measureHeights_37 rfl ?_
      refine ll_callVi E (pc := 38) (d := 0) (ci := 2) (o9 := 75) [.int v1, .int v2] [] dX2_measureHeights_38 cv_X2_103 (fun h => ctX2_nearOf h) (Nat.le_of_ble_eq_true rfl) sx_75 ci_2 rfl rfl (Nat.le_of_ble_eq_true rfl) ⟨(Nat.le_of_ble_eq_true rfl), (Nat.le_of_ble_eq_true rfl)⟩ ⟨(Nat.le_of_ble_eq_true rfl), (Nat.le_of_ble_eq_true rfl)⟩ ?_
      intro r9 μ8
      refine ll_istore_n E (pc := 41) (lo' := [some (.ref (ad 75)), some (.int v1), some (.int v2), some (.int r9)]) dX2_measureHeights_41 (Nat.le_of_ble_eq_true rfl) rfl rfl ?_
      refine ll_iload_n E (pc := 42) dX2_measureHeights_42 rfl ?_
      refine ll_bipush E (pc := 43) dX2_measureHeights_43 kb_m99 ?_
      refine ll_icmp_eq E (pc := 45) (tgt := 71) dX2_measureHeights_45 rfl ?_ ?_
      · exact ll_lo (lo' := [some (.ref (ad 75)), some (.int v1), some (.int v2), none]) ⟨rfl, rfl, rfl, trivial⟩ (kX2_measureHeights_L71 E hr ih v1 v2 μ8)
      · refine ll_aload_n E (pc := 48) dX2_measureHeights_48 rfl ?_
        refine ll_getfr E (pc := 49) (o9 := 75) (ci := 2) (k9 := 6) (q := 81) dX2_measureHeights_49 fl_X2_27 (Nat.le_of_ble_eq_true rfl) fx_75_6 ?_
        refine ll_iload_n E (pc := 52) dX2_measureHeights_52 rfl ?_
        refine ll_aload_n E (pc := 53) dX2_measureHeights_53 rfl ?_
        refine ll_getfr E (pc := 54) (o9 := 75) (ci := 2) (k9 := 6) (q := 81) dX2_measureHeights_54 fl_X2_27 (Nat.le_of_ble_eq_true rfl) fx_75_6 ?_
        refine ll_iload_n E (pc := 57) dX2_measureHeights_57 rfl ?_
        refine ll_iald E (pc := 58) (a := 81) dX2_measureHeights_58 (px_81).1 (px_81).2 ?_
        intro r10
        refine ll_iload_n E (pc := 59) dX2_measureHeights_59 rfl ?_
        refine ll_aload_n E (pc := 60) dX2_measureHeights_60 rfl ?_
        refine ll_getfr E (pc := 61) (o9 := 75) (ci := 2) (k9 := 6) (q := 81) dX2_measureHeights_61 fl_X2_27 (Nat.le_of_ble_eq_true rfl) fx_75_6 ?_
        refine ll_iload_n E (pc := 64) dX2_measureHeights_64 rfl ?_
        refine ll_iald E (pc := 65) (a := 81) dX2_measureHeights_65 (px_81).1 (px_81).2 ?_
        intro r11
        refine ll_iadd E (pc := 66) dX2_measureHeights_66 ?_
        refine ll_max E (pc := 67) dX2_measureHeights_67 mw_X2_75 mw_max1 mw_math mw_max2 (Nat.le_of_ble_eq_true rfl) ⟨(Nat.le_of_ble_eq_true rfl), (Nat.le_of_ble_eq_true rfl)⟩ ⟨(Nat.le_of_ble_eq_true rfl), (Nat.le_of_ble_eq_true rfl)⟩ ?_
        refine ll_iast E (pc := 70) (a := 81) dX2_measureHeights_70 (px_81).1 (px_81).2 ?_
        intro μ12
        exact ll_lo (lo' := [some (.ref (ad 75)), some (.int v1), some (.int v2), none]) ⟨rfl, rfl, rfl, trivial⟩ (kX2_measureHeights_L71 E hr ih v1 v2 μ12)
theorem kX2_measureHeights_L7 {p : Program} {l : Launch} {e : Env} {s : State} {m : MethodId} {args : Array Value} {below : List Frame} {meth : Method} {c : Code} {D : va_G} {cI cR : ClassId} {ad : Nat → Nat} {A0 : Nat → Prop} (E : EV p s m args meth c cX2_measureHeights 4 RX2 D cI cR ad shX NX A0) (hr : meth.sig.returnType = none) (n : Nat) : ∀ (v1 : Int32) (μ : Mem), LL p l e (RM 1) s m args below meth c 4 D cI cR ad shX NX A0 (fun (r : Unit) μ' => KG below args s D cI cR ad shX NX A0 none μ') (fX2_measureHeights_L7 n v1 μ) 0 0 7 [some (.ref (ad 75)), some (.int v1), none, none] [] μ := by
  induction n with
  | zero =>
    intros
    exact ll_none
  | succ n ih =>
    intro v1 μ
    rw [fX2_measureHeights_L7]
    refine ll_iload_n E (pc := 7) dX2_measureHeights_7 rfl ?_
    refine ll_if_lt E (pc := 8) (tgt := 83) dX2_measureHeights_8 rfl ?_ ?_
    · exact ll_return E (pc := 83) hr dX2_measureHeights_83
    · refine ll_aload_n E (pc := 11) dX2_measureHeights_11 rfl ?_
      refine ll_getfr E (pc := 12) (o9 := 75) (ci := 2) (k9 := 6) (q := 81) dX2_measureHeights_12 fl_X2_27 (Nat.le_of_ble_eq_true rfl) fx_75_6 ?_
      refine ll_iload_n E (pc := 15) dX2_measureHeights_15 rfl ?_
      refine ll_aload_n E (pc := 16) dX2_measureHeights_16 rfl ?_
      refine ll_getfr E (pc := 17) (o9 := 75) (ci := 2) (k9 := 3) (q := 78) dX2_measureHeights_17 fl_X2_18 (Nat.le_of_ble_eq_true rfl) fx_75_3 ?_
      refine ll_iload_n E (pc := 20) dX2_measureHeights_20 rfl ?_
      refine ll_iald E (pc := 21) (a := 78) dX2_measureHeights_21 (px_78).1 (px_78).2 ?_
      intro r13
      refine ll_iast E (pc := 22) (a := 81) dX2_measureHeights_22 (px_81).1 (px_81).2 ?_
      intro μ14
      refine ll_iload_n E (pc := 23) dX2_measureHeights_23 rfl ?_
      refine ll_iconst E (pc := 24) dX2_measureHeights_24 kc_1 ?_
      refine ll_iadd E (pc := 25) dX2_measureHeights_25 ?_
      refine ll_istore_n E (pc := 26) (lo' := [some (.ref (ad 75)), some (.int v1), some (.int (v1 + (1 : Int32))), none]) dX2_measureHeights_26 (Nat.le_of_ble_eq_true rfl) rfl rfl ?_
      exact ll_lo (lo' := [some (.ref (ad 75)), some (.int v1), some (.int (v1 + (1 : Int32))), none]) ⟨rfl, rfl, rfl, trivial⟩ (kX2_measureHeights_L27 E hr ih fu v1 (v1 + (1 : Int32)) μ14)
theorem ctX2_measureHeights {l : Launch} {D : va_G} {cI cR : ClassId} {ad : Nat → Nat} {μ : Mem} {r : Unit} {μ' : Mem} (hf : fX2_measureHeights μ = some (r, μ')) : CT l yX2_measureHeights cX2_measureHeights 4 none 1 D cI cR ad shX NX [.ref (ad 75)] μ none μ' :=
  ct_of (own := RX2) (ov := fun _ => none) (by decide +kernel) rfl (Nat.le_of_ble_eq_true rfl) (fun p e s m below meth c A0 E hr => by
    refine ll_lo (lo' := [some (.ref (ad 75)), none, none, none]) ⟨rfl, trivial⟩ ?_
    rw [fX2_measureHeights]
    refine ll_aload_n E (pc := 0) dX2_measureHeights_0 rfl ?_
    refine ll_getf E (pc := 1) (o9 := 75) (ci := 2) (k9 := 0) dX2_measureHeights_1 fl_X2_39 (Nat.le_of_ble_eq_true rfl) fx_75_0 ?_
    refine ll_iconst E (pc := 4) dX2_measureHeights_4 kc_1 ?_
    refine ll_isub E (pc := 5) dX2_measureHeights_5 ?_
    refine ll_istore_n E (pc := 6) (lo' := [some (.ref (ad 75)), some (.int ((μ 75 0) - (1 : Int32))), none, none]) dX2_measureHeights_6 (Nat.le_of_ble_eq_true rfl) rfl rfl ?_
    exact ll_lo (lo' := [some (.ref (ad 75)), some (.int ((μ 75 0) - (1 : Int32))), none, none]) ⟨rfl, rfl, trivial⟩ (kX2_measureHeights_L7 E hr fu ((μ 75 0) - (1 : Int32)) μ)) hf
theorem dX2_measureEarliest_0 : decode cX2_measureEarliest 0 = .ok (.iconst 0, 1) := by decide +kernel
theorem dX2_measureEarliest_1 : decode cX2_measureEarliest 1 = .ok (.istore_n 1, 1) := by decide +kernel
theorem dX2_measureEarliest_2 : decode cX2_measureEarliest 2 = .ok (.iload_n 1, 1) := by decide +kernel
theorem dX2_measureEarliest_3 : decode cX2_measureEarliest 3 = .ok (.aload_n 0, 1) := by decide +kernel
theorem dX2_measureEarliest_4 : decode cX2_measureEarliest 4 = .ok (.getfield 39, 3) := by decide +kernel
theorem dX2_measureEarliest_7 : decode cX2_measureEarliest 7 = .ok (.if_icmp .ge 65, 3) := by decide +kernel
theorem dX2_measureEarliest_10 : decode cX2_measureEarliest 10 = .ok (.aload_n 0, 1) := by decide +kernel
theorem dX2_measureEarliest_11 : decode cX2_measureEarliest 11 = .ok (.getfield 30, 3) := by decide +kernel
theorem dX2_measureEarliest_14 : decode cX2_measureEarliest 14 = .ok (.iload_n 1, 1) := by decide +kernel
theorem dX2_measureEarliest_15 : decode cX2_measureEarliest 15 = .ok (.iconst 0, 1) := by decide +kernel
theorem dX2_measureEarliest_16 : decode cX2_measureEarliest 16 = .ok (.iastore, 1) := by decide +kernel
theorem dX2_measureEarliest_17 : decode cX2_measureEarliest 17 = .ok (.iconst 0, 1) := by decide +kernel
theorem dX2_measureEarliest_18 : decode cX2_measureEarliest 18 = .ok (.istore_n 2, 1) := by decide +kernel
theorem dX2_measureEarliest_19 : decode cX2_measureEarliest 19 = .ok (.iload_n 2, 1) := by decide +kernel
theorem dX2_measureEarliest_20 : decode cX2_measureEarliest 20 = .ok (.iload_n 1, 1) := by decide +kernel
theorem dX2_measureEarliest_21 : decode cX2_measureEarliest 21 = .ok (.if_icmp .ge 45, 3) := by decide +kernel
theorem dX2_measureEarliest_24 : decode cX2_measureEarliest 24 = .ok (.aload_n 0, 1) := by decide +kernel
theorem dX2_measureEarliest_25 : decode cX2_measureEarliest 25 = .ok (.iload_n 2, 1) := by decide +kernel
theorem dX2_measureEarliest_26 : decode cX2_measureEarliest 26 = .ok (.iload_n 1, 1) := by decide +kernel
theorem dX2_measureEarliest_27 : decode cX2_measureEarliest 27 = .ok (.invokevirtual 103, 3) := by decide +kernel
theorem dX2_measureEarliest_30 : decode cX2_measureEarliest 30 = .ok (.istore_n 3, 1) := by decide +kernel
theorem dX2_measureEarliest_31 : decode cX2_measureEarliest 31 = .ok (.iload_n 3, 1) := by decide +kernel
theorem dX2_measureEarliest_32 : decode cX2_measureEarliest 32 = .ok (.bipush (-99), 2) := by decide +kernel
theorem dX2_measureEarliest_34 : decode cX2_measureEarliest 34 = .ok (.if_icmp .eq 26, 3) := by decide +kernel
theorem dX2_measureEarliest_37 : decode cX2_measureEarliest 37 = .ok (.aload_n 0, 1) := by decide +kernel
theorem dX2_measureEarliest_38 : decode cX2_measureEarliest 38 = .ok (.getfield 30, 3) := by decide +kernel
theorem dX2_measureEarliest_41 : decode cX2_measureEarliest 41 = .ok (.iload_n 1, 1) := by decide +kernel
theorem dX2_measureEarliest_42 : decode cX2_measureEarliest 42 = .ok (.aload_n 0, 1) := by decide +kernel
theorem dX2_measureEarliest_43 : decode cX2_measureEarliest 43 = .ok (.getfield 30, 3) := by decide +kernel
theorem dX2_measureEarliest_46 : decode cX2_measureEarliest 46 = .ok (.iload_n 1, 1) := by decide +kernel
theorem dX2_measureEarliest_47 : decode cX2_measureEarliest 47 = .ok (.iaload, 1) := by decide +kernel
theorem dX2_measureEarliest_48 : decode cX2_measureEarliest 48 = .ok (.aload_n 0, 1) := by decide +kernel
theorem dX2_measureEarliest_49 : decode cX2_measureEarliest 49 = .ok (.getfield 30, 3) := by decide +kernel
theorem dX2_measureEarliest_52 : decode cX2_measureEarliest 52 = .ok (.iload_n 2, 1) := by decide +kernel
theorem dX2_measureEarliest_53 : decode cX2_measureEarliest 53 = .ok (.iaload, 1) := by decide +kernel
theorem dX2_measureEarliest_54 : decode cX2_measureEarliest 54 = .ok (.iload_n 3, 1) := by decide +kernel
theorem dX2_measureEarliest_55 : decode cX2_measureEarliest 55 = .ok (.iadd, 1) := by decide +kernel
theorem dX2_measureEarliest_56 : decode cX2_measureEarliest 56 = .ok (.invokestatic 75, 3) := by decide +kernel
theorem dX2_measureEarliest_59 : decode cX2_measureEarliest 59 = .ok (.iastore, 1) := by decide +kernel
theorem dX2_measureEarliest_60 : decode cX2_measureEarliest 60 = .ok (.iinc 2 1, 3) := by decide +kernel
theorem dX2_measureEarliest_63 : decode cX2_measureEarliest 63 = .ok (.goto (-44), 3) := by decide +kernel
theorem dX2_measureEarliest_66 : decode cX2_measureEarliest 66 = .ok (.iinc 1 1, 3) := by decide +kernel
theorem dX2_measureEarliest_69 : decode cX2_measureEarliest 69 = .ok (.goto (-67), 3) := by decide +kernel
theorem dX2_measureEarliest_72 : decode cX2_measureEarliest 72 = .ok (.return_, 1) := by decide +kernel
def fX2_measureEarliest_L60 (K19 : Int32 → Int32 → Mem → Option (Unit × Mem)) (v1 : Int32) (v2 : Int32) (μ : Mem) : Option (Unit × Mem) :=
  K19 v1 (v2 + (1 : Int32)) μ
def fX2_measureEarliest_L19 (K2 : Int32 → Mem → Option (Unit × Mem)) : Nat → Int32 → Int32 → Mem → Option (Unit × Mem)
  | 0, _, _, _ => none
  | n + 1, v1, v2, μ =>   if v1 ≤ v2 then
  K2 (v1 + (1 : Int32)) μ
  else
  bd (fX2_nearOf μ v2 v1) fun r8 μ7 =>
  if r8 = (-99 : Int32) then
  fX2_measureEarliest_L60 (fX2_measureEarliest_L19 K2 n) v1 v2 μ7
  else
  (ld 20 (μ7 82) v1).bind fun r9 =>
  (ld 20 (μ7 82) v2).bind fun r10 =>
  (ast 20 μ7 82 v1 (jmax r9 (r10 + r8))).bind fun μ11 =>
  fX2_measureEarliest_L60 (fX2_measureEarliest_L19 K2 n) v1 v2 μ11
def fX2_measureEarliest_L2 : Nat → Int32 → Mem → Option (Unit × Mem)
  | 0, _, _ => none
  | n + 1, v1, μ =>   if (μ 75 0) ≤ v1 then
  some ((), μ)
  else
  (ast 20 μ 82 v1 (0 : Int32)).bind fun μ12 =>
  fX2_measureEarliest_L19 (fX2_measureEarliest_L2 n) fu v1 (0 : Int32) μ12
def fX2_measureEarliest (μ : Mem) : Option (Unit × Mem) :=
  fX2_measureEarliest_L2 fu (0 : Int32) μ
theorem kX2_measureEarliest_L60 {p : Program} {l : Launch} {e : Env} {s : State} {m : MethodId} {args : Array Value} {below : List Frame} {meth : Method} {c : Code} {D : va_G} {cI cR : ClassId} {ad : Nat → Nat} {A0 : Nat → Prop} (E : EV p s m args meth c cX2_measureEarliest 4 RX2 D cI cR ad shX NX A0) (hr : meth.sig.returnType = none) {K19 : Int32 → Int32 → Mem → Option (Unit × Mem)} (hK19 : ∀ (v1 : Int32) (v2 : Int32) (μ : Mem), LL p l e (RM 1) s m args below meth c 4 D cI cR ad shX NX A0 (fun (r : Unit) μ' => KG below args s D cI cR ad shX NX A0 none μ') (K19 v1 v2 μ) 0 0 19 [some (.ref (ad 75)), some (.int v1), some (.int v2), none] [] μ) (v1 : Int32) (v2 : Int32) (μ : Mem) : LL p l e (RM 1) s m args below meth c 4 D cI cR ad shX NX A0 (fun (r : Unit) μ' => KG below args s D cI cR ad shX NX A0 none μ') (fX2_measureEarliest_L60 K19 v1 v2 μ) 0 0 60 [some (.ref (ad 75)), some (.int v1), some (.int v2), none] [] μ := by
  rw [fX2_measureEarliest_L60]
  refine ll_iinc E (pc := 60) (lo' := [some (.ref (ad 75)), some (.int v1), some (.int (v2 + (1 : Int32))), none]) dX2_measureEarliest_60 rfl kc_1 (Nat.le_of_ble_eq_true rfl) rfl rfl ?_
  refine ll_goto E (pc := 63) (tgt := 19) dX2_measureEarliest_63 rfl ?_
  exact ll_lo (lo' := [some (.ref (ad 75)), some (.int v1), some (.int (v2 + (1 : Int32))), none]) ⟨rfl, rfl, rfl, trivial⟩ (hK19 v1 (v2 + (1 : Int32)) μ)
theorem kX2_measureEarliest_L19 {p : Program} {l : Launch} {e : Env} {s : State} {m : MethodId} {args : Array Value} {below : List Frame} {meth : Method} {c : Code} {D : va_G} {cI cR : ClassId} {ad : Nat → Nat} {A0 : Nat → Prop} (E : EV p s m args meth c cX2_measureEarliest 4 RX2 D cI cR ad shX NX A0) (hr : meth.sig.returnType = none) {K2 : Int32 → Mem → Option (Unit × Mem)} (hK2 : ∀ (v1 : Int32) (μ : Mem), LL p l e (RM 1) s m args below meth c 4 D cI cR ad shX NX A0 (fun (r : Unit) μ' => KG below args s D cI cR ad shX NX A0 none μ') (K2 v1 μ) 0 0 2 [some (.ref (ad 75)), some (.int v1), none, none] [] μ) (n : Nat) : ∀ (v1 : Int32) (v2 : Int32) (μ : Mem), LL p l e (RM 1) s m args below meth c 4 D cI cR ad shX NX A0 (fun (r : Unit) μ' => KG below args s D cI cR ad shX NX A0 none μ') (fX2_measureEarliest_L19 K2 n v1 v2 μ) 0 0 19 [some (.ref (ad 75)), some (.int v1), some (.int v2), none] [] μ := by
  induction n with
  | zero =>
    intros
    exact ll_none
  | succ n ih =>
    intro v1 v2 μ
    rw [fX2_measureEarliest_L19]
    refine ll_iload_n E (pc := 19) dX2_measureEarliest_19 rfl ?_
    refine ll_iload_n E (pc := 20) dX2_measureEarliest_20 rfl ?_
    refine ll_icmp_ge E (pc := 21) (tgt := 66) dX2_measureEarliest_21 rfl ?_ ?_
    · refine ll_iinc E (pc := 66) (lo' := [some (.ref (ad 75)), some (.int (v1 + (1 : Int32))), some (.int v2), none]) dX2_measureEarliest_66 rfl kc_1 (Nat.le_of_ble_eq_true rfl) rfl rfl ?_
      refine ll_goto E (pc := 69) (tgt := 2) dX2_measureEarliest_69 rfl ?_
      exact ll_lo (lo' := [some (.ref (ad 75)), some (.int (v1 + (1 : Int32))), none, none]) ⟨rfl, rfl, trivial⟩ (hK2 (v1 + (1 : Int32)) μ)
    · refine ll_aload_n E (pc := 24) dX2_measureEarliest_24 rfl ?_
      refine ll_iload_n E (pc := 25) dX2_measureEarliest_25 rfl ?_
      refine ll_iload_n E (pc := 26) dX2_measureEarliest_26 rfl ?_
      refine ll_callVi E (pc := 27) (d := 0) (ci := 2) (o9 := 75) [.int v2, .int v1] [] dX2_measureEarliest_27 cv_X2_103 (fun h => ctX2_nearOf h) (Nat.le_of_ble_eq_true rfl) sx_75 ci_2 rfl rfl (Nat.le_of_ble_eq_true rfl) ⟨(Nat.le_of_ble_eq_true rfl), (Nat.le_of_ble_eq_true rfl)⟩ ⟨(Nat.le_of_ble_eq_true rfl), (Nat.le_of_ble_eq_true rfl)⟩ ?_
      intro r8 μ7
      refine ll_istore_n E (pc := 30) (lo' := [some (.ref (ad 75)), some (.int v1), some (.int v2), some (.int r8)]) dX2_measureEarliest_30 (Nat.le_of_ble_eq_true rfl) rfl rfl ?_
      refine ll_iload_n E (pc := 31) dX2_measureEarliest_31 rfl ?_
      refine ll_bipush E (pc := 32) dX2_measureEarliest_32 kb_m99 ?_
      refine ll_icmp_eq E (pc := 34) (tgt := 60) dX2_measureEarliest_34 rfl ?_ ?_
      · exact ll_lo (lo' := [some (.ref (ad 75)), some (.int v1), some (.int v2), none]) ⟨rfl, rfl, rfl, trivial⟩ (kX2_measureEarliest_L60 E hr ih v1 v2 μ7)
      · refine ll_aload_n E (pc := 37) dX2_measureEarliest_37 rfl ?_
        refine ll_getfr E (pc := 38) (o9 := 75) (ci := 2) (k9 := 7) (q := 82) dX2_measureEarliest_38 fl_X2_30 (Nat.le_of_ble_eq_true rfl) fx_75_7 ?_
        refine ll_iload_n E (pc := 41) dX2_measureEarliest_41 rfl ?_
        refine ll_aload_n E (pc := 42) dX2_measureEarliest_42 rfl ?_
        refine ll_getfr E (pc := 43) (o9 := 75) (ci := 2) (k9 := 7) (q := 82) dX2_measureEarliest_43 fl_X2_30 (Nat.le_of_ble_eq_true rfl) fx_75_7 ?_
        refine ll_iload_n E (pc := 46) dX2_measureEarliest_46 rfl ?_
        refine ll_iald E (pc := 47) (a := 82) dX2_measureEarliest_47 (px_82).1 (px_82).2 ?_
        intro r9
        refine ll_aload_n E (pc := 48) dX2_measureEarliest_48 rfl ?_
        refine ll_getfr E (pc := 49) (o9 := 75) (ci := 2) (k9 := 7) (q := 82) dX2_measureEarliest_49 fl_X2_30 (Nat.le_of_ble_eq_true rfl) fx_75_7 ?_
        refine ll_iload_n E (pc := 52) dX2_measureEarliest_52 rfl ?_
        refine ll_iald E (pc := 53) (a := 82) dX2_measureEarliest_53 (px_82).1 (px_82).2 ?_
        intro r10
        refine ll_iload_n E (pc := 54) dX2_measureEarliest_54 rfl ?_
        refine ll_iadd E (pc := 55) dX2_measureEarliest_55 ?_
        refine ll_max E (pc := 56) dX2_measureEarliest_56 mw_X2_75 mw_max1 mw_math mw_max2 (Nat.le_of_ble_eq_true rfl) ⟨(Nat.le_of_ble_eq_true rfl), (Nat.le_of_ble_eq_true rfl)⟩ ⟨(Nat.le_of_ble_eq_true rfl), (Nat.le_of_ble_eq_true rfl)⟩ ?_
        refine ll_iast E (pc := 59) (a := 82) dX2_measureEarliest_59 (px_82).1 (px_82).2 ?_
        intro μ11
        exact ll_lo (lo' := [some (.ref (ad 75)), some (.int v1), some (.int v2), none]) ⟨rfl, rfl, rfl, trivial⟩ (kX2_measureEarliest_L60 E hr ih v1 v2 μ11)
theorem kX2_measureEarliest_L2 {p : Program} {l : Launch} {e : Env} {s : State} {m : MethodId} {args : Array Value} {below : List Frame} {meth : Method} {c : Code} {D : va_G} {cI cR : ClassId} {ad : Nat → Nat} {A0 : Nat → Prop} (E : EV p s m args meth c cX2_measureEarliest 4 RX2 D cI cR ad shX NX A0) (hr : meth.sig.returnType = none) (n : Nat) : ∀ (v1 : Int32) (μ : Mem), LL p l e (RM 1) s m args below meth c 4 D cI cR ad shX NX A0 (fun (r : Unit) μ' => KG below args s D cI cR ad shX NX A0 none μ') (fX2_measureEarliest_L2 n v1 μ) 0 0 2 [some (.ref (ad 75)), some (.int v1), none, none] [] μ := by
  induction n with
  | zero =>
    intros
    exact ll_none
  | succ n ih =>
    intro v1 μ
    rw [fX2_measureEarliest_L2]
    refine ll_iload_n E (pc := 2) dX2_measureEarliest_2 rfl ?_
    refine ll_aload_n E (pc := 3) dX2_measureEarliest_3 rfl ?_
    refine ll_getf E (pc := 4) (o9 := 75) (ci := 2) (k9 := 0) dX2_measureEarliest_4 fl_X2_39 (Nat.le_of_ble_eq_true rfl) fx_75_0 ?_
    refine ll_icmp_ge E (pc := 7) (tgt := 72) dX2_measureEarliest_7 rfl ?_ ?_
    · exact ll_return E (pc := 72) hr dX2_measureEarliest_72
    · refine ll_aload_n E (pc := 10) dX2_measureEarliest_10 rfl ?_
      refine ll_getfr E (pc := 11) (o9 := 75) (ci := 2) (k9 := 7) (q := 82) dX2_measureEarliest_11 fl_X2_30 (Nat.le_of_ble_eq_true rfl) fx_75_7 ?_
      refine ll_iload_n E (pc := 14) dX2_measureEarliest_14 rfl ?_
      refine ll_iconst E (pc := 15) dX2_measureEarliest_15 kc_0 ?_
      refine ll_iast E (pc := 16) (a := 82) dX2_measureEarliest_16 (px_82).1 (px_82).2 ?_
      intro μ12
      refine ll_iconst E (pc := 17) dX2_measureEarliest_17 kc_0 ?_
      refine ll_istore_n E (pc := 18) (lo' := [some (.ref (ad 75)), some (.int v1), some (.int (0 : Int32)), none]) dX2_measureEarliest_18 (Nat.le_of_ble_eq_true rfl) rfl rfl ?_
      exact ll_lo (lo' := [some (.ref (ad 75)), some (.int v1), some (.int (0 : Int32)), none]) ⟨rfl, rfl, rfl, trivial⟩ (kX2_measureEarliest_L19 E hr ih fu v1 (0 : Int32) μ12)
theorem ctX2_measureEarliest {l : Launch} {D : va_G} {cI cR : ClassId} {ad : Nat → Nat} {μ : Mem} {r : Unit} {μ' : Mem} (hf : fX2_measureEarliest μ = some (r, μ')) : CT l yX2_measureEarliest cX2_measureEarliest 4 none 1 D cI cR ad shX NX [.ref (ad 75)] μ none μ' :=
  ct_of (own := RX2) (ov := fun _ => none) (by decide +kernel) rfl (Nat.le_of_ble_eq_true rfl) (fun p e s m below meth c A0 E hr => by
    refine ll_lo (lo' := [some (.ref (ad 75)), none, none, none]) ⟨rfl, trivial⟩ ?_
    rw [fX2_measureEarliest]
    refine ll_iconst E (pc := 0) dX2_measureEarliest_0 kc_0 ?_
    refine ll_istore_n E (pc := 1) (lo' := [some (.ref (ad 75)), some (.int (0 : Int32)), none, none]) dX2_measureEarliest_1 (Nat.le_of_ble_eq_true rfl) rfl rfl ?_
    exact ll_lo (lo' := [some (.ref (ad 75)), some (.int (0 : Int32)), none, none]) ⟨rfl, rfl, trivial⟩ (kX2_measureEarliest_L2 E hr fu (0 : Int32) μ)) hf
theorem dX2_measure_0 : decode cX2_measure 0 = .ok (.aload_n 0, 1) := by decide +kernel
theorem dX2_measure_1 : decode cX2_measure 1 = .ok (.aload_n 1, 1) := by decide +kernel
theorem dX2_measure_2 : decode cX2_measure 2 = .ok (.getfield 33, 3) := by decide +kernel
theorem dX2_measure_5 : decode cX2_measure 5 = .ok (.putfield 39, 3) := by decide +kernel
theorem dX2_measure_8 : decode cX2_measure 8 = .ok (.iconst 0, 1) := by decide +kernel
theorem dX2_measure_9 : decode cX2_measure 9 = .ok (.istore_n 2, 1) := by decide +kernel
theorem dX2_measure_10 : decode cX2_measure 10 = .ok (.iload_n 2, 1) := by decide +kernel
theorem dX2_measure_11 : decode cX2_measure 11 = .ok (.aload_n 0, 1) := by decide +kernel
theorem dX2_measure_12 : decode cX2_measure 12 = .ok (.getfield 39, 3) := by decide +kernel
theorem dX2_measure_15 : decode cX2_measure 15 = .ok (.if_icmp .ge 42, 3) := by decide +kernel
theorem dX2_measure_18 : decode cX2_measure 18 = .ok (.aload_n 0, 1) := by decide +kernel
theorem dX2_measure_19 : decode cX2_measure 19 = .ok (.getfield 9, 3) := by decide +kernel
theorem dX2_measure_22 : decode cX2_measure 22 = .ok (.iload_n 2, 1) := by decide +kernel
theorem dX2_measure_23 : decode cX2_measure 23 = .ok (.aload_n 1, 1) := by decide +kernel
theorem dX2_measure_24 : decode cX2_measure 24 = .ok (.iload_n 2, 1) := by decide +kernel
theorem dX2_measure_25 : decode cX2_measure 25 = .ok (.invokevirtual 40, 3) := by decide +kernel
theorem dX2_measure_28 : decode cX2_measure 28 = .ok (.iastore, 1) := by decide +kernel
theorem dX2_measure_29 : decode cX2_measure 29 = .ok (.aload_n 0, 1) := by decide +kernel
theorem dX2_measure_30 : decode cX2_measure 30 = .ok (.getfield 15, 3) := by decide +kernel
theorem dX2_measure_33 : decode cX2_measure 33 = .ok (.iload_n 2, 1) := by decide +kernel
theorem dX2_measure_34 : decode cX2_measure 34 = .ok (.aload_n 1, 1) := by decide +kernel
theorem dX2_measure_35 : decode cX2_measure 35 = .ok (.iload_n 2, 1) := by decide +kernel
theorem dX2_measure_36 : decode cX2_measure 36 = .ok (.invokevirtual 44, 3) := by decide +kernel
theorem dX2_measure_39 : decode cX2_measure 39 = .ok (.iastore, 1) := by decide +kernel
theorem dX2_measure_40 : decode cX2_measure 40 = .ok (.aload_n 0, 1) := by decide +kernel
theorem dX2_measure_41 : decode cX2_measure 41 = .ok (.getfield 18, 3) := by decide +kernel
theorem dX2_measure_44 : decode cX2_measure 44 = .ok (.iload_n 2, 1) := by decide +kernel
theorem dX2_measure_45 : decode cX2_measure 45 = .ok (.aload_n 1, 1) := by decide +kernel
theorem dX2_measure_46 : decode cX2_measure 46 = .ok (.iload_n 2, 1) := by decide +kernel
theorem dX2_measure_47 : decode cX2_measure 47 = .ok (.invokevirtual 47, 3) := by decide +kernel
theorem dX2_measure_50 : decode cX2_measure 50 = .ok (.iastore, 1) := by decide +kernel
theorem dX2_measure_51 : decode cX2_measure 51 = .ok (.iinc 2 1, 3) := by decide +kernel
theorem dX2_measure_54 : decode cX2_measure 54 = .ok (.goto (-44), 3) := by decide +kernel
theorem dX2_measure_57 : decode cX2_measure 57 = .ok (.iconst 0, 1) := by decide +kernel
theorem dX2_measure_58 : decode cX2_measure 58 = .ok (.istore_n 2, 1) := by decide +kernel
theorem dX2_measure_59 : decode cX2_measure 59 = .ok (.iload_n 2, 1) := by decide +kernel
theorem dX2_measure_60 : decode cX2_measure 60 = .ok (.aload_n 0, 1) := by decide +kernel
theorem dX2_measure_61 : decode cX2_measure 61 = .ok (.getfield 39, 3) := by decide +kernel
theorem dX2_measure_64 : decode cX2_measure 64 = .ok (.if_icmp .ge 71, 3) := by decide +kernel
theorem dX2_measure_67 : decode cX2_measure 67 = .ok (.iconst 0, 1) := by decide +kernel
theorem dX2_measure_68 : decode cX2_measure 68 = .ok (.istore_n 3, 1) := by decide +kernel
theorem dX2_measure_69 : decode cX2_measure 69 = .ok (.iload_n 3, 1) := by decide +kernel
theorem dX2_measure_70 : decode cX2_measure 70 = .ok (.aload_n 0, 1) := by decide +kernel
theorem dX2_measure_71 : decode cX2_measure 71 = .ok (.getfield 39, 3) := by decide +kernel
theorem dX2_measure_74 : decode cX2_measure 74 = .ok (.if_icmp .ge 55, 3) := by decide +kernel
theorem dX2_measure_77 : decode cX2_measure 77 = .ok (.aload_n 0, 1) := by decide +kernel
theorem dX2_measure_78 : decode cX2_measure 78 = .ok (.getfield 21, 3) := by decide +kernel
theorem dX2_measure_81 : decode cX2_measure 81 = .ok (.iload_n 2, 1) := by decide +kernel
theorem dX2_measure_82 : decode cX2_measure 82 = .ok (.bipush 20, 2) := by decide +kernel
theorem dX2_measure_84 : decode cX2_measure 84 = .ok (.imul, 1) := by decide +kernel
theorem dX2_measure_85 : decode cX2_measure 85 = .ok (.iload_n 3, 1) := by decide +kernel
theorem dX2_measure_86 : decode cX2_measure 86 = .ok (.iadd, 1) := by decide +kernel
theorem dX2_measure_87 : decode cX2_measure 87 = .ok (.iload_n 2, 1) := by decide +kernel
theorem dX2_measure_88 : decode cX2_measure 88 = .ok (.iload_n 3, 1) := by decide +kernel
theorem dX2_measure_89 : decode cX2_measure 89 = .ok (.if_icmp .ge 13, 3) := by decide +kernel
theorem dX2_measure_92 : decode cX2_measure 92 = .ok (.aload_n 0, 1) := by decide +kernel
theorem dX2_measure_93 : decode cX2_measure 93 = .ok (.aload_n 1, 1) := by decide +kernel
theorem dX2_measure_94 : decode cX2_measure 94 = .ok (.iload_n 2, 1) := by decide +kernel
theorem dX2_measure_95 : decode cX2_measure 95 = .ok (.iload_n 3, 1) := by decide +kernel
theorem dX2_measure_96 : decode cX2_measure 96 = .ok (.invokevirtual 50, 3) := by decide +kernel
theorem dX2_measure_99 : decode cX2_measure 99 = .ok (.goto 5, 3) := by decide +kernel
theorem dX2_measure_102 : decode cX2_measure 102 = .ok (.bipush (-99), 2) := by decide +kernel
theorem dX2_measure_104 : decode cX2_measure 104 = .ok (.iastore, 1) := by decide +kernel
theorem dX2_measure_105 : decode cX2_measure 105 = .ok (.aload_n 0, 1) := by decide +kernel
theorem dX2_measure_106 : decode cX2_measure 106 = .ok (.getfield 24, 3) := by decide +kernel
theorem dX2_measure_109 : decode cX2_measure 109 = .ok (.iload_n 2, 1) := by decide +kernel
theorem dX2_measure_110 : decode cX2_measure 110 = .ok (.bipush 20, 2) := by decide +kernel
theorem dX2_measure_112 : decode cX2_measure 112 = .ok (.imul, 1) := by decide +kernel
theorem dX2_measure_113 : decode cX2_measure 113 = .ok (.iload_n 3, 1) := by decide +kernel
theorem dX2_measure_114 : decode cX2_measure 114 = .ok (.iadd, 1) := by decide +kernel
theorem dX2_measure_115 : decode cX2_measure 115 = .ok (.aload_n 0, 1) := by decide +kernel
theorem dX2_measure_116 : decode cX2_measure 116 = .ok (.aload_n 1, 1) := by decide +kernel
theorem dX2_measure_117 : decode cX2_measure 117 = .ok (.iload_n 2, 1) := by decide +kernel
theorem dX2_measure_118 : decode cX2_measure 118 = .ok (.iload_n 3, 1) := by decide +kernel
theorem dX2_measure_119 : decode cX2_measure 119 = .ok (.invokevirtual 54, 3) := by decide +kernel
theorem dX2_measure_122 : decode cX2_measure 122 = .ok (.iastore, 1) := by decide +kernel
theorem dX2_measure_123 : decode cX2_measure 123 = .ok (.iinc 3 1, 3) := by decide +kernel
theorem dX2_measure_126 : decode cX2_measure 126 = .ok (.goto (-57), 3) := by decide +kernel
theorem dX2_measure_129 : decode cX2_measure 129 = .ok (.iinc 2 1, 3) := by decide +kernel
theorem dX2_measure_132 : decode cX2_measure 132 = .ok (.goto (-73), 3) := by decide +kernel
theorem dX2_measure_135 : decode cX2_measure 135 = .ok (.aload_n 0, 1) := by decide +kernel
theorem dX2_measure_136 : decode cX2_measure 136 = .ok (.invokevirtual 57, 3) := by decide +kernel
theorem dX2_measure_139 : decode cX2_measure 139 = .ok (.aload_n 0, 1) := by decide +kernel
theorem dX2_measure_140 : decode cX2_measure 140 = .ok (.invokevirtual 60, 3) := by decide +kernel
theorem dX2_measure_143 : decode cX2_measure 143 = .ok (.return_, 1) := by decide +kernel
def fX2_measure_L104 (K69 : Int32 → Int32 → Mem → Option (Unit × Mem)) (v2 : Int32) (v3 : Int32) (s0 : Int32) (s1 : Int32) (μ : Mem) : Option (Unit × Mem) :=
  (ast 400 μ 79 s1 s0).bind fun μ21 =>
  bd (fX2_overPair μ21 v2 v3) fun r23 μ22 =>
  (ast 400 μ22 80 ((v2 * (20 : Int32)) + v3) r23).bind fun μ24 =>
  K69 v2 (v3 + (1 : Int32)) μ24
def fX2_measure_L69 (K59 : Int32 → Mem → Option (Unit × Mem)) : Nat → Int32 → Int32 → Mem → Option (Unit × Mem)
  | 0, _, _, _ => none
  | n + 1, v2, v3, μ =>   if (μ 75 0) ≤ v3 then
  K59 (v2 + (1 : Int32)) μ
  else
  if v3 ≤ v2 then
  fX2_measure_L104 (fX2_measure_L69 K59 n) v2 v3 (-99 : Int32) ((v2 * (20 : Int32)) + v3) μ
  else
  bd (fX2_nearPair μ v2 v3) fun r26 μ25 =>
  fX2_measure_L104 (fX2_measure_L69 K59 n) v2 v3 r26 ((v2 * (20 : Int32)) + v3) μ25
def fX2_measure_L59 : Nat → Int32 → Mem → Option (Unit × Mem)
  | 0, _, _ => none
  | n + 1, v2, μ =>   if (μ 75 0) ≤ v2 then
  bd (fX2_measureHeights μ) fun _ μ27 =>
  bd (fX2_measureEarliest μ27) fun _ μ29 =>
  some ((), μ29)
  else
  fX2_measure_L69 (fX2_measure_L59 n) fu v2 (0 : Int32) μ
def fX2_measure_L10 : Nat → Int32 → Mem → Option (Unit × Mem)
  | 0, _, _ => none
  | n + 1, v2, μ =>   if (μ 75 0) ≤ v2 then
  fX2_measure_L59 fu (0 : Int32) μ
  else
  bd (fX6_readsOf μ v2) fun r32 μ31 =>
  (ast 20 μ31 76 v2 r32).bind fun μ33 =>
  bd (fX6_writesOf μ33 v2) fun r35 μ34 =>
  (ast 20 μ34 77 v2 r35).bind fun μ36 =>
  bd (fX6_lengthOf μ36 v2) fun r38 μ37 =>
  (ast 20 μ37 78 v2 r38).bind fun μ39 =>
  fX2_measure_L10 n (v2 + (1 : Int32)) μ39
def fX2_measure (μ : Mem) : Option (Unit × Mem) :=
  (pt μ 75 0 (μ 1 0)).bind fun μ40 =>
  fX2_measure_L10 fu (0 : Int32) μ40
theorem kX2_measure_L104 {p : Program} {l : Launch} {e : Env} {s : State} {m : MethodId} {args : Array Value} {below : List Frame} {meth : Method} {c : Code} {D : va_G} {cI cR : ClassId} {ad : Nat → Nat} {A0 : Nat → Prop} (E : EV p s m args meth c cX2_measure 4 RX2 D cI cR ad shX NX A0) (hr : meth.sig.returnType = none) {K69 : Int32 → Int32 → Mem → Option (Unit × Mem)} (hK69 : ∀ (v2 : Int32) (v3 : Int32) (μ : Mem), LL p l e (RM 3) s m args below meth c 4 D cI cR ad shX NX A0 (fun (r : Unit) μ' => KG below args s D cI cR ad shX NX A0 none μ') (K69 v2 v3 μ) 0 0 69 [some (.ref (ad 75)), some (.ref (ad 1)), some (.int v2), some (.int v3)] [] μ) (v2 : Int32) (v3 : Int32) (s0 : Int32) (s1 : Int32) (μ : Mem) : LL p l e (RM 3) s m args below meth c 4 D cI cR ad shX NX A0 (fun (r : Unit) μ' => KG below args s D cI cR ad shX NX A0 none μ') (fX2_measure_L104 K69 v2 v3 s0 s1 μ) 0 0 104 [some (.ref (ad 75)), some (.ref (ad 1)), some (.int v2), some (.int v3)] [.int s0, .int s1, .ref (ad 79)] μ := by
  rw [fX2_measure_L104]
  refine ll_iast E (pc := 104) (a := 79) dX2_measure_104 (px_79).1 (px_79).2 ?_
  intro μ21
  refine ll_aload_n E (pc := 105) dX2_measure_105 rfl ?_
  refine ll_getfr E (pc := 106) (o9 := 75) (ci := 2) (k9 := 5) (q := 80) dX2_measure_106 fl_X2_24 (Nat.le_of_ble_eq_true rfl) fx_75_5 ?_
  refine ll_iload_n E (pc := 109) dX2_measure_109 rfl ?_
  refine ll_bipush E (pc := 110) dX2_measure_110 kb_20 ?_
  refine ll_imul E (pc := 112) dX2_measure_112 ?_
  refine ll_iload_n E (pc := 113) dX2_measure_113 rfl ?_
  refine ll_iadd E (pc := 114) dX2_measure_114 ?_
  refine ll_aload_n E (pc := 115) dX2_measure_115 rfl ?_
  refine ll_aload_n E (pc := 116) dX2_measure_116 rfl ?_
  refine ll_iload_n E (pc := 117) dX2_measure_117 rfl ?_
  refine ll_iload_n E (pc := 118) dX2_measure_118 rfl ?_
  refine ll_callVi E (pc := 119) (d := 2) (ci := 2) (o9 := 75) [.ref (ad 1), .int v2, .int v3] [.int ((v2 * (20 : Int32)) + v3), .ref (ad 80)] dX2_measure_119 cv_X2_54 (fun h => ctX2_overPair h) (Nat.le_of_ble_eq_true rfl) sx_75 ci_2 rfl rfl (Nat.le_of_ble_eq_true rfl) ⟨(Nat.le_of_ble_eq_true rfl), (Nat.le_of_ble_eq_true rfl)⟩ ⟨(Nat.le_of_ble_eq_true rfl), (Nat.le_of_ble_eq_true rfl)⟩ ?_
  intro r23 μ22
  refine ll_iast E (pc := 122) (a := 80) dX2_measure_122 (px_80).1 (px_80).2 ?_
  intro μ24
  refine ll_iinc E (pc := 123) (lo' := [some (.ref (ad 75)), some (.ref (ad 1)), some (.int v2), some (.int (v3 + (1 : Int32)))]) dX2_measure_123 rfl kc_1 (Nat.le_of_ble_eq_true rfl) rfl rfl ?_
  refine ll_goto E (pc := 126) (tgt := 69) dX2_measure_126 rfl ?_
  exact ll_lo (lo' := [some (.ref (ad 75)), some (.ref (ad 1)), some (.int v2), some (.int (v3 + (1 : Int32)))]) ⟨rfl, rfl, rfl, rfl, trivial⟩ (hK69 v2 (v3 + (1 : Int32)) μ24)
theorem kX2_measure_L69 {p : Program} {l : Launch} {e : Env} {s : State} {m : MethodId} {args : Array Value} {below : List Frame} {meth : Method} {c : Code} {D : va_G} {cI cR : ClassId} {ad : Nat → Nat} {A0 : Nat → Prop} (E : EV p s m args meth c cX2_measure 4 RX2 D cI cR ad shX NX A0) (hr : meth.sig.returnType = none) {K59 : Int32 → Mem → Option (Unit × Mem)} (hK59 : ∀ (v2 : Int32) (μ : Mem), LL p l e (RM 3) s m args below meth c 4 D cI cR ad shX NX A0 (fun (r : Unit) μ' => KG below args s D cI cR ad shX NX A0 none μ') (K59 v2 μ) 0 0 59 [some (.ref (ad 75)), some (.ref (ad 1)), some (.int v2), none] [] μ) (n : Nat) : ∀ (v2 : Int32) (v3 : Int32) (μ : Mem), LL p l e (RM 3) s m args below meth c 4 D cI cR ad shX NX A0 (fun (r : Unit) μ' => KG below args s D cI cR ad shX NX A0 none μ') (fX2_measure_L69 K59 n v2 v3 μ) 0 0 69 [some (.ref (ad 75)), some (.ref (ad 1)), some (.int v2), some (.int v3)] [] μ := by
  induction n with
  | zero =>
    intros
    exact ll_none
  | succ n ih =>
    intro v2 v3 μ
    rw [fX2_measure_L69]
    refine ll_iload_n E (pc := 69) dX2_measure_69 rfl ?_
    refine ll_aload_n E (pc := 70) dX2_measure_70 rfl ?_
    refine ll_getf E (pc := 71) (o9 := 75) (ci := 2) (k9 := 0) dX2_measure_71 fl_X2_39 (Nat.le_of_ble_eq_true rfl) fx_75_0 ?_
    refine ll_icmp_ge E (pc := 74) (tgt := 129) dX2_measure_74 rfl ?_ ?_
    · refine ll_iinc E (pc := 129) (lo' := [some (.ref (ad 75)), some (.ref (ad 1)), some (.int (v2 + (1 : Int32))), some (.int v3)]) dX2_measure_129 rfl kc_1 (Nat.le_of_ble_eq_true rfl) rfl rfl ?_
      refine ll_goto E (pc := 132) (tgt := 59) dX2_measure_132 rfl ?_
      exact ll_lo (lo' := [some (.ref (ad 75)), some (.ref (ad 1)), some (.int (v2 + (1 : Int32))), none]) ⟨rfl, rfl, rfl, trivial⟩ (hK59 (v2 + (1 : Int32)) μ)
    · refine ll_aload_n E (pc := 77) dX2_measure_77 rfl ?_
      refine ll_getfr E (pc := 78) (o9 := 75) (ci := 2) (k9 := 4) (q := 79) dX2_measure_78 fl_X2_21 (Nat.le_of_ble_eq_true rfl) fx_75_4 ?_
      refine ll_iload_n E (pc := 81) dX2_measure_81 rfl ?_
      refine ll_bipush E (pc := 82) dX2_measure_82 kb_20 ?_
      refine ll_imul E (pc := 84) dX2_measure_84 ?_
      refine ll_iload_n E (pc := 85) dX2_measure_85 rfl ?_
      refine ll_iadd E (pc := 86) dX2_measure_86 ?_
      refine ll_iload_n E (pc := 87) dX2_measure_87 rfl ?_
      refine ll_iload_n E (pc := 88) dX2_measure_88 rfl ?_
      refine ll_icmp_ge E (pc := 89) (tgt := 102) dX2_measure_89 rfl ?_ ?_
      · refine ll_bipush E (pc := 102) dX2_measure_102 kb_m99 ?_
        exact ll_lo (lo' := [some (.ref (ad 75)), some (.ref (ad 1)), some (.int v2), some (.int v3)]) ⟨rfl, rfl, rfl, rfl, trivial⟩ (kX2_measure_L104 E hr ih v2 v3 (-99 : Int32) ((v2 * (20 : Int32)) + v3) μ)
      · refine ll_aload_n E (pc := 92) dX2_measure_92 rfl ?_
        refine ll_aload_n E (pc := 93) dX2_measure_93 rfl ?_
        refine ll_iload_n E (pc := 94) dX2_measure_94 rfl ?_
        refine ll_iload_n E (pc := 95) dX2_measure_95 rfl ?_
        refine ll_callVi E (pc := 96) (d := 2) (ci := 2) (o9 := 75) [.ref (ad 1), .int v2, .int v3] [.int ((v2 * (20 : Int32)) + v3), .ref (ad 79)] dX2_measure_96 cv_X2_50 (fun h => ctX2_nearPair h) (Nat.le_of_ble_eq_true rfl) sx_75 ci_2 rfl rfl (Nat.le_of_ble_eq_true rfl) ⟨(Nat.le_of_ble_eq_true rfl), (Nat.le_of_ble_eq_true rfl)⟩ ⟨(Nat.le_of_ble_eq_true rfl), (Nat.le_of_ble_eq_true rfl)⟩ ?_
        intro r26 μ25
        refine ll_goto E (pc := 99) (tgt := 104) dX2_measure_99 rfl ?_
        exact ll_lo (lo' := [some (.ref (ad 75)), some (.ref (ad 1)), some (.int v2), some (.int v3)]) ⟨rfl, rfl, rfl, rfl, trivial⟩ (kX2_measure_L104 E hr ih v2 v3 r26 ((v2 * (20 : Int32)) + v3) μ25)
theorem kX2_measure_L59 {p : Program} {l : Launch} {e : Env} {s : State} {m : MethodId} {args : Array Value} {below : List Frame} {meth : Method} {c : Code} {D : va_G} {cI cR : ClassId} {ad : Nat → Nat} {A0 : Nat → Prop} (E : EV p s m args meth c cX2_measure 4 RX2 D cI cR ad shX NX A0) (hr : meth.sig.returnType = none) (n : Nat) : ∀ (v2 : Int32) (μ : Mem), LL p l e (RM 3) s m args below meth c 4 D cI cR ad shX NX A0 (fun (r : Unit) μ' => KG below args s D cI cR ad shX NX A0 none μ') (fX2_measure_L59 n v2 μ) 0 0 59 [some (.ref (ad 75)), some (.ref (ad 1)), some (.int v2), none] [] μ := by
  induction n with
  | zero =>
    intros
    exact ll_none
  | succ n ih =>
    intro v2 μ
    rw [fX2_measure_L59]
    refine ll_iload_n E (pc := 59) dX2_measure_59 rfl ?_
    refine ll_aload_n E (pc := 60) dX2_measure_60 rfl ?_
    refine ll_getf E (pc := 61) (o9 := 75) (ci := 2) (k9 := 0) dX2_measure_61 fl_X2_39 (Nat.le_of_ble_eq_true rfl) fx_75_0 ?_
    refine ll_icmp_ge E (pc := 64) (tgt := 135) dX2_measure_64 rfl ?_ ?_
    · refine ll_aload_n E (pc := 135) dX2_measure_135 rfl ?_
      refine ll_callVv E (pc := 136) (d := 1) (ci := 2) (o9 := 75) [] [] dX2_measure_136 cv_X2_57 (fun h => ctX2_measureHeights h) (Nat.le_of_ble_eq_true rfl) sx_75 ci_2 rfl rfl (Nat.le_of_ble_eq_true rfl) ⟨(Nat.le_of_ble_eq_true rfl), (Nat.le_of_ble_eq_true rfl)⟩ ⟨(Nat.le_of_ble_eq_true rfl), (Nat.le_of_ble_eq_true rfl)⟩ ?_
      intro r28 μ27
      refine ll_aload_n E (pc := 139) dX2_measure_139 rfl ?_
      refine ll_callVv E (pc := 140) (d := 1) (ci := 2) (o9 := 75) [] [] dX2_measure_140 cv_X2_60 (fun h => ctX2_measureEarliest h) (Nat.le_of_ble_eq_true rfl) sx_75 ci_2 rfl rfl (Nat.le_of_ble_eq_true rfl) ⟨(Nat.le_of_ble_eq_true rfl), (Nat.le_of_ble_eq_true rfl)⟩ ⟨(Nat.le_of_ble_eq_true rfl), (Nat.le_of_ble_eq_true rfl)⟩ ?_
      intro r30 μ29
      exact ll_return E (pc := 143) hr dX2_measure_143
    · refine ll_iconst E (pc := 67) dX2_measure_67 kc_0 ?_
      refine ll_istore_n E (pc := 68) (lo' := [some (.ref (ad 75)), some (.ref (ad 1)), some (.int v2), some (.int (0 : Int32))]) dX2_measure_68 (Nat.le_of_ble_eq_true rfl) rfl rfl ?_
      exact ll_lo (lo' := [some (.ref (ad 75)), some (.ref (ad 1)), some (.int v2), some (.int (0 : Int32))]) ⟨rfl, rfl, rfl, rfl, trivial⟩ (kX2_measure_L69 E hr ih fu v2 (0 : Int32) μ)
theorem kX2_measure_L10 {p : Program} {l : Launch} {e : Env} {s : State} {m : MethodId} {args : Array Value} {below : List Frame} {meth : Method} {c : Code} {D : va_G} {cI cR : ClassId} {ad : Nat → Nat} {A0 : Nat → Prop} (E : EV p s m args meth c cX2_measure 4 RX2 D cI cR ad shX NX A0) (hr : meth.sig.returnType = none) (n : Nat) : ∀ (v2 : Int32) (μ : Mem), LL p l e (RM 3) s m args below meth c 4 D cI cR ad shX NX A0 (fun (r : Unit) μ' => KG below args s D cI cR ad shX NX A0 none μ') (fX2_measure_L10 n v2 μ) 0 0 10 [some (.ref (ad 75)), some (.ref (ad 1)), some (.int v2), none] [] μ := by
  induction n with
  | zero =>
    intros
    exact ll_none
  | succ n ih =>
    intro v2 μ
    rw [fX2_measure_L10]
    refine ll_iload_n E (pc := 10) dX2_measure_10 rfl ?_
    refine ll_aload_n E (pc := 11) dX2_measure_11 rfl ?_
    refine ll_getf E (pc := 12) (o9 := 75) (ci := 2) (k9 := 0) dX2_measure_12 fl_X2_39 (Nat.le_of_ble_eq_true rfl) fx_75_0 ?_
    refine ll_icmp_ge E (pc := 15) (tgt := 57) dX2_measure_15 rfl ?_ ?_
    · refine ll_iconst E (pc := 57) dX2_measure_57 kc_0 ?_
      refine ll_istore_n E (pc := 58) (lo' := [some (.ref (ad 75)), some (.ref (ad 1)), some (.int (0 : Int32)), none]) dX2_measure_58 (Nat.le_of_ble_eq_true rfl) rfl rfl ?_
      exact ll_lo (lo' := [some (.ref (ad 75)), some (.ref (ad 1)), some (.int (0 : Int32)), none]) ⟨rfl, rfl, rfl, trivial⟩ (kX2_measure_L59 E hr fu (0 : Int32) μ)
    · refine ll_aload_n E (pc := 18) dX2_measure_18 rfl ?_
      refine ll_getfr E (pc := 19) (o9 := 75) (ci := 2) (k9 := 1) (q := 76) dX2_measure_19 fl_X2_9 (Nat.le_of_ble_eq_true rfl) fx_75_1 ?_
      refine ll_iload_n E (pc := 22) dX2_measure_22 rfl ?_
      refine ll_aload_n E (pc := 23) dX2_measure_23 rfl ?_
      refine ll_iload_n E (pc := 24) dX2_measure_24 rfl ?_
      refine ll_callVi E (pc := 25) (d := 0) (ci := 6) (o9 := 1) [.int v2] [.int v2, .ref (ad 76)] dX2_measure_25 cv_X2_40 (fun h => ctX6_readsOf h) (Nat.le_of_ble_eq_true rfl) sx_1 ci_6 rfl rfl (Nat.le_of_ble_eq_true rfl) ⟨(Nat.le_of_ble_eq_true rfl), (Nat.le_of_ble_eq_true rfl)⟩ ⟨(Nat.le_of_ble_eq_true rfl), (Nat.le_of_ble_eq_true rfl)⟩ ?_
      intro r32 μ31
      refine ll_iast E (pc := 28) (a := 76) dX2_measure_28 (px_76).1 (px_76).2 ?_
      intro μ33
      refine ll_aload_n E (pc := 29) dX2_measure_29 rfl ?_
      refine ll_getfr E (pc := 30) (o9 := 75) (ci := 2) (k9 := 2) (q := 77) dX2_measure_30 fl_X2_15 (Nat.le_of_ble_eq_true rfl) fx_75_2 ?_
      refine ll_iload_n E (pc := 33) dX2_measure_33 rfl ?_
      refine ll_aload_n E (pc := 34) dX2_measure_34 rfl ?_
      refine ll_iload_n E (pc := 35) dX2_measure_35 rfl ?_
      refine ll_callVi E (pc := 36) (d := 0) (ci := 6) (o9 := 1) [.int v2] [.int v2, .ref (ad 77)] dX2_measure_36 cv_X2_44 (fun h => ctX6_writesOf h) (Nat.le_of_ble_eq_true rfl) sx_1 ci_6 rfl rfl (Nat.le_of_ble_eq_true rfl) ⟨(Nat.le_of_ble_eq_true rfl), (Nat.le_of_ble_eq_true rfl)⟩ ⟨(Nat.le_of_ble_eq_true rfl), (Nat.le_of_ble_eq_true rfl)⟩ ?_
      intro r35 μ34
      refine ll_iast E (pc := 39) (a := 77) dX2_measure_39 (px_77).1 (px_77).2 ?_
      intro μ36
      refine ll_aload_n E (pc := 40) dX2_measure_40 rfl ?_
      refine ll_getfr E (pc := 41) (o9 := 75) (ci := 2) (k9 := 3) (q := 78) dX2_measure_41 fl_X2_18 (Nat.le_of_ble_eq_true rfl) fx_75_3 ?_
      refine ll_iload_n E (pc := 44) dX2_measure_44 rfl ?_
      refine ll_aload_n E (pc := 45) dX2_measure_45 rfl ?_
      refine ll_iload_n E (pc := 46) dX2_measure_46 rfl ?_
      refine ll_callVi E (pc := 47) (d := 2) (ci := 6) (o9 := 1) [.int v2] [.int v2, .ref (ad 78)] dX2_measure_47 cv_X2_47 (fun h => ctX6_lengthOf h) (Nat.le_of_ble_eq_true rfl) sx_1 ci_6 rfl rfl (Nat.le_of_ble_eq_true rfl) ⟨(Nat.le_of_ble_eq_true rfl), (Nat.le_of_ble_eq_true rfl)⟩ ⟨(Nat.le_of_ble_eq_true rfl), (Nat.le_of_ble_eq_true rfl)⟩ ?_
      intro r38 μ37
      refine ll_iast E (pc := 50) (a := 78) dX2_measure_50 (px_78).1 (px_78).2 ?_
      intro μ39
      refine ll_iinc E (pc := 51) (lo' := [some (.ref (ad 75)), some (.ref (ad 1)), some (.int (v2 + (1 : Int32))), none]) dX2_measure_51 rfl kc_1 (Nat.le_of_ble_eq_true rfl) rfl rfl ?_
      refine ll_goto E (pc := 54) (tgt := 10) dX2_measure_54 rfl ?_
      exact ll_lo (lo' := [some (.ref (ad 75)), some (.ref (ad 1)), some (.int (v2 + (1 : Int32))), none]) ⟨rfl, rfl, rfl, trivial⟩ (ih (v2 + (1 : Int32)) μ39)
theorem ctX2_measure {l : Launch} {D : va_G} {cI cR : ClassId} {ad : Nat → Nat} {μ : Mem} {r : Unit} {μ' : Mem} (hf : fX2_measure μ = some (r, μ')) : CT l yX2_measure cX2_measure 4 none 3 D cI cR ad shX NX [.ref (ad 75), .ref (ad 1)] μ none μ' :=
  ct_of (own := RX2) (ov := fun _ => none) (by decide +kernel) rfl (Nat.le_of_ble_eq_true rfl) (fun p e s m below meth c A0 E hr => by
    refine ll_lo (lo' := [some (.ref (ad 75)), some (.ref (ad 1)), none, none]) ⟨rfl, rfl, trivial⟩ ?_
    rw [fX2_measure]
    refine ll_aload_n E (pc := 0) dX2_measure_0 rfl ?_
    refine ll_aload_n E (pc := 1) dX2_measure_1 rfl ?_
    refine ll_getf E (pc := 2) (o9 := 1) (ci := 6) (k9 := 0) dX2_measure_2 fl_X2_33 (Nat.le_of_ble_eq_true rfl) fx_1_0 ?_
    refine ll_putf E (pc := 5) (o9 := 75) (ci := 2) (k9 := 0) dX2_measure_5 fw_X2_39 (Nat.le_of_ble_eq_true rfl) fx_75_0 ?_
    intro μ40
    refine ll_iconst E (pc := 8) dX2_measure_8 kc_0 ?_
    refine ll_istore_n E (pc := 9) (lo' := [some (.ref (ad 75)), some (.ref (ad 1)), some (.int (0 : Int32)), none]) dX2_measure_9 (Nat.le_of_ble_eq_true rfl) rfl rfl ?_
    exact ll_lo (lo' := [some (.ref (ad 75)), some (.ref (ad 1)), some (.int (0 : Int32)), none]) ⟨rfl, rfl, rfl, trivial⟩ (kX2_measure_L10 E hr fu (0 : Int32) μ40)) hf
theorem dX2_overOf_0 : decode cX2_overOf 0 = .ok (.iload_n 1, 1) := by decide +kernel
theorem dX2_overOf_1 : decode cX2_overOf 1 = .ok (.ifCond .lt 37, 3) := by decide +kernel
theorem dX2_overOf_4 : decode cX2_overOf 4 = .ok (.iload_n 1, 1) := by decide +kernel
theorem dX2_overOf_5 : decode cX2_overOf 5 = .ok (.aload_n 0, 1) := by decide +kernel
theorem dX2_overOf_6 : decode cX2_overOf 6 = .ok (.getfield 39, 3) := by decide +kernel
theorem dX2_overOf_9 : decode cX2_overOf 9 = .ok (.if_icmp .ge 29, 3) := by decide +kernel
theorem dX2_overOf_12 : decode cX2_overOf 12 = .ok (.iload_n 2, 1) := by decide +kernel
theorem dX2_overOf_13 : decode cX2_overOf 13 = .ok (.ifCond .lt 25, 3) := by decide +kernel
theorem dX2_overOf_16 : decode cX2_overOf 16 = .ok (.iload_n 2, 1) := by decide +kernel
theorem dX2_overOf_17 : decode cX2_overOf 17 = .ok (.aload_n 0, 1) := by decide +kernel
theorem dX2_overOf_18 : decode cX2_overOf 18 = .ok (.getfield 39, 3) := by decide +kernel
theorem dX2_overOf_21 : decode cX2_overOf 21 = .ok (.if_icmp .ge 17, 3) := by decide +kernel
theorem dX2_overOf_24 : decode cX2_overOf 24 = .ok (.aload_n 0, 1) := by decide +kernel
theorem dX2_overOf_25 : decode cX2_overOf 25 = .ok (.getfield 24, 3) := by decide +kernel
theorem dX2_overOf_28 : decode cX2_overOf 28 = .ok (.iload_n 1, 1) := by decide +kernel
theorem dX2_overOf_29 : decode cX2_overOf 29 = .ok (.bipush 20, 2) := by decide +kernel
theorem dX2_overOf_31 : decode cX2_overOf 31 = .ok (.imul, 1) := by decide +kernel
theorem dX2_overOf_32 : decode cX2_overOf 32 = .ok (.iload_n 2, 1) := by decide +kernel
theorem dX2_overOf_33 : decode cX2_overOf 33 = .ok (.iadd, 1) := by decide +kernel
theorem dX2_overOf_34 : decode cX2_overOf 34 = .ok (.iaload, 1) := by decide +kernel
theorem dX2_overOf_35 : decode cX2_overOf 35 = .ok (.goto 5, 3) := by decide +kernel
theorem dX2_overOf_38 : decode cX2_overOf 38 = .ok (.bipush (-99), 2) := by decide +kernel
theorem dX2_overOf_40 : decode cX2_overOf 40 = .ok (.ireturn, 1) := by decide +kernel
def fX2_overOf (μ : Mem) (a1 : Int32) (a2 : Int32) : Option (Int32 × Mem) :=
  if a1 < 0 then
  some ((-99 : Int32), μ)
  else
  if (μ 75 0) ≤ a1 then
  some ((-99 : Int32), μ)
  else
  if a2 < 0 then
  some ((-99 : Int32), μ)
  else
  if (μ 75 0) ≤ a2 then
  some ((-99 : Int32), μ)
  else
  (ld 400 (μ 80) ((a1 * (20 : Int32)) + a2)).bind fun r2 =>
  some (r2, μ)
theorem ctX2_overOf {l : Launch} {D : va_G} {cI cR : ClassId} {ad : Nat → Nat} {μ : Mem} {a1 : Int32} {a2 : Int32} {r : Int32} {μ' : Mem} (hf : fX2_overOf μ a1 a2 = some (r, μ')) : CT l yX2_overOf cX2_overOf 3 (some .int) 0 D cI cR ad shX NX [.ref (ad 75), .int a1, .int a2] μ (some (.int r)) μ' :=
  ct_of (own := RX2) (ov := fun r => some (.int r)) (by decide +kernel) rfl (Nat.le_of_ble_eq_true rfl) (fun p e s m below meth c A0 E hr => by
    refine ll_lo (lo' := [some (.ref (ad 75)), some (.int a1), some (.int a2)]) ⟨rfl, rfl, rfl, trivial⟩ ?_
    rw [fX2_overOf]
    refine ll_iload_n E (pc := 0) dX2_overOf_0 rfl ?_
    refine ll_if_lt E (pc := 1) (tgt := 38) dX2_overOf_1 rfl ?_ ?_
    · refine ll_bipush E (pc := 38) dX2_overOf_38 kb_m99 ?_
      exact ll_ireturn E (pc := 40) hr dX2_overOf_40
    · refine ll_iload_n E (pc := 4) dX2_overOf_4 rfl ?_
      refine ll_aload_n E (pc := 5) dX2_overOf_5 rfl ?_
      refine ll_getf E (pc := 6) (o9 := 75) (ci := 2) (k9 := 0) dX2_overOf_6 fl_X2_39 (Nat.le_of_ble_eq_true rfl) fx_75_0 ?_
      refine ll_icmp_ge E (pc := 9) (tgt := 38) dX2_overOf_9 rfl ?_ ?_
      · refine ll_bipush E (pc := 38) dX2_overOf_38 kb_m99 ?_
        exact ll_ireturn E (pc := 40) hr dX2_overOf_40
      · refine ll_iload_n E (pc := 12) dX2_overOf_12 rfl ?_
        refine ll_if_lt E (pc := 13) (tgt := 38) dX2_overOf_13 rfl ?_ ?_
        · refine ll_bipush E (pc := 38) dX2_overOf_38 kb_m99 ?_
          exact ll_ireturn E (pc := 40) hr dX2_overOf_40
        · refine ll_iload_n E (pc := 16) dX2_overOf_16 rfl ?_
          refine ll_aload_n E (pc := 17) dX2_overOf_17 rfl ?_
          refine ll_getf E (pc := 18) (o9 := 75) (ci := 2) (k9 := 0) dX2_overOf_18 fl_X2_39 (Nat.le_of_ble_eq_true rfl) fx_75_0 ?_
          refine ll_icmp_ge E (pc := 21) (tgt := 38) dX2_overOf_21 rfl ?_ ?_
          · refine ll_bipush E (pc := 38) dX2_overOf_38 kb_m99 ?_
            exact ll_ireturn E (pc := 40) hr dX2_overOf_40
          · refine ll_aload_n E (pc := 24) dX2_overOf_24 rfl ?_
            refine ll_getfr E (pc := 25) (o9 := 75) (ci := 2) (k9 := 5) (q := 80) dX2_overOf_25 fl_X2_24 (Nat.le_of_ble_eq_true rfl) fx_75_5 ?_
            refine ll_iload_n E (pc := 28) dX2_overOf_28 rfl ?_
            refine ll_bipush E (pc := 29) dX2_overOf_29 kb_20 ?_
            refine ll_imul E (pc := 31) dX2_overOf_31 ?_
            refine ll_iload_n E (pc := 32) dX2_overOf_32 rfl ?_
            refine ll_iadd E (pc := 33) dX2_overOf_33 ?_
            refine ll_iald E (pc := 34) (a := 80) dX2_overOf_34 (px_80).1 (px_80).2 ?_
            intro r2
            refine ll_goto E (pc := 35) (tgt := 40) dX2_overOf_35 rfl ?_
            exact ll_ireturn E (pc := 40) hr dX2_overOf_40) hf
theorem dX2_greatestHeight_0 : decode cX2_greatestHeight 0 = .ok (.iconst 0, 1) := by decide +kernel
theorem dX2_greatestHeight_1 : decode cX2_greatestHeight 1 = .ok (.istore_n 1, 1) := by decide +kernel
theorem dX2_greatestHeight_2 : decode cX2_greatestHeight 2 = .ok (.iconst 0, 1) := by decide +kernel
theorem dX2_greatestHeight_3 : decode cX2_greatestHeight 3 = .ok (.istore_n 2, 1) := by decide +kernel
theorem dX2_greatestHeight_4 : decode cX2_greatestHeight 4 = .ok (.iload_n 2, 1) := by decide +kernel
theorem dX2_greatestHeight_5 : decode cX2_greatestHeight 5 = .ok (.aload_n 0, 1) := by decide +kernel
theorem dX2_greatestHeight_6 : decode cX2_greatestHeight 6 = .ok (.getfield 39, 3) := by decide +kernel
theorem dX2_greatestHeight_9 : decode cX2_greatestHeight 9 = .ok (.if_icmp .ge 20, 3) := by decide +kernel
theorem dX2_greatestHeight_12 : decode cX2_greatestHeight 12 = .ok (.iload_n 1, 1) := by decide +kernel
theorem dX2_greatestHeight_13 : decode cX2_greatestHeight 13 = .ok (.aload_n 0, 1) := by decide +kernel
theorem dX2_greatestHeight_14 : decode cX2_greatestHeight 14 = .ok (.getfield 27, 3) := by decide +kernel
theorem dX2_greatestHeight_17 : decode cX2_greatestHeight 17 = .ok (.iload_n 2, 1) := by decide +kernel
theorem dX2_greatestHeight_18 : decode cX2_greatestHeight 18 = .ok (.iaload, 1) := by decide +kernel
theorem dX2_greatestHeight_19 : decode cX2_greatestHeight 19 = .ok (.invokestatic 75, 3) := by decide +kernel
theorem dX2_greatestHeight_22 : decode cX2_greatestHeight 22 = .ok (.istore_n 1, 1) := by decide +kernel
theorem dX2_greatestHeight_23 : decode cX2_greatestHeight 23 = .ok (.iinc 2 1, 3) := by decide +kernel
theorem dX2_greatestHeight_26 : decode cX2_greatestHeight 26 = .ok (.goto (-22), 3) := by decide +kernel
theorem dX2_greatestHeight_29 : decode cX2_greatestHeight 29 = .ok (.iload_n 1, 1) := by decide +kernel
theorem dX2_greatestHeight_30 : decode cX2_greatestHeight 30 = .ok (.ireturn, 1) := by decide +kernel
def fX2_greatestHeight_L4 : Nat → Int32 → Int32 → Mem → Option (Int32 × Mem)
  | 0, _, _, _ => none
  | n + 1, v1, v2, μ =>   if (μ 75 0) ≤ v2 then
  some (v1, μ)
  else
  (ld 20 (μ 81) v2).bind fun r2 =>
  fX2_greatestHeight_L4 n (jmax v1 r2) (v2 + (1 : Int32)) μ
def fX2_greatestHeight (μ : Mem) : Option (Int32 × Mem) :=
  fX2_greatestHeight_L4 fu (0 : Int32) (0 : Int32) μ
theorem kX2_greatestHeight_L4 {p : Program} {l : Launch} {e : Env} {s : State} {m : MethodId} {args : Array Value} {below : List Frame} {meth : Method} {c : Code} {D : va_G} {cI cR : ClassId} {ad : Nat → Nat} {A0 : Nat → Prop} (E : EV p s m args meth c cX2_greatestHeight 3 RX2 D cI cR ad shX NX A0) (hr : meth.sig.returnType = (some .int)) (n : Nat) : ∀ (v1 : Int32) (v2 : Int32) (μ : Mem), LL p l e (RM 1) s m args below meth c 3 D cI cR ad shX NX A0 (fun (r : Int32) μ' => KG below args s D cI cR ad shX NX A0 (some (.int r)) μ') (fX2_greatestHeight_L4 n v1 v2 μ) 0 0 4 [some (.ref (ad 75)), some (.int v1), some (.int v2)] [] μ := by
  induction n with
  | zero =>
    intros
    exact ll_none
  | succ n ih =>
    intro v1 v2 μ
    rw [fX2_greatestHeight_L4]
    refine ll_iload_n E (pc := 4) dX2_greatestHeight_4 rfl ?_
    refine ll_aload_n E (pc := 5) dX2_greatestHeight_5 rfl ?_
    refine ll_getf E (pc := 6) (o9 := 75) (ci := 2) (k9 := 0) dX2_greatestHeight_6 fl_X2_39 (Nat.le_of_ble_eq_true rfl) fx_75_0 ?_
    refine ll_icmp_ge E (pc := 9) (tgt := 29) dX2_greatestHeight_9 rfl ?_ ?_
    · refine ll_iload_n E (pc := 29) dX2_greatestHeight_29 rfl ?_
      exact ll_ireturn E (pc := 30) hr dX2_greatestHeight_30
    · refine ll_iload_n E (pc := 12) dX2_greatestHeight_12 rfl ?_
      refine ll_aload_n E (pc := 13) dX2_greatestHeight_13 rfl ?_
      refine ll_getfr E (pc := 14) (o9 := 75) (ci := 2) (k9 := 6) (q := 81) dX2_greatestHeight_14 fl_X2_27 (Nat.le_of_ble_eq_true rfl) fx_75_6 ?_
      refine ll_iload_n E (pc := 17) dX2_greatestHeight_17 rfl ?_
      refine ll_iald E (pc := 18) (a := 81) dX2_greatestHeight_18 (px_81).1 (px_81).2 ?_
      intro r2
      refine ll_max E (pc := 19) dX2_greatestHeight_19 mw_X2_75 mw_max1 mw_math mw_max2 (Nat.le_of_ble_eq_true rfl) ⟨(Nat.le_of_ble_eq_true rfl), (Nat.le_of_ble_eq_true rfl)⟩ ⟨(Nat.le_of_ble_eq_true rfl), (Nat.le_of_ble_eq_true rfl)⟩ ?_
      refine ll_istore_n E (pc := 22) (lo' := [some (.ref (ad 75)), some (.int (jmax v1 r2)), some (.int v2)]) dX2_greatestHeight_22 (Nat.le_of_ble_eq_true rfl) rfl rfl ?_
      refine ll_iinc E (pc := 23) (lo' := [some (.ref (ad 75)), some (.int (jmax v1 r2)), some (.int (v2 + (1 : Int32)))]) dX2_greatestHeight_23 rfl kc_1 (Nat.le_of_ble_eq_true rfl) rfl rfl ?_
      refine ll_goto E (pc := 26) (tgt := 4) dX2_greatestHeight_26 rfl ?_
      exact ll_lo (lo' := [some (.ref (ad 75)), some (.int (jmax v1 r2)), some (.int (v2 + (1 : Int32)))]) ⟨rfl, rfl, rfl, trivial⟩ (ih (jmax v1 r2) (v2 + (1 : Int32)) μ)
theorem ctX2_greatestHeight {l : Launch} {D : va_G} {cI cR : ClassId} {ad : Nat → Nat} {μ : Mem} {r : Int32} {μ' : Mem} (hf : fX2_greatestHeight μ = some (r, μ')) : CT l yX2_greatestHeight cX2_greatestHeight 3 (some .int) 1 D cI cR ad shX NX [.ref (ad 75)] μ (some (.int r)) μ' :=
  ct_of (own := RX2) (ov := fun r => some (.int r)) (by decide +kernel) rfl (Nat.le_of_ble_eq_true rfl) (fun p e s m below meth c A0 E hr => by
    refine ll_lo (lo' := [some (.ref (ad 75)), none, none]) ⟨rfl, trivial⟩ ?_
    rw [fX2_greatestHeight]
    refine ll_iconst E (pc := 0) dX2_greatestHeight_0 kc_0 ?_
    refine ll_istore_n E (pc := 1) (lo' := [some (.ref (ad 75)), some (.int (0 : Int32)), none]) dX2_greatestHeight_1 (Nat.le_of_ble_eq_true rfl) rfl rfl ?_
    refine ll_iconst E (pc := 2) dX2_greatestHeight_2 kc_0 ?_
    refine ll_istore_n E (pc := 3) (lo' := [some (.ref (ad 75)), some (.int (0 : Int32)), some (.int (0 : Int32))]) dX2_greatestHeight_3 (Nat.le_of_ble_eq_true rfl) rfl rfl ?_
    exact ll_lo (lo' := [some (.ref (ad 75)), some (.int (0 : Int32)), some (.int (0 : Int32))]) ⟨rfl, rfl, rfl, trivial⟩ (kX2_greatestHeight_L4 E hr fu (0 : Int32) (0 : Int32) μ)) hf
theorem dX2_lastResult_0 : decode cX2_lastResult 0 = .ok (.iconst 0, 1) := by decide +kernel
theorem dX2_lastResult_1 : decode cX2_lastResult 1 = .ok (.istore_n 1, 1) := by decide +kernel
theorem dX2_lastResult_2 : decode cX2_lastResult 2 = .ok (.iconst 0, 1) := by decide +kernel
theorem dX2_lastResult_3 : decode cX2_lastResult 3 = .ok (.istore_n 2, 1) := by decide +kernel
theorem dX2_lastResult_4 : decode cX2_lastResult 4 = .ok (.iload_n 2, 1) := by decide +kernel
theorem dX2_lastResult_5 : decode cX2_lastResult 5 = .ok (.aload_n 0, 1) := by decide +kernel
theorem dX2_lastResult_6 : decode cX2_lastResult 6 = .ok (.getfield 39, 3) := by decide +kernel
theorem dX2_lastResult_9 : decode cX2_lastResult 9 = .ok (.if_icmp .ge 27, 3) := by decide +kernel
theorem dX2_lastResult_12 : decode cX2_lastResult 12 = .ok (.iload_n 1, 1) := by decide +kernel
theorem dX2_lastResult_13 : decode cX2_lastResult 13 = .ok (.aload_n 0, 1) := by decide +kernel
theorem dX2_lastResult_14 : decode cX2_lastResult 14 = .ok (.getfield 30, 3) := by decide +kernel
theorem dX2_lastResult_17 : decode cX2_lastResult 17 = .ok (.iload_n 2, 1) := by decide +kernel
theorem dX2_lastResult_18 : decode cX2_lastResult 18 = .ok (.iaload, 1) := by decide +kernel
theorem dX2_lastResult_19 : decode cX2_lastResult 19 = .ok (.aload_n 0, 1) := by decide +kernel
theorem dX2_lastResult_20 : decode cX2_lastResult 20 = .ok (.getfield 18, 3) := by decide +kernel
theorem dX2_lastResult_23 : decode cX2_lastResult 23 = .ok (.iload_n 2, 1) := by decide +kernel
theorem dX2_lastResult_24 : decode cX2_lastResult 24 = .ok (.iaload, 1) := by decide +kernel
theorem dX2_lastResult_25 : decode cX2_lastResult 25 = .ok (.iadd, 1) := by decide +kernel
theorem dX2_lastResult_26 : decode cX2_lastResult 26 = .ok (.invokestatic 75, 3) := by decide +kernel
theorem dX2_lastResult_29 : decode cX2_lastResult 29 = .ok (.istore_n 1, 1) := by decide +kernel
theorem dX2_lastResult_30 : decode cX2_lastResult 30 = .ok (.iinc 2 1, 3) := by decide +kernel
theorem dX2_lastResult_33 : decode cX2_lastResult 33 = .ok (.goto (-29), 3) := by decide +kernel
theorem dX2_lastResult_36 : decode cX2_lastResult 36 = .ok (.iload_n 1, 1) := by decide +kernel
theorem dX2_lastResult_37 : decode cX2_lastResult 37 = .ok (.ireturn, 1) := by decide +kernel
def fX2_lastResult_L4 : Nat → Int32 → Int32 → Mem → Option (Int32 × Mem)
  | 0, _, _, _ => none
  | n + 1, v1, v2, μ =>   if (μ 75 0) ≤ v2 then
  some (v1, μ)
  else
  (ld 20 (μ 82) v2).bind fun r3 =>
  (ld 20 (μ 78) v2).bind fun r4 =>
  fX2_lastResult_L4 n (jmax v1 (r3 + r4)) (v2 + (1 : Int32)) μ
def fX2_lastResult (μ : Mem) : Option (Int32 × Mem) :=
  fX2_lastResult_L4 fu (0 : Int32) (0 : Int32) μ
theorem kX2_lastResult_L4 {p : Program} {l : Launch} {e : Env} {s : State} {m : MethodId} {args : Array Value} {below : List Frame} {meth : Method} {c : Code} {D : va_G} {cI cR : ClassId} {ad : Nat → Nat} {A0 : Nat → Prop} (E : EV p s m args meth c cX2_lastResult 3 RX2 D cI cR ad shX NX A0) (hr : meth.sig.returnType = (some .int)) (n : Nat) : ∀ (v1 : Int32) (v2 : Int32) (μ : Mem), LL p l e (RM 1) s m args below meth c 3 D cI cR ad shX NX A0 (fun (r : Int32) μ' => KG below args s D cI cR ad shX NX A0 (some (.int r)) μ') (fX2_lastResult_L4 n v1 v2 μ) 0 0 4 [some (.ref (ad 75)), some (.int v1), some (.int v2)] [] μ := by
  induction n with
  | zero =>
    intros
    exact ll_none
  | succ n ih =>
    intro v1 v2 μ
    rw [fX2_lastResult_L4]
    refine ll_iload_n E (pc := 4) dX2_lastResult_4 rfl ?_
    refine ll_aload_n E (pc := 5) dX2_lastResult_5 rfl ?_
    refine ll_getf E (pc := 6) (o9 := 75) (ci := 2) (k9 := 0) dX2_lastResult_6 fl_X2_39 (Nat.le_of_ble_eq_true rfl) fx_75_0 ?_
    refine ll_icmp_ge E (pc := 9) (tgt := 36) dX2_lastResult_9 rfl ?_ ?_
    · refine ll_iload_n E (pc := 36) dX2_lastResult_36 rfl ?_
      exact ll_ireturn E (pc := 37) hr dX2_lastResult_37
    · refine ll_iload_n E (pc := 12) dX2_lastResult_12 rfl ?_
      refine ll_aload_n E (pc := 13) dX2_lastResult_13 rfl ?_
      refine ll_getfr E (pc := 14) (o9 := 75) (ci := 2) (k9 := 7) (q := 82) dX2_lastResult_14 fl_X2_30 (Nat.le_of_ble_eq_true rfl) fx_75_7 ?_
      refine ll_iload_n E (pc := 17) dX2_lastResult_17 rfl ?_
      refine ll_iald E (pc := 18) (a := 82) dX2_lastResult_18 (px_82).1 (px_82).2 ?_
      intro r3
      refine ll_aload_n E (pc := 19) dX2_lastResult_19 rfl ?_
      refine ll_getfr E (pc := 20) (o9 := 75) (ci := 2) (k9 := 3) (q := 78) dX2_lastResult_20 fl_X2_18 (Nat.le_of_ble_eq_true rfl) fx_75_3 ?_
      refine ll_iload_n E (pc := 23) dX2_lastResult_23 rfl ?_
      refine ll_iald E (pc := 24) (a := 78) dX2_lastResult_24 (px_78).1 (px_78).2 ?_
      intro r4
      refine ll_iadd E (pc := 25) dX2_lastResult_25 ?_
      refine ll_max E (pc := 26) dX2_lastResult_26 mw_X2_75 mw_max1 mw_math mw_max2 (Nat.le_of_ble_eq_true rfl) ⟨(Nat.le_of_ble_eq_true rfl), (Nat.le_of_ble_eq_true rfl)⟩ ⟨(Nat.le_of_ble_eq_true rfl), (Nat.le_of_ble_eq_true rfl)⟩ ?_
      refine ll_istore_n E (pc := 29) (lo' := [some (.ref (ad 75)), some (.int (jmax v1 (r3 + r4))), some (.int v2)]) dX2_lastResult_29 (Nat.le_of_ble_eq_true rfl) rfl rfl ?_
      refine ll_iinc E (pc := 30) (lo' := [some (.ref (ad 75)), some (.int (jmax v1 (r3 + r4))), some (.int (v2 + (1 : Int32)))]) dX2_lastResult_30 rfl kc_1 (Nat.le_of_ble_eq_true rfl) rfl rfl ?_
      refine ll_goto E (pc := 33) (tgt := 4) dX2_lastResult_33 rfl ?_
      exact ll_lo (lo' := [some (.ref (ad 75)), some (.int (jmax v1 (r3 + r4))), some (.int (v2 + (1 : Int32)))]) ⟨rfl, rfl, rfl, trivial⟩ (ih (jmax v1 (r3 + r4)) (v2 + (1 : Int32)) μ)
theorem ctX2_lastResult {l : Launch} {D : va_G} {cI cR : ClassId} {ad : Nat → Nat} {μ : Mem} {r : Int32} {μ' : Mem} (hf : fX2_lastResult μ = some (r, μ')) : CT l yX2_lastResult cX2_lastResult 3 (some .int) 1 D cI cR ad shX NX [.ref (ad 75)] μ (some (.int r)) μ' :=
  ct_of (own := RX2) (ov := fun r => some (.int r)) (by decide +kernel) rfl (Nat.le_of_ble_eq_true rfl) (fun p e s m below meth c A0 E hr => by
    refine ll_lo (lo' := [some (.ref (ad 75)), none, none]) ⟨rfl, trivial⟩ ?_
    rw [fX2_lastResult]
    refine ll_iconst E (pc := 0) dX2_lastResult_0 kc_0 ?_
    refine ll_istore_n E (pc := 1) (lo' := [some (.ref (ad 75)), some (.int (0 : Int32)), none]) dX2_lastResult_1 (Nat.le_of_ble_eq_true rfl) rfl rfl ?_
    refine ll_iconst E (pc := 2) dX2_lastResult_2 kc_0 ?_
    refine ll_istore_n E (pc := 3) (lo' := [some (.ref (ad 75)), some (.int (0 : Int32)), some (.int (0 : Int32))]) dX2_lastResult_3 (Nat.le_of_ble_eq_true rfl) rfl rfl ?_
    exact ll_lo (lo' := [some (.ref (ad 75)), some (.int (0 : Int32)), some (.int (0 : Int32))]) ⟨rfl, rfl, rfl, trivial⟩ (kX2_lastResult_L4 E hr fu (0 : Int32) (0 : Int32) μ)) hf
theorem dX2_lowestTooEarly_0 : decode cX2_lowestTooEarly 0 = .ok (.iconst 0, 1) := by decide +kernel
theorem dX2_lowestTooEarly_1 : decode cX2_lowestTooEarly 1 = .ok (.istore_n 2, 1) := by decide +kernel
theorem dX2_lowestTooEarly_2 : decode cX2_lowestTooEarly 2 = .ok (.iload_n 2, 1) := by decide +kernel
theorem dX2_lowestTooEarly_3 : decode cX2_lowestTooEarly 3 = .ok (.aload_n 0, 1) := by decide +kernel
theorem dX2_lowestTooEarly_4 : decode cX2_lowestTooEarly 4 = .ok (.getfield 39, 3) := by decide +kernel
theorem dX2_lowestTooEarly_7 : decode cX2_lowestTooEarly 7 = .ok (.if_icmp .ge 57, 3) := by decide +kernel
theorem dX2_lowestTooEarly_10 : decode cX2_lowestTooEarly 10 = .ok (.iconst 0, 1) := by decide +kernel
theorem dX2_lowestTooEarly_11 : decode cX2_lowestTooEarly 11 = .ok (.istore_n 3, 1) := by decide +kernel
theorem dX2_lowestTooEarly_12 : decode cX2_lowestTooEarly 12 = .ok (.iload_n 3, 1) := by decide +kernel
theorem dX2_lowestTooEarly_13 : decode cX2_lowestTooEarly 13 = .ok (.iload_n 2, 1) := by decide +kernel
theorem dX2_lowestTooEarly_14 : decode cX2_lowestTooEarly 14 = .ok (.if_icmp .ge 44, 3) := by decide +kernel
theorem dX2_lowestTooEarly_17 : decode cX2_lowestTooEarly 17 = .ok (.aload_n 0, 1) := by decide +kernel
theorem dX2_lowestTooEarly_18 : decode cX2_lowestTooEarly 18 = .ok (.iload_n 3, 1) := by decide +kernel
theorem dX2_lowestTooEarly_19 : decode cX2_lowestTooEarly 19 = .ok (.iload_n 2, 1) := by decide +kernel
theorem dX2_lowestTooEarly_20 : decode cX2_lowestTooEarly 20 = .ok (.invokevirtual 103, 3) := by decide +kernel
theorem dX2_lowestTooEarly_23 : decode cX2_lowestTooEarly 23 = .ok (.istore 4, 2) := by decide +kernel
theorem dX2_lowestTooEarly_25 : decode cX2_lowestTooEarly 25 = .ok (.iload 4, 2) := by decide +kernel
theorem dX2_lowestTooEarly_27 : decode cX2_lowestTooEarly 27 = .ok (.bipush (-99), 2) := by decide +kernel
theorem dX2_lowestTooEarly_29 : decode cX2_lowestTooEarly 29 = .ok (.if_icmp .eq 23, 3) := by decide +kernel
theorem dX2_lowestTooEarly_32 : decode cX2_lowestTooEarly 32 = .ok (.aload_n 1, 1) := by decide +kernel
theorem dX2_lowestTooEarly_33 : decode cX2_lowestTooEarly 33 = .ok (.getfield 106, 3) := by decide +kernel
theorem dX2_lowestTooEarly_36 : decode cX2_lowestTooEarly 36 = .ok (.iload_n 2, 1) := by decide +kernel
theorem dX2_lowestTooEarly_37 : decode cX2_lowestTooEarly 37 = .ok (.iaload, 1) := by decide +kernel
theorem dX2_lowestTooEarly_38 : decode cX2_lowestTooEarly 38 = .ok (.aload_n 1, 1) := by decide +kernel
theorem dX2_lowestTooEarly_39 : decode cX2_lowestTooEarly 39 = .ok (.getfield 106, 3) := by decide +kernel
theorem dX2_lowestTooEarly_42 : decode cX2_lowestTooEarly 42 = .ok (.iload_n 3, 1) := by decide +kernel
theorem dX2_lowestTooEarly_43 : decode cX2_lowestTooEarly 43 = .ok (.iaload, 1) := by decide +kernel
theorem dX2_lowestTooEarly_44 : decode cX2_lowestTooEarly 44 = .ok (.isub, 1) := by decide +kernel
theorem dX2_lowestTooEarly_45 : decode cX2_lowestTooEarly 45 = .ok (.iload 4, 2) := by decide +kernel
theorem dX2_lowestTooEarly_47 : decode cX2_lowestTooEarly 47 = .ok (.if_icmp .ge 5, 3) := by decide +kernel
theorem dX2_lowestTooEarly_50 : decode cX2_lowestTooEarly 50 = .ok (.iload_n 2, 1) := by decide +kernel
theorem dX2_lowestTooEarly_51 : decode cX2_lowestTooEarly 51 = .ok (.ireturn, 1) := by decide +kernel
theorem dX2_lowestTooEarly_52 : decode cX2_lowestTooEarly 52 = .ok (.iinc 3 1, 3) := by decide +kernel
theorem dX2_lowestTooEarly_55 : decode cX2_lowestTooEarly 55 = .ok (.goto (-43), 3) := by decide +kernel
theorem dX2_lowestTooEarly_58 : decode cX2_lowestTooEarly 58 = .ok (.iinc 2 1, 3) := by decide +kernel
theorem dX2_lowestTooEarly_61 : decode cX2_lowestTooEarly 61 = .ok (.goto (-59), 3) := by decide +kernel
theorem dX2_lowestTooEarly_64 : decode cX2_lowestTooEarly 64 = .ok (.iconst (-1), 1) := by decide +kernel
theorem dX2_lowestTooEarly_65 : decode cX2_lowestTooEarly 65 = .ok (.ireturn, 1) := by decide +kernel
def fX2_lowestTooEarly_L52 (K12 : Int32 → Int32 → Mem → Option (Int32 × Mem)) (v2 : Int32) (v3 : Int32) (μ : Mem) : Option (Int32 × Mem) :=
  K12 v2 (v3 + (1 : Int32)) μ
def fX2_lowestTooEarly_L12 (K2 : Int32 → Mem → Option (Int32 × Mem)) : Nat → Int32 → Int32 → Mem → Option (Int32 × Mem)
  | 0, _, _, _ => none
  | n + 1, v2, v3, μ =>   if v2 ≤ v3 then
  K2 (v2 + (1 : Int32)) μ
  else
  bd (fX2_nearOf μ v3 v2) fun r6 μ5 =>
  if r6 = (-99 : Int32) then
  fX2_lowestTooEarly_L52 (fX2_lowestTooEarly_L12 K2 n) v2 v3 μ5
  else
  (ld 20 (μ5 7) v2).bind fun r7 =>
  (ld 20 (μ5 7) v3).bind fun r8 =>
  if r6 ≤ (r7 - r8) then
  fX2_lowestTooEarly_L52 (fX2_lowestTooEarly_L12 K2 n) v2 v3 μ5
  else
  some (v2, μ5)
def fX2_lowestTooEarly_L2 : Nat → Int32 → Mem → Option (Int32 × Mem)
  | 0, _, _ => none
  | n + 1, v2, μ =>   if (μ 75 0) ≤ v2 then
  some ((-1 : Int32), μ)
  else
  fX2_lowestTooEarly_L12 (fX2_lowestTooEarly_L2 n) fu v2 (0 : Int32) μ
def fX2_lowestTooEarly (μ : Mem) : Option (Int32 × Mem) :=
  fX2_lowestTooEarly_L2 fu (0 : Int32) μ
theorem kX2_lowestTooEarly_L52 {p : Program} {l : Launch} {e : Env} {s : State} {m : MethodId} {args : Array Value} {below : List Frame} {meth : Method} {c : Code} {D : va_G} {cI cR : ClassId} {ad : Nat → Nat} {A0 : Nat → Prop} (E : EV p s m args meth c cX2_lowestTooEarly 5 RX2 D cI cR ad shX NX A0) (hr : meth.sig.returnType = (some .int)) {K12 : Int32 → Int32 → Mem → Option (Int32 × Mem)} (hK12 : ∀ (v2 : Int32) (v3 : Int32) (μ : Mem), LL p l e (RM 1) s m args below meth c 5 D cI cR ad shX NX A0 (fun (r : Int32) μ' => KG below args s D cI cR ad shX NX A0 (some (.int r)) μ') (K12 v2 v3 μ) 0 0 12 [some (.ref (ad 75)), some (.ref (ad 1)), some (.int v2), some (.int v3), none] [] μ) (v2 : Int32) (v3 : Int32) (μ : Mem) : LL p l e (RM 1) s m args below meth c 5 D cI cR ad shX NX A0 (fun (r : Int32) μ' => KG below args s D cI cR ad shX NX A0 (some (.int r)) μ') (fX2_lowestTooEarly_L52 K12 v2 v3 μ) 0 0 52 [some (.ref (ad 75)), some (.ref (ad 1)), some (.int v2), some (.int v3), none] [] μ := by
  rw [fX2_lowestTooEarly_L52]
  refine ll_iinc E (pc := 52) (lo' := [some (.ref (ad 75)), some (.ref (ad 1)), some (.int v2), some (.int (v3 + (1 : Int32))), none]) dX2_lowestTooEarly_52 rfl kc_1 (Nat.le_of_ble_eq_true rfl) rfl rfl ?_
  refine ll_goto E (pc := 55) (tgt := 12) dX2_lowestTooEarly_55 rfl ?_
  exact ll_lo (lo' := [some (.ref (ad 75)), some (.ref (ad 1)), some (.int v2), some (.int (v3 + (1 : Int32))), none]) ⟨rfl, rfl, rfl, rfl, trivial⟩ (hK12 v2 (v3 + (1 : Int32)) μ)
theorem kX2_lowestTooEarly_L12 {p : Program} {l : Launch} {e : Env} {s : State} {m : MethodId} {args : Array Value} {below : List Frame} {meth : Method} {c : Code} {D : va_G} {cI cR : ClassId} {ad : Nat → Nat} {A0 : Nat → Prop} (E : EV p s m args meth c cX2_lowestTooEarly 5 RX2 D cI cR ad shX NX A0) (hr : meth.sig.returnType = (some .int)) {K2 : Int32 → Mem → Option (Int32 × Mem)} (hK2 : ∀ (v2 : Int32) (μ : Mem), LL p l e (RM 1) s m args below meth c 5 D cI cR ad shX NX A0 (fun (r : Int32) μ' => KG below args s D cI cR ad shX NX A0 (some (.int r)) μ') (K2 v2 μ) 0 0 2 [some (.ref (ad 75)), some (.ref (ad 1)), some (.int v2), none, none] [] μ) (n : Nat) : ∀ (v2 : Int32) (v3 : Int32) (μ : Mem), LL p l e (RM 1) s m args below meth c 5 D cI cR ad shX NX A0 (fun (r : Int32) μ' => KG below args s D cI cR ad shX NX A0 (some (.int r)) μ') (fX2_lowestTooEarly_L12 K2 n v2 v3 μ) 0 0 12 [some (.ref (ad 75)), some (.ref (ad 1)), some (.int v2), some (.int v3), none] [] μ := by
  induction n with
  | zero =>
    intros
    exact ll_none
  | succ n ih =>
    intro v2 v3 μ
    rw [fX2_lowestTooEarly_L12]
    refine ll_iload_n E (pc := 12) dX2_lowestTooEarly_12 rfl ?_
    refine ll_iload_n E (pc := 13) dX2_lowestTooEarly_13 rfl ?_
    refine ll_icmp_ge E (pc := 14) (tgt := 58) dX2_lowestTooEarly_14 rfl ?_ ?_
    · refine ll_iinc E (pc := 58) (lo' := [some (.ref (ad 75)), some (.ref (ad 1)), some (.int (v2 + (1 : Int32))), some (.int v3), none]) dX2_lowestTooEarly_58 rfl kc_1 (Nat.le_of_ble_eq_true rfl) rfl rfl ?_
      refine ll_goto E (pc := 61) (tgt := 2) dX2_lowestTooEarly_61 rfl ?_
      exact ll_lo (lo' := [some (.ref (ad 75)), some (.ref (ad 1)), some (.int (v2 + (1 : Int32))), none, none]) ⟨rfl, rfl, rfl, trivial⟩ (hK2 (v2 + (1 : Int32)) μ)
    · refine ll_aload_n E (pc := 17) dX2_lowestTooEarly_17 rfl ?_
      refine ll_iload_n E (pc := 18) dX2_lowestTooEarly_18 rfl ?_
      refine ll_iload_n E (pc := 19) dX2_lowestTooEarly_19 rfl ?_
      refine ll_callVi E (pc := 20) (d := 0) (ci := 2) (o9 := 75) [.int v3, .int v2] [] dX2_lowestTooEarly_20 cv_X2_103 (fun h => ctX2_nearOf h) (Nat.le_of_ble_eq_true rfl) sx_75 ci_2 rfl rfl (Nat.le_of_ble_eq_true rfl) ⟨(Nat.le_of_ble_eq_true rfl), (Nat.le_of_ble_eq_true rfl)⟩ ⟨(Nat.le_of_ble_eq_true rfl), (Nat.le_of_ble_eq_true rfl)⟩ ?_
      intro r6 μ5
      refine ll_istore E (pc := 23) (lo' := [some (.ref (ad 75)), some (.ref (ad 1)), some (.int v2), some (.int v3), some (.int r6)]) dX2_lowestTooEarly_23 (Nat.le_of_ble_eq_true rfl) rfl rfl ?_
      refine ll_iload E (pc := 25) dX2_lowestTooEarly_25 rfl ?_
      refine ll_bipush E (pc := 27) dX2_lowestTooEarly_27 kb_m99 ?_
      refine ll_icmp_eq E (pc := 29) (tgt := 52) dX2_lowestTooEarly_29 rfl ?_ ?_
      · exact ll_lo (lo' := [some (.ref (ad 75)), some (.ref (ad 1)), some (.int v2), some (.int v3), none]) ⟨rfl, rfl, rfl, rfl, trivial⟩ (kX2_lowestTooEarly_L52 E hr ih v2 v3 μ5)
      · refine ll_aload_n E (pc := 32) dX2_lowestTooEarly_32 rfl ?_
        refine ll_getfr E (pc := 33) (o9 := 1) (ci := 6) (k9 := 6) (q := 7) dX2_lowestTooEarly_33 fl_X2_106 (Nat.le_of_ble_eq_true rfl) fx_1_6 ?_
        refine ll_iload_n E (pc := 36) dX2_lowestTooEarly_36 rfl ?_
        refine ll_iald E (pc := 37) (a := 7) dX2_lowestTooEarly_37 (px_7).1 (px_7).2 ?_
        intro r7
        refine ll_aload_n E (pc := 38) dX2_lowestTooEarly_38 rfl ?_
        refine ll_getfr E (pc := 39) (o9 := 1) (ci := 6) (k9 := 6) (q := 7) dX2_lowestTooEarly_39 fl_X2_106 (Nat.le_of_ble_eq_true rfl) fx_1_6 ?_
        refine ll_iload_n E (pc := 42) dX2_lowestTooEarly_42 rfl ?_
        refine ll_iald E (pc := 43) (a := 7) dX2_lowestTooEarly_43 (px_7).1 (px_7).2 ?_
        intro r8
        refine ll_isub E (pc := 44) dX2_lowestTooEarly_44 ?_
        refine ll_iload E (pc := 45) dX2_lowestTooEarly_45 rfl ?_
        refine ll_icmp_ge E (pc := 47) (tgt := 52) dX2_lowestTooEarly_47 rfl ?_ ?_
        · exact ll_lo (lo' := [some (.ref (ad 75)), some (.ref (ad 1)), some (.int v2), some (.int v3), none]) ⟨rfl, rfl, rfl, rfl, trivial⟩ (kX2_lowestTooEarly_L52 E hr ih v2 v3 μ5)
        · refine ll_iload_n E (pc := 50) dX2_lowestTooEarly_50 rfl ?_
          exact ll_ireturn E (pc := 51) hr dX2_lowestTooEarly_51
theorem kX2_lowestTooEarly_L2 {p : Program} {l : Launch} {e : Env} {s : State} {m : MethodId} {args : Array Value} {below : List Frame} {meth : Method} {c : Code} {D : va_G} {cI cR : ClassId} {ad : Nat → Nat} {A0 : Nat → Prop} (E : EV p s m args meth c cX2_lowestTooEarly 5 RX2 D cI cR ad shX NX A0) (hr : meth.sig.returnType = (some .int)) (n : Nat) : ∀ (v2 : Int32) (μ : Mem), LL p l e (RM 1) s m args below meth c 5 D cI cR ad shX NX A0 (fun (r : Int32) μ' => KG below args s D cI cR ad shX NX A0 (some (.int r)) μ') (fX2_lowestTooEarly_L2 n v2 μ) 0 0 2 [some (.ref (ad 75)), some (.ref (ad 1)), some (.int v2), none, none] [] μ := by
  induction n with
  | zero =>
    intros
    exact ll_none
  | succ n ih =>
    intro v2 μ
    rw [fX2_lowestTooEarly_L2]
    refine ll_iload_n E (pc := 2) dX2_lowestTooEarly_2 rfl ?_
    refine ll_aload_n E (pc := 3) dX2_lowestTooEarly_3 rfl ?_
    refine ll_getf E (pc := 4) (o9 := 75) (ci := 2) (k9 := 0) dX2_lowestTooEarly_4 fl_X2_39 (Nat.le_of_ble_eq_true rfl) fx_75_0 ?_
    refine ll_icmp_ge E (pc := 7) (tgt := 64) dX2_lowestTooEarly_7 rfl ?_ ?_
    · refine ll_iconst E (pc := 64) dX2_lowestTooEarly_64 kc_m1 ?_
      exact ll_ireturn E (pc := 65) hr dX2_lowestTooEarly_65
    · refine ll_iconst E (pc := 10) dX2_lowestTooEarly_10 kc_0 ?_
      refine ll_istore_n E (pc := 11) (lo' := [some (.ref (ad 75)), some (.ref (ad 1)), some (.int v2), some (.int (0 : Int32)), none]) dX2_lowestTooEarly_11 (Nat.le_of_ble_eq_true rfl) rfl rfl ?_
      exact ll_lo (lo' := [some (.ref (ad 75)), some (.ref (ad 1)), some (.int v2), some (.int (0 : Int32)), none]) ⟨rfl, rfl, rfl, rfl, trivial⟩ (kX2_lowestTooEarly_L12 E hr ih fu v2 (0 : Int32) μ)
theorem ctX2_lowestTooEarly {l : Launch} {D : va_G} {cI cR : ClassId} {ad : Nat → Nat} {μ : Mem} {r : Int32} {μ' : Mem} (hf : fX2_lowestTooEarly μ = some (r, μ')) : CT l yX2_lowestTooEarly cX2_lowestTooEarly 5 (some .int) 1 D cI cR ad shX NX [.ref (ad 75), .ref (ad 1)] μ (some (.int r)) μ' :=
  ct_of (own := RX2) (ov := fun r => some (.int r)) (by decide +kernel) rfl (Nat.le_of_ble_eq_true rfl) (fun p e s m below meth c A0 E hr => by
    refine ll_lo (lo' := [some (.ref (ad 75)), some (.ref (ad 1)), none, none, none]) ⟨rfl, rfl, trivial⟩ ?_
    rw [fX2_lowestTooEarly]
    refine ll_iconst E (pc := 0) dX2_lowestTooEarly_0 kc_0 ?_
    refine ll_istore_n E (pc := 1) (lo' := [some (.ref (ad 75)), some (.ref (ad 1)), some (.int (0 : Int32)), none, none]) dX2_lowestTooEarly_1 (Nat.le_of_ble_eq_true rfl) rfl rfl ?_
    exact ll_lo (lo' := [some (.ref (ad 75)), some (.ref (ad 1)), some (.int (0 : Int32)), none, none]) ⟨rfl, rfl, rfl, trivial⟩ (kX2_lowestTooEarly_L2 E hr fu (0 : Int32) μ)) hf
