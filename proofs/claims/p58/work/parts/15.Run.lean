theorem dX5_cellPlace_0 : decode cX5_cellPlace 0 = .ok (.aload_n 2, 1) := by decide +kernel
theorem dX5_cellPlace_1 : decode cX5_cellPlace 1 = .ok (.aload_n 0, 1) := by decide +kernel
theorem dX5_cellPlace_2 : decode cX5_cellPlace 2 = .ok (.getfield 71, 3) := by decide +kernel
theorem dX5_cellPlace_5 : decode cX5_cellPlace 5 = .ok (.iload_n 1, 1) := by decide +kernel
theorem dX5_cellPlace_6 : decode cX5_cellPlace 6 = .ok (.iaload, 1) := by decide +kernel
theorem dX5_cellPlace_7 : decode cX5_cellPlace 7 = .ok (.iaload, 1) := by decide +kernel
theorem dX5_cellPlace_8 : decode cX5_cellPlace 8 = .ok (.i2l, 1) := by decide +kernel
theorem dX5_cellPlace_9 : decode cX5_cellPlace 9 = .ok (.aload_n 0, 1) := by decide +kernel
theorem dX5_cellPlace_10 : decode cX5_cellPlace 10 = .ok (.getfield 74, 3) := by decide +kernel
theorem dX5_cellPlace_13 : decode cX5_cellPlace 13 = .ok (.iload_n 1, 1) := by decide +kernel
theorem dX5_cellPlace_14 : decode cX5_cellPlace 14 = .ok (.iaload, 1) := by decide +kernel
theorem dX5_cellPlace_15 : decode cX5_cellPlace 15 = .ok (.i2l, 1) := by decide +kernel
theorem dX5_cellPlace_16 : decode cX5_cellPlace 16 = .ok (.ladd, 1) := by decide +kernel
theorem dX5_cellPlace_17 : decode cX5_cellPlace 17 = .ok (.lstore_n 3, 1) := by decide +kernel
theorem dX5_cellPlace_18 : decode cX5_cellPlace 18 = .ok (.bipush 12, 2) := by decide +kernel
theorem dX5_cellPlace_20 : decode cX5_cellPlace 20 = .ok (.lload_n 3, 1) := by decide +kernel
theorem dX5_cellPlace_21 : decode cX5_cellPlace 21 = .ok (.ldc2_w 77, 3) := by decide +kernel
theorem dX5_cellPlace_24 : decode cX5_cellPlace 24 = .ok (.invokestatic 79, 3) := by decide +kernel
theorem dX5_cellPlace_27 : decode cX5_cellPlace 27 = .ok (.l2i, 1) := by decide +kernel
theorem dX5_cellPlace_28 : decode cX5_cellPlace 28 = .ok (.iadd, 1) := by decide +kernel
theorem dX5_cellPlace_29 : decode cX5_cellPlace 29 = .ok (.ireturn, 1) := by decide +kernel
def fX5_cellPlace (μ : Mem) (a1 : Int32) (a2 : Nat) : Option (Int32 × Mem) :=
  (ld 20 (μ 4) a1).bind fun r6 =>
  (ld 24 (μ a2) r6).bind fun r7 =>
  (ld 20 (μ 6) a1).bind fun r8 =>
  bd (fJ9_floorMod_f86c9 μ ((Int32.toInt64 r7) + (Int32.toInt64 r8)) (12 : Int64)) fun r10 μ9 =>
  some (((12 : Int32) + (Int64.toInt32 r10)), μ9)
theorem ctX5_cellPlace {l : Launch} {D : va_G} {cI cR : ClassId} {ad : Nat → Nat} {μ : Mem} {a1 : Int32} {a2 : Nat} (h2 : Pa shX NX 24 a2) {r : Int32} {μ' : Mem} (hf : fX5_cellPlace μ a1 a2 = some (r, μ')) : CT l yX5_cellPlace cX5_cellPlace 5 (some .int) 1 D cI cR ad shX NX [.ref (ad 1), .int a1, .ref (ad a2)] μ (some (.int r)) μ' :=
  ct_of (own := RX5) (ov := fun r => some (.int r)) (by decide +kernel) rfl (Nat.le_of_ble_eq_true rfl) (fun p e s m below meth c A0 E hr => by
    refine ll_lo (lo' := [some (.ref (ad 1)), some (.int a1), some (.ref (ad a2)), none, none]) ⟨rfl, rfl, rfl, trivial⟩ ?_
    rw [fX5_cellPlace]
    refine ll_aload_n E (pc := 0) dX5_cellPlace_0 rfl ?_
    refine ll_aload_n E (pc := 1) dX5_cellPlace_1 rfl ?_
    refine ll_getfr E (pc := 2) (o9 := 1) (ci := 6) (k9 := 3) (q := 4) dX5_cellPlace_2 fl_X5_71 (Nat.le_of_ble_eq_true rfl) fx_1_3 ?_
    refine ll_iload_n E (pc := 5) dX5_cellPlace_5 rfl ?_
    refine ll_iald E (pc := 6) (a := 4) dX5_cellPlace_6 (px_4).1 (px_4).2 ?_
    intro r6
    refine ll_iald E (pc := 7) (a := a2) dX5_cellPlace_7 (h2).1 (h2).2 ?_
    intro r7
    refine ll_i2l E (pc := 8) dX5_cellPlace_8 ?_
    refine ll_aload_n E (pc := 9) dX5_cellPlace_9 rfl ?_
    refine ll_getfr E (pc := 10) (o9 := 1) (ci := 6) (k9 := 5) (q := 6) dX5_cellPlace_10 fl_X5_74 (Nat.le_of_ble_eq_true rfl) fx_1_5 ?_
    refine ll_iload_n E (pc := 13) dX5_cellPlace_13 rfl ?_
    refine ll_iald E (pc := 14) (a := 6) dX5_cellPlace_14 (px_6).1 (px_6).2 ?_
    intro r8
    refine ll_i2l E (pc := 15) dX5_cellPlace_15 ?_
    refine ll_ladd E (pc := 16) dX5_cellPlace_16 ?_
    refine ll_lstore_n E (pc := 17) (lo' := [some (.ref (ad 1)), some (.int a1), some (.ref (ad a2)), some (.long ((Int32.toInt64 r7) + (Int32.toInt64 r8))), none]) dX5_cellPlace_17 (Nat.le_of_ble_eq_true rfl) rfl rfl ?_
    refine ll_bipush E (pc := 18) dX5_cellPlace_18 kb_12 ?_
    refine ll_lload_n E (pc := 20) dX5_cellPlace_20 rfl ?_
    refine ll_ldc2 E (pc := 21) dX5_cellPlace_21 kw_X5_77 ?_
    refine ll_callSj E (pc := 24) (d := 0) [.long ((Int32.toInt64 r7) + (Int32.toInt64 r8)), .long (12 : Int64)] [.int (12 : Int32)] dX5_cellPlace_24 cv_X5_79 (fun h => ctJ9_floorMod_f86c9 h) rfl rfl (Nat.le_of_ble_eq_true rfl) ⟨(Nat.le_of_ble_eq_true rfl), (Nat.le_of_ble_eq_true rfl)⟩ ⟨(Nat.le_of_ble_eq_true rfl), (Nat.le_of_ble_eq_true rfl)⟩ ?_
    intro r10 μ9
    refine ll_l2i E (pc := 27) dX5_cellPlace_27 ?_
    refine ll_iadd E (pc := 28) dX5_cellPlace_28 ?_
    exact ll_ireturn E (pc := 29) hr dX5_cellPlace_29) hf
theorem dX5_placeOf_0 : decode cX5_placeOf 0 = .ok (.aload_n 0, 1) := by decide +kernel
theorem dX5_placeOf_1 : decode cX5_placeOf 1 = .ok (.getfield 62, 3) := by decide +kernel
theorem dX5_placeOf_4 : decode cX5_placeOf 4 = .ok (.iload_n 1, 1) := by decide +kernel
theorem dX5_placeOf_5 : decode cX5_placeOf 5 = .ok (.iaload, 1) := by decide +kernel
theorem dX5_placeOf_6 : decode cX5_placeOf 6 = .ok (.bipush 6, 2) := by decide +kernel
theorem dX5_placeOf_8 : decode cX5_placeOf 8 = .ok (.if_icmp .ne 10, 3) := by decide +kernel
theorem dX5_placeOf_11 : decode cX5_placeOf 11 = .ok (.aload_n 0, 1) := by decide +kernel
theorem dX5_placeOf_12 : decode cX5_placeOf 12 = .ok (.iload_n 1, 1) := by decide +kernel
theorem dX5_placeOf_13 : decode cX5_placeOf 13 = .ok (.aload_n 2, 1) := by decide +kernel
theorem dX5_placeOf_14 : decode cX5_placeOf 14 = .ok (.invokestatic 65, 3) := by decide +kernel
theorem dX5_placeOf_17 : decode cX5_placeOf 17 = .ok (.ireturn, 1) := by decide +kernel
theorem dX5_placeOf_18 : decode cX5_placeOf 18 = .ok (.aload_n 0, 1) := by decide +kernel
theorem dX5_placeOf_19 : decode cX5_placeOf 19 = .ok (.getfield 68, 3) := by decide +kernel
theorem dX5_placeOf_22 : decode cX5_placeOf 22 = .ok (.iload_n 1, 1) := by decide +kernel
theorem dX5_placeOf_23 : decode cX5_placeOf 23 = .ok (.iaload, 1) := by decide +kernel
theorem dX5_placeOf_24 : decode cX5_placeOf 24 = .ok (.ireturn, 1) := by decide +kernel
def fX5_placeOf (μ : Mem) (a1 : Int32) (a2 : Nat) : Option (Int32 × Mem) :=
  (ld 20 (μ 2) a1).bind fun r5 =>
  if r5 = (6 : Int32) then
  bd (fX5_cellPlace μ a1 a2) fun r8 μ7 =>
  some (r8, μ7)
  else
  (ld 20 (μ 3) a1).bind fun r6 =>
  some (r6, μ)
theorem ctX5_placeOf {l : Launch} {D : va_G} {cI cR : ClassId} {ad : Nat → Nat} {μ : Mem} {a1 : Int32} {a2 : Nat} (h2 : Pa shX NX 24 a2) {r : Int32} {μ' : Mem} (hf : fX5_placeOf μ a1 a2 = some (r, μ')) : CT l yX5_placeOf cX5_placeOf 3 (some .int) 2 D cI cR ad shX NX [.ref (ad 1), .int a1, .ref (ad a2)] μ (some (.int r)) μ' :=
  ct_of (own := RX5) (ov := fun r => some (.int r)) (by decide +kernel) rfl (Nat.le_of_ble_eq_true rfl) (fun p e s m below meth c A0 E hr => by
    refine ll_lo (lo' := [some (.ref (ad 1)), some (.int a1), some (.ref (ad a2))]) ⟨rfl, rfl, rfl, trivial⟩ ?_
    rw [fX5_placeOf]
    refine ll_aload_n E (pc := 0) dX5_placeOf_0 rfl ?_
    refine ll_getfr E (pc := 1) (o9 := 1) (ci := 6) (k9 := 1) (q := 2) dX5_placeOf_1 fl_X5_62 (Nat.le_of_ble_eq_true rfl) fx_1_1 ?_
    refine ll_iload_n E (pc := 4) dX5_placeOf_4 rfl ?_
    refine ll_iald E (pc := 5) (a := 2) dX5_placeOf_5 (px_2).1 (px_2).2 ?_
    intro r5
    refine ll_bipush E (pc := 6) dX5_placeOf_6 kb_6 ?_
    refine ll_icmp_ne E (pc := 8) (tgt := 18) dX5_placeOf_8 rfl ?_ ?_
    · refine ll_aload_n E (pc := 18) dX5_placeOf_18 rfl ?_
      refine ll_getfr E (pc := 19) (o9 := 1) (ci := 6) (k9 := 2) (q := 3) dX5_placeOf_19 fl_X5_68 (Nat.le_of_ble_eq_true rfl) fx_1_2 ?_
      refine ll_iload_n E (pc := 22) dX5_placeOf_22 rfl ?_
      refine ll_iald E (pc := 23) (a := 3) dX5_placeOf_23 (px_3).1 (px_3).2 ?_
      intro r6
      exact ll_ireturn E (pc := 24) hr dX5_placeOf_24
    · refine ll_aload_n E (pc := 11) dX5_placeOf_11 rfl ?_
      refine ll_iload_n E (pc := 12) dX5_placeOf_12 rfl ?_
      refine ll_aload_n E (pc := 13) dX5_placeOf_13 rfl ?_
      refine ll_callSi E (pc := 14) (d := 1) [.ref (ad 1), .int a1, .ref (ad a2)] [] dX5_placeOf_14 cv_X5_65 (fun h => ctX5_cellPlace h2 h) rfl rfl (Nat.le_of_ble_eq_true rfl) ⟨(Nat.le_of_ble_eq_true rfl), (Nat.le_of_ble_eq_true rfl)⟩ ⟨(Nat.le_of_ble_eq_true rfl), (Nat.le_of_ble_eq_true rfl)⟩ ?_
      intro r8 μ7
      exact ll_ireturn E (pc := 17) hr dX5_placeOf_17) hf
theorem dX5_resultOf_0 : decode cX5_resultOf 0 = .ok (.aload_n 2, 1) := by decide +kernel
theorem dX5_resultOf_1 : decode cX5_resultOf 1 = .ok (.aload_n 0, 1) := by decide +kernel
theorem dX5_resultOf_2 : decode cX5_resultOf 2 = .ok (.getfield 71, 3) := by decide +kernel
theorem dX5_resultOf_5 : decode cX5_resultOf 5 = .ok (.iload_n 1, 1) := by decide +kernel
theorem dX5_resultOf_6 : decode cX5_resultOf 6 = .ok (.iaload, 1) := by decide +kernel
theorem dX5_resultOf_7 : decode cX5_resultOf 7 = .ok (.iaload, 1) := by decide +kernel
theorem dX5_resultOf_8 : decode cX5_resultOf 8 = .ok (.istore_n 3, 1) := by decide +kernel
theorem dX5_resultOf_9 : decode cX5_resultOf 9 = .ok (.aload_n 2, 1) := by decide +kernel
theorem dX5_resultOf_10 : decode cX5_resultOf 10 = .ok (.aload_n 0, 1) := by decide +kernel
theorem dX5_resultOf_11 : decode cX5_resultOf 11 = .ok (.getfield 85, 3) := by decide +kernel
theorem dX5_resultOf_14 : decode cX5_resultOf 14 = .ok (.iload_n 1, 1) := by decide +kernel
theorem dX5_resultOf_15 : decode cX5_resultOf 15 = .ok (.iaload, 1) := by decide +kernel
theorem dX5_resultOf_16 : decode cX5_resultOf 16 = .ok (.iaload, 1) := by decide +kernel
theorem dX5_resultOf_17 : decode cX5_resultOf 17 = .ok (.istore 4, 2) := by decide +kernel
theorem dX5_resultOf_19 : decode cX5_resultOf 19 = .ok (.aload_n 0, 1) := by decide +kernel
theorem dX5_resultOf_20 : decode cX5_resultOf 20 = .ok (.getfield 62, 3) := by decide +kernel
theorem dX5_resultOf_23 : decode cX5_resultOf 23 = .ok (.iload_n 1, 1) := by decide +kernel
theorem dX5_resultOf_24 : decode cX5_resultOf 24 = .ok (.iaload, 1) := by decide +kernel
theorem dX5_resultOf_25 : decode cX5_resultOf 25 = .ok (.tableswitch 83 0 5 #[39, 46, 51, 56, 61, 74], 39) := by decide +kernel
theorem dX5_resultOf_64 : decode cX5_resultOf 64 = .ok (.aload_n 0, 1) := by decide +kernel
theorem dX5_resultOf_65 : decode cX5_resultOf 65 = .ok (.getfield 74, 3) := by decide +kernel
theorem dX5_resultOf_68 : decode cX5_resultOf 68 = .ok (.iload_n 1, 1) := by decide +kernel
theorem dX5_resultOf_69 : decode cX5_resultOf 69 = .ok (.iaload, 1) := by decide +kernel
theorem dX5_resultOf_70 : decode cX5_resultOf 70 = .ok (.ireturn, 1) := by decide +kernel
theorem dX5_resultOf_71 : decode cX5_resultOf 71 = .ok (.iload_n 3, 1) := by decide +kernel
theorem dX5_resultOf_72 : decode cX5_resultOf 72 = .ok (.iload 4, 2) := by decide +kernel
theorem dX5_resultOf_74 : decode cX5_resultOf 74 = .ok (.iadd, 1) := by decide +kernel
theorem dX5_resultOf_75 : decode cX5_resultOf 75 = .ok (.ireturn, 1) := by decide +kernel
theorem dX5_resultOf_76 : decode cX5_resultOf 76 = .ok (.iload_n 3, 1) := by decide +kernel
theorem dX5_resultOf_77 : decode cX5_resultOf 77 = .ok (.iload 4, 2) := by decide +kernel
theorem dX5_resultOf_79 : decode cX5_resultOf 79 = .ok (.isub, 1) := by decide +kernel
theorem dX5_resultOf_80 : decode cX5_resultOf 80 = .ok (.ireturn, 1) := by decide +kernel
theorem dX5_resultOf_81 : decode cX5_resultOf 81 = .ok (.iload_n 3, 1) := by decide +kernel
theorem dX5_resultOf_82 : decode cX5_resultOf 82 = .ok (.iload 4, 2) := by decide +kernel
theorem dX5_resultOf_84 : decode cX5_resultOf 84 = .ok (.imul, 1) := by decide +kernel
theorem dX5_resultOf_85 : decode cX5_resultOf 85 = .ok (.ireturn, 1) := by decide +kernel
theorem dX5_resultOf_86 : decode cX5_resultOf 86 = .ok (.iload_n 3, 1) := by decide +kernel
theorem dX5_resultOf_87 : decode cX5_resultOf 87 = .ok (.iload 4, 2) := by decide +kernel
theorem dX5_resultOf_89 : decode cX5_resultOf 89 = .ok (.if_icmp .lt 7, 3) := by decide +kernel
theorem dX5_resultOf_92 : decode cX5_resultOf 92 = .ok (.iload_n 3, 1) := by decide +kernel
theorem dX5_resultOf_93 : decode cX5_resultOf 93 = .ok (.goto 5, 3) := by decide +kernel
theorem dX5_resultOf_96 : decode cX5_resultOf 96 = .ok (.iload 4, 2) := by decide +kernel
theorem dX5_resultOf_98 : decode cX5_resultOf 98 = .ok (.ireturn, 1) := by decide +kernel
theorem dX5_resultOf_99 : decode cX5_resultOf 99 = .ok (.aload_n 2, 1) := by decide +kernel
theorem dX5_resultOf_100 : decode cX5_resultOf 100 = .ok (.aload_n 0, 1) := by decide +kernel
theorem dX5_resultOf_101 : decode cX5_resultOf 101 = .ok (.iload_n 1, 1) := by decide +kernel
theorem dX5_resultOf_102 : decode cX5_resultOf 102 = .ok (.aload_n 2, 1) := by decide +kernel
theorem dX5_resultOf_103 : decode cX5_resultOf 103 = .ok (.invokestatic 65, 3) := by decide +kernel
theorem dX5_resultOf_106 : decode cX5_resultOf 106 = .ok (.iaload, 1) := by decide +kernel
theorem dX5_resultOf_107 : decode cX5_resultOf 107 = .ok (.ireturn, 1) := by decide +kernel
theorem dX5_resultOf_108 : decode cX5_resultOf 108 = .ok (.iload 4, 2) := by decide +kernel
theorem dX5_resultOf_110 : decode cX5_resultOf 110 = .ok (.ireturn, 1) := by decide +kernel
def fX5_resultOf (μ : Mem) (a1 : Int32) (a2 : Nat) : Option (Int32 × Mem) :=
  (ld 20 (μ 4) a1).bind fun r10 =>
  (ld 24 (μ a2) r10).bind fun r11 =>
  (ld 20 (μ 5) a1).bind fun r12 =>
  (ld 24 (μ a2) r12).bind fun r13 =>
  (ld 20 (μ 2) a1).bind fun r14 =>
  if r14 = (0 : Int32) then
  (ld 20 (μ 6) a1).bind fun r15 =>
  some (r15, μ)
  else
  if r14 = (1 : Int32) then
  some ((r11 + r13), μ)
  else
  if r14 = (2 : Int32) then
  some ((r11 - r13), μ)
  else
  if r14 = (3 : Int32) then
  some ((r11 * r13), μ)
  else
  if r14 = (4 : Int32) then
  if r11 < r13 then
  some (r13, μ)
  else
  some (r11, μ)
  else
  if r14 = (5 : Int32) then
  bd (fX5_cellPlace μ a1 a2) fun r17 μ16 =>
  (ld 24 (μ16 a2) r17).bind fun r18 =>
  some (r18, μ16)
  else
  some (r13, μ)
theorem ctX5_resultOf {l : Launch} {D : va_G} {cI cR : ClassId} {ad : Nat → Nat} {μ : Mem} {a1 : Int32} {a2 : Nat} (h2 : Pa shX NX 24 a2) {r : Int32} {μ' : Mem} (hf : fX5_resultOf μ a1 a2 = some (r, μ')) : CT l yX5_resultOf cX5_resultOf 5 (some .int) 2 D cI cR ad shX NX [.ref (ad 1), .int a1, .ref (ad a2)] μ (some (.int r)) μ' :=
  ct_of (own := RX5) (ov := fun r => some (.int r)) (by decide +kernel) rfl (Nat.le_of_ble_eq_true rfl) (fun p e s m below meth c A0 E hr => by
    refine ll_lo (lo' := [some (.ref (ad 1)), some (.int a1), some (.ref (ad a2)), none, none]) ⟨rfl, rfl, rfl, trivial⟩ ?_
    rw [fX5_resultOf]
    refine ll_aload_n E (pc := 0) dX5_resultOf_0 rfl ?_
    refine ll_aload_n E (pc := 1) dX5_resultOf_1 rfl ?_
    refine ll_getfr E (pc := 2) (o9 := 1) (ci := 6) (k9 := 3) (q := 4) dX5_resultOf_2 fl_X5_71 (Nat.le_of_ble_eq_true rfl) fx_1_3 ?_
    refine ll_iload_n E (pc := 5) dX5_resultOf_5 rfl ?_
    refine ll_iald E (pc := 6) (a := 4) dX5_resultOf_6 (px_4).1 (px_4).2 ?_
    intro r10
    refine ll_iald E (pc := 7) (a := a2) dX5_resultOf_7 (h2).1 (h2).2 ?_
    intro r11
    refine ll_istore_n E (pc := 8) (lo' := [some (.ref (ad 1)), some (.int a1), some (.ref (ad a2)), some (.int r11), none]) dX5_resultOf_8 (Nat.le_of_ble_eq_true rfl) rfl rfl ?_
    refine ll_aload_n E (pc := 9) dX5_resultOf_9 rfl ?_
    refine ll_aload_n E (pc := 10) dX5_resultOf_10 rfl ?_
    refine ll_getfr E (pc := 11) (o9 := 1) (ci := 6) (k9 := 4) (q := 5) dX5_resultOf_11 fl_X5_85 (Nat.le_of_ble_eq_true rfl) fx_1_4 ?_
    refine ll_iload_n E (pc := 14) dX5_resultOf_14 rfl ?_
    refine ll_iald E (pc := 15) (a := 5) dX5_resultOf_15 (px_5).1 (px_5).2 ?_
    intro r12
    refine ll_iald E (pc := 16) (a := a2) dX5_resultOf_16 (h2).1 (h2).2 ?_
    intro r13
    refine ll_istore E (pc := 17) (lo' := [some (.ref (ad 1)), some (.int a1), some (.ref (ad a2)), some (.int r11), some (.int r13)]) dX5_resultOf_17 (Nat.le_of_ble_eq_true rfl) rfl rfl ?_
    refine ll_aload_n E (pc := 19) dX5_resultOf_19 rfl ?_
    refine ll_getfr E (pc := 20) (o9 := 1) (ci := 6) (k9 := 1) (q := 2) dX5_resultOf_20 fl_X5_62 (Nat.le_of_ble_eq_true rfl) fx_1_1 ?_
    refine ll_iload_n E (pc := 23) dX5_resultOf_23 rfl ?_
    refine ll_iald E (pc := 24) (a := 2) dX5_resultOf_24 (px_2).1 (px_2).2 ?_
    intro r14
    refine ll_ite (fun w0 => ?_) (fun w0 => ?_)
    · refine ll_tabIn E (pc := 25) (tgt := 64) 0 dX5_resultOf_25 (w0.trans kc_0.symm) kt_0 (by decide) (by decide) rfl rfl ?_
      refine ll_aload_n E (pc := 64) dX5_resultOf_64 rfl ?_
      refine ll_getfr E (pc := 65) (o9 := 1) (ci := 6) (k9 := 5) (q := 6) dX5_resultOf_65 fl_X5_74 (Nat.le_of_ble_eq_true rfl) fx_1_5 ?_
      refine ll_iload_n E (pc := 68) dX5_resultOf_68 rfl ?_
      refine ll_iald E (pc := 69) (a := 6) dX5_resultOf_69 (px_6).1 (px_6).2 ?_
      intro r15
      exact ll_ireturn E (pc := 70) hr dX5_resultOf_70
    · skip
      refine ll_ite (fun w1 => ?_) (fun w1 => ?_)
      · refine ll_tabIn E (pc := 25) (tgt := 71) 1 dX5_resultOf_25 (w1.trans kc_1.symm) kt_1 (by decide) (by decide) rfl rfl ?_
        refine ll_iload_n E (pc := 71) dX5_resultOf_71 rfl ?_
        refine ll_iload E (pc := 72) dX5_resultOf_72 rfl ?_
        refine ll_iadd E (pc := 74) dX5_resultOf_74 ?_
        exact ll_ireturn E (pc := 75) hr dX5_resultOf_75
      · skip
        refine ll_ite (fun w2 => ?_) (fun w2 => ?_)
        · refine ll_tabIn E (pc := 25) (tgt := 76) 2 dX5_resultOf_25 (w2.trans kc_2.symm) kt_2 (by decide) (by decide) rfl rfl ?_
          refine ll_iload_n E (pc := 76) dX5_resultOf_76 rfl ?_
          refine ll_iload E (pc := 77) dX5_resultOf_77 rfl ?_
          refine ll_isub E (pc := 79) dX5_resultOf_79 ?_
          exact ll_ireturn E (pc := 80) hr dX5_resultOf_80
        · skip
          refine ll_ite (fun w3 => ?_) (fun w3 => ?_)
          · refine ll_tabIn E (pc := 25) (tgt := 81) 3 dX5_resultOf_25 (w3.trans kc_3.symm) kt_3 (by decide) (by decide) rfl rfl ?_
            refine ll_iload_n E (pc := 81) dX5_resultOf_81 rfl ?_
            refine ll_iload E (pc := 82) dX5_resultOf_82 rfl ?_
            refine ll_imul E (pc := 84) dX5_resultOf_84 ?_
            exact ll_ireturn E (pc := 85) hr dX5_resultOf_85
          · skip
            refine ll_ite (fun w4 => ?_) (fun w4 => ?_)
            · refine ll_tabIn E (pc := 25) (tgt := 86) 4 dX5_resultOf_25 (w4.trans kc_4.symm) kt_4 (by decide) (by decide) rfl rfl ?_
              refine ll_iload_n E (pc := 86) dX5_resultOf_86 rfl ?_
              refine ll_iload E (pc := 87) dX5_resultOf_87 rfl ?_
              refine ll_icmp_lt E (pc := 89) (tgt := 96) dX5_resultOf_89 rfl ?_ ?_
              · refine ll_iload E (pc := 96) dX5_resultOf_96 rfl ?_
                exact ll_ireturn E (pc := 98) hr dX5_resultOf_98
              · refine ll_iload_n E (pc := 92) dX5_resultOf_92 rfl ?_
                refine ll_goto E (pc := 93) (tgt := 98) dX5_resultOf_93 rfl ?_
                exact ll_ireturn E (pc := 98) hr dX5_resultOf_98
            · skip
              refine ll_ite (fun w5 => ?_) (fun w5 => ?_)
              · refine ll_tabIn E (pc := 25) (tgt := 99) 5 dX5_resultOf_25 (w5.trans kc_5.symm) kt_5 (by decide) (by decide) rfl rfl ?_
                refine ll_aload_n E (pc := 99) dX5_resultOf_99 rfl ?_
                refine ll_aload_n E (pc := 100) dX5_resultOf_100 rfl ?_
                refine ll_iload_n E (pc := 101) dX5_resultOf_101 rfl ?_
                refine ll_aload_n E (pc := 102) dX5_resultOf_102 rfl ?_
                refine ll_callSi E (pc := 103) (d := 1) [.ref (ad 1), .int a1, .ref (ad a2)] [.ref (ad a2)] dX5_resultOf_103 cv_X5_65 (fun h => ctX5_cellPlace h2 h) rfl rfl (Nat.le_of_ble_eq_true rfl) ⟨(Nat.le_of_ble_eq_true rfl), (Nat.le_of_ble_eq_true rfl)⟩ ⟨(Nat.le_of_ble_eq_true rfl), (Nat.le_of_ble_eq_true rfl)⟩ ?_
                intro r17 μ16
                refine ll_iald E (pc := 106) (a := a2) dX5_resultOf_106 (h2).1 (h2).2 ?_
                intro r18
                exact ll_ireturn E (pc := 107) hr dX5_resultOf_107
              · skip
                refine ll_tabOut E (pc := 25) (tgt := 108) dX5_resultOf_25 (by have g0 := tab_ne w0 kt0_0; have g1 := tab_ne w1 kt0_1; have g2 := tab_ne w2 kt0_2; have g3 := tab_ne w3 kt0_3; have g4 := tab_ne w4 kt0_4; have g5 := tab_ne w5 kt0_5; omega) rfl ?_
                refine ll_iload E (pc := 108) dX5_resultOf_108 rfl ?_
                exact ll_ireturn E (pc := 110) hr dX5_resultOf_110) hf
theorem dX5_doInOrder_0 : decode cX5_doInOrder 0 = .ok (.aload_n 1, 1) := by decide +kernel
theorem dX5_doInOrder_1 : decode cX5_doInOrder 1 = .ok (.getfield 24, 3) := by decide +kernel
theorem dX5_doInOrder_4 : decode cX5_doInOrder 4 = .ok (.iconst 0, 1) := by decide +kernel
theorem dX5_doInOrder_5 : decode cX5_doInOrder 5 = .ok (.aload_n 3, 1) := by decide +kernel
theorem dX5_doInOrder_6 : decode cX5_doInOrder 6 = .ok (.iconst 0, 1) := by decide +kernel
theorem dX5_doInOrder_7 : decode cX5_doInOrder 7 = .ok (.bipush 24, 2) := by decide +kernel
theorem dX5_doInOrder_9 : decode cX5_doInOrder 9 = .ok (.invokestatic 29, 3) := by decide +kernel
theorem dX5_doInOrder_12 : decode cX5_doInOrder 12 = .ok (.iconst 0, 1) := by decide +kernel
theorem dX5_doInOrder_13 : decode cX5_doInOrder 13 = .ok (.istore 4, 2) := by decide +kernel
theorem dX5_doInOrder_15 : decode cX5_doInOrder 15 = .ok (.iload 4, 2) := by decide +kernel
theorem dX5_doInOrder_17 : decode cX5_doInOrder 17 = .ok (.iload_n 2, 1) := by decide +kernel
theorem dX5_doInOrder_18 : decode cX5_doInOrder 18 = .ok (.if_icmp .ge 47, 3) := by decide +kernel
theorem dX5_doInOrder_21 : decode cX5_doInOrder 21 = .ok (.iconst 0, 1) := by decide +kernel
theorem dX5_doInOrder_22 : decode cX5_doInOrder 22 = .ok (.istore 5, 2) := by decide +kernel
theorem dX5_doInOrder_24 : decode cX5_doInOrder 24 = .ok (.iload 5, 2) := by decide +kernel
theorem dX5_doInOrder_26 : decode cX5_doInOrder 26 = .ok (.aload_n 1, 1) := by decide +kernel
theorem dX5_doInOrder_27 : decode cX5_doInOrder 27 = .ok (.getfield 35, 3) := by decide +kernel
theorem dX5_doInOrder_30 : decode cX5_doInOrder 30 = .ok (.if_icmp .ge 29, 3) := by decide +kernel
theorem dX5_doInOrder_33 : decode cX5_doInOrder 33 = .ok (.aload_n 1, 1) := by decide +kernel
theorem dX5_doInOrder_34 : decode cX5_doInOrder 34 = .ok (.iload 5, 2) := by decide +kernel
theorem dX5_doInOrder_36 : decode cX5_doInOrder 36 = .ok (.aload_n 3, 1) := by decide +kernel
theorem dX5_doInOrder_37 : decode cX5_doInOrder 37 = .ok (.invokestatic 39, 3) := by decide +kernel
theorem dX5_doInOrder_40 : decode cX5_doInOrder 40 = .ok (.istore 6, 2) := by decide +kernel
theorem dX5_doInOrder_42 : decode cX5_doInOrder 42 = .ok (.aload_n 3, 1) := by decide +kernel
theorem dX5_doInOrder_43 : decode cX5_doInOrder 43 = .ok (.iload 6, 2) := by decide +kernel
theorem dX5_doInOrder_45 : decode cX5_doInOrder 45 = .ok (.aload_n 1, 1) := by decide +kernel
theorem dX5_doInOrder_46 : decode cX5_doInOrder 46 = .ok (.iload 5, 2) := by decide +kernel
theorem dX5_doInOrder_48 : decode cX5_doInOrder 48 = .ok (.aload_n 3, 1) := by decide +kernel
theorem dX5_doInOrder_49 : decode cX5_doInOrder 49 = .ok (.invokestatic 43, 3) := by decide +kernel
theorem dX5_doInOrder_52 : decode cX5_doInOrder 52 = .ok (.iastore, 1) := by decide +kernel
theorem dX5_doInOrder_53 : decode cX5_doInOrder 53 = .ok (.iinc 5 1, 3) := by decide +kernel
theorem dX5_doInOrder_56 : decode cX5_doInOrder 56 = .ok (.goto (-32), 3) := by decide +kernel
theorem dX5_doInOrder_59 : decode cX5_doInOrder 59 = .ok (.iinc 4 1, 3) := by decide +kernel
theorem dX5_doInOrder_62 : decode cX5_doInOrder 62 = .ok (.goto (-47), 3) := by decide +kernel
theorem dX5_doInOrder_65 : decode cX5_doInOrder 65 = .ok (.return_, 1) := by decide +kernel
def fX5_doInOrder_L24 (a3 : Nat) (K15 : Int32 → Int32 → Mem → Option (Unit × Mem)) : Nat → Int32 → Int32 → Int32 → Mem → Option (Unit × Mem)
  | 0, _, _, _, _ => none
  | n + 1, v2, v4, v5, μ =>   if (μ 1 0) ≤ v5 then
  K15 v2 (v4 + (1 : Int32)) μ
  else
  bd (fX5_placeOf μ v5 a3) fun r8 μ7 =>
  bd (fX5_resultOf μ7 v5 a3) fun r10 μ9 =>
  (ast 24 μ9 a3 r8 r10).bind fun μ11 =>
  fX5_doInOrder_L24 a3 K15 n v2 v4 (v5 + (1 : Int32)) μ11
def fX5_doInOrder_L15 (a3 : Nat) : Nat → Int32 → Int32 → Mem → Option (Unit × Mem)
  | 0, _, _, _ => none
  | n + 1, v2, v4, μ =>   if v2 ≤ v4 then
  some ((), μ)
  else
  fX5_doInOrder_L24 a3 (fX5_doInOrder_L15 a3 n) fu v2 v4 (0 : Int32) μ
def fX5_doInOrder (μ : Mem) (a2 : Int32) (a3 : Nat) : Option (Unit × Mem) :=
  (acp 24 24 μ 8 (0 : Int32) a3 (0 : Int32) (24 : Int32)).bind fun μ12 =>
  fX5_doInOrder_L15 a3 fu a2 (0 : Int32) μ12
theorem kX5_doInOrder_L24 {p : Program} {l : Launch} {e : Env} {s : State} {m : MethodId} {args : Array Value} {below : List Frame} {meth : Method} {c : Code} {D : va_G} {cI cR : ClassId} {ad : Nat → Nat} {A0 : Nat → Prop} (E : EV p s m args meth c cX5_doInOrder 7 RX5 D cI cR ad shX NX A0) (hr : meth.sig.returnType = none) {a3 : Nat} (h3 : Pa shX NX 24 a3) {K15 : Int32 → Int32 → Mem → Option (Unit × Mem)} (hK15 : ∀ (v2 : Int32) (v4 : Int32) (μ : Mem), LL p l e (RM 3) s m args below meth c 7 D cI cR ad shX NX A0 (fun (r : Unit) μ' => KG below args s D cI cR ad shX NX A0 none μ') (K15 v2 v4 μ) 0 0 15 [none, some (.ref (ad 1)), some (.int v2), some (.ref (ad a3)), some (.int v4), none, none] [] μ) (n : Nat) : ∀ (v2 : Int32) (v4 : Int32) (v5 : Int32) (μ : Mem), LL p l e (RM 3) s m args below meth c 7 D cI cR ad shX NX A0 (fun (r : Unit) μ' => KG below args s D cI cR ad shX NX A0 none μ') (fX5_doInOrder_L24 a3 K15 n v2 v4 v5 μ) 0 0 24 [none, some (.ref (ad 1)), some (.int v2), some (.ref (ad a3)), some (.int v4), some (.int v5), none] [] μ := by
  induction n with
  | zero =>
    intros
    exact ll_none
  | succ n ih =>
    intro v2 v4 v5 μ
    rw [fX5_doInOrder_L24]
    refine ll_iload E (pc := 24) dX5_doInOrder_24 rfl ?_
    refine ll_aload_n E (pc := 26) dX5_doInOrder_26 rfl ?_
    refine ll_getf E (pc := 27) (o9 := 1) (ci := 6) (k9 := 0) dX5_doInOrder_27 fl_X5_35 (Nat.le_of_ble_eq_true rfl) fx_1_0 ?_
    refine ll_icmp_ge E (pc := 30) (tgt := 59) dX5_doInOrder_30 rfl ?_ ?_
    · refine ll_iinc E (pc := 59) (lo' := [none, some (.ref (ad 1)), some (.int v2), some (.ref (ad a3)), some (.int (v4 + (1 : Int32))), some (.int v5), none]) dX5_doInOrder_59 rfl kc_1 (Nat.le_of_ble_eq_true rfl) rfl rfl ?_
      refine ll_goto E (pc := 62) (tgt := 15) dX5_doInOrder_62 rfl ?_
      exact ll_lo (lo' := [none, some (.ref (ad 1)), some (.int v2), some (.ref (ad a3)), some (.int (v4 + (1 : Int32))), none, none]) ⟨rfl, rfl, rfl, rfl, trivial⟩ (hK15 v2 (v4 + (1 : Int32)) μ)
    · refine ll_aload_n E (pc := 33) dX5_doInOrder_33 rfl ?_
      refine ll_iload E (pc := 34) dX5_doInOrder_34 rfl ?_
      refine ll_aload_n E (pc := 36) dX5_doInOrder_36 rfl ?_
      refine ll_callSi E (pc := 37) (d := 2) [.ref (ad 1), .int v5, .ref (ad a3)] [] dX5_doInOrder_37 cv_X5_39 (fun h => ctX5_placeOf h3 h) rfl rfl (Nat.le_of_ble_eq_true rfl) ⟨(Nat.le_of_ble_eq_true rfl), (Nat.le_of_ble_eq_true rfl)⟩ ⟨(Nat.le_of_ble_eq_true rfl), (Nat.le_of_ble_eq_true rfl)⟩ ?_
      intro r8 μ7
      refine ll_istore E (pc := 40) (lo' := [none, some (.ref (ad 1)), some (.int v2), some (.ref (ad a3)), some (.int v4), some (.int v5), some (.int r8)]) dX5_doInOrder_40 (Nat.le_of_ble_eq_true rfl) rfl rfl ?_
      refine ll_aload_n E (pc := 42) dX5_doInOrder_42 rfl ?_
      refine ll_iload E (pc := 43) dX5_doInOrder_43 rfl ?_
      refine ll_aload_n E (pc := 45) dX5_doInOrder_45 rfl ?_
      refine ll_iload E (pc := 46) dX5_doInOrder_46 rfl ?_
      refine ll_aload_n E (pc := 48) dX5_doInOrder_48 rfl ?_
      refine ll_callSi E (pc := 49) (d := 2) [.ref (ad 1), .int v5, .ref (ad a3)] [.int r8, .ref (ad a3)] dX5_doInOrder_49 cv_X5_43 (fun h => ctX5_resultOf h3 h) rfl rfl (Nat.le_of_ble_eq_true rfl) ⟨(Nat.le_of_ble_eq_true rfl), (Nat.le_of_ble_eq_true rfl)⟩ ⟨(Nat.le_of_ble_eq_true rfl), (Nat.le_of_ble_eq_true rfl)⟩ ?_
      intro r10 μ9
      refine ll_iast E (pc := 52) (a := a3) dX5_doInOrder_52 (h3).1 (h3).2 ?_
      intro μ11
      refine ll_iinc E (pc := 53) (lo' := [none, some (.ref (ad 1)), some (.int v2), some (.ref (ad a3)), some (.int v4), some (.int (v5 + (1 : Int32))), some (.int r8)]) dX5_doInOrder_53 rfl kc_1 (Nat.le_of_ble_eq_true rfl) rfl rfl ?_
      refine ll_goto E (pc := 56) (tgt := 24) dX5_doInOrder_56 rfl ?_
      exact ll_lo (lo' := [none, some (.ref (ad 1)), some (.int v2), some (.ref (ad a3)), some (.int v4), some (.int (v5 + (1 : Int32))), none]) ⟨rfl, rfl, rfl, rfl, rfl, trivial⟩ (ih v2 v4 (v5 + (1 : Int32)) μ11)
theorem kX5_doInOrder_L15 {p : Program} {l : Launch} {e : Env} {s : State} {m : MethodId} {args : Array Value} {below : List Frame} {meth : Method} {c : Code} {D : va_G} {cI cR : ClassId} {ad : Nat → Nat} {A0 : Nat → Prop} (E : EV p s m args meth c cX5_doInOrder 7 RX5 D cI cR ad shX NX A0) (hr : meth.sig.returnType = none) {a3 : Nat} (h3 : Pa shX NX 24 a3) (n : Nat) : ∀ (v2 : Int32) (v4 : Int32) (μ : Mem), LL p l e (RM 3) s m args below meth c 7 D cI cR ad shX NX A0 (fun (r : Unit) μ' => KG below args s D cI cR ad shX NX A0 none μ') (fX5_doInOrder_L15 a3 n v2 v4 μ) 0 0 15 [none, some (.ref (ad 1)), some (.int v2), some (.ref (ad a3)), some (.int v4), none, none] [] μ := by
  induction n with
  | zero =>
    intros
    exact ll_none
  | succ n ih =>
    intro v2 v4 μ
    rw [fX5_doInOrder_L15]
    refine ll_iload E (pc := 15) dX5_doInOrder_15 rfl ?_
    refine ll_iload_n E (pc := 17) dX5_doInOrder_17 rfl ?_
    refine ll_icmp_ge E (pc := 18) (tgt := 65) dX5_doInOrder_18 rfl ?_ ?_
    · exact ll_return E (pc := 65) hr dX5_doInOrder_65
    · refine ll_iconst E (pc := 21) dX5_doInOrder_21 kc_0 ?_
      refine ll_istore E (pc := 22) (lo' := [none, some (.ref (ad 1)), some (.int v2), some (.ref (ad a3)), some (.int v4), some (.int (0 : Int32)), none]) dX5_doInOrder_22 (Nat.le_of_ble_eq_true rfl) rfl rfl ?_
      exact ll_lo (lo' := [none, some (.ref (ad 1)), some (.int v2), some (.ref (ad a3)), some (.int v4), some (.int (0 : Int32)), none]) ⟨rfl, rfl, rfl, rfl, rfl, trivial⟩ (kX5_doInOrder_L24 E hr h3 ih fu v2 v4 (0 : Int32) μ)
theorem ctX5_doInOrder {l : Launch} {D : va_G} {cI cR : ClassId} {ad : Nat → Nat} {μ : Mem} {a2 : Int32} {a3 : Nat} (h3 : Pa shX NX 24 a3) {r : Unit} {μ' : Mem} (hf : fX5_doInOrder μ a2 a3 = some (r, μ')) : CT l yX5_doInOrder cX5_doInOrder 7 none 3 D cI cR ad shX NX [.ref (ad 92), .ref (ad 1), .int a2, .ref (ad a3)] μ none μ' :=
  ct_of (own := RX5) (ov := fun _ => none) (by decide +kernel) rfl (Nat.le_of_ble_eq_true rfl) (fun p e s m below meth c A0 E hr => by
    refine ll_lo (lo' := [some (.ref (ad 92)), some (.ref (ad 1)), some (.int a2), some (.ref (ad a3)), none, none, none]) ⟨rfl, rfl, rfl, rfl, trivial⟩ ?_
    rw [fX5_doInOrder]
    refine ll_aload_n E (pc := 0) dX5_doInOrder_0 rfl ?_
    refine ll_getfr E (pc := 1) (o9 := 1) (ci := 6) (k9 := 7) (q := 8) dX5_doInOrder_1 fl_X5_24 (Nat.le_of_ble_eq_true rfl) fx_1_7 ?_
    refine ll_iconst E (pc := 4) dX5_doInOrder_4 kc_0 ?_
    refine ll_aload_n E (pc := 5) dX5_doInOrder_5 rfl ?_
    refine ll_iconst E (pc := 6) dX5_doInOrder_6 kc_0 ?_
    refine ll_bipush E (pc := 7) dX5_doInOrder_7 kb_24 ?_
    refine ll_acopy E (pc := 9) (a0 := 8) (a1 := a3) dX5_doInOrder_9 mw_X5_29 mw_ac1 mw_ac2 mw_sys (px_8).1 (h3).1 (px_8).2 (h3).2 (Nat.le_of_ble_eq_true rfl) ⟨(Nat.le_of_ble_eq_true rfl), (Nat.le_of_ble_eq_true rfl)⟩ ?_
    intro μ12
    refine ll_iconst E (pc := 12) dX5_doInOrder_12 kc_0 ?_
    refine ll_istore E (pc := 13) (lo' := [some (.ref (ad 92)), some (.ref (ad 1)), some (.int a2), some (.ref (ad a3)), some (.int (0 : Int32)), none, none]) dX5_doInOrder_13 (Nat.le_of_ble_eq_true rfl) rfl rfl ?_
    exact ll_lo (lo' := [none, some (.ref (ad 1)), some (.int a2), some (.ref (ad a3)), some (.int (0 : Int32)), none, none]) ⟨rfl, rfl, rfl, rfl, trivial⟩ (kX5_doInOrder_L15 E hr h3 fu a2 (0 : Int32) μ12)) hf
theorem dX5_roundOf_0 : decode cX5_roundOf 0 = .ok (.iload_n 0, 1) := by decide +kernel
theorem dX5_roundOf_1 : decode cX5_roundOf 1 = .ok (.ifCond .lt 14, 3) := by decide +kernel
theorem dX5_roundOf_4 : decode cX5_roundOf 4 = .ok (.iload_n 1, 1) := by decide +kernel
theorem dX5_roundOf_5 : decode cX5_roundOf 5 = .ok (.iconst 1, 1) := by decide +kernel
theorem dX5_roundOf_6 : decode cX5_roundOf 6 = .ok (.if_icmp .lt 9, 3) := by decide +kernel
theorem dX5_roundOf_9 : decode cX5_roundOf 9 = .ok (.iload_n 0, 1) := by decide +kernel
theorem dX5_roundOf_10 : decode cX5_roundOf 10 = .ok (.iload_n 1, 1) := by decide +kernel
theorem dX5_roundOf_11 : decode cX5_roundOf 11 = .ok (.irem, 1) := by decide +kernel
theorem dX5_roundOf_12 : decode cX5_roundOf 12 = .ok (.ifCond .eq 5, 3) := by decide +kernel
theorem dX5_roundOf_15 : decode cX5_roundOf 15 = .ok (.iconst (-1), 1) := by decide +kernel
theorem dX5_roundOf_16 : decode cX5_roundOf 16 = .ok (.ireturn, 1) := by decide +kernel
theorem dX5_roundOf_17 : decode cX5_roundOf 17 = .ok (.iload_n 0, 1) := by decide +kernel
theorem dX5_roundOf_18 : decode cX5_roundOf 18 = .ok (.iload_n 1, 1) := by decide +kernel
theorem dX5_roundOf_19 : decode cX5_roundOf 19 = .ok (.idiv, 1) := by decide +kernel
theorem dX5_roundOf_20 : decode cX5_roundOf 20 = .ok (.istore_n 3, 1) := by decide +kernel
theorem dX5_roundOf_21 : decode cX5_roundOf 21 = .ok (.iload_n 3, 1) := by decide +kernel
theorem dX5_roundOf_22 : decode cX5_roundOf 22 = .ok (.iload_n 2, 1) := by decide +kernel
theorem dX5_roundOf_23 : decode cX5_roundOf 23 = .ok (.if_icmp .ge 13, 3) := by decide +kernel
theorem dX5_roundOf_26 : decode cX5_roundOf 26 = .ok (.iload_n 3, 1) := by decide +kernel
theorem dX5_roundOf_27 : decode cX5_roundOf 27 = .ok (.bipush 20, 2) := by decide +kernel
theorem dX5_roundOf_29 : decode cX5_roundOf 29 = .ok (.if_icmp .ge 7, 3) := by decide +kernel
theorem dX5_roundOf_32 : decode cX5_roundOf 32 = .ok (.iload_n 3, 1) := by decide +kernel
theorem dX5_roundOf_33 : decode cX5_roundOf 33 = .ok (.goto 4, 3) := by decide +kernel
theorem dX5_roundOf_36 : decode cX5_roundOf 36 = .ok (.iconst (-1), 1) := by decide +kernel
theorem dX5_roundOf_37 : decode cX5_roundOf 37 = .ok (.ireturn, 1) := by decide +kernel
def fX5_roundOf (μ : Mem) (a0 : Int32) (a1 : Int32) (a2 : Int32) : Option (Int32 × Mem) :=
  if a0 < 0 then
  some ((-1 : Int32), μ)
  else
  if a1 < (1 : Int32) then
  some ((-1 : Int32), μ)
  else
  (rmd a0 a1).bind fun r3 =>
  if r3 = 0 then
  (dv a0 a1).bind fun r4 =>
  if a2 ≤ r4 then
  some ((-1 : Int32), μ)
  else
  if (20 : Int32) ≤ r4 then
  some ((-1 : Int32), μ)
  else
  some (r4, μ)
  else
  some ((-1 : Int32), μ)
theorem ctX5_roundOf {l : Launch} {D : va_G} {cI cR : ClassId} {ad : Nat → Nat} {μ : Mem} {a0 : Int32} {a1 : Int32} {a2 : Int32} {r : Int32} {μ' : Mem} (hf : fX5_roundOf μ a0 a1 a2 = some (r, μ')) : CT l yX5_roundOf cX5_roundOf 4 (some .int) 0 D cI cR ad shX NX [.int a0, .int a1, .int a2] μ (some (.int r)) μ' :=
  ct_of (own := RX5) (ov := fun r => some (.int r)) (by decide +kernel) rfl (Nat.le_of_ble_eq_true rfl) (fun p e s m below meth c A0 E hr => by
    refine ll_lo (lo' := [some (.int a0), some (.int a1), some (.int a2), none]) ⟨rfl, rfl, rfl, trivial⟩ ?_
    rw [fX5_roundOf]
    refine ll_iload_n E (pc := 0) dX5_roundOf_0 rfl ?_
    refine ll_if_lt E (pc := 1) (tgt := 15) dX5_roundOf_1 rfl ?_ ?_
    · refine ll_iconst E (pc := 15) dX5_roundOf_15 kc_m1 ?_
      exact ll_ireturn E (pc := 16) hr dX5_roundOf_16
    · refine ll_iload_n E (pc := 4) dX5_roundOf_4 rfl ?_
      refine ll_iconst E (pc := 5) dX5_roundOf_5 kc_1 ?_
      refine ll_icmp_lt E (pc := 6) (tgt := 15) dX5_roundOf_6 rfl ?_ ?_
      · refine ll_iconst E (pc := 15) dX5_roundOf_15 kc_m1 ?_
        exact ll_ireturn E (pc := 16) hr dX5_roundOf_16
      · refine ll_iload_n E (pc := 9) dX5_roundOf_9 rfl ?_
        refine ll_iload_n E (pc := 10) dX5_roundOf_10 rfl ?_
        refine ll_irem E (pc := 11) dX5_roundOf_11 ?_
        intro r3
        refine ll_if_eq E (pc := 12) (tgt := 17) dX5_roundOf_12 rfl ?_ ?_
        · refine ll_iload_n E (pc := 17) dX5_roundOf_17 rfl ?_
          refine ll_iload_n E (pc := 18) dX5_roundOf_18 rfl ?_
          refine ll_idiv E (pc := 19) dX5_roundOf_19 ?_
          intro r4
          refine ll_istore_n E (pc := 20) (lo' := [some (.int a0), some (.int a1), some (.int a2), some (.int r4)]) dX5_roundOf_20 (Nat.le_of_ble_eq_true rfl) rfl rfl ?_
          refine ll_iload_n E (pc := 21) dX5_roundOf_21 rfl ?_
          refine ll_iload_n E (pc := 22) dX5_roundOf_22 rfl ?_
          refine ll_icmp_ge E (pc := 23) (tgt := 36) dX5_roundOf_23 rfl ?_ ?_
          · refine ll_iconst E (pc := 36) dX5_roundOf_36 kc_m1 ?_
            exact ll_ireturn E (pc := 37) hr dX5_roundOf_37
          · refine ll_iload_n E (pc := 26) dX5_roundOf_26 rfl ?_
            refine ll_bipush E (pc := 27) dX5_roundOf_27 kb_20 ?_
            refine ll_icmp_ge E (pc := 29) (tgt := 36) dX5_roundOf_29 rfl ?_ ?_
            · refine ll_iconst E (pc := 36) dX5_roundOf_36 kc_m1 ?_
              exact ll_ireturn E (pc := 37) hr dX5_roundOf_37
            · refine ll_iload_n E (pc := 32) dX5_roundOf_32 rfl ?_
              refine ll_goto E (pc := 33) (tgt := 37) dX5_roundOf_33 rfl ?_
              exact ll_ireturn E (pc := 37) hr dX5_roundOf_37
        · refine ll_iconst E (pc := 15) dX5_roundOf_15 kc_m1 ?_
          exact ll_ireturn E (pc := 16) hr dX5_roundOf_16) hf
theorem dX5_land_0 : decode cX5_land 0 = .ok (.iload_n 2, 1) := by decide +kernel
theorem dX5_land_1 : decode cX5_land 1 = .ok (.iconst (-1), 1) := by decide +kernel
theorem dX5_land_2 : decode cX5_land 2 = .ok (.if_icmp .ne 4, 3) := by decide +kernel
theorem dX5_land_5 : decode cX5_land 5 = .ok (.return_, 1) := by decide +kernel
theorem dX5_land_6 : decode cX5_land 6 = .ok (.aload_n 0, 1) := by decide +kernel
theorem dX5_land_7 : decode cX5_land 7 = .ok (.getfield 15, 3) := by decide +kernel
theorem dX5_land_10 : decode cX5_land 10 = .ok (.iload_n 1, 1) := by decide +kernel
theorem dX5_land_11 : decode cX5_land 11 = .ok (.bipush 20, 2) := by decide +kernel
theorem dX5_land_13 : decode cX5_land 13 = .ok (.imul, 1) := by decide +kernel
theorem dX5_land_14 : decode cX5_land 14 = .ok (.iload_n 2, 1) := by decide +kernel
theorem dX5_land_15 : decode cX5_land 15 = .ok (.iadd, 1) := by decide +kernel
theorem dX5_land_16 : decode cX5_land 16 = .ok (.iaload, 1) := by decide +kernel
theorem dX5_land_17 : decode cX5_land 17 = .ok (.istore 5, 2) := by decide +kernel
theorem dX5_land_19 : decode cX5_land 19 = .ok (.aload_n 0, 1) := by decide +kernel
theorem dX5_land_20 : decode cX5_land 20 = .ok (.getfield 18, 3) := by decide +kernel
theorem dX5_land_23 : decode cX5_land 23 = .ok (.iload 5, 2) := by decide +kernel
theorem dX5_land_25 : decode cX5_land 25 = .ok (.iaload, 1) := by decide +kernel
theorem dX5_land_26 : decode cX5_land 26 = .ok (.iload_n 3, 1) := by decide +kernel
theorem dX5_land_27 : decode cX5_land 27 = .ok (.if_icmp .ne 15, 3) := by decide +kernel
theorem dX5_land_30 : decode cX5_land 30 = .ok (.aload_n 0, 1) := by decide +kernel
theorem dX5_land_31 : decode cX5_land 31 = .ok (.getfield 21, 3) := by decide +kernel
theorem dX5_land_34 : decode cX5_land 34 = .ok (.iload 5, 2) := by decide +kernel
theorem dX5_land_36 : decode cX5_land 36 = .ok (.iaload, 1) := by decide +kernel
theorem dX5_land_37 : decode cX5_land 37 = .ok (.iload_n 2, 1) := by decide +kernel
theorem dX5_land_38 : decode cX5_land 38 = .ok (.if_icmp .le 4, 3) := by decide +kernel
theorem dX5_land_41 : decode cX5_land 41 = .ok (.return_, 1) := by decide +kernel
theorem dX5_land_42 : decode cX5_land 42 = .ok (.aload_n 0, 1) := by decide +kernel
theorem dX5_land_43 : decode cX5_land 43 = .ok (.getfield 18, 3) := by decide +kernel
theorem dX5_land_46 : decode cX5_land 46 = .ok (.iload 5, 2) := by decide +kernel
theorem dX5_land_48 : decode cX5_land 48 = .ok (.iload_n 3, 1) := by decide +kernel
theorem dX5_land_49 : decode cX5_land 49 = .ok (.iastore, 1) := by decide +kernel
theorem dX5_land_50 : decode cX5_land 50 = .ok (.aload_n 0, 1) := by decide +kernel
theorem dX5_land_51 : decode cX5_land 51 = .ok (.getfield 21, 3) := by decide +kernel
theorem dX5_land_54 : decode cX5_land 54 = .ok (.iload 5, 2) := by decide +kernel
theorem dX5_land_56 : decode cX5_land 56 = .ok (.iload_n 2, 1) := by decide +kernel
theorem dX5_land_57 : decode cX5_land 57 = .ok (.iastore, 1) := by decide +kernel
theorem dX5_land_58 : decode cX5_land 58 = .ok (.aload 4, 2) := by decide +kernel
theorem dX5_land_60 : decode cX5_land 60 = .ok (.iload 5, 2) := by decide +kernel
theorem dX5_land_62 : decode cX5_land 62 = .ok (.aload_n 0, 1) := by decide +kernel
theorem dX5_land_63 : decode cX5_land 63 = .ok (.getfield 9, 3) := by decide +kernel
theorem dX5_land_66 : decode cX5_land 66 = .ok (.iload_n 1, 1) := by decide +kernel
theorem dX5_land_67 : decode cX5_land 67 = .ok (.bipush 20, 2) := by decide +kernel
theorem dX5_land_69 : decode cX5_land 69 = .ok (.imul, 1) := by decide +kernel
theorem dX5_land_70 : decode cX5_land 70 = .ok (.iload_n 2, 1) := by decide +kernel
theorem dX5_land_71 : decode cX5_land 71 = .ok (.iadd, 1) := by decide +kernel
theorem dX5_land_72 : decode cX5_land 72 = .ok (.iaload, 1) := by decide +kernel
theorem dX5_land_73 : decode cX5_land 73 = .ok (.iastore, 1) := by decide +kernel
theorem dX5_land_74 : decode cX5_land 74 = .ok (.return_, 1) := by decide +kernel
def fX5_land_L42 (a4 : Nat) (v1 : Int32) (v2 : Int32) (v3 : Int32) (v5 : Int32) (μ : Mem) : Option (Unit × Mem) :=
  (ast 24 μ 95 v5 v3).bind fun μ8 =>
  (ast 24 μ8 96 v5 v2).bind fun μ9 =>
  (ld 400 (μ9 93) ((v1 * (20 : Int32)) + v2)).bind fun r10 =>
  (ast 24 μ9 a4 v5 r10).bind fun μ11 =>
  some ((), μ11)
def fX5_land (μ : Mem) (a1 : Int32) (a2 : Int32) (a3 : Int32) (a4 : Nat) : Option (Unit × Mem) :=
  if a2 = (-1 : Int32) then
  some ((), μ)
  else
  (ld 400 (μ 94) ((a1 * (20 : Int32)) + a2)).bind fun r12 =>
  (ld 24 (μ 95) r12).bind fun r13 =>
  if r13 = a3 then
  (ld 24 (μ 96) r12).bind fun r14 =>
  if r14 ≤ a2 then
  fX5_land_L42 a4 a1 a2 a3 r12 μ
  else
  some ((), μ)
  else
  fX5_land_L42 a4 a1 a2 a3 r12 μ
theorem kX5_land_L42 {p : Program} {l : Launch} {e : Env} {s : State} {m : MethodId} {args : Array Value} {below : List Frame} {meth : Method} {c : Code} {D : va_G} {cI cR : ClassId} {ad : Nat → Nat} {A0 : Nat → Prop} (E : EV p s m args meth c cX5_land 6 RX5 D cI cR ad shX NX A0) (hr : meth.sig.returnType = none) {a4 : Nat} (h4 : Pa shX NX 24 a4) (v1 : Int32) (v2 : Int32) (v3 : Int32) (v5 : Int32) (μ : Mem) : LL p l e (RM 0) s m args below meth c 6 D cI cR ad shX NX A0 (fun (r : Unit) μ' => KG below args s D cI cR ad shX NX A0 none μ') (fX5_land_L42 a4 v1 v2 v3 v5 μ) 0 0 42 [some (.ref (ad 92)), some (.int v1), some (.int v2), some (.int v3), some (.ref (ad a4)), some (.int v5)] [] μ := by
  rw [fX5_land_L42]
  refine ll_aload_n E (pc := 42) dX5_land_42 rfl ?_
  refine ll_getfr E (pc := 43) (o9 := 92) (ci := 5) (k9 := 2) (q := 95) dX5_land_43 fl_X5_18 (Nat.le_of_ble_eq_true rfl) fx_92_2 ?_
  refine ll_iload E (pc := 46) dX5_land_46 rfl ?_
  refine ll_iload_n E (pc := 48) dX5_land_48 rfl ?_
  refine ll_iast E (pc := 49) (a := 95) dX5_land_49 (px_95).1 (px_95).2 ?_
  intro μ8
  refine ll_aload_n E (pc := 50) dX5_land_50 rfl ?_
  refine ll_getfr E (pc := 51) (o9 := 92) (ci := 5) (k9 := 3) (q := 96) dX5_land_51 fl_X5_21 (Nat.le_of_ble_eq_true rfl) fx_92_3 ?_
  refine ll_iload E (pc := 54) dX5_land_54 rfl ?_
  refine ll_iload_n E (pc := 56) dX5_land_56 rfl ?_
  refine ll_iast E (pc := 57) (a := 96) dX5_land_57 (px_96).1 (px_96).2 ?_
  intro μ9
  refine ll_aload E (pc := 58) dX5_land_58 rfl ?_
  refine ll_iload E (pc := 60) dX5_land_60 rfl ?_
  refine ll_aload_n E (pc := 62) dX5_land_62 rfl ?_
  refine ll_getfr E (pc := 63) (o9 := 92) (ci := 5) (k9 := 0) (q := 93) dX5_land_63 fl_X5_9 (Nat.le_of_ble_eq_true rfl) fx_92_0 ?_
  refine ll_iload_n E (pc := 66) dX5_land_66 rfl ?_
  refine ll_bipush E (pc := 67) dX5_land_67 kb_20 ?_
  refine ll_imul E (pc := 69) dX5_land_69 ?_
  refine ll_iload_n E (pc := 70) dX5_land_70 rfl ?_
  refine ll_iadd E (pc := 71) dX5_land_71 ?_
  refine ll_iald E (pc := 72) (a := 93) dX5_land_72 (px_93).1 (px_93).2 ?_
  intro r10
  refine ll_iast E (pc := 73) (a := a4) dX5_land_73 (h4).1 (h4).2 ?_
  intro μ11
  exact ll_return E (pc := 74) hr dX5_land_74
theorem ctX5_land {l : Launch} {D : va_G} {cI cR : ClassId} {ad : Nat → Nat} {μ : Mem} {a1 : Int32} {a2 : Int32} {a3 : Int32} {a4 : Nat} (h4 : Pa shX NX 24 a4) {r : Unit} {μ' : Mem} (hf : fX5_land μ a1 a2 a3 a4 = some (r, μ')) : CT l yX5_land cX5_land 6 none 0 D cI cR ad shX NX [.ref (ad 92), .int a1, .int a2, .int a3, .ref (ad a4)] μ none μ' :=
  ct_of (own := RX5) (ov := fun _ => none) (by decide +kernel) rfl (Nat.le_of_ble_eq_true rfl) (fun p e s m below meth c A0 E hr => by
    refine ll_lo (lo' := [some (.ref (ad 92)), some (.int a1), some (.int a2), some (.int a3), some (.ref (ad a4)), none]) ⟨rfl, rfl, rfl, rfl, rfl, trivial⟩ ?_
    rw [fX5_land]
    refine ll_iload_n E (pc := 0) dX5_land_0 rfl ?_
    refine ll_iconst E (pc := 1) dX5_land_1 kc_m1 ?_
    refine ll_icmp_ne E (pc := 2) (tgt := 6) dX5_land_2 rfl ?_ ?_
    · refine ll_aload_n E (pc := 6) dX5_land_6 rfl ?_
      refine ll_getfr E (pc := 7) (o9 := 92) (ci := 5) (k9 := 1) (q := 94) dX5_land_7 fl_X5_15 (Nat.le_of_ble_eq_true rfl) fx_92_1 ?_
      refine ll_iload_n E (pc := 10) dX5_land_10 rfl ?_
      refine ll_bipush E (pc := 11) dX5_land_11 kb_20 ?_
      refine ll_imul E (pc := 13) dX5_land_13 ?_
      refine ll_iload_n E (pc := 14) dX5_land_14 rfl ?_
      refine ll_iadd E (pc := 15) dX5_land_15 ?_
      refine ll_iald E (pc := 16) (a := 94) dX5_land_16 (px_94).1 (px_94).2 ?_
      intro r12
      refine ll_istore E (pc := 17) (lo' := [some (.ref (ad 92)), some (.int a1), some (.int a2), some (.int a3), some (.ref (ad a4)), some (.int r12)]) dX5_land_17 (Nat.le_of_ble_eq_true rfl) rfl rfl ?_
      refine ll_aload_n E (pc := 19) dX5_land_19 rfl ?_
      refine ll_getfr E (pc := 20) (o9 := 92) (ci := 5) (k9 := 2) (q := 95) dX5_land_20 fl_X5_18 (Nat.le_of_ble_eq_true rfl) fx_92_2 ?_
      refine ll_iload E (pc := 23) dX5_land_23 rfl ?_
      refine ll_iald E (pc := 25) (a := 95) dX5_land_25 (px_95).1 (px_95).2 ?_
      intro r13
      refine ll_iload_n E (pc := 26) dX5_land_26 rfl ?_
      refine ll_icmp_ne E (pc := 27) (tgt := 42) dX5_land_27 rfl ?_ ?_
      · exact ll_lo (lo' := [some (.ref (ad 92)), some (.int a1), some (.int a2), some (.int a3), some (.ref (ad a4)), some (.int r12)]) ⟨rfl, rfl, rfl, rfl, rfl, rfl, trivial⟩ (kX5_land_L42 E hr h4 a1 a2 a3 r12 μ)
      · refine ll_aload_n E (pc := 30) dX5_land_30 rfl ?_
        refine ll_getfr E (pc := 31) (o9 := 92) (ci := 5) (k9 := 3) (q := 96) dX5_land_31 fl_X5_21 (Nat.le_of_ble_eq_true rfl) fx_92_3 ?_
        refine ll_iload E (pc := 34) dX5_land_34 rfl ?_
        refine ll_iald E (pc := 36) (a := 96) dX5_land_36 (px_96).1 (px_96).2 ?_
        intro r14
        refine ll_iload_n E (pc := 37) dX5_land_37 rfl ?_
        refine ll_icmp_le E (pc := 38) (tgt := 42) dX5_land_38 rfl ?_ ?_
        · exact ll_lo (lo' := [some (.ref (ad 92)), some (.int a1), some (.int a2), some (.int a3), some (.ref (ad a4)), some (.int r12)]) ⟨rfl, rfl, rfl, rfl, rfl, rfl, trivial⟩ (kX5_land_L42 E hr h4 a1 a2 a3 r12 μ)
        · exact ll_return E (pc := 41) hr dX5_land_41
    · exact ll_return E (pc := 5) hr dX5_land_5) hf
theorem dX5_begin_0 : decode cX5_begin 0 = .ok (.iload_n 3, 1) := by decide +kernel
theorem dX5_begin_1 : decode cX5_begin 1 = .ok (.iconst (-1), 1) := by decide +kernel
theorem dX5_begin_2 : decode cX5_begin 2 = .ok (.if_icmp .ne 4, 3) := by decide +kernel
theorem dX5_begin_5 : decode cX5_begin 5 = .ok (.return_, 1) := by decide +kernel
theorem dX5_begin_6 : decode cX5_begin 6 = .ok (.aload_n 0, 1) := by decide +kernel
theorem dX5_begin_7 : decode cX5_begin 7 = .ok (.getfield 15, 3) := by decide +kernel
theorem dX5_begin_10 : decode cX5_begin 10 = .ok (.iload_n 2, 1) := by decide +kernel
theorem dX5_begin_11 : decode cX5_begin 11 = .ok (.bipush 20, 2) := by decide +kernel
theorem dX5_begin_13 : decode cX5_begin 13 = .ok (.imul, 1) := by decide +kernel
theorem dX5_begin_14 : decode cX5_begin 14 = .ok (.iload_n 3, 1) := by decide +kernel
theorem dX5_begin_15 : decode cX5_begin 15 = .ok (.iadd, 1) := by decide +kernel
theorem dX5_begin_16 : decode cX5_begin 16 = .ok (.aload_n 1, 1) := by decide +kernel
theorem dX5_begin_17 : decode cX5_begin 17 = .ok (.iload_n 2, 1) := by decide +kernel
theorem dX5_begin_18 : decode cX5_begin 18 = .ok (.aload 4, 2) := by decide +kernel
theorem dX5_begin_20 : decode cX5_begin 20 = .ok (.invokestatic 39, 3) := by decide +kernel
theorem dX5_begin_23 : decode cX5_begin 23 = .ok (.iastore, 1) := by decide +kernel
theorem dX5_begin_24 : decode cX5_begin 24 = .ok (.aload_n 0, 1) := by decide +kernel
theorem dX5_begin_25 : decode cX5_begin 25 = .ok (.getfield 9, 3) := by decide +kernel
theorem dX5_begin_28 : decode cX5_begin 28 = .ok (.iload_n 2, 1) := by decide +kernel
theorem dX5_begin_29 : decode cX5_begin 29 = .ok (.bipush 20, 2) := by decide +kernel
theorem dX5_begin_31 : decode cX5_begin 31 = .ok (.imul, 1) := by decide +kernel
theorem dX5_begin_32 : decode cX5_begin 32 = .ok (.iload_n 3, 1) := by decide +kernel
theorem dX5_begin_33 : decode cX5_begin 33 = .ok (.iadd, 1) := by decide +kernel
theorem dX5_begin_34 : decode cX5_begin 34 = .ok (.aload_n 1, 1) := by decide +kernel
theorem dX5_begin_35 : decode cX5_begin 35 = .ok (.iload_n 2, 1) := by decide +kernel
theorem dX5_begin_36 : decode cX5_begin 36 = .ok (.aload 4, 2) := by decide +kernel
theorem dX5_begin_38 : decode cX5_begin 38 = .ok (.invokestatic 43, 3) := by decide +kernel
theorem dX5_begin_41 : decode cX5_begin 41 = .ok (.iastore, 1) := by decide +kernel
theorem dX5_begin_42 : decode cX5_begin 42 = .ok (.return_, 1) := by decide +kernel
def fX5_begin (μ : Mem) (a2 : Int32) (a3 : Int32) (a4 : Nat) : Option (Unit × Mem) :=
  if a3 = (-1 : Int32) then
  some ((), μ)
  else
  bd (fX5_placeOf μ a2 a4) fun r8 μ7 =>
  (ast 400 μ7 94 ((a2 * (20 : Int32)) + a3) r8).bind fun μ9 =>
  bd (fX5_resultOf μ9 a2 a4) fun r11 μ10 =>
  (ast 400 μ10 93 ((a2 * (20 : Int32)) + a3) r11).bind fun μ12 =>
  some ((), μ12)
theorem ctX5_begin {l : Launch} {D : va_G} {cI cR : ClassId} {ad : Nat → Nat} {μ : Mem} {a2 : Int32} {a3 : Int32} {a4 : Nat} (h4 : Pa shX NX 24 a4) {r : Unit} {μ' : Mem} (hf : fX5_begin μ a2 a3 a4 = some (r, μ')) : CT l yX5_begin cX5_begin 5 none 3 D cI cR ad shX NX [.ref (ad 92), .ref (ad 1), .int a2, .int a3, .ref (ad a4)] μ none μ' :=
  ct_of (own := RX5) (ov := fun _ => none) (by decide +kernel) rfl (Nat.le_of_ble_eq_true rfl) (fun p e s m below meth c A0 E hr => by
    refine ll_lo (lo' := [some (.ref (ad 92)), some (.ref (ad 1)), some (.int a2), some (.int a3), some (.ref (ad a4))]) ⟨rfl, rfl, rfl, rfl, rfl, trivial⟩ ?_
    rw [fX5_begin]
    refine ll_iload_n E (pc := 0) dX5_begin_0 rfl ?_
    refine ll_iconst E (pc := 1) dX5_begin_1 kc_m1 ?_
    refine ll_icmp_ne E (pc := 2) (tgt := 6) dX5_begin_2 rfl ?_ ?_
    · refine ll_aload_n E (pc := 6) dX5_begin_6 rfl ?_
      refine ll_getfr E (pc := 7) (o9 := 92) (ci := 5) (k9 := 1) (q := 94) dX5_begin_7 fl_X5_15 (Nat.le_of_ble_eq_true rfl) fx_92_1 ?_
      refine ll_iload_n E (pc := 10) dX5_begin_10 rfl ?_
      refine ll_bipush E (pc := 11) dX5_begin_11 kb_20 ?_
      refine ll_imul E (pc := 13) dX5_begin_13 ?_
      refine ll_iload_n E (pc := 14) dX5_begin_14 rfl ?_
      refine ll_iadd E (pc := 15) dX5_begin_15 ?_
      refine ll_aload_n E (pc := 16) dX5_begin_16 rfl ?_
      refine ll_iload_n E (pc := 17) dX5_begin_17 rfl ?_
      refine ll_aload E (pc := 18) dX5_begin_18 rfl ?_
      refine ll_callSi E (pc := 20) (d := 2) [.ref (ad 1), .int a2, .ref (ad a4)] [.int ((a2 * (20 : Int32)) + a3), .ref (ad 94)] dX5_begin_20 cv_X5_39 (fun h => ctX5_placeOf h4 h) rfl rfl (Nat.le_of_ble_eq_true rfl) ⟨(Nat.le_of_ble_eq_true rfl), (Nat.le_of_ble_eq_true rfl)⟩ ⟨(Nat.le_of_ble_eq_true rfl), (Nat.le_of_ble_eq_true rfl)⟩ ?_
      intro r8 μ7
      refine ll_iast E (pc := 23) (a := 94) dX5_begin_23 (px_94).1 (px_94).2 ?_
      intro μ9
      refine ll_aload_n E (pc := 24) dX5_begin_24 rfl ?_
      refine ll_getfr E (pc := 25) (o9 := 92) (ci := 5) (k9 := 0) (q := 93) dX5_begin_25 fl_X5_9 (Nat.le_of_ble_eq_true rfl) fx_92_0 ?_
      refine ll_iload_n E (pc := 28) dX5_begin_28 rfl ?_
      refine ll_bipush E (pc := 29) dX5_begin_29 kb_20 ?_
      refine ll_imul E (pc := 31) dX5_begin_31 ?_
      refine ll_iload_n E (pc := 32) dX5_begin_32 rfl ?_
      refine ll_iadd E (pc := 33) dX5_begin_33 ?_
      refine ll_aload_n E (pc := 34) dX5_begin_34 rfl ?_
      refine ll_iload_n E (pc := 35) dX5_begin_35 rfl ?_
      refine ll_aload E (pc := 36) dX5_begin_36 rfl ?_
      refine ll_callSi E (pc := 38) (d := 2) [.ref (ad 1), .int a2, .ref (ad a4)] [.int ((a2 * (20 : Int32)) + a3), .ref (ad 93)] dX5_begin_38 cv_X5_43 (fun h => ctX5_resultOf h4 h) rfl rfl (Nat.le_of_ble_eq_true rfl) ⟨(Nat.le_of_ble_eq_true rfl), (Nat.le_of_ble_eq_true rfl)⟩ ⟨(Nat.le_of_ble_eq_true rfl), (Nat.le_of_ble_eq_true rfl)⟩ ?_
      intro r11 μ10
      refine ll_iast E (pc := 41) (a := 93) dX5_begin_41 (px_93).1 (px_93).2 ?_
      intro μ12
      exact ll_return E (pc := 42) hr dX5_begin_42
    · exact ll_return E (pc := 5) hr dX5_begin_5) hf
theorem dX5_doInTime_0 : decode cX5_doInTime 0 = .ok (.aload_n 1, 1) := by decide +kernel
theorem dX5_doInTime_1 : decode cX5_doInTime 1 = .ok (.getfield 24, 3) := by decide +kernel
theorem dX5_doInTime_4 : decode cX5_doInTime 4 = .ok (.iconst 0, 1) := by decide +kernel
theorem dX5_doInTime_5 : decode cX5_doInTime 5 = .ok (.aload 6, 2) := by decide +kernel
theorem dX5_doInTime_7 : decode cX5_doInTime 7 = .ok (.iconst 0, 1) := by decide +kernel
theorem dX5_doInTime_8 : decode cX5_doInTime 8 = .ok (.bipush 24, 2) := by decide +kernel
theorem dX5_doInTime_10 : decode cX5_doInTime 10 = .ok (.invokestatic 29, 3) := by decide +kernel
theorem dX5_doInTime_13 : decode cX5_doInTime 13 = .ok (.iconst 0, 1) := by decide +kernel
theorem dX5_doInTime_14 : decode cX5_doInTime 14 = .ok (.istore 7, 2) := by decide +kernel
theorem dX5_doInTime_16 : decode cX5_doInTime 16 = .ok (.iload 7, 2) := by decide +kernel
theorem dX5_doInTime_18 : decode cX5_doInTime 18 = .ok (.bipush 24, 2) := by decide +kernel
theorem dX5_doInTime_20 : decode cX5_doInTime 20 = .ok (.if_icmp .ge 17, 3) := by decide +kernel
theorem dX5_doInTime_23 : decode cX5_doInTime 23 = .ok (.aload_n 0, 1) := by decide +kernel
theorem dX5_doInTime_24 : decode cX5_doInTime 24 = .ok (.getfield 18, 3) := by decide +kernel
theorem dX5_doInTime_27 : decode cX5_doInTime 27 = .ok (.iload 7, 2) := by decide +kernel
theorem dX5_doInTime_29 : decode cX5_doInTime 29 = .ok (.iconst (-1), 1) := by decide +kernel
theorem dX5_doInTime_30 : decode cX5_doInTime 30 = .ok (.iastore, 1) := by decide +kernel
theorem dX5_doInTime_31 : decode cX5_doInTime 31 = .ok (.iinc 7 1, 3) := by decide +kernel
theorem dX5_doInTime_34 : decode cX5_doInTime 34 = .ok (.goto (-18), 3) := by decide +kernel
theorem dX5_doInTime_37 : decode cX5_doInTime 37 = .ok (.iconst 0, 1) := by decide +kernel
theorem dX5_doInTime_38 : decode cX5_doInTime 38 = .ok (.istore 7, 2) := by decide +kernel
theorem dX5_doInTime_40 : decode cX5_doInTime 40 = .ok (.iload 7, 2) := by decide +kernel
theorem dX5_doInTime_42 : decode cX5_doInTime 42 = .ok (.iload 5, 2) := by decide +kernel
theorem dX5_doInTime_44 : decode cX5_doInTime 44 = .ok (.if_icmp .gt 121, 3) := by decide +kernel
theorem dX5_doInTime_47 : decode cX5_doInTime 47 = .ok (.iconst 0, 1) := by decide +kernel
theorem dX5_doInTime_48 : decode cX5_doInTime 48 = .ok (.istore 8, 2) := by decide +kernel
theorem dX5_doInTime_50 : decode cX5_doInTime 50 = .ok (.iload 8, 2) := by decide +kernel
theorem dX5_doInTime_52 : decode cX5_doInTime 52 = .ok (.aload_n 1, 1) := by decide +kernel
theorem dX5_doInTime_53 : decode cX5_doInTime 53 = .ok (.getfield 35, 3) := by decide +kernel
theorem dX5_doInTime_56 : decode cX5_doInTime 56 = .ok (.if_icmp .ge 51, 3) := by decide +kernel
theorem dX5_doInTime_59 : decode cX5_doInTime 59 = .ok (.aload_n 2, 1) := by decide +kernel
theorem dX5_doInTime_60 : decode cX5_doInTime 60 = .ok (.iload 8, 2) := by decide +kernel
theorem dX5_doInTime_62 : decode cX5_doInTime 62 = .ok (.iaload, 1) := by decide +kernel
theorem dX5_doInTime_63 : decode cX5_doInTime 63 = .ok (.iconst (-1), 1) := by decide +kernel
theorem dX5_doInTime_64 : decode cX5_doInTime 64 = .ok (.if_icmp .eq 37, 3) := by decide +kernel
theorem dX5_doInTime_67 : decode cX5_doInTime 67 = .ok (.iload 7, 2) := by decide +kernel
theorem dX5_doInTime_69 : decode cX5_doInTime 69 = .ok (.aload_n 2, 1) := by decide +kernel
theorem dX5_doInTime_70 : decode cX5_doInTime 70 = .ok (.iload 8, 2) := by decide +kernel
theorem dX5_doInTime_72 : decode cX5_doInTime 72 = .ok (.iaload, 1) := by decide +kernel
theorem dX5_doInTime_73 : decode cX5_doInTime 73 = .ok (.isub, 1) := by decide +kernel
theorem dX5_doInTime_74 : decode cX5_doInTime 74 = .ok (.aload_n 1, 1) := by decide +kernel
theorem dX5_doInTime_75 : decode cX5_doInTime 75 = .ok (.iload 8, 2) := by decide +kernel
theorem dX5_doInTime_77 : decode cX5_doInTime 77 = .ok (.invokevirtual 46, 3) := by decide +kernel
theorem dX5_doInTime_80 : decode cX5_doInTime 80 = .ok (.isub, 1) := by decide +kernel
theorem dX5_doInTime_81 : decode cX5_doInTime 81 = .ok (.istore 9, 2) := by decide +kernel
theorem dX5_doInTime_83 : decode cX5_doInTime 83 = .ok (.aload_n 0, 1) := by decide +kernel
theorem dX5_doInTime_84 : decode cX5_doInTime 84 = .ok (.iload 8, 2) := by decide +kernel
theorem dX5_doInTime_86 : decode cX5_doInTime 86 = .ok (.iload 9, 2) := by decide +kernel
theorem dX5_doInTime_88 : decode cX5_doInTime 88 = .ok (.iload_n 3, 1) := by decide +kernel
theorem dX5_doInTime_89 : decode cX5_doInTime 89 = .ok (.iload 4, 2) := by decide +kernel
theorem dX5_doInTime_91 : decode cX5_doInTime 91 = .ok (.invokestatic 50, 3) := by decide +kernel
theorem dX5_doInTime_94 : decode cX5_doInTime 94 = .ok (.iload 7, 2) := by decide +kernel
theorem dX5_doInTime_96 : decode cX5_doInTime 96 = .ok (.aload 6, 2) := by decide +kernel
theorem dX5_doInTime_98 : decode cX5_doInTime 98 = .ok (.invokevirtual 54, 3) := by decide +kernel
theorem dX5_doInTime_101 : decode cX5_doInTime 101 = .ok (.iinc 8 1, 3) := by decide +kernel
theorem dX5_doInTime_104 : decode cX5_doInTime 104 = .ok (.goto (-54), 3) := by decide +kernel
theorem dX5_doInTime_107 : decode cX5_doInTime 107 = .ok (.iconst 0, 1) := by decide +kernel
theorem dX5_doInTime_108 : decode cX5_doInTime 108 = .ok (.istore 8, 2) := by decide +kernel
theorem dX5_doInTime_110 : decode cX5_doInTime 110 = .ok (.iload 8, 2) := by decide +kernel
theorem dX5_doInTime_112 : decode cX5_doInTime 112 = .ok (.aload_n 1, 1) := by decide +kernel
theorem dX5_doInTime_113 : decode cX5_doInTime 113 = .ok (.getfield 35, 3) := by decide +kernel
theorem dX5_doInTime_116 : decode cX5_doInTime 116 = .ok (.if_icmp .ge 43, 3) := by decide +kernel
theorem dX5_doInTime_119 : decode cX5_doInTime 119 = .ok (.aload_n 2, 1) := by decide +kernel
theorem dX5_doInTime_120 : decode cX5_doInTime 120 = .ok (.iload 8, 2) := by decide +kernel
theorem dX5_doInTime_122 : decode cX5_doInTime 122 = .ok (.iaload, 1) := by decide +kernel
theorem dX5_doInTime_123 : decode cX5_doInTime 123 = .ok (.iconst (-1), 1) := by decide +kernel
theorem dX5_doInTime_124 : decode cX5_doInTime 124 = .ok (.if_icmp .eq 29, 3) := by decide +kernel
theorem dX5_doInTime_127 : decode cX5_doInTime 127 = .ok (.iload 7, 2) := by decide +kernel
theorem dX5_doInTime_129 : decode cX5_doInTime 129 = .ok (.aload_n 2, 1) := by decide +kernel
theorem dX5_doInTime_130 : decode cX5_doInTime 130 = .ok (.iload 8, 2) := by decide +kernel
theorem dX5_doInTime_132 : decode cX5_doInTime 132 = .ok (.iaload, 1) := by decide +kernel
theorem dX5_doInTime_133 : decode cX5_doInTime 133 = .ok (.isub, 1) := by decide +kernel
theorem dX5_doInTime_134 : decode cX5_doInTime 134 = .ok (.iload_n 3, 1) := by decide +kernel
theorem dX5_doInTime_135 : decode cX5_doInTime 135 = .ok (.iload 4, 2) := by decide +kernel
theorem dX5_doInTime_137 : decode cX5_doInTime 137 = .ok (.invokestatic 50, 3) := by decide +kernel
theorem dX5_doInTime_140 : decode cX5_doInTime 140 = .ok (.istore 9, 2) := by decide +kernel
theorem dX5_doInTime_142 : decode cX5_doInTime 142 = .ok (.aload_n 0, 1) := by decide +kernel
theorem dX5_doInTime_143 : decode cX5_doInTime 143 = .ok (.aload_n 1, 1) := by decide +kernel
theorem dX5_doInTime_144 : decode cX5_doInTime 144 = .ok (.iload 8, 2) := by decide +kernel
theorem dX5_doInTime_146 : decode cX5_doInTime 146 = .ok (.iload 9, 2) := by decide +kernel
theorem dX5_doInTime_148 : decode cX5_doInTime 148 = .ok (.aload 6, 2) := by decide +kernel
theorem dX5_doInTime_150 : decode cX5_doInTime 150 = .ok (.invokevirtual 58, 3) := by decide +kernel
theorem dX5_doInTime_153 : decode cX5_doInTime 153 = .ok (.iinc 8 1, 3) := by decide +kernel
theorem dX5_doInTime_156 : decode cX5_doInTime 156 = .ok (.goto (-46), 3) := by decide +kernel
theorem dX5_doInTime_159 : decode cX5_doInTime 159 = .ok (.iinc 7 1, 3) := by decide +kernel
theorem dX5_doInTime_162 : decode cX5_doInTime 162 = .ok (.goto (-122), 3) := by decide +kernel
theorem dX5_doInTime_165 : decode cX5_doInTime 165 = .ok (.return_, 1) := by decide +kernel
def fX5_doInTime_L101 (a2 : Nat) (a6 : Nat) (K50 : Int32 → Int32 → Int32 → Int32 → Int32 → Mem → Option (Unit × Mem)) (v3 : Int32) (v4 : Int32) (v5 : Int32) (v7 : Int32) (v8 : Int32) (μ : Mem) : Option (Unit × Mem) :=
  K50 v3 v4 v5 v7 (v8 + (1 : Int32)) μ
def fX5_doInTime_L153 (a2 : Nat) (a6 : Nat) (K110 : Int32 → Int32 → Int32 → Int32 → Int32 → Mem → Option (Unit × Mem)) (v3 : Int32) (v4 : Int32) (v5 : Int32) (v7 : Int32) (v8 : Int32) (μ : Mem) : Option (Unit × Mem) :=
  K110 v3 v4 v5 v7 (v8 + (1 : Int32)) μ
def fX5_doInTime_L110 (a2 : Nat) (a6 : Nat) (K40 : Int32 → Int32 → Int32 → Int32 → Mem → Option (Unit × Mem)) : Nat → Int32 → Int32 → Int32 → Int32 → Int32 → Mem → Option (Unit × Mem)
  | 0, _, _, _, _, _, _ => none
  | n + 1, v3, v4, v5, v7, v8, μ =>   if (μ 1 0) ≤ v8 then
  K40 v3 v4 v5 (v7 + (1 : Int32)) μ
  else
  (ld 20 (μ a2) v8).bind fun r17 =>
  if r17 = (-1 : Int32) then
  fX5_doInTime_L153 a2 a6 (fX5_doInTime_L110 a2 a6 K40 n) v3 v4 v5 v7 v8 μ
  else
  (ld 20 (μ a2) v8).bind fun r18 =>
  bd (fX5_roundOf μ (v7 - r18) v3 v4) fun r20 μ19 =>
  bd (fX5_begin μ19 v8 r20 a6) fun _ μ21 =>
  fX5_doInTime_L153 a2 a6 (fX5_doInTime_L110 a2 a6 K40 n) v3 v4 v5 v7 v8 μ21
def fX5_doInTime_L50 (a2 : Nat) (a6 : Nat) (K40 : Int32 → Int32 → Int32 → Int32 → Mem → Option (Unit × Mem)) : Nat → Int32 → Int32 → Int32 → Int32 → Int32 → Mem → Option (Unit × Mem)
  | 0, _, _, _, _, _, _ => none
  | n + 1, v3, v4, v5, v7, v8, μ =>   if (μ 1 0) ≤ v8 then
  fX5_doInTime_L110 a2 a6 K40 fu v3 v4 v5 v7 (0 : Int32) μ
  else
  (ld 20 (μ a2) v8).bind fun r23 =>
  if r23 = (-1 : Int32) then
  fX5_doInTime_L101 a2 a6 (fX5_doInTime_L50 a2 a6 K40 n) v3 v4 v5 v7 v8 μ
  else
  (ld 20 (μ a2) v8).bind fun r24 =>
  bd (fX6_lengthOf μ v8) fun r26 μ25 =>
  bd (fX5_roundOf μ25 ((v7 - r24) - r26) v3 v4) fun r28 μ27 =>
  bd (fX5_land μ27 v8 r28 v7 a6) fun _ μ29 =>
  fX5_doInTime_L101 a2 a6 (fX5_doInTime_L50 a2 a6 K40 n) v3 v4 v5 v7 v8 μ29
def fX5_doInTime_L40 (a2 : Nat) (a6 : Nat) : Nat → Int32 → Int32 → Int32 → Int32 → Mem → Option (Unit × Mem)
  | 0, _, _, _, _, _ => none
  | n + 1, v3, v4, v5, v7, μ =>   if v5 < v7 then
  some ((), μ)
  else
  fX5_doInTime_L50 a2 a6 (fX5_doInTime_L40 a2 a6 n) fu v3 v4 v5 v7 (0 : Int32) μ
def fX5_doInTime_L16 (a2 : Nat) (a6 : Nat) : Nat → Int32 → Int32 → Int32 → Int32 → Mem → Option (Unit × Mem)
  | 0, _, _, _, _, _ => none
  | n + 1, v3, v4, v5, v7, μ =>   if (24 : Int32) ≤ v7 then
  fX5_doInTime_L40 a2 a6 fu v3 v4 v5 (0 : Int32) μ
  else
  (ast 24 μ 95 v7 (-1 : Int32)).bind fun μ31 =>
  fX5_doInTime_L16 a2 a6 n v3 v4 v5 (v7 + (1 : Int32)) μ31
def fX5_doInTime (μ : Mem) (a2 : Nat) (a3 : Int32) (a4 : Int32) (a5 : Int32) (a6 : Nat) : Option (Unit × Mem) :=
  (acp 24 24 μ 8 (0 : Int32) a6 (0 : Int32) (24 : Int32)).bind fun μ32 =>
  fX5_doInTime_L16 a2 a6 fu a3 a4 a5 (0 : Int32) μ32
theorem kX5_doInTime_L101 {p : Program} {l : Launch} {e : Env} {s : State} {m : MethodId} {args : Array Value} {below : List Frame} {meth : Method} {c : Code} {D : va_G} {cI cR : ClassId} {ad : Nat → Nat} {A0 : Nat → Prop} (E : EV p s m args meth c cX5_doInTime 10 RX5 D cI cR ad shX NX A0) (hr : meth.sig.returnType = none) {a2 : Nat} {a6 : Nat} (h2 : Pa shX NX 20 a2) (h6 : Pa shX NX 24 a6) {K50 : Int32 → Int32 → Int32 → Int32 → Int32 → Mem → Option (Unit × Mem)} (hK50 : ∀ (v3 : Int32) (v4 : Int32) (v5 : Int32) (v7 : Int32) (v8 : Int32) (μ : Mem), LL p l e (RM 4) s m args below meth c 10 D cI cR ad shX NX A0 (fun (r : Unit) μ' => KG below args s D cI cR ad shX NX A0 none μ') (K50 v3 v4 v5 v7 v8 μ) 0 0 50 [some (.ref (ad 92)), some (.ref (ad 1)), some (.ref (ad a2)), some (.int v3), some (.int v4), some (.int v5), some (.ref (ad a6)), some (.int v7), some (.int v8), none] [] μ) (v3 : Int32) (v4 : Int32) (v5 : Int32) (v7 : Int32) (v8 : Int32) (μ : Mem) : LL p l e (RM 4) s m args below meth c 10 D cI cR ad shX NX A0 (fun (r : Unit) μ' => KG below args s D cI cR ad shX NX A0 none μ') (fX5_doInTime_L101 a2 a6 K50 v3 v4 v5 v7 v8 μ) 0 0 101 [some (.ref (ad 92)), some (.ref (ad 1)), some (.ref (ad a2)), some (.int v3), some (.int v4), some (.int v5), some (.ref (ad a6)), some (.int v7), some (.int v8), none] [] μ := by
  rw [fX5_doInTime_L101]
  refine ll_iinc E (pc := 101) (lo' := [some (.ref (ad 92)), some (.ref (ad 1)), some (.ref (ad a2)), some (.int v3), some (.int v4), some (.int v5), some (.ref (ad a6)), some (.int v7), some (.int (v8 + (1 : Int32))), none]) dX5_doInTime_101 rfl kc_1 (Nat.le_of_ble_eq_true rfl) rfl rfl ?_
  refine ll_goto E (pc := 104) (tgt := 50) dX5_doInTime_104 rfl ?_
  exact ll_lo (lo' := [some (.ref (ad 92)), some (.ref (ad 1)), some (.ref (ad a2)), some (.int v3), some (.int v4), some (.int v5), some (.ref (ad a6)), some (.int v7), some (.int (v8 + (1 : Int32))), none]) ⟨rfl, rfl, rfl, rfl, rfl, rfl, rfl, rfl, rfl, trivial⟩ (hK50 v3 v4 v5 v7 (v8 + (1 : Int32)) μ)
theorem kX5_doInTime_L153 {p : Program} {l : Launch} {e : Env} {s : State} {m : MethodId} {args : Array Value} {below : List Frame} {meth : Method} {c : Code} {D : va_G} {cI cR : ClassId} {ad : Nat → Nat} {A0 : Nat → Prop} (E : EV p s m args meth c cX5_doInTime 10 RX5 D cI cR ad shX NX A0) (hr : meth.sig.returnType = none) {a2 : Nat} {a6 : Nat} (h2 : Pa shX NX 20 a2) (h6 : Pa shX NX 24 a6) {K110 : Int32 → Int32 → Int32 → Int32 → Int32 → Mem → Option (Unit × Mem)} (hK110 : ∀ (v3 : Int32) (v4 : Int32) (v5 : Int32) (v7 : Int32) (v8 : Int32) (μ : Mem), LL p l e (RM 4) s m args below meth c 10 D cI cR ad shX NX A0 (fun (r : Unit) μ' => KG below args s D cI cR ad shX NX A0 none μ') (K110 v3 v4 v5 v7 v8 μ) 0 0 110 [some (.ref (ad 92)), some (.ref (ad 1)), some (.ref (ad a2)), some (.int v3), some (.int v4), some (.int v5), some (.ref (ad a6)), some (.int v7), some (.int v8), none] [] μ) (v3 : Int32) (v4 : Int32) (v5 : Int32) (v7 : Int32) (v8 : Int32) (μ : Mem) : LL p l e (RM 4) s m args below meth c 10 D cI cR ad shX NX A0 (fun (r : Unit) μ' => KG below args s D cI cR ad shX NX A0 none μ') (fX5_doInTime_L153 a2 a6 K110 v3 v4 v5 v7 v8 μ) 0 0 153 [some (.ref (ad 92)), some (.ref (ad 1)), some (.ref (ad a2)), some (.int v3), some (.int v4), some (.int v5), some (.ref (ad a6)), some (.int v7), some (.int v8), none] [] μ := by
  rw [fX5_doInTime_L153]
  refine ll_iinc E (pc := 153) (lo' := [some (.ref (ad 92)), some (.ref (ad 1)), some (.ref (ad a2)), some (.int v3), some (.int v4), some (.int v5), some (.ref (ad a6)), some (.int v7), some (.int (v8 + (1 : Int32))), none]) dX5_doInTime_153 rfl kc_1 (Nat.le_of_ble_eq_true rfl) rfl rfl ?_
  refine ll_goto E (pc := 156) (tgt := 110) dX5_doInTime_156 rfl ?_
  exact ll_lo (lo' := [some (.ref (ad 92)), some (.ref (ad 1)), some (.ref (ad a2)), some (.int v3), some (.int v4), some (.int v5), some (.ref (ad a6)), some (.int v7), some (.int (v8 + (1 : Int32))), none]) ⟨rfl, rfl, rfl, rfl, rfl, rfl, rfl, rfl, rfl, trivial⟩ (hK110 v3 v4 v5 v7 (v8 + (1 : Int32)) μ)
theorem kX5_doInTime_L110 {p : Program} {l : Launch} {e : Env} {s : State} {m : MethodId} {args : Array Value} {below : List Frame} {meth : Method} {c : Code} {D : va_G} {cI cR : ClassId} {ad : Nat → Nat} {A0 : Nat → Prop} (E : EV p s m args meth c cX5_doInTime 10 RX5 D cI cR ad shX NX A0) (hr : meth.sig.returnType = none) {a2 : Nat} {a6 : Nat} (h2 : Pa shX NX 20 a2) (h6 : Pa shX NX 24 a6) {K40 : Int32 → Int32 → Int32 → Int32 → Mem → Option (Unit × Mem)} (hK40 : ∀ (v3 : Int32) (v4 : Int32) (v5 : Int32) (v7 : Int32) (μ : Mem), LL p l e (RM 4) s m args below meth c 10 D cI cR ad shX NX A0 (fun (r : Unit) μ' => KG below args s D cI cR ad shX NX A0 none μ') (K40 v3 v4 v5 v7 μ) 0 0 40 [some (.ref (ad 92)), some (.ref (ad 1)), some (.ref (ad a2)), some (.int v3), some (.int v4), some (.int v5), some (.ref (ad a6)), some (.int v7), none, none] [] μ) (n : Nat) : ∀ (v3 : Int32) (v4 : Int32) (v5 : Int32) (v7 : Int32) (v8 : Int32) (μ : Mem), LL p l e (RM 4) s m args below meth c 10 D cI cR ad shX NX A0 (fun (r : Unit) μ' => KG below args s D cI cR ad shX NX A0 none μ') (fX5_doInTime_L110 a2 a6 K40 n v3 v4 v5 v7 v8 μ) 0 0 110 [some (.ref (ad 92)), some (.ref (ad 1)), some (.ref (ad a2)), some (.int v3), some (.int v4), some (.int v5), some (.ref (ad a6)), some (.int v7), some (.int v8), none] [] μ := by
  induction n with
  | zero =>
    intros
    exact ll_none
  | succ n ih =>
    intro v3 v4 v5 v7 v8 μ
    rw [fX5_doInTime_L110]
    refine ll_iload E (pc := 110) dX5_doInTime_110 rfl ?_
    refine ll_aload_n E (pc := 112) dX5_doInTime_112 rfl ?_
    refine ll_getf E (pc := 113) (o9 := 1) (ci := 6) (k9 := 0) dX5_doInTime_113 fl_X5_35 (Nat.le_of_ble_eq_true rfl) fx_1_0 ?_
    refine ll_icmp_ge E (pc := 116) (tgt := 159) dX5_doInTime_116 rfl ?_ ?_
    · refine ll_iinc E (pc := 159) (lo' := [some (.ref (ad 92)), some (.ref (ad 1)), some (.ref (ad a2)), some (.int v3), some (.int v4), some (.int v5), some (.ref (ad a6)), some (.int (v7 + (1 : Int32))), some (.int v8), none]) dX5_doInTime_159 rfl kc_1 (Nat.le_of_ble_eq_true rfl) rfl rfl ?_
      refine ll_goto E (pc := 162) (tgt := 40) dX5_doInTime_162 rfl ?_
      exact ll_lo (lo' := [some (.ref (ad 92)), some (.ref (ad 1)), some (.ref (ad a2)), some (.int v3), some (.int v4), some (.int v5), some (.ref (ad a6)), some (.int (v7 + (1 : Int32))), none, none]) ⟨rfl, rfl, rfl, rfl, rfl, rfl, rfl, rfl, trivial⟩ (hK40 v3 v4 v5 (v7 + (1 : Int32)) μ)
    · refine ll_aload_n E (pc := 119) dX5_doInTime_119 rfl ?_
      refine ll_iload E (pc := 120) dX5_doInTime_120 rfl ?_
      refine ll_iald E (pc := 122) (a := a2) dX5_doInTime_122 (h2).1 (h2).2 ?_
      intro r17
      refine ll_iconst E (pc := 123) dX5_doInTime_123 kc_m1 ?_
      refine ll_icmp_eq E (pc := 124) (tgt := 153) dX5_doInTime_124 rfl ?_ ?_
      · exact ll_lo (lo' := [some (.ref (ad 92)), some (.ref (ad 1)), some (.ref (ad a2)), some (.int v3), some (.int v4), some (.int v5), some (.ref (ad a6)), some (.int v7), some (.int v8), none]) ⟨rfl, rfl, rfl, rfl, rfl, rfl, rfl, rfl, rfl, trivial⟩ (kX5_doInTime_L153 E hr h2 h6 ih v3 v4 v5 v7 v8 μ)
      · refine ll_iload E (pc := 127) dX5_doInTime_127 rfl ?_
        refine ll_aload_n E (pc := 129) dX5_doInTime_129 rfl ?_
        refine ll_iload E (pc := 130) dX5_doInTime_130 rfl ?_
        refine ll_iald E (pc := 132) (a := a2) dX5_doInTime_132 (h2).1 (h2).2 ?_
        intro r18
        refine ll_isub E (pc := 133) dX5_doInTime_133 ?_
        refine ll_iload_n E (pc := 134) dX5_doInTime_134 rfl ?_
        refine ll_iload E (pc := 135) dX5_doInTime_135 rfl ?_
        refine ll_callSi E (pc := 137) (d := 0) [.int (v7 - r18), .int v3, .int v4] [] dX5_doInTime_137 cv_X5_50 (fun h => ctX5_roundOf h) rfl rfl (Nat.le_of_ble_eq_true rfl) ⟨(Nat.le_of_ble_eq_true rfl), (Nat.le_of_ble_eq_true rfl)⟩ ⟨(Nat.le_of_ble_eq_true rfl), (Nat.le_of_ble_eq_true rfl)⟩ ?_
        intro r20 μ19
        refine ll_istore E (pc := 140) (lo' := [some (.ref (ad 92)), some (.ref (ad 1)), some (.ref (ad a2)), some (.int v3), some (.int v4), some (.int v5), some (.ref (ad a6)), some (.int v7), some (.int v8), some (.int r20)]) dX5_doInTime_140 (Nat.le_of_ble_eq_true rfl) rfl rfl ?_
        refine ll_aload_n E (pc := 142) dX5_doInTime_142 rfl ?_
        refine ll_aload_n E (pc := 143) dX5_doInTime_143 rfl ?_
        refine ll_iload E (pc := 144) dX5_doInTime_144 rfl ?_
        refine ll_iload E (pc := 146) dX5_doInTime_146 rfl ?_
        refine ll_aload E (pc := 148) dX5_doInTime_148 rfl ?_
        refine ll_callVv E (pc := 150) (d := 3) (ci := 5) (o9 := 92) [.ref (ad 1), .int v8, .int r20, .ref (ad a6)] [] dX5_doInTime_150 cv_X5_58 (fun h => ctX5_begin h6 h) (Nat.le_of_ble_eq_true rfl) sx_92 ci_5 rfl rfl (Nat.le_of_ble_eq_true rfl) ⟨(Nat.le_of_ble_eq_true rfl), (Nat.le_of_ble_eq_true rfl)⟩ ⟨(Nat.le_of_ble_eq_true rfl), (Nat.le_of_ble_eq_true rfl)⟩ ?_
        intro r22 μ21
        exact ll_lo (lo' := [some (.ref (ad 92)), some (.ref (ad 1)), some (.ref (ad a2)), some (.int v3), some (.int v4), some (.int v5), some (.ref (ad a6)), some (.int v7), some (.int v8), none]) ⟨rfl, rfl, rfl, rfl, rfl, rfl, rfl, rfl, rfl, trivial⟩ (kX5_doInTime_L153 E hr h2 h6 ih v3 v4 v5 v7 v8 μ21)
theorem kX5_doInTime_L50 {p : Program} {l : Launch} {e : Env} {s : State} {m : MethodId} {args : Array Value} {below : List Frame} {meth : Method} {c : Code} {D : va_G} {cI cR : ClassId} {ad : Nat → Nat} {A0 : Nat → Prop} (E : EV p s m args meth c cX5_doInTime 10 RX5 D cI cR ad shX NX A0) (hr : meth.sig.returnType = none) {a2 : Nat} {a6 : Nat} (h2 : Pa shX NX 20 a2) (h6 : Pa shX NX 24 a6) {K40 : Int32 → Int32 → Int32 → Int32 → Mem → Option (Unit × Mem)} (hK40 : ∀ (v3 : Int32) (v4 : Int32) (v5 : Int32) (v7 : Int32) (μ : Mem), LL p l e (RM 4) s m args below meth c 10 D cI cR ad shX NX A0 (fun (r : Unit) μ' => KG below args s D cI cR ad shX NX A0 none μ') (K40 v3 v4 v5 v7 μ) 0 0 40 [some (.ref (ad 92)), some (.ref (ad 1)), some (.ref (ad a2)), some (.int v3), some (.int v4), some (.int v5), some (.ref (ad a6)), some (.int v7), none, none] [] μ) (n : Nat) : ∀ (v3 : Int32) (v4 : Int32) (v5 : Int32) (v7 : Int32) (v8 : Int32) (μ : Mem), LL p l e (RM 4) s m args below meth c 10 D cI cR ad shX NX A0 (fun (r : Unit) μ' => KG below args s D cI cR ad shX NX A0 none μ') (fX5_doInTime_L50 a2 a6 K40 n v3 v4 v5 v7 v8 μ) 0 0 50 [some (.ref (ad 92)), some (.ref (ad 1)), some (.ref (ad a2)), some (.int v3), some (.int v4), some (.int v5), some (.ref (ad a6)), some (.int v7), some (.int v8), none] [] μ := by
  induction n with
  | zero =>
    intros
    exact ll_none
  | succ n ih =>
    intro v3 v4 v5 v7 v8 μ
    rw [fX5_doInTime_L50]
    refine ll_iload E (pc := 50) dX5_doInTime_50 rfl ?_
    refine ll_aload_n E (pc := 52) dX5_doInTime_52 rfl ?_
    refine ll_getf E (pc := 53) (o9 := 1) (ci := 6) (k9 := 0) dX5_doInTime_53 fl_X5_35 (Nat.le_of_ble_eq_true rfl) fx_1_0 ?_
    refine ll_icmp_ge E (pc := 56) (tgt := 107) dX5_doInTime_56 rfl ?_ ?_
    · refine ll_iconst E (pc := 107) dX5_doInTime_107 kc_0 ?_
      refine ll_istore E (pc := 108) (lo' := [some (.ref (ad 92)), some (.ref (ad 1)), some (.ref (ad a2)), some (.int v3), some (.int v4), some (.int v5), some (.ref (ad a6)), some (.int v7), some (.int (0 : Int32)), none]) dX5_doInTime_108 (Nat.le_of_ble_eq_true rfl) rfl rfl ?_
      exact ll_lo (lo' := [some (.ref (ad 92)), some (.ref (ad 1)), some (.ref (ad a2)), some (.int v3), some (.int v4), some (.int v5), some (.ref (ad a6)), some (.int v7), some (.int (0 : Int32)), none]) ⟨rfl, rfl, rfl, rfl, rfl, rfl, rfl, rfl, rfl, trivial⟩ (kX5_doInTime_L110 E hr h2 h6 hK40 fu v3 v4 v5 v7 (0 : Int32) μ)
    · refine ll_aload_n E (pc := 59) dX5_doInTime_59 rfl ?_
      refine ll_iload E (pc := 60) dX5_doInTime_60 rfl ?_
      refine ll_iald E (pc := 62) (a := a2) dX5_doInTime_62 (h2).1 (h2).2 ?_
      intro r23
      refine ll_iconst E (pc := 63) dX5_doInTime_63 kc_m1 ?_
      refine ll_icmp_eq E (pc := 64) (tgt := 101) dX5_doInTime_64 rfl ?_ ?_
      · exact ll_lo (lo' := [some (.ref (ad 92)), some (.ref (ad 1)), some (.ref (ad a2)), some (.int v3), some (.int v4), some (.int v5), some (.ref (ad a6)), some (.int v7), some (.int v8), none]) ⟨rfl, rfl, rfl, rfl, rfl, rfl, rfl, rfl, rfl, trivial⟩ (kX5_doInTime_L101 E hr h2 h6 ih v3 v4 v5 v7 v8 μ)
      · refine ll_iload E (pc := 67) dX5_doInTime_67 rfl ?_
        refine ll_aload_n E (pc := 69) dX5_doInTime_69 rfl ?_
        refine ll_iload E (pc := 70) dX5_doInTime_70 rfl ?_
        refine ll_iald E (pc := 72) (a := a2) dX5_doInTime_72 (h2).1 (h2).2 ?_
        intro r24
        refine ll_isub E (pc := 73) dX5_doInTime_73 ?_
        refine ll_aload_n E (pc := 74) dX5_doInTime_74 rfl ?_
        refine ll_iload E (pc := 75) dX5_doInTime_75 rfl ?_
        refine ll_callVi E (pc := 77) (d := 2) (ci := 6) (o9 := 1) [.int v8] [.int (v7 - r24)] dX5_doInTime_77 cv_X5_46 (fun h => ctX6_lengthOf h) (Nat.le_of_ble_eq_true rfl) sx_1 ci_6 rfl rfl (Nat.le_of_ble_eq_true rfl) ⟨(Nat.le_of_ble_eq_true rfl), (Nat.le_of_ble_eq_true rfl)⟩ ⟨(Nat.le_of_ble_eq_true rfl), (Nat.le_of_ble_eq_true rfl)⟩ ?_
        intro r26 μ25
        refine ll_isub E (pc := 80) dX5_doInTime_80 ?_
        refine ll_istore E (pc := 81) (lo' := [some (.ref (ad 92)), some (.ref (ad 1)), some (.ref (ad a2)), some (.int v3), some (.int v4), some (.int v5), some (.ref (ad a6)), some (.int v7), some (.int v8), some (.int ((v7 - r24) - r26))]) dX5_doInTime_81 (Nat.le_of_ble_eq_true rfl) rfl rfl ?_
        refine ll_aload_n E (pc := 83) dX5_doInTime_83 rfl ?_
        refine ll_iload E (pc := 84) dX5_doInTime_84 rfl ?_
        refine ll_iload E (pc := 86) dX5_doInTime_86 rfl ?_
        refine ll_iload_n E (pc := 88) dX5_doInTime_88 rfl ?_
        refine ll_iload E (pc := 89) dX5_doInTime_89 rfl ?_
        refine ll_callSi E (pc := 91) (d := 0) [.int ((v7 - r24) - r26), .int v3, .int v4] [.int v8, .ref (ad 92)] dX5_doInTime_91 cv_X5_50 (fun h => ctX5_roundOf h) rfl rfl (Nat.le_of_ble_eq_true rfl) ⟨(Nat.le_of_ble_eq_true rfl), (Nat.le_of_ble_eq_true rfl)⟩ ⟨(Nat.le_of_ble_eq_true rfl), (Nat.le_of_ble_eq_true rfl)⟩ ?_
        intro r28 μ27
        refine ll_iload E (pc := 94) dX5_doInTime_94 rfl ?_
        refine ll_aload E (pc := 96) dX5_doInTime_96 rfl ?_
        refine ll_callVv E (pc := 98) (d := 0) (ci := 5) (o9 := 92) [.int v8, .int r28, .int v7, .ref (ad a6)] [] dX5_doInTime_98 cv_X5_54 (fun h => ctX5_land h6 h) (Nat.le_of_ble_eq_true rfl) sx_92 ci_5 rfl rfl (Nat.le_of_ble_eq_true rfl) ⟨(Nat.le_of_ble_eq_true rfl), (Nat.le_of_ble_eq_true rfl)⟩ ⟨(Nat.le_of_ble_eq_true rfl), (Nat.le_of_ble_eq_true rfl)⟩ ?_
        intro r30 μ29
        exact ll_lo (lo' := [some (.ref (ad 92)), some (.ref (ad 1)), some (.ref (ad a2)), some (.int v3), some (.int v4), some (.int v5), some (.ref (ad a6)), some (.int v7), some (.int v8), none]) ⟨rfl, rfl, rfl, rfl, rfl, rfl, rfl, rfl, rfl, trivial⟩ (kX5_doInTime_L101 E hr h2 h6 ih v3 v4 v5 v7 v8 μ29)
theorem kX5_doInTime_L40 {p : Program} {l : Launch} {e : Env} {s : State} {m : MethodId} {args : Array Value} {below : List Frame} {meth : Method} {c : Code} {D : va_G} {cI cR : ClassId} {ad : Nat → Nat} {A0 : Nat → Prop} (E : EV p s m args meth c cX5_doInTime 10 RX5 D cI cR ad shX NX A0) (hr : meth.sig.returnType = none) {a2 : Nat} {a6 : Nat} (h2 : Pa shX NX 20 a2) (h6 : Pa shX NX 24 a6) (n : Nat) : ∀ (v3 : Int32) (v4 : Int32) (v5 : Int32) (v7 : Int32) (μ : Mem), LL p l e (RM 4) s m args below meth c 10 D cI cR ad shX NX A0 (fun (r : Unit) μ' => KG below args s D cI cR ad shX NX A0 none μ') (fX5_doInTime_L40 a2 a6 n v3 v4 v5 v7 μ) 0 0 40 [some (.ref (ad 92)), some (.ref (ad 1)), some (.ref (ad a2)), some (.int v3), some (.int v4), some (.int v5), some (.ref (ad a6)), some (.int v7), none, none] [] μ := by
  induction n with
  | zero =>
    intros
    exact ll_none
  | succ n ih =>
    intro v3 v4 v5 v7 μ
    rw [fX5_doInTime_L40]
    refine ll_iload E (pc := 40) dX5_doInTime_40 rfl ?_
    refine ll_iload E (pc := 42) dX5_doInTime_42 rfl ?_
    refine ll_icmp_gt E (pc := 44) (tgt := 165) dX5_doInTime_44 rfl ?_ ?_
    · exact ll_return E (pc := 165) hr dX5_doInTime_165
    · refine ll_iconst E (pc := 47) dX5_doInTime_47 kc_0 ?_
      refine ll_istore E (pc := 48) (lo' := [some (.ref (ad 92)), some (.ref (ad 1)), some (.ref (ad a2)), some (.int v3), some (.int v4), some (.int v5), some (.ref (ad a6)), some (.int v7), some (.int (0 : Int32)), none]) dX5_doInTime_48 (Nat.le_of_ble_eq_true rfl) rfl rfl ?_
      exact ll_lo (lo' := [some (.ref (ad 92)), some (.ref (ad 1)), some (.ref (ad a2)), some (.int v3), some (.int v4), some (.int v5), some (.ref (ad a6)), some (.int v7), some (.int (0 : Int32)), none]) ⟨rfl, rfl, rfl, rfl, rfl, rfl, rfl, rfl, rfl, trivial⟩ (kX5_doInTime_L50 E hr h2 h6 ih fu v3 v4 v5 v7 (0 : Int32) μ)
theorem kX5_doInTime_L16 {p : Program} {l : Launch} {e : Env} {s : State} {m : MethodId} {args : Array Value} {below : List Frame} {meth : Method} {c : Code} {D : va_G} {cI cR : ClassId} {ad : Nat → Nat} {A0 : Nat → Prop} (E : EV p s m args meth c cX5_doInTime 10 RX5 D cI cR ad shX NX A0) (hr : meth.sig.returnType = none) {a2 : Nat} {a6 : Nat} (h2 : Pa shX NX 20 a2) (h6 : Pa shX NX 24 a6) (n : Nat) : ∀ (v3 : Int32) (v4 : Int32) (v5 : Int32) (v7 : Int32) (μ : Mem), LL p l e (RM 4) s m args below meth c 10 D cI cR ad shX NX A0 (fun (r : Unit) μ' => KG below args s D cI cR ad shX NX A0 none μ') (fX5_doInTime_L16 a2 a6 n v3 v4 v5 v7 μ) 0 0 16 [some (.ref (ad 92)), some (.ref (ad 1)), some (.ref (ad a2)), some (.int v3), some (.int v4), some (.int v5), some (.ref (ad a6)), some (.int v7), none, none] [] μ := by
  induction n with
  | zero =>
    intros
    exact ll_none
  | succ n ih =>
    intro v3 v4 v5 v7 μ
    rw [fX5_doInTime_L16]
    refine ll_iload E (pc := 16) dX5_doInTime_16 rfl ?_
    refine ll_bipush E (pc := 18) dX5_doInTime_18 kb_24 ?_
    refine ll_icmp_ge E (pc := 20) (tgt := 37) dX5_doInTime_20 rfl ?_ ?_
    · refine ll_iconst E (pc := 37) dX5_doInTime_37 kc_0 ?_
      refine ll_istore E (pc := 38) (lo' := [some (.ref (ad 92)), some (.ref (ad 1)), some (.ref (ad a2)), some (.int v3), some (.int v4), some (.int v5), some (.ref (ad a6)), some (.int (0 : Int32)), none, none]) dX5_doInTime_38 (Nat.le_of_ble_eq_true rfl) rfl rfl ?_
      exact ll_lo (lo' := [some (.ref (ad 92)), some (.ref (ad 1)), some (.ref (ad a2)), some (.int v3), some (.int v4), some (.int v5), some (.ref (ad a6)), some (.int (0 : Int32)), none, none]) ⟨rfl, rfl, rfl, rfl, rfl, rfl, rfl, rfl, trivial⟩ (kX5_doInTime_L40 E hr h2 h6 fu v3 v4 v5 (0 : Int32) μ)
    · refine ll_aload_n E (pc := 23) dX5_doInTime_23 rfl ?_
      refine ll_getfr E (pc := 24) (o9 := 92) (ci := 5) (k9 := 2) (q := 95) dX5_doInTime_24 fl_X5_18 (Nat.le_of_ble_eq_true rfl) fx_92_2 ?_
      refine ll_iload E (pc := 27) dX5_doInTime_27 rfl ?_
      refine ll_iconst E (pc := 29) dX5_doInTime_29 kc_m1 ?_
      refine ll_iast E (pc := 30) (a := 95) dX5_doInTime_30 (px_95).1 (px_95).2 ?_
      intro μ31
      refine ll_iinc E (pc := 31) (lo' := [some (.ref (ad 92)), some (.ref (ad 1)), some (.ref (ad a2)), some (.int v3), some (.int v4), some (.int v5), some (.ref (ad a6)), some (.int (v7 + (1 : Int32))), none, none]) dX5_doInTime_31 rfl kc_1 (Nat.le_of_ble_eq_true rfl) rfl rfl ?_
      refine ll_goto E (pc := 34) (tgt := 16) dX5_doInTime_34 rfl ?_
      exact ll_lo (lo' := [some (.ref (ad 92)), some (.ref (ad 1)), some (.ref (ad a2)), some (.int v3), some (.int v4), some (.int v5), some (.ref (ad a6)), some (.int (v7 + (1 : Int32))), none, none]) ⟨rfl, rfl, rfl, rfl, rfl, rfl, rfl, rfl, trivial⟩ (ih v3 v4 v5 (v7 + (1 : Int32)) μ31)
theorem ctX5_doInTime {l : Launch} {D : va_G} {cI cR : ClassId} {ad : Nat → Nat} {μ : Mem} {a2 : Nat} {a3 : Int32} {a4 : Int32} {a5 : Int32} {a6 : Nat} (h2 : Pa shX NX 20 a2) (h6 : Pa shX NX 24 a6) {r : Unit} {μ' : Mem} (hf : fX5_doInTime μ a2 a3 a4 a5 a6 = some (r, μ')) : CT l yX5_doInTime cX5_doInTime 10 none 4 D cI cR ad shX NX [.ref (ad 92), .ref (ad 1), .ref (ad a2), .int a3, .int a4, .int a5, .ref (ad a6)] μ none μ' :=
  ct_of (own := RX5) (ov := fun _ => none) (by decide +kernel) rfl (Nat.le_of_ble_eq_true rfl) (fun p e s m below meth c A0 E hr => by
    refine ll_lo (lo' := [some (.ref (ad 92)), some (.ref (ad 1)), some (.ref (ad a2)), some (.int a3), some (.int a4), some (.int a5), some (.ref (ad a6)), none, none, none]) ⟨rfl, rfl, rfl, rfl, rfl, rfl, rfl, trivial⟩ ?_
    rw [fX5_doInTime]
    refine ll_aload_n E (pc := 0) dX5_doInTime_0 rfl ?_
    refine ll_getfr E (pc := 1) (o9 := 1) (ci := 6) (k9 := 7) (q := 8) dX5_doInTime_1 fl_X5_24 (Nat.le_of_ble_eq_true rfl) fx_1_7 ?_
    refine ll_iconst E (pc := 4) dX5_doInTime_4 kc_0 ?_
    refine ll_aload E (pc := 5) dX5_doInTime_5 rfl ?_
    refine ll_iconst E (pc := 7) dX5_doInTime_7 kc_0 ?_
    refine ll_bipush E (pc := 8) dX5_doInTime_8 kb_24 ?_
    refine ll_acopy E (pc := 10) (a0 := 8) (a1 := a6) dX5_doInTime_10 mw_X5_29 mw_ac1 mw_ac2 mw_sys (px_8).1 (h6).1 (px_8).2 (h6).2 (Nat.le_of_ble_eq_true rfl) ⟨(Nat.le_of_ble_eq_true rfl), (Nat.le_of_ble_eq_true rfl)⟩ ?_
    intro μ32
    refine ll_iconst E (pc := 13) dX5_doInTime_13 kc_0 ?_
    refine ll_istore E (pc := 14) (lo' := [some (.ref (ad 92)), some (.ref (ad 1)), some (.ref (ad a2)), some (.int a3), some (.int a4), some (.int a5), some (.ref (ad a6)), some (.int (0 : Int32)), none, none]) dX5_doInTime_14 (Nat.le_of_ble_eq_true rfl) rfl rfl ?_
    exact ll_lo (lo' := [some (.ref (ad 92)), some (.ref (ad 1)), some (.ref (ad a2)), some (.int a3), some (.int a4), some (.int a5), some (.ref (ad a6)), some (.int (0 : Int32)), none, none]) ⟨rfl, rfl, rfl, rfl, rfl, rfl, rfl, rfl, trivial⟩ (kX5_doInTime_L16 E hr h2 h6 fu a3 a4 a5 (0 : Int32) μ32)) hf
