theorem dX7_addSign_0 : decode cX7_addSign 0 = .ok (.aload_n 0, 1) := by decide +kernel
theorem dX7_addSign_1 : decode cX7_addSign 1 = .ok (.getfield 15, 3) := by decide +kernel
theorem dX7_addSign_4 : decode cX7_addSign 4 = .ok (.ifCond .lt 32, 3) := by decide +kernel
theorem dX7_addSign_7 : decode cX7_addSign 7 = .ok (.aload_n 0, 1) := by decide +kernel
theorem dX7_addSign_8 : decode cX7_addSign 8 = .ok (.getfield 15, 3) := by decide +kernel
theorem dX7_addSign_11 : decode cX7_addSign 11 = .ok (.bipush 60, 2) := by decide +kernel
theorem dX7_addSign_13 : decode cX7_addSign 13 = .ok (.if_icmp .ge 23, 3) := by decide +kernel
theorem dX7_addSign_16 : decode cX7_addSign 16 = .ok (.aload_n 0, 1) := by decide +kernel
theorem dX7_addSign_17 : decode cX7_addSign 17 = .ok (.getfield 9, 3) := by decide +kernel
theorem dX7_addSign_20 : decode cX7_addSign 20 = .ok (.aload_n 0, 1) := by decide +kernel
theorem dX7_addSign_21 : decode cX7_addSign 21 = .ok (.getfield 15, 3) := by decide +kernel
theorem dX7_addSign_24 : decode cX7_addSign 24 = .ok (.iload_n 1, 1) := by decide +kernel
theorem dX7_addSign_25 : decode cX7_addSign 25 = .ok (.iastore, 1) := by decide +kernel
theorem dX7_addSign_26 : decode cX7_addSign 26 = .ok (.aload_n 0, 1) := by decide +kernel
theorem dX7_addSign_27 : decode cX7_addSign 27 = .ok (.dup, 1) := by decide +kernel
theorem dX7_addSign_28 : decode cX7_addSign 28 = .ok (.getfield 15, 3) := by decide +kernel
theorem dX7_addSign_31 : decode cX7_addSign 31 = .ok (.iconst 1, 1) := by decide +kernel
theorem dX7_addSign_32 : decode cX7_addSign 32 = .ok (.iadd, 1) := by decide +kernel
theorem dX7_addSign_33 : decode cX7_addSign 33 = .ok (.putfield 15, 3) := by decide +kernel
theorem dX7_addSign_36 : decode cX7_addSign 36 = .ok (.return_, 1) := by decide +kernel
def fX7_addSign (μ : Mem) (a1 : Int32) : Option (Unit × Mem) :=
  if (μ 73 1) < 0 then
  some ((), μ)
  else
  if (60 : Int32) ≤ (μ 73 1) then
  some ((), μ)
  else
  (ast 60 μ 74 (μ 73 1) a1).bind fun μ3 =>
  (pt μ3 73 1 ((μ3 73 1) + (1 : Int32))).bind fun μ4 =>
  some ((), μ4)
theorem ctX7_addSign {l : Launch} {D : va_G} {cI cR : ClassId} {ad : Nat → Nat} {μ : Mem} {a1 : Int32} {r : Unit} {μ' : Mem} (hf : fX7_addSign μ a1 = some (r, μ')) : CT l yX7_addSign cX7_addSign 2 none 0 D cI cR ad shX NX [.ref (ad 73), .int a1] μ none μ' :=
  ct_of (own := RX7) (ov := fun _ => none) (by decide +kernel) rfl (Nat.le_of_ble_eq_true rfl) (fun p e s m below meth c A0 E hr => by
    refine ll_lo (lo' := [some (.ref (ad 73)), some (.int a1)]) ⟨rfl, rfl, trivial⟩ ?_
    rw [fX7_addSign]
    refine ll_aload_n E (pc := 0) dX7_addSign_0 rfl ?_
    refine ll_getf E (pc := 1) (o9 := 73) (ci := 7) (k9 := 1) dX7_addSign_1 fl_X7_15 (Nat.le_of_ble_eq_true rfl) fx_73_1 ?_
    refine ll_if_lt E (pc := 4) (tgt := 36) dX7_addSign_4 rfl ?_ ?_
    · exact ll_return E (pc := 36) hr dX7_addSign_36
    · refine ll_aload_n E (pc := 7) dX7_addSign_7 rfl ?_
      refine ll_getf E (pc := 8) (o9 := 73) (ci := 7) (k9 := 1) dX7_addSign_8 fl_X7_15 (Nat.le_of_ble_eq_true rfl) fx_73_1 ?_
      refine ll_bipush E (pc := 11) dX7_addSign_11 kb_60 ?_
      refine ll_icmp_ge E (pc := 13) (tgt := 36) dX7_addSign_13 rfl ?_ ?_
      · exact ll_return E (pc := 36) hr dX7_addSign_36
      · refine ll_aload_n E (pc := 16) dX7_addSign_16 rfl ?_
        refine ll_getfr E (pc := 17) (o9 := 73) (ci := 7) (k9 := 0) (q := 74) dX7_addSign_17 fl_X7_9 (Nat.le_of_ble_eq_true rfl) fx_73_0 ?_
        refine ll_aload_n E (pc := 20) dX7_addSign_20 rfl ?_
        refine ll_getf E (pc := 21) (o9 := 73) (ci := 7) (k9 := 1) dX7_addSign_21 fl_X7_15 (Nat.le_of_ble_eq_true rfl) fx_73_1 ?_
        refine ll_iload_n E (pc := 24) dX7_addSign_24 rfl ?_
        refine ll_iast E (pc := 25) (a := 74) dX7_addSign_25 (px_74).1 (px_74).2 ?_
        intro μ3
        refine ll_aload_n E (pc := 26) dX7_addSign_26 rfl ?_
        refine ll_dup E (pc := 27) dX7_addSign_27 rfl ?_
        refine ll_getf E (pc := 28) (o9 := 73) (ci := 7) (k9 := 1) dX7_addSign_28 fl_X7_15 (Nat.le_of_ble_eq_true rfl) fx_73_1 ?_
        refine ll_iconst E (pc := 31) dX7_addSign_31 kc_1 ?_
        refine ll_iadd E (pc := 32) dX7_addSign_32 ?_
        refine ll_putf E (pc := 33) (o9 := 73) (ci := 7) (k9 := 1) dX7_addSign_33 fw_X7_15 (Nat.le_of_ble_eq_true rfl) fx_73_1 ?_
        intro μ4
        exact ll_return E (pc := 36) hr dX7_addSign_36) hf
theorem dX7_signAt_0 : decode cX7_signAt 0 = .ok (.iload_n 1, 1) := by decide +kernel
theorem dX7_signAt_1 : decode cX7_signAt 1 = .ok (.ifCond .lt 26, 3) := by decide +kernel
theorem dX7_signAt_4 : decode cX7_signAt 4 = .ok (.iload_n 1, 1) := by decide +kernel
theorem dX7_signAt_5 : decode cX7_signAt 5 = .ok (.aload_n 0, 1) := by decide +kernel
theorem dX7_signAt_6 : decode cX7_signAt 6 = .ok (.getfield 15, 3) := by decide +kernel
theorem dX7_signAt_9 : decode cX7_signAt 9 = .ok (.if_icmp .ge 18, 3) := by decide +kernel
theorem dX7_signAt_12 : decode cX7_signAt 12 = .ok (.iload_n 1, 1) := by decide +kernel
theorem dX7_signAt_13 : decode cX7_signAt 13 = .ok (.bipush 60, 2) := by decide +kernel
theorem dX7_signAt_15 : decode cX7_signAt 15 = .ok (.if_icmp .ge 12, 3) := by decide +kernel
theorem dX7_signAt_18 : decode cX7_signAt 18 = .ok (.aload_n 0, 1) := by decide +kernel
theorem dX7_signAt_19 : decode cX7_signAt 19 = .ok (.getfield 9, 3) := by decide +kernel
theorem dX7_signAt_22 : decode cX7_signAt 22 = .ok (.iload_n 1, 1) := by decide +kernel
theorem dX7_signAt_23 : decode cX7_signAt 23 = .ok (.iaload, 1) := by decide +kernel
theorem dX7_signAt_24 : decode cX7_signAt 24 = .ok (.goto 4, 3) := by decide +kernel
theorem dX7_signAt_27 : decode cX7_signAt 27 = .ok (.iconst 0, 1) := by decide +kernel
theorem dX7_signAt_28 : decode cX7_signAt 28 = .ok (.ireturn, 1) := by decide +kernel
def fX7_signAt (μ : Mem) (a1 : Int32) : Option (Int32 × Mem) :=
  if a1 < 0 then
  some ((0 : Int32), μ)
  else
  if (μ 73 1) ≤ a1 then
  some ((0 : Int32), μ)
  else
  if (60 : Int32) ≤ a1 then
  some ((0 : Int32), μ)
  else
  (ld 60 (μ 74) a1).bind fun r2 =>
  some (r2, μ)
theorem ctX7_signAt {l : Launch} {D : va_G} {cI cR : ClassId} {ad : Nat → Nat} {μ : Mem} {a1 : Int32} {r : Int32} {μ' : Mem} (hf : fX7_signAt μ a1 = some (r, μ')) : CT l yX7_signAt cX7_signAt 2 (some .int) 0 D cI cR ad shX NX [.ref (ad 73), .int a1] μ (some (.int r)) μ' :=
  ct_of (own := RX7) (ov := fun r => some (.int r)) (by decide +kernel) rfl (Nat.le_of_ble_eq_true rfl) (fun p e s m below meth c A0 E hr => by
    refine ll_lo (lo' := [some (.ref (ad 73)), some (.int a1)]) ⟨rfl, rfl, trivial⟩ ?_
    rw [fX7_signAt]
    refine ll_iload_n E (pc := 0) dX7_signAt_0 rfl ?_
    refine ll_if_lt E (pc := 1) (tgt := 27) dX7_signAt_1 rfl ?_ ?_
    · refine ll_iconst E (pc := 27) dX7_signAt_27 kc_0 ?_
      exact ll_ireturn E (pc := 28) hr dX7_signAt_28
    · refine ll_iload_n E (pc := 4) dX7_signAt_4 rfl ?_
      refine ll_aload_n E (pc := 5) dX7_signAt_5 rfl ?_
      refine ll_getf E (pc := 6) (o9 := 73) (ci := 7) (k9 := 1) dX7_signAt_6 fl_X7_15 (Nat.le_of_ble_eq_true rfl) fx_73_1 ?_
      refine ll_icmp_ge E (pc := 9) (tgt := 27) dX7_signAt_9 rfl ?_ ?_
      · refine ll_iconst E (pc := 27) dX7_signAt_27 kc_0 ?_
        exact ll_ireturn E (pc := 28) hr dX7_signAt_28
      · refine ll_iload_n E (pc := 12) dX7_signAt_12 rfl ?_
        refine ll_bipush E (pc := 13) dX7_signAt_13 kb_60 ?_
        refine ll_icmp_ge E (pc := 15) (tgt := 27) dX7_signAt_15 rfl ?_ ?_
        · refine ll_iconst E (pc := 27) dX7_signAt_27 kc_0 ?_
          exact ll_ireturn E (pc := 28) hr dX7_signAt_28
        · refine ll_aload_n E (pc := 18) dX7_signAt_18 rfl ?_
          refine ll_getfr E (pc := 19) (o9 := 73) (ci := 7) (k9 := 0) (q := 74) dX7_signAt_19 fl_X7_9 (Nat.le_of_ble_eq_true rfl) fx_73_0 ?_
          refine ll_iload_n E (pc := 22) dX7_signAt_22 rfl ?_
          refine ll_iald E (pc := 23) (a := 74) dX7_signAt_23 (px_74).1 (px_74).2 ?_
          intro r2
          refine ll_goto E (pc := 24) (tgt := 28) dX7_signAt_24 rfl ?_
          exact ll_ireturn E (pc := 28) hr dX7_signAt_28) hf
theorem dX7_isLetter_0 : decode cX7_isLetter 0 = .ok (.iload_n 0, 1) := by decide +kernel
theorem dX7_isLetter_1 : decode cX7_isLetter 1 = .ok (.bipush 97, 2) := by decide +kernel
theorem dX7_isLetter_3 : decode cX7_isLetter 3 = .ok (.if_icmp .lt 13, 3) := by decide +kernel
theorem dX7_isLetter_6 : decode cX7_isLetter 6 = .ok (.iload_n 0, 1) := by decide +kernel
theorem dX7_isLetter_7 : decode cX7_isLetter 7 = .ok (.bipush 108, 2) := by decide +kernel
theorem dX7_isLetter_9 : decode cX7_isLetter 9 = .ok (.if_icmp .gt 7, 3) := by decide +kernel
theorem dX7_isLetter_12 : decode cX7_isLetter 12 = .ok (.iconst 1, 1) := by decide +kernel
theorem dX7_isLetter_13 : decode cX7_isLetter 13 = .ok (.goto 4, 3) := by decide +kernel
theorem dX7_isLetter_16 : decode cX7_isLetter 16 = .ok (.iconst 0, 1) := by decide +kernel
theorem dX7_isLetter_17 : decode cX7_isLetter 17 = .ok (.ireturn, 1) := by decide +kernel
def fX7_isLetter (μ : Mem) (a0 : Int32) : Option (Int32 × Mem) :=
  if a0 < (97 : Int32) then
  some ((0 : Int32), μ)
  else
  if (108 : Int32) < a0 then
  some ((0 : Int32), μ)
  else
  some ((1 : Int32), μ)
theorem ctX7_isLetter {l : Launch} {D : va_G} {cI cR : ClassId} {ad : Nat → Nat} {μ : Mem} {a0 : Int32} {r : Int32} {μ' : Mem} (hf : fX7_isLetter μ a0 = some (r, μ')) : CT l yX7_isLetter cX7_isLetter 1 (some .boolean) 0 D cI cR ad shX NX [.int a0] μ (some (.int r)) μ' :=
  ct_of (own := RX7) (ov := fun r => some (.int r)) (by decide +kernel) rfl (Nat.le_of_ble_eq_true rfl) (fun p e s m below meth c A0 E hr => by
    refine ll_lo (lo' := [some (.int a0)]) ⟨rfl, trivial⟩ ?_
    rw [fX7_isLetter]
    refine ll_iload_n E (pc := 0) dX7_isLetter_0 rfl ?_
    refine ll_bipush E (pc := 1) dX7_isLetter_1 kb_97 ?_
    refine ll_icmp_lt E (pc := 3) (tgt := 16) dX7_isLetter_3 rfl ?_ ?_
    · refine ll_iconst E (pc := 16) dX7_isLetter_16 kc_0 ?_
      exact ll_zreturn E (pc := 17) hr rfl dX7_isLetter_17
    · refine ll_iload_n E (pc := 6) dX7_isLetter_6 rfl ?_
      refine ll_bipush E (pc := 7) dX7_isLetter_7 kb_108 ?_
      refine ll_icmp_gt E (pc := 9) (tgt := 16) dX7_isLetter_9 rfl ?_ ?_
      · refine ll_iconst E (pc := 16) dX7_isLetter_16 kc_0 ?_
        exact ll_zreturn E (pc := 17) hr rfl dX7_isLetter_17
      · refine ll_iconst E (pc := 12) dX7_isLetter_12 kc_1 ?_
        refine ll_goto E (pc := 13) (tgt := 17) dX7_isLetter_13 rfl ?_
        exact ll_zreturn E (pc := 17) hr rfl dX7_isLetter_17) hf
theorem dX7_isDigit_0 : decode cX7_isDigit 0 = .ok (.iload_n 0, 1) := by decide +kernel
theorem dX7_isDigit_1 : decode cX7_isDigit 1 = .ok (.bipush 48, 2) := by decide +kernel
theorem dX7_isDigit_3 : decode cX7_isDigit 3 = .ok (.if_icmp .lt 13, 3) := by decide +kernel
theorem dX7_isDigit_6 : decode cX7_isDigit 6 = .ok (.iload_n 0, 1) := by decide +kernel
theorem dX7_isDigit_7 : decode cX7_isDigit 7 = .ok (.bipush 57, 2) := by decide +kernel
theorem dX7_isDigit_9 : decode cX7_isDigit 9 = .ok (.if_icmp .gt 7, 3) := by decide +kernel
theorem dX7_isDigit_12 : decode cX7_isDigit 12 = .ok (.iconst 1, 1) := by decide +kernel
theorem dX7_isDigit_13 : decode cX7_isDigit 13 = .ok (.goto 4, 3) := by decide +kernel
theorem dX7_isDigit_16 : decode cX7_isDigit 16 = .ok (.iconst 0, 1) := by decide +kernel
theorem dX7_isDigit_17 : decode cX7_isDigit 17 = .ok (.ireturn, 1) := by decide +kernel
def fX7_isDigit (μ : Mem) (a0 : Int32) : Option (Int32 × Mem) :=
  if a0 < (48 : Int32) then
  some ((0 : Int32), μ)
  else
  if (57 : Int32) < a0 then
  some ((0 : Int32), μ)
  else
  some ((1 : Int32), μ)
theorem ctX7_isDigit {l : Launch} {D : va_G} {cI cR : ClassId} {ad : Nat → Nat} {μ : Mem} {a0 : Int32} {r : Int32} {μ' : Mem} (hf : fX7_isDigit μ a0 = some (r, μ')) : CT l yX7_isDigit cX7_isDigit 1 (some .boolean) 0 D cI cR ad shX NX [.int a0] μ (some (.int r)) μ' :=
  ct_of (own := RX7) (ov := fun r => some (.int r)) (by decide +kernel) rfl (Nat.le_of_ble_eq_true rfl) (fun p e s m below meth c A0 E hr => by
    refine ll_lo (lo' := [some (.int a0)]) ⟨rfl, trivial⟩ ?_
    rw [fX7_isDigit]
    refine ll_iload_n E (pc := 0) dX7_isDigit_0 rfl ?_
    refine ll_bipush E (pc := 1) dX7_isDigit_1 kb_48 ?_
    refine ll_icmp_lt E (pc := 3) (tgt := 16) dX7_isDigit_3 rfl ?_ ?_
    · refine ll_iconst E (pc := 16) dX7_isDigit_16 kc_0 ?_
      exact ll_zreturn E (pc := 17) hr rfl dX7_isDigit_17
    · refine ll_iload_n E (pc := 6) dX7_isDigit_6 rfl ?_
      refine ll_bipush E (pc := 7) dX7_isDigit_7 kb_57 ?_
      refine ll_icmp_gt E (pc := 9) (tgt := 16) dX7_isDigit_9 rfl ?_ ?_
      · refine ll_iconst E (pc := 16) dX7_isDigit_16 kc_0 ?_
        exact ll_zreturn E (pc := 17) hr rfl dX7_isDigit_17
      · refine ll_iconst E (pc := 12) dX7_isDigit_12 kc_1 ?_
        refine ll_goto E (pc := 13) (tgt := 17) dX7_isDigit_13 rfl ?_
        exact ll_zreturn E (pc := 17) hr rfl dX7_isDigit_17) hf
theorem dX7_modeInNumber_0 : decode cX7_modeInNumber 0 = .ok (.iload_n 0, 1) := by decide +kernel
theorem dX7_modeInNumber_1 : decode cX7_modeInNumber 1 = .ok (.bipush 48, 2) := by decide +kernel
theorem dX7_modeInNumber_3 : decode cX7_modeInNumber 3 = .ok (.if_icmp .ne 5, 3) := by decide +kernel
theorem dX7_modeInNumber_6 : decode cX7_modeInNumber 6 = .ok (.iconst 5, 1) := by decide +kernel
theorem dX7_modeInNumber_7 : decode cX7_modeInNumber 7 = .ok (.ireturn, 1) := by decide +kernel
theorem dX7_modeInNumber_8 : decode cX7_modeInNumber 8 = .ok (.iload_n 0, 1) := by decide +kernel
theorem dX7_modeInNumber_9 : decode cX7_modeInNumber 9 = .ok (.invokestatic 37, 3) := by decide +kernel
theorem dX7_modeInNumber_12 : decode cX7_modeInNumber 12 = .ok (.ifCond .eq 7, 3) := by decide +kernel
theorem dX7_modeInNumber_15 : decode cX7_modeInNumber 15 = .ok (.iconst 4, 1) := by decide +kernel
theorem dX7_modeInNumber_16 : decode cX7_modeInNumber 16 = .ok (.goto 4, 3) := by decide +kernel
theorem dX7_modeInNumber_19 : decode cX7_modeInNumber 19 = .ok (.iconst (-1), 1) := by decide +kernel
theorem dX7_modeInNumber_20 : decode cX7_modeInNumber 20 = .ok (.ireturn, 1) := by decide +kernel
def fX7_modeInNumber (μ : Mem) (a0 : Int32) : Option (Int32 × Mem) :=
  if a0 = (48 : Int32) then
  some ((5 : Int32), μ)
  else
  bd (fX7_isDigit μ a0) fun r4 μ3 =>
  if r4 = 0 then
  some ((-1 : Int32), μ3)
  else
  some ((4 : Int32), μ3)
theorem ctX7_modeInNumber {l : Launch} {D : va_G} {cI cR : ClassId} {ad : Nat → Nat} {μ : Mem} {a0 : Int32} {r : Int32} {μ' : Mem} (hf : fX7_modeInNumber μ a0 = some (r, μ')) : CT l yX7_modeInNumber cX7_modeInNumber 1 (some .int) 1 D cI cR ad shX NX [.int a0] μ (some (.int r)) μ' :=
  ct_of (own := RX7) (ov := fun r => some (.int r)) (by decide +kernel) rfl (Nat.le_of_ble_eq_true rfl) (fun p e s m below meth c A0 E hr => by
    refine ll_lo (lo' := [some (.int a0)]) ⟨rfl, trivial⟩ ?_
    rw [fX7_modeInNumber]
    refine ll_iload_n E (pc := 0) dX7_modeInNumber_0 rfl ?_
    refine ll_bipush E (pc := 1) dX7_modeInNumber_1 kb_48 ?_
    refine ll_icmp_ne E (pc := 3) (tgt := 8) dX7_modeInNumber_3 rfl ?_ ?_
    · refine ll_iload_n E (pc := 8) dX7_modeInNumber_8 rfl ?_
      refine ll_callSi E (pc := 9) (d := 0) [.int a0] [] dX7_modeInNumber_9 cv_X7_37 (fun h => ctX7_isDigit h) rfl rfl (Nat.le_of_ble_eq_true rfl) ⟨(Nat.le_of_ble_eq_true rfl), (Nat.le_of_ble_eq_true rfl)⟩ ⟨(Nat.le_of_ble_eq_true rfl), (Nat.le_of_ble_eq_true rfl)⟩ ?_
      intro r4 μ3
      refine ll_if_eq E (pc := 12) (tgt := 19) dX7_modeInNumber_12 rfl ?_ ?_
      · refine ll_iconst E (pc := 19) dX7_modeInNumber_19 kc_m1 ?_
        exact ll_ireturn E (pc := 20) hr dX7_modeInNumber_20
      · refine ll_iconst E (pc := 15) dX7_modeInNumber_15 kc_4 ?_
        refine ll_goto E (pc := 16) (tgt := 20) dX7_modeInNumber_16 rfl ?_
        exact ll_ireturn E (pc := 20) hr dX7_modeInNumber_20
    · refine ll_iconst E (pc := 6) dX7_modeInNumber_6 kc_5 ?_
      exact ll_ireturn E (pc := 7) hr dX7_modeInNumber_7) hf
theorem dX7_modeOnRight_0 : decode cX7_modeOnRight 0 = .ok (.iload_n 0, 1) := by decide +kernel
theorem dX7_modeOnRight_1 : decode cX7_modeOnRight 1 = .ok (.bipush 45, 2) := by decide +kernel
theorem dX7_modeOnRight_3 : decode cX7_modeOnRight 3 = .ok (.if_icmp .ne 5, 3) := by decide +kernel
theorem dX7_modeOnRight_6 : decode cX7_modeOnRight 6 = .ok (.iconst 3, 1) := by decide +kernel
theorem dX7_modeOnRight_7 : decode cX7_modeOnRight 7 = .ok (.ireturn, 1) := by decide +kernel
theorem dX7_modeOnRight_8 : decode cX7_modeOnRight 8 = .ok (.iload_n 0, 1) := by decide +kernel
theorem dX7_modeOnRight_9 : decode cX7_modeOnRight 9 = .ok (.bipush 91, 2) := by decide +kernel
theorem dX7_modeOnRight_11 : decode cX7_modeOnRight 11 = .ok (.if_icmp .ne 6, 3) := by decide +kernel
theorem dX7_modeOnRight_14 : decode cX7_modeOnRight 14 = .ok (.bipush 8, 2) := by decide +kernel
theorem dX7_modeOnRight_16 : decode cX7_modeOnRight 16 = .ok (.ireturn, 1) := by decide +kernel
theorem dX7_modeOnRight_17 : decode cX7_modeOnRight 17 = .ok (.iload_n 0, 1) := by decide +kernel
theorem dX7_modeOnRight_18 : decode cX7_modeOnRight 18 = .ok (.invokestatic 27, 3) := by decide +kernel
theorem dX7_modeOnRight_21 : decode cX7_modeOnRight 21 = .ok (.ifCond .eq 8, 3) := by decide +kernel
theorem dX7_modeOnRight_24 : decode cX7_modeOnRight 24 = .ok (.bipush 6, 2) := by decide +kernel
theorem dX7_modeOnRight_26 : decode cX7_modeOnRight 26 = .ok (.goto 7, 3) := by decide +kernel
theorem dX7_modeOnRight_29 : decode cX7_modeOnRight 29 = .ok (.iload_n 0, 1) := by decide +kernel
theorem dX7_modeOnRight_30 : decode cX7_modeOnRight 30 = .ok (.invokestatic 34, 3) := by decide +kernel
theorem dX7_modeOnRight_33 : decode cX7_modeOnRight 33 = .ok (.ireturn, 1) := by decide +kernel
def fX7_modeOnRight (μ : Mem) (a0 : Int32) : Option (Int32 × Mem) :=
  if a0 = (45 : Int32) then
  some ((3 : Int32), μ)
  else
  if a0 = (91 : Int32) then
  some ((8 : Int32), μ)
  else
  bd (fX7_isLetter μ a0) fun r6 μ5 =>
  if r6 = 0 then
  bd (fX7_modeInNumber μ5 a0) fun r8 μ7 =>
  some (r8, μ7)
  else
  some ((6 : Int32), μ5)
theorem ctX7_modeOnRight {l : Launch} {D : va_G} {cI cR : ClassId} {ad : Nat → Nat} {μ : Mem} {a0 : Int32} {r : Int32} {μ' : Mem} (hf : fX7_modeOnRight μ a0 = some (r, μ')) : CT l yX7_modeOnRight cX7_modeOnRight 1 (some .int) 2 D cI cR ad shX NX [.int a0] μ (some (.int r)) μ' :=
  ct_of (own := RX7) (ov := fun r => some (.int r)) (by decide +kernel) rfl (Nat.le_of_ble_eq_true rfl) (fun p e s m below meth c A0 E hr => by
    refine ll_lo (lo' := [some (.int a0)]) ⟨rfl, trivial⟩ ?_
    rw [fX7_modeOnRight]
    refine ll_iload_n E (pc := 0) dX7_modeOnRight_0 rfl ?_
    refine ll_bipush E (pc := 1) dX7_modeOnRight_1 kb_45 ?_
    refine ll_icmp_ne E (pc := 3) (tgt := 8) dX7_modeOnRight_3 rfl ?_ ?_
    · refine ll_iload_n E (pc := 8) dX7_modeOnRight_8 rfl ?_
      refine ll_bipush E (pc := 9) dX7_modeOnRight_9 kb_91 ?_
      refine ll_icmp_ne E (pc := 11) (tgt := 17) dX7_modeOnRight_11 rfl ?_ ?_
      · refine ll_iload_n E (pc := 17) dX7_modeOnRight_17 rfl ?_
        refine ll_callSi E (pc := 18) (d := 0) [.int a0] [] dX7_modeOnRight_18 cv_X7_27 (fun h => ctX7_isLetter h) rfl rfl (Nat.le_of_ble_eq_true rfl) ⟨(Nat.le_of_ble_eq_true rfl), (Nat.le_of_ble_eq_true rfl)⟩ ⟨(Nat.le_of_ble_eq_true rfl), (Nat.le_of_ble_eq_true rfl)⟩ ?_
        intro r6 μ5
        refine ll_if_eq E (pc := 21) (tgt := 29) dX7_modeOnRight_21 rfl ?_ ?_
        · refine ll_iload_n E (pc := 29) dX7_modeOnRight_29 rfl ?_
          refine ll_callSi E (pc := 30) (d := 1) [.int a0] [] dX7_modeOnRight_30 cv_X7_34 (fun h => ctX7_modeInNumber h) rfl rfl (Nat.le_of_ble_eq_true rfl) ⟨(Nat.le_of_ble_eq_true rfl), (Nat.le_of_ble_eq_true rfl)⟩ ⟨(Nat.le_of_ble_eq_true rfl), (Nat.le_of_ble_eq_true rfl)⟩ ?_
          intro r8 μ7
          exact ll_ireturn E (pc := 33) hr dX7_modeOnRight_33
        · refine ll_bipush E (pc := 24) dX7_modeOnRight_24 kb_6 ?_
          refine ll_goto E (pc := 26) (tgt := 33) dX7_modeOnRight_26 rfl ?_
          exact ll_ireturn E (pc := 33) hr dX7_modeOnRight_33
      · refine ll_bipush E (pc := 14) dX7_modeOnRight_14 kb_8 ?_
        exact ll_ireturn E (pc := 16) hr dX7_modeOnRight_16
    · refine ll_iconst E (pc := 6) dX7_modeOnRight_6 kc_3 ?_
      exact ll_ireturn E (pc := 7) hr dX7_modeOnRight_7) hf
theorem dX7_isBetween_0 : decode cX7_isBetween 0 = .ok (.iload_n 0, 1) := by decide +kernel
theorem dX7_isBetween_1 : decode cX7_isBetween 1 = .ok (.bipush 43, 2) := by decide +kernel
theorem dX7_isBetween_3 : decode cX7_isBetween 3 = .ok (.if_icmp .eq 21, 3) := by decide +kernel
theorem dX7_isBetween_6 : decode cX7_isBetween 6 = .ok (.iload_n 0, 1) := by decide +kernel
theorem dX7_isBetween_7 : decode cX7_isBetween 7 = .ok (.bipush 45, 2) := by decide +kernel
theorem dX7_isBetween_9 : decode cX7_isBetween 9 = .ok (.if_icmp .eq 15, 3) := by decide +kernel
theorem dX7_isBetween_12 : decode cX7_isBetween 12 = .ok (.iload_n 0, 1) := by decide +kernel
theorem dX7_isBetween_13 : decode cX7_isBetween 13 = .ok (.bipush 42, 2) := by decide +kernel
theorem dX7_isBetween_15 : decode cX7_isBetween 15 = .ok (.if_icmp .eq 9, 3) := by decide +kernel
theorem dX7_isBetween_18 : decode cX7_isBetween 18 = .ok (.iload_n 0, 1) := by decide +kernel
theorem dX7_isBetween_19 : decode cX7_isBetween 19 = .ok (.bipush 94, 2) := by decide +kernel
theorem dX7_isBetween_21 : decode cX7_isBetween 21 = .ok (.if_icmp .ne 7, 3) := by decide +kernel
theorem dX7_isBetween_24 : decode cX7_isBetween 24 = .ok (.iconst 1, 1) := by decide +kernel
theorem dX7_isBetween_25 : decode cX7_isBetween 25 = .ok (.goto 4, 3) := by decide +kernel
theorem dX7_isBetween_28 : decode cX7_isBetween 28 = .ok (.iconst 0, 1) := by decide +kernel
theorem dX7_isBetween_29 : decode cX7_isBetween 29 = .ok (.ireturn, 1) := by decide +kernel
def fX7_isBetween_L24  (μ : Mem) : Option (Int32 × Mem) :=
  some ((1 : Int32), μ)
def fX7_isBetween (μ : Mem) (a0 : Int32) : Option (Int32 × Mem) :=
  if a0 = (43 : Int32) then
  fX7_isBetween_L24 μ
  else
  if a0 = (45 : Int32) then
  fX7_isBetween_L24 μ
  else
  if a0 = (42 : Int32) then
  fX7_isBetween_L24 μ
  else
  if a0 = (94 : Int32) then
  fX7_isBetween_L24 μ
  else
  some ((0 : Int32), μ)
theorem kX7_isBetween_L24 {p : Program} {l : Launch} {e : Env} {s : State} {m : MethodId} {args : Array Value} {below : List Frame} {meth : Method} {c : Code} {D : va_G} {cI cR : ClassId} {ad : Nat → Nat} {A0 : Nat → Prop} (E : EV p s m args meth c cX7_isBetween 1 RX7 D cI cR ad shX NX A0) (hr : meth.sig.returnType = (some .boolean))  (μ : Mem) : LL p l e (RM 0) s m args below meth c 1 D cI cR ad shX NX A0 (fun (r : Int32) μ' => KG below args s D cI cR ad shX NX A0 (some (.int r)) μ') (fX7_isBetween_L24 μ) 0 0 24 [none] [] μ := by
  rw [fX7_isBetween_L24]
  refine ll_iconst E (pc := 24) dX7_isBetween_24 kc_1 ?_
  refine ll_goto E (pc := 25) (tgt := 29) dX7_isBetween_25 rfl ?_
  exact ll_zreturn E (pc := 29) hr rfl dX7_isBetween_29
theorem ctX7_isBetween {l : Launch} {D : va_G} {cI cR : ClassId} {ad : Nat → Nat} {μ : Mem} {a0 : Int32} {r : Int32} {μ' : Mem} (hf : fX7_isBetween μ a0 = some (r, μ')) : CT l yX7_isBetween cX7_isBetween 1 (some .boolean) 0 D cI cR ad shX NX [.int a0] μ (some (.int r)) μ' :=
  ct_of (own := RX7) (ov := fun r => some (.int r)) (by decide +kernel) rfl (Nat.le_of_ble_eq_true rfl) (fun p e s m below meth c A0 E hr => by
    refine ll_lo (lo' := [some (.int a0)]) ⟨rfl, trivial⟩ ?_
    rw [fX7_isBetween]
    refine ll_iload_n E (pc := 0) dX7_isBetween_0 rfl ?_
    refine ll_bipush E (pc := 1) dX7_isBetween_1 kb_43 ?_
    refine ll_icmp_eq E (pc := 3) (tgt := 24) dX7_isBetween_3 rfl ?_ ?_
    · exact ll_lo (lo' := [none]) trivial (kX7_isBetween_L24 E hr μ)
    · refine ll_iload_n E (pc := 6) dX7_isBetween_6 rfl ?_
      refine ll_bipush E (pc := 7) dX7_isBetween_7 kb_45 ?_
      refine ll_icmp_eq E (pc := 9) (tgt := 24) dX7_isBetween_9 rfl ?_ ?_
      · exact ll_lo (lo' := [none]) trivial (kX7_isBetween_L24 E hr μ)
      · refine ll_iload_n E (pc := 12) dX7_isBetween_12 rfl ?_
        refine ll_bipush E (pc := 13) dX7_isBetween_13 kb_42 ?_
        refine ll_icmp_eq E (pc := 15) (tgt := 24) dX7_isBetween_15 rfl ?_ ?_
        · exact ll_lo (lo' := [none]) trivial (kX7_isBetween_L24 E hr μ)
        · refine ll_iload_n E (pc := 18) dX7_isBetween_18 rfl ?_
          refine ll_bipush E (pc := 19) dX7_isBetween_19 kb_94 ?_
          refine ll_icmp_ne E (pc := 21) (tgt := 28) dX7_isBetween_21 rfl ?_ ?_
          · refine ll_iconst E (pc := 28) dX7_isBetween_28 kc_0 ?_
            exact ll_zreturn E (pc := 29) hr rfl dX7_isBetween_29
          · exact ll_lo (lo' := [none]) trivial (kX7_isBetween_L24 E hr μ)) hf
theorem dX7_modeInLoad_0 : decode cX7_modeInLoad 0 = .ok (.iload_n 0, 1) := by decide +kernel
theorem dX7_modeInLoad_1 : decode cX7_modeInLoad 1 = .ok (.tableswitch 128 8 12 #[35, 49, 62, 87, 116], 35) := by decide +kernel
theorem dX7_modeInLoad_36 : decode cX7_modeInLoad 36 = .ok (.iload_n 1, 1) := by decide +kernel
theorem dX7_modeInLoad_37 : decode cX7_modeInLoad 37 = .ok (.invokestatic 27, 3) := by decide +kernel
theorem dX7_modeInLoad_40 : decode cX7_modeInLoad 40 = .ok (.ifCond .eq 8, 3) := by decide +kernel
theorem dX7_modeInLoad_43 : decode cX7_modeInLoad 43 = .ok (.bipush 9, 2) := by decide +kernel
theorem dX7_modeInLoad_45 : decode cX7_modeInLoad 45 = .ok (.goto 4, 3) := by decide +kernel
theorem dX7_modeInLoad_48 : decode cX7_modeInLoad 48 = .ok (.iconst (-1), 1) := by decide +kernel
theorem dX7_modeInLoad_49 : decode cX7_modeInLoad 49 = .ok (.ireturn, 1) := by decide +kernel
theorem dX7_modeInLoad_50 : decode cX7_modeInLoad 50 = .ok (.iload_n 1, 1) := by decide +kernel
theorem dX7_modeInLoad_51 : decode cX7_modeInLoad 51 = .ok (.bipush 43, 2) := by decide +kernel
theorem dX7_modeInLoad_53 : decode cX7_modeInLoad 53 = .ok (.if_icmp .ne 8, 3) := by decide +kernel
theorem dX7_modeInLoad_56 : decode cX7_modeInLoad 56 = .ok (.bipush 10, 2) := by decide +kernel
theorem dX7_modeInLoad_58 : decode cX7_modeInLoad 58 = .ok (.goto 4, 3) := by decide +kernel
theorem dX7_modeInLoad_61 : decode cX7_modeInLoad 61 = .ok (.iconst (-1), 1) := by decide +kernel
theorem dX7_modeInLoad_62 : decode cX7_modeInLoad 62 = .ok (.ireturn, 1) := by decide +kernel
theorem dX7_modeInLoad_63 : decode cX7_modeInLoad 63 = .ok (.iload_n 1, 1) := by decide +kernel
theorem dX7_modeInLoad_64 : decode cX7_modeInLoad 64 = .ok (.bipush 49, 2) := by decide +kernel
theorem dX7_modeInLoad_66 : decode cX7_modeInLoad 66 = .ok (.if_icmp .ne 8, 3) := by decide +kernel
theorem dX7_modeInLoad_69 : decode cX7_modeInLoad 69 = .ok (.bipush 11, 2) := by decide +kernel
theorem dX7_modeInLoad_71 : decode cX7_modeInLoad 71 = .ok (.goto 16, 3) := by decide +kernel
theorem dX7_modeInLoad_74 : decode cX7_modeInLoad 74 = .ok (.iload_n 1, 1) := by decide +kernel
theorem dX7_modeInLoad_75 : decode cX7_modeInLoad 75 = .ok (.invokestatic 37, 3) := by decide +kernel
theorem dX7_modeInLoad_78 : decode cX7_modeInLoad 78 = .ok (.ifCond .eq 8, 3) := by decide +kernel
theorem dX7_modeInLoad_81 : decode cX7_modeInLoad 81 = .ok (.bipush 12, 2) := by decide +kernel
theorem dX7_modeInLoad_83 : decode cX7_modeInLoad 83 = .ok (.goto 4, 3) := by decide +kernel
theorem dX7_modeInLoad_86 : decode cX7_modeInLoad 86 = .ok (.iconst (-1), 1) := by decide +kernel
theorem dX7_modeInLoad_87 : decode cX7_modeInLoad 87 = .ok (.ireturn, 1) := by decide +kernel
theorem dX7_modeInLoad_88 : decode cX7_modeInLoad 88 = .ok (.iload_n 1, 1) := by decide +kernel
theorem dX7_modeInLoad_89 : decode cX7_modeInLoad 89 = .ok (.bipush 48, 2) := by decide +kernel
theorem dX7_modeInLoad_91 : decode cX7_modeInLoad 91 = .ok (.if_icmp .eq 9, 3) := by decide +kernel
theorem dX7_modeInLoad_94 : decode cX7_modeInLoad 94 = .ok (.iload_n 1, 1) := by decide +kernel
theorem dX7_modeInLoad_95 : decode cX7_modeInLoad 95 = .ok (.bipush 49, 2) := by decide +kernel
theorem dX7_modeInLoad_97 : decode cX7_modeInLoad 97 = .ok (.if_icmp .ne 8, 3) := by decide +kernel
theorem dX7_modeInLoad_100 : decode cX7_modeInLoad 100 = .ok (.bipush 12, 2) := by decide +kernel
theorem dX7_modeInLoad_102 : decode cX7_modeInLoad 102 = .ok (.goto 14, 3) := by decide +kernel
theorem dX7_modeInLoad_105 : decode cX7_modeInLoad 105 = .ok (.iload_n 1, 1) := by decide +kernel
theorem dX7_modeInLoad_106 : decode cX7_modeInLoad 106 = .ok (.bipush 93, 2) := by decide +kernel
theorem dX7_modeInLoad_108 : decode cX7_modeInLoad 108 = .ok (.if_icmp .ne 7, 3) := by decide +kernel
theorem dX7_modeInLoad_111 : decode cX7_modeInLoad 111 = .ok (.iconst 5, 1) := by decide +kernel
theorem dX7_modeInLoad_112 : decode cX7_modeInLoad 112 = .ok (.goto 4, 3) := by decide +kernel
theorem dX7_modeInLoad_115 : decode cX7_modeInLoad 115 = .ok (.iconst (-1), 1) := by decide +kernel
theorem dX7_modeInLoad_116 : decode cX7_modeInLoad 116 = .ok (.ireturn, 1) := by decide +kernel
theorem dX7_modeInLoad_117 : decode cX7_modeInLoad 117 = .ok (.iload_n 1, 1) := by decide +kernel
theorem dX7_modeInLoad_118 : decode cX7_modeInLoad 118 = .ok (.bipush 93, 2) := by decide +kernel
theorem dX7_modeInLoad_120 : decode cX7_modeInLoad 120 = .ok (.if_icmp .ne 7, 3) := by decide +kernel
theorem dX7_modeInLoad_123 : decode cX7_modeInLoad 123 = .ok (.iconst 5, 1) := by decide +kernel
theorem dX7_modeInLoad_124 : decode cX7_modeInLoad 124 = .ok (.goto 4, 3) := by decide +kernel
theorem dX7_modeInLoad_127 : decode cX7_modeInLoad 127 = .ok (.iconst (-1), 1) := by decide +kernel
theorem dX7_modeInLoad_128 : decode cX7_modeInLoad 128 = .ok (.ireturn, 1) := by decide +kernel
theorem dX7_modeInLoad_129 : decode cX7_modeInLoad 129 = .ok (.iconst (-1), 1) := by decide +kernel
theorem dX7_modeInLoad_130 : decode cX7_modeInLoad 130 = .ok (.ireturn, 1) := by decide +kernel
def fX7_modeInLoad_L100  (μ : Mem) : Option (Int32 × Mem) :=
  some ((12 : Int32), μ)
def fX7_modeInLoad (μ : Mem) (a0 : Int32) (a1 : Int32) : Option (Int32 × Mem) :=
  if a0 = (8 : Int32) then
  bd (fX7_isLetter μ a1) fun r6 μ5 =>
  if r6 = 0 then
  some ((-1 : Int32), μ5)
  else
  some ((9 : Int32), μ5)
  else
  if a0 = (9 : Int32) then
  if a1 = (43 : Int32) then
  some ((10 : Int32), μ)
  else
  some ((-1 : Int32), μ)
  else
  if a0 = (10 : Int32) then
  if a1 = (49 : Int32) then
  some ((11 : Int32), μ)
  else
  bd (fX7_isDigit μ a1) fun r8 μ7 =>
  if r8 = 0 then
  some ((-1 : Int32), μ7)
  else
  some ((12 : Int32), μ7)
  else
  if a0 = (11 : Int32) then
  if a1 = (48 : Int32) then
  fX7_modeInLoad_L100 μ
  else
  if a1 = (49 : Int32) then
  fX7_modeInLoad_L100 μ
  else
  if a1 = (93 : Int32) then
  some ((5 : Int32), μ)
  else
  some ((-1 : Int32), μ)
  else
  if a0 = (12 : Int32) then
  if a1 = (93 : Int32) then
  some ((5 : Int32), μ)
  else
  some ((-1 : Int32), μ)
  else
  some ((-1 : Int32), μ)
theorem kX7_modeInLoad_L100 {p : Program} {l : Launch} {e : Env} {s : State} {m : MethodId} {args : Array Value} {below : List Frame} {meth : Method} {c : Code} {D : va_G} {cI cR : ClassId} {ad : Nat → Nat} {A0 : Nat → Prop} (E : EV p s m args meth c cX7_modeInLoad 2 RX7 D cI cR ad shX NX A0) (hr : meth.sig.returnType = (some .int))  (μ : Mem) : LL p l e (RM 1) s m args below meth c 2 D cI cR ad shX NX A0 (fun (r : Int32) μ' => KG below args s D cI cR ad shX NX A0 (some (.int r)) μ') (fX7_modeInLoad_L100 μ) 0 0 100 [none, none] [] μ := by
  rw [fX7_modeInLoad_L100]
  refine ll_bipush E (pc := 100) dX7_modeInLoad_100 kb_12 ?_
  refine ll_goto E (pc := 102) (tgt := 116) dX7_modeInLoad_102 rfl ?_
  exact ll_ireturn E (pc := 116) hr dX7_modeInLoad_116
theorem ctX7_modeInLoad {l : Launch} {D : va_G} {cI cR : ClassId} {ad : Nat → Nat} {μ : Mem} {a0 : Int32} {a1 : Int32} {r : Int32} {μ' : Mem} (hf : fX7_modeInLoad μ a0 a1 = some (r, μ')) : CT l yX7_modeInLoad cX7_modeInLoad 2 (some .int) 1 D cI cR ad shX NX [.int a0, .int a1] μ (some (.int r)) μ' :=
  ct_of (own := RX7) (ov := fun r => some (.int r)) (by decide +kernel) rfl (Nat.le_of_ble_eq_true rfl) (fun p e s m below meth c A0 E hr => by
    refine ll_lo (lo' := [some (.int a0), some (.int a1)]) ⟨rfl, rfl, trivial⟩ ?_
    rw [fX7_modeInLoad]
    refine ll_iload_n E (pc := 0) dX7_modeInLoad_0 rfl ?_
    refine ll_ite (fun w8 => ?_) (fun w8 => ?_)
    · refine ll_tabIn E (pc := 1) (tgt := 36) 8 dX7_modeInLoad_1 (w8.trans kc_8.symm) kt_8 (by decide) (by decide) rfl rfl ?_
      refine ll_iload_n E (pc := 36) dX7_modeInLoad_36 rfl ?_
      refine ll_callSi E (pc := 37) (d := 0) [.int a1] [] dX7_modeInLoad_37 cv_X7_27 (fun h => ctX7_isLetter h) rfl rfl (Nat.le_of_ble_eq_true rfl) ⟨(Nat.le_of_ble_eq_true rfl), (Nat.le_of_ble_eq_true rfl)⟩ ⟨(Nat.le_of_ble_eq_true rfl), (Nat.le_of_ble_eq_true rfl)⟩ ?_
      intro r6 μ5
      refine ll_if_eq E (pc := 40) (tgt := 48) dX7_modeInLoad_40 rfl ?_ ?_
      · refine ll_iconst E (pc := 48) dX7_modeInLoad_48 kc_m1 ?_
        exact ll_ireturn E (pc := 49) hr dX7_modeInLoad_49
      · refine ll_bipush E (pc := 43) dX7_modeInLoad_43 kb_9 ?_
        refine ll_goto E (pc := 45) (tgt := 49) dX7_modeInLoad_45 rfl ?_
        exact ll_ireturn E (pc := 49) hr dX7_modeInLoad_49
    · skip
      refine ll_ite (fun w9 => ?_) (fun w9 => ?_)
      · refine ll_tabIn E (pc := 1) (tgt := 50) 9 dX7_modeInLoad_1 (w9.trans kc_9.symm) kt_9 (by decide) (by decide) rfl rfl ?_
        refine ll_iload_n E (pc := 50) dX7_modeInLoad_50 rfl ?_
        refine ll_bipush E (pc := 51) dX7_modeInLoad_51 kb_43 ?_
        refine ll_icmp_ne E (pc := 53) (tgt := 61) dX7_modeInLoad_53 rfl ?_ ?_
        · refine ll_iconst E (pc := 61) dX7_modeInLoad_61 kc_m1 ?_
          exact ll_ireturn E (pc := 62) hr dX7_modeInLoad_62
        · refine ll_bipush E (pc := 56) dX7_modeInLoad_56 kb_10 ?_
          refine ll_goto E (pc := 58) (tgt := 62) dX7_modeInLoad_58 rfl ?_
          exact ll_ireturn E (pc := 62) hr dX7_modeInLoad_62
      · skip
        refine ll_ite (fun w10 => ?_) (fun w10 => ?_)
        · refine ll_tabIn E (pc := 1) (tgt := 63) 10 dX7_modeInLoad_1 (w10.trans kc_10.symm) kt_10 (by decide) (by decide) rfl rfl ?_
          refine ll_iload_n E (pc := 63) dX7_modeInLoad_63 rfl ?_
          refine ll_bipush E (pc := 64) dX7_modeInLoad_64 kb_49 ?_
          refine ll_icmp_ne E (pc := 66) (tgt := 74) dX7_modeInLoad_66 rfl ?_ ?_
          · refine ll_iload_n E (pc := 74) dX7_modeInLoad_74 rfl ?_
            refine ll_callSi E (pc := 75) (d := 0) [.int a1] [] dX7_modeInLoad_75 cv_X7_37 (fun h => ctX7_isDigit h) rfl rfl (Nat.le_of_ble_eq_true rfl) ⟨(Nat.le_of_ble_eq_true rfl), (Nat.le_of_ble_eq_true rfl)⟩ ⟨(Nat.le_of_ble_eq_true rfl), (Nat.le_of_ble_eq_true rfl)⟩ ?_
            intro r8 μ7
            refine ll_if_eq E (pc := 78) (tgt := 86) dX7_modeInLoad_78 rfl ?_ ?_
            · refine ll_iconst E (pc := 86) dX7_modeInLoad_86 kc_m1 ?_
              exact ll_ireturn E (pc := 87) hr dX7_modeInLoad_87
            · refine ll_bipush E (pc := 81) dX7_modeInLoad_81 kb_12 ?_
              refine ll_goto E (pc := 83) (tgt := 87) dX7_modeInLoad_83 rfl ?_
              exact ll_ireturn E (pc := 87) hr dX7_modeInLoad_87
          · refine ll_bipush E (pc := 69) dX7_modeInLoad_69 kb_11 ?_
            refine ll_goto E (pc := 71) (tgt := 87) dX7_modeInLoad_71 rfl ?_
            exact ll_ireturn E (pc := 87) hr dX7_modeInLoad_87
        · skip
          refine ll_ite (fun w11 => ?_) (fun w11 => ?_)
          · refine ll_tabIn E (pc := 1) (tgt := 88) 11 dX7_modeInLoad_1 (w11.trans kc_11.symm) kt_11 (by decide) (by decide) rfl rfl ?_
            refine ll_iload_n E (pc := 88) dX7_modeInLoad_88 rfl ?_
            refine ll_bipush E (pc := 89) dX7_modeInLoad_89 kb_48 ?_
            refine ll_icmp_eq E (pc := 91) (tgt := 100) dX7_modeInLoad_91 rfl ?_ ?_
            · exact ll_lo (lo' := [none, none]) trivial (kX7_modeInLoad_L100 E hr μ)
            · refine ll_iload_n E (pc := 94) dX7_modeInLoad_94 rfl ?_
              refine ll_bipush E (pc := 95) dX7_modeInLoad_95 kb_49 ?_
              refine ll_icmp_ne E (pc := 97) (tgt := 105) dX7_modeInLoad_97 rfl ?_ ?_
              · refine ll_iload_n E (pc := 105) dX7_modeInLoad_105 rfl ?_
                refine ll_bipush E (pc := 106) dX7_modeInLoad_106 kb_93 ?_
                refine ll_icmp_ne E (pc := 108) (tgt := 115) dX7_modeInLoad_108 rfl ?_ ?_
                · refine ll_iconst E (pc := 115) dX7_modeInLoad_115 kc_m1 ?_
                  exact ll_ireturn E (pc := 116) hr dX7_modeInLoad_116
                · refine ll_iconst E (pc := 111) dX7_modeInLoad_111 kc_5 ?_
                  refine ll_goto E (pc := 112) (tgt := 116) dX7_modeInLoad_112 rfl ?_
                  exact ll_ireturn E (pc := 116) hr dX7_modeInLoad_116
              · exact ll_lo (lo' := [none, none]) trivial (kX7_modeInLoad_L100 E hr μ)
          · skip
            refine ll_ite (fun w12 => ?_) (fun w12 => ?_)
            · refine ll_tabIn E (pc := 1) (tgt := 117) 12 dX7_modeInLoad_1 (w12.trans kc_12.symm) kt_12 (by decide) (by decide) rfl rfl ?_
              refine ll_iload_n E (pc := 117) dX7_modeInLoad_117 rfl ?_
              refine ll_bipush E (pc := 118) dX7_modeInLoad_118 kb_93 ?_
              refine ll_icmp_ne E (pc := 120) (tgt := 127) dX7_modeInLoad_120 rfl ?_ ?_
              · refine ll_iconst E (pc := 127) dX7_modeInLoad_127 kc_m1 ?_
                exact ll_ireturn E (pc := 128) hr dX7_modeInLoad_128
              · refine ll_iconst E (pc := 123) dX7_modeInLoad_123 kc_5 ?_
                refine ll_goto E (pc := 124) (tgt := 128) dX7_modeInLoad_124 rfl ?_
                exact ll_ireturn E (pc := 128) hr dX7_modeInLoad_128
            · skip
              refine ll_tabOut E (pc := 1) (tgt := 129) dX7_modeInLoad_1 (by have g8 := tab_ne w8 kt0_8; have g9 := tab_ne w9 kt0_9; have g10 := tab_ne w10 kt0_10; have g11 := tab_ne w11 kt0_11; have g12 := tab_ne w12 kt0_12; omega) rfl ?_
              refine ll_iconst E (pc := 129) dX7_modeInLoad_129 kc_m1 ?_
              exact ll_ireturn E (pc := 130) hr dX7_modeInLoad_130) hf
theorem dX7_modeInStore_0 : decode cX7_modeInStore 0 = .ok (.iload_n 0, 1) := by decide +kernel
theorem dX7_modeInStore_1 : decode cX7_modeInStore 1 = .ok (.tableswitch 130 13 17 #[35, 49, 62, 87, 117], 35) := by decide +kernel
theorem dX7_modeInStore_36 : decode cX7_modeInStore 36 = .ok (.iload_n 1, 1) := by decide +kernel
theorem dX7_modeInStore_37 : decode cX7_modeInStore 37 = .ok (.invokestatic 27, 3) := by decide +kernel
theorem dX7_modeInStore_40 : decode cX7_modeInStore 40 = .ok (.ifCond .eq 8, 3) := by decide +kernel
theorem dX7_modeInStore_43 : decode cX7_modeInStore 43 = .ok (.bipush 14, 2) := by decide +kernel
theorem dX7_modeInStore_45 : decode cX7_modeInStore 45 = .ok (.goto 4, 3) := by decide +kernel
theorem dX7_modeInStore_48 : decode cX7_modeInStore 48 = .ok (.iconst (-1), 1) := by decide +kernel
theorem dX7_modeInStore_49 : decode cX7_modeInStore 49 = .ok (.ireturn, 1) := by decide +kernel
theorem dX7_modeInStore_50 : decode cX7_modeInStore 50 = .ok (.iload_n 1, 1) := by decide +kernel
theorem dX7_modeInStore_51 : decode cX7_modeInStore 51 = .ok (.bipush 43, 2) := by decide +kernel
theorem dX7_modeInStore_53 : decode cX7_modeInStore 53 = .ok (.if_icmp .ne 8, 3) := by decide +kernel
theorem dX7_modeInStore_56 : decode cX7_modeInStore 56 = .ok (.bipush 15, 2) := by decide +kernel
theorem dX7_modeInStore_58 : decode cX7_modeInStore 58 = .ok (.goto 4, 3) := by decide +kernel
theorem dX7_modeInStore_61 : decode cX7_modeInStore 61 = .ok (.iconst (-1), 1) := by decide +kernel
theorem dX7_modeInStore_62 : decode cX7_modeInStore 62 = .ok (.ireturn, 1) := by decide +kernel
theorem dX7_modeInStore_63 : decode cX7_modeInStore 63 = .ok (.iload_n 1, 1) := by decide +kernel
theorem dX7_modeInStore_64 : decode cX7_modeInStore 64 = .ok (.bipush 49, 2) := by decide +kernel
theorem dX7_modeInStore_66 : decode cX7_modeInStore 66 = .ok (.if_icmp .ne 8, 3) := by decide +kernel
theorem dX7_modeInStore_69 : decode cX7_modeInStore 69 = .ok (.bipush 16, 2) := by decide +kernel
theorem dX7_modeInStore_71 : decode cX7_modeInStore 71 = .ok (.goto 16, 3) := by decide +kernel
theorem dX7_modeInStore_74 : decode cX7_modeInStore 74 = .ok (.iload_n 1, 1) := by decide +kernel
theorem dX7_modeInStore_75 : decode cX7_modeInStore 75 = .ok (.invokestatic 37, 3) := by decide +kernel
theorem dX7_modeInStore_78 : decode cX7_modeInStore 78 = .ok (.ifCond .eq 8, 3) := by decide +kernel
theorem dX7_modeInStore_81 : decode cX7_modeInStore 81 = .ok (.bipush 17, 2) := by decide +kernel
theorem dX7_modeInStore_83 : decode cX7_modeInStore 83 = .ok (.goto 4, 3) := by decide +kernel
theorem dX7_modeInStore_86 : decode cX7_modeInStore 86 = .ok (.iconst (-1), 1) := by decide +kernel
theorem dX7_modeInStore_87 : decode cX7_modeInStore 87 = .ok (.ireturn, 1) := by decide +kernel
theorem dX7_modeInStore_88 : decode cX7_modeInStore 88 = .ok (.iload_n 1, 1) := by decide +kernel
theorem dX7_modeInStore_89 : decode cX7_modeInStore 89 = .ok (.bipush 48, 2) := by decide +kernel
theorem dX7_modeInStore_91 : decode cX7_modeInStore 91 = .ok (.if_icmp .eq 9, 3) := by decide +kernel
theorem dX7_modeInStore_94 : decode cX7_modeInStore 94 = .ok (.iload_n 1, 1) := by decide +kernel
theorem dX7_modeInStore_95 : decode cX7_modeInStore 95 = .ok (.bipush 49, 2) := by decide +kernel
theorem dX7_modeInStore_97 : decode cX7_modeInStore 97 = .ok (.if_icmp .ne 8, 3) := by decide +kernel
theorem dX7_modeInStore_100 : decode cX7_modeInStore 100 = .ok (.bipush 17, 2) := by decide +kernel
theorem dX7_modeInStore_102 : decode cX7_modeInStore 102 = .ok (.goto 15, 3) := by decide +kernel
theorem dX7_modeInStore_105 : decode cX7_modeInStore 105 = .ok (.iload_n 1, 1) := by decide +kernel
theorem dX7_modeInStore_106 : decode cX7_modeInStore 106 = .ok (.bipush 93, 2) := by decide +kernel
theorem dX7_modeInStore_108 : decode cX7_modeInStore 108 = .ok (.if_icmp .ne 8, 3) := by decide +kernel
theorem dX7_modeInStore_111 : decode cX7_modeInStore 111 = .ok (.bipush 18, 2) := by decide +kernel
theorem dX7_modeInStore_113 : decode cX7_modeInStore 113 = .ok (.goto 4, 3) := by decide +kernel
theorem dX7_modeInStore_116 : decode cX7_modeInStore 116 = .ok (.iconst (-1), 1) := by decide +kernel
theorem dX7_modeInStore_117 : decode cX7_modeInStore 117 = .ok (.ireturn, 1) := by decide +kernel
theorem dX7_modeInStore_118 : decode cX7_modeInStore 118 = .ok (.iload_n 1, 1) := by decide +kernel
theorem dX7_modeInStore_119 : decode cX7_modeInStore 119 = .ok (.bipush 93, 2) := by decide +kernel
theorem dX7_modeInStore_121 : decode cX7_modeInStore 121 = .ok (.if_icmp .ne 8, 3) := by decide +kernel
theorem dX7_modeInStore_124 : decode cX7_modeInStore 124 = .ok (.bipush 18, 2) := by decide +kernel
theorem dX7_modeInStore_126 : decode cX7_modeInStore 126 = .ok (.goto 4, 3) := by decide +kernel
theorem dX7_modeInStore_129 : decode cX7_modeInStore 129 = .ok (.iconst (-1), 1) := by decide +kernel
theorem dX7_modeInStore_130 : decode cX7_modeInStore 130 = .ok (.ireturn, 1) := by decide +kernel
theorem dX7_modeInStore_131 : decode cX7_modeInStore 131 = .ok (.iconst (-1), 1) := by decide +kernel
theorem dX7_modeInStore_132 : decode cX7_modeInStore 132 = .ok (.ireturn, 1) := by decide +kernel
def fX7_modeInStore_L100  (μ : Mem) : Option (Int32 × Mem) :=
  some ((17 : Int32), μ)
def fX7_modeInStore (μ : Mem) (a0 : Int32) (a1 : Int32) : Option (Int32 × Mem) :=
  if a0 = (13 : Int32) then
  bd (fX7_isLetter μ a1) fun r6 μ5 =>
  if r6 = 0 then
  some ((-1 : Int32), μ5)
  else
  some ((14 : Int32), μ5)
  else
  if a0 = (14 : Int32) then
  if a1 = (43 : Int32) then
  some ((15 : Int32), μ)
  else
  some ((-1 : Int32), μ)
  else
  if a0 = (15 : Int32) then
  if a1 = (49 : Int32) then
  some ((16 : Int32), μ)
  else
  bd (fX7_isDigit μ a1) fun r8 μ7 =>
  if r8 = 0 then
  some ((-1 : Int32), μ7)
  else
  some ((17 : Int32), μ7)
  else
  if a0 = (16 : Int32) then
  if a1 = (48 : Int32) then
  fX7_modeInStore_L100 μ
  else
  if a1 = (49 : Int32) then
  fX7_modeInStore_L100 μ
  else
  if a1 = (93 : Int32) then
  some ((18 : Int32), μ)
  else
  some ((-1 : Int32), μ)
  else
  if a0 = (17 : Int32) then
  if a1 = (93 : Int32) then
  some ((18 : Int32), μ)
  else
  some ((-1 : Int32), μ)
  else
  some ((-1 : Int32), μ)
theorem kX7_modeInStore_L100 {p : Program} {l : Launch} {e : Env} {s : State} {m : MethodId} {args : Array Value} {below : List Frame} {meth : Method} {c : Code} {D : va_G} {cI cR : ClassId} {ad : Nat → Nat} {A0 : Nat → Prop} (E : EV p s m args meth c cX7_modeInStore 2 RX7 D cI cR ad shX NX A0) (hr : meth.sig.returnType = (some .int))  (μ : Mem) : LL p l e (RM 1) s m args below meth c 2 D cI cR ad shX NX A0 (fun (r : Int32) μ' => KG below args s D cI cR ad shX NX A0 (some (.int r)) μ') (fX7_modeInStore_L100 μ) 0 0 100 [none, none] [] μ := by
  rw [fX7_modeInStore_L100]
  refine ll_bipush E (pc := 100) dX7_modeInStore_100 kb_17 ?_
  refine ll_goto E (pc := 102) (tgt := 117) dX7_modeInStore_102 rfl ?_
  exact ll_ireturn E (pc := 117) hr dX7_modeInStore_117
theorem ctX7_modeInStore {l : Launch} {D : va_G} {cI cR : ClassId} {ad : Nat → Nat} {μ : Mem} {a0 : Int32} {a1 : Int32} {r : Int32} {μ' : Mem} (hf : fX7_modeInStore μ a0 a1 = some (r, μ')) : CT l yX7_modeInStore cX7_modeInStore 2 (some .int) 1 D cI cR ad shX NX [.int a0, .int a1] μ (some (.int r)) μ' :=
  ct_of (own := RX7) (ov := fun r => some (.int r)) (by decide +kernel) rfl (Nat.le_of_ble_eq_true rfl) (fun p e s m below meth c A0 E hr => by
    refine ll_lo (lo' := [some (.int a0), some (.int a1)]) ⟨rfl, rfl, trivial⟩ ?_
    rw [fX7_modeInStore]
    refine ll_iload_n E (pc := 0) dX7_modeInStore_0 rfl ?_
    refine ll_ite (fun w13 => ?_) (fun w13 => ?_)
    · refine ll_tabIn E (pc := 1) (tgt := 36) 13 dX7_modeInStore_1 (w13.trans kc_13.symm) kt_13 (by decide) (by decide) rfl rfl ?_
      refine ll_iload_n E (pc := 36) dX7_modeInStore_36 rfl ?_
      refine ll_callSi E (pc := 37) (d := 0) [.int a1] [] dX7_modeInStore_37 cv_X7_27 (fun h => ctX7_isLetter h) rfl rfl (Nat.le_of_ble_eq_true rfl) ⟨(Nat.le_of_ble_eq_true rfl), (Nat.le_of_ble_eq_true rfl)⟩ ⟨(Nat.le_of_ble_eq_true rfl), (Nat.le_of_ble_eq_true rfl)⟩ ?_
      intro r6 μ5
      refine ll_if_eq E (pc := 40) (tgt := 48) dX7_modeInStore_40 rfl ?_ ?_
      · refine ll_iconst E (pc := 48) dX7_modeInStore_48 kc_m1 ?_
        exact ll_ireturn E (pc := 49) hr dX7_modeInStore_49
      · refine ll_bipush E (pc := 43) dX7_modeInStore_43 kb_14 ?_
        refine ll_goto E (pc := 45) (tgt := 49) dX7_modeInStore_45 rfl ?_
        exact ll_ireturn E (pc := 49) hr dX7_modeInStore_49
    · skip
      refine ll_ite (fun w14 => ?_) (fun w14 => ?_)
      · refine ll_tabIn E (pc := 1) (tgt := 50) 14 dX7_modeInStore_1 (w14.trans kc_14.symm) kt_14 (by decide) (by decide) rfl rfl ?_
        refine ll_iload_n E (pc := 50) dX7_modeInStore_50 rfl ?_
        refine ll_bipush E (pc := 51) dX7_modeInStore_51 kb_43 ?_
        refine ll_icmp_ne E (pc := 53) (tgt := 61) dX7_modeInStore_53 rfl ?_ ?_
        · refine ll_iconst E (pc := 61) dX7_modeInStore_61 kc_m1 ?_
          exact ll_ireturn E (pc := 62) hr dX7_modeInStore_62
        · refine ll_bipush E (pc := 56) dX7_modeInStore_56 kb_15 ?_
          refine ll_goto E (pc := 58) (tgt := 62) dX7_modeInStore_58 rfl ?_
          exact ll_ireturn E (pc := 62) hr dX7_modeInStore_62
      · skip
        refine ll_ite (fun w15 => ?_) (fun w15 => ?_)
        · refine ll_tabIn E (pc := 1) (tgt := 63) 15 dX7_modeInStore_1 (w15.trans kc_15.symm) kt_15 (by decide) (by decide) rfl rfl ?_
          refine ll_iload_n E (pc := 63) dX7_modeInStore_63 rfl ?_
          refine ll_bipush E (pc := 64) dX7_modeInStore_64 kb_49 ?_
          refine ll_icmp_ne E (pc := 66) (tgt := 74) dX7_modeInStore_66 rfl ?_ ?_
          · refine ll_iload_n E (pc := 74) dX7_modeInStore_74 rfl ?_
            refine ll_callSi E (pc := 75) (d := 0) [.int a1] [] dX7_modeInStore_75 cv_X7_37 (fun h => ctX7_isDigit h) rfl rfl (Nat.le_of_ble_eq_true rfl) ⟨(Nat.le_of_ble_eq_true rfl), (Nat.le_of_ble_eq_true rfl)⟩ ⟨(Nat.le_of_ble_eq_true rfl), (Nat.le_of_ble_eq_true rfl)⟩ ?_
            intro r8 μ7
            refine ll_if_eq E (pc := 78) (tgt := 86) dX7_modeInStore_78 rfl ?_ ?_
            · refine ll_iconst E (pc := 86) dX7_modeInStore_86 kc_m1 ?_
              exact ll_ireturn E (pc := 87) hr dX7_modeInStore_87
            · refine ll_bipush E (pc := 81) dX7_modeInStore_81 kb_17 ?_
              refine ll_goto E (pc := 83) (tgt := 87) dX7_modeInStore_83 rfl ?_
              exact ll_ireturn E (pc := 87) hr dX7_modeInStore_87
          · refine ll_bipush E (pc := 69) dX7_modeInStore_69 kb_16 ?_
            refine ll_goto E (pc := 71) (tgt := 87) dX7_modeInStore_71 rfl ?_
            exact ll_ireturn E (pc := 87) hr dX7_modeInStore_87
        · skip
          refine ll_ite (fun w16 => ?_) (fun w16 => ?_)
          · refine ll_tabIn E (pc := 1) (tgt := 88) 16 dX7_modeInStore_1 (w16.trans kc_16.symm) kt_16 (by decide) (by decide) rfl rfl ?_
            refine ll_iload_n E (pc := 88) dX7_modeInStore_88 rfl ?_
            refine ll_bipush E (pc := 89) dX7_modeInStore_89 kb_48 ?_
            refine ll_icmp_eq E (pc := 91) (tgt := 100) dX7_modeInStore_91 rfl ?_ ?_
            · exact ll_lo (lo' := [none, none]) trivial (kX7_modeInStore_L100 E hr μ)
            · refine ll_iload_n E (pc := 94) dX7_modeInStore_94 rfl ?_
              refine ll_bipush E (pc := 95) dX7_modeInStore_95 kb_49 ?_
              refine ll_icmp_ne E (pc := 97) (tgt := 105) dX7_modeInStore_97 rfl ?_ ?_
              · refine ll_iload_n E (pc := 105) dX7_modeInStore_105 rfl ?_
                refine ll_bipush E (pc := 106) dX7_modeInStore_106 kb_93 ?_
                refine ll_icmp_ne E (pc := 108) (tgt := 116) dX7_modeInStore_108 rfl ?_ ?_
                · refine ll_iconst E (pc := 116) dX7_modeInStore_116 kc_m1 ?_
                  exact ll_ireturn E (pc := 117) hr dX7_modeInStore_117
                · refine ll_bipush E (pc := 111) dX7_modeInStore_111 kb_18 ?_
                  refine ll_goto E (pc := 113) (tgt := 117) dX7_modeInStore_113 rfl ?_
                  exact ll_ireturn E (pc := 117) hr dX7_modeInStore_117
              · exact ll_lo (lo' := [none, none]) trivial (kX7_modeInStore_L100 E hr μ)
          · skip
            refine ll_ite (fun w17 => ?_) (fun w17 => ?_)
            · refine ll_tabIn E (pc := 1) (tgt := 118) 17 dX7_modeInStore_1 (w17.trans kc_17.symm) kt_17 (by decide) (by decide) rfl rfl ?_
              refine ll_iload_n E (pc := 118) dX7_modeInStore_118 rfl ?_
              refine ll_bipush E (pc := 119) dX7_modeInStore_119 kb_93 ?_
              refine ll_icmp_ne E (pc := 121) (tgt := 129) dX7_modeInStore_121 rfl ?_ ?_
              · refine ll_iconst E (pc := 129) dX7_modeInStore_129 kc_m1 ?_
                exact ll_ireturn E (pc := 130) hr dX7_modeInStore_130
              · refine ll_bipush E (pc := 124) dX7_modeInStore_124 kb_18 ?_
                refine ll_goto E (pc := 126) (tgt := 130) dX7_modeInStore_126 rfl ?_
                exact ll_ireturn E (pc := 130) hr dX7_modeInStore_130
            · skip
              refine ll_tabOut E (pc := 1) (tgt := 131) dX7_modeInStore_1 (by have g13 := tab_ne w13 kt0_13; have g14 := tab_ne w14 kt0_14; have g15 := tab_ne w15 kt0_15; have g16 := tab_ne w16 kt0_16; have g17 := tab_ne w17 kt0_17; omega) rfl ?_
              refine ll_iconst E (pc := 131) dX7_modeInStore_131 kc_m1 ?_
              exact ll_ireturn E (pc := 132) hr dX7_modeInStore_132) hf
theorem dX7_modeBehind_0 : decode cX7_modeBehind 0 = .ok (.iload_n 0, 1) := by decide +kernel
theorem dX7_modeBehind_1 : decode cX7_modeBehind 1 = .ok (.tableswitch 216 0 19 #[95, 119, 131, 136, 141, 164, 176, 190, 216, 216, 216, 216, 216, 216, 216, 216, 216, 216, 203, 190], 95) := by decide +kernel
theorem dX7_modeBehind_96 : decode cX7_modeBehind 96 = .ok (.iload_n 1, 1) := by decide +kernel
theorem dX7_modeBehind_97 : decode cX7_modeBehind 97 = .ok (.bipush 91, 2) := by decide +kernel
theorem dX7_modeBehind_99 : decode cX7_modeBehind 99 = .ok (.if_icmp .ne 8, 3) := by decide +kernel
theorem dX7_modeBehind_102 : decode cX7_modeBehind 102 = .ok (.bipush 13, 2) := by decide +kernel
theorem dX7_modeBehind_104 : decode cX7_modeBehind 104 = .ok (.goto 15, 3) := by decide +kernel
theorem dX7_modeBehind_107 : decode cX7_modeBehind 107 = .ok (.iload_n 1, 1) := by decide +kernel
theorem dX7_modeBehind_108 : decode cX7_modeBehind 108 = .ok (.invokestatic 27, 3) := by decide +kernel
theorem dX7_modeBehind_111 : decode cX7_modeBehind 111 = .ok (.ifCond .eq 7, 3) := by decide +kernel
theorem dX7_modeBehind_114 : decode cX7_modeBehind 114 = .ok (.iconst 1, 1) := by decide +kernel
theorem dX7_modeBehind_115 : decode cX7_modeBehind 115 = .ok (.goto 4, 3) := by decide +kernel
theorem dX7_modeBehind_118 : decode cX7_modeBehind 118 = .ok (.iconst (-1), 1) := by decide +kernel
theorem dX7_modeBehind_119 : decode cX7_modeBehind 119 = .ok (.ireturn, 1) := by decide +kernel
theorem dX7_modeBehind_120 : decode cX7_modeBehind 120 = .ok (.iload_n 1, 1) := by decide +kernel
theorem dX7_modeBehind_121 : decode cX7_modeBehind 121 = .ok (.bipush 61, 2) := by decide +kernel
theorem dX7_modeBehind_123 : decode cX7_modeBehind 123 = .ok (.if_icmp .ne 7, 3) := by decide +kernel
theorem dX7_modeBehind_126 : decode cX7_modeBehind 126 = .ok (.iconst 2, 1) := by decide +kernel
theorem dX7_modeBehind_127 : decode cX7_modeBehind 127 = .ok (.goto 4, 3) := by decide +kernel
theorem dX7_modeBehind_130 : decode cX7_modeBehind 130 = .ok (.iconst (-1), 1) := by decide +kernel
theorem dX7_modeBehind_131 : decode cX7_modeBehind 131 = .ok (.ireturn, 1) := by decide +kernel
theorem dX7_modeBehind_132 : decode cX7_modeBehind 132 = .ok (.iload_n 1, 1) := by decide +kernel
theorem dX7_modeBehind_133 : decode cX7_modeBehind 133 = .ok (.invokestatic 31, 3) := by decide +kernel
theorem dX7_modeBehind_136 : decode cX7_modeBehind 136 = .ok (.ireturn, 1) := by decide +kernel
theorem dX7_modeBehind_137 : decode cX7_modeBehind 137 = .ok (.iload_n 1, 1) := by decide +kernel
theorem dX7_modeBehind_138 : decode cX7_modeBehind 138 = .ok (.invokestatic 34, 3) := by decide +kernel
theorem dX7_modeBehind_141 : decode cX7_modeBehind 141 = .ok (.ireturn, 1) := by decide +kernel
theorem dX7_modeBehind_142 : decode cX7_modeBehind 142 = .ok (.iload_n 1, 1) := by decide +kernel
theorem dX7_modeBehind_143 : decode cX7_modeBehind 143 = .ok (.invokestatic 37, 3) := by decide +kernel
theorem dX7_modeBehind_146 : decode cX7_modeBehind 146 = .ok (.ifCond .eq 7, 3) := by decide +kernel
theorem dX7_modeBehind_149 : decode cX7_modeBehind 149 = .ok (.iconst 5, 1) := by decide +kernel
theorem dX7_modeBehind_150 : decode cX7_modeBehind 150 = .ok (.goto 14, 3) := by decide +kernel
theorem dX7_modeBehind_153 : decode cX7_modeBehind 153 = .ok (.iload_n 1, 1) := by decide +kernel
theorem dX7_modeBehind_154 : decode cX7_modeBehind 154 = .ok (.bipush 59, 2) := by decide +kernel
theorem dX7_modeBehind_156 : decode cX7_modeBehind 156 = .ok (.if_icmp .ne 7, 3) := by decide +kernel
theorem dX7_modeBehind_159 : decode cX7_modeBehind 159 = .ok (.iconst 0, 1) := by decide +kernel
theorem dX7_modeBehind_160 : decode cX7_modeBehind 160 = .ok (.goto 4, 3) := by decide +kernel
theorem dX7_modeBehind_163 : decode cX7_modeBehind 163 = .ok (.iconst (-1), 1) := by decide +kernel
theorem dX7_modeBehind_164 : decode cX7_modeBehind 164 = .ok (.ireturn, 1) := by decide +kernel
theorem dX7_modeBehind_165 : decode cX7_modeBehind 165 = .ok (.iload_n 1, 1) := by decide +kernel
theorem dX7_modeBehind_166 : decode cX7_modeBehind 166 = .ok (.bipush 59, 2) := by decide +kernel
theorem dX7_modeBehind_168 : decode cX7_modeBehind 168 = .ok (.if_icmp .ne 7, 3) := by decide +kernel
theorem dX7_modeBehind_171 : decode cX7_modeBehind 171 = .ok (.iconst 0, 1) := by decide +kernel
theorem dX7_modeBehind_172 : decode cX7_modeBehind 172 = .ok (.goto 4, 3) := by decide +kernel
theorem dX7_modeBehind_175 : decode cX7_modeBehind 175 = .ok (.iconst (-1), 1) := by decide +kernel
theorem dX7_modeBehind_176 : decode cX7_modeBehind 176 = .ok (.ireturn, 1) := by decide +kernel
theorem dX7_modeBehind_177 : decode cX7_modeBehind 177 = .ok (.iload_n 1, 1) := by decide +kernel
theorem dX7_modeBehind_178 : decode cX7_modeBehind 178 = .ok (.invokestatic 40, 3) := by decide +kernel
theorem dX7_modeBehind_181 : decode cX7_modeBehind 181 = .ok (.ifCond .eq 8, 3) := by decide +kernel
theorem dX7_modeBehind_184 : decode cX7_modeBehind 184 = .ok (.bipush 7, 2) := by decide +kernel
theorem dX7_modeBehind_186 : decode cX7_modeBehind 186 = .ok (.goto 4, 3) := by decide +kernel
theorem dX7_modeBehind_189 : decode cX7_modeBehind 189 = .ok (.iconst (-1), 1) := by decide +kernel
theorem dX7_modeBehind_190 : decode cX7_modeBehind 190 = .ok (.ireturn, 1) := by decide +kernel
theorem dX7_modeBehind_191 : decode cX7_modeBehind 191 = .ok (.iload_n 1, 1) := by decide +kernel
theorem dX7_modeBehind_192 : decode cX7_modeBehind 192 = .ok (.invokestatic 27, 3) := by decide +kernel
theorem dX7_modeBehind_195 : decode cX7_modeBehind 195 = .ok (.ifCond .eq 7, 3) := by decide +kernel
theorem dX7_modeBehind_198 : decode cX7_modeBehind 198 = .ok (.iconst 5, 1) := by decide +kernel
theorem dX7_modeBehind_199 : decode cX7_modeBehind 199 = .ok (.goto 4, 3) := by decide +kernel
theorem dX7_modeBehind_202 : decode cX7_modeBehind 202 = .ok (.iconst (-1), 1) := by decide +kernel
theorem dX7_modeBehind_203 : decode cX7_modeBehind 203 = .ok (.ireturn, 1) := by decide +kernel
theorem dX7_modeBehind_204 : decode cX7_modeBehind 204 = .ok (.iload_n 1, 1) := by decide +kernel
theorem dX7_modeBehind_205 : decode cX7_modeBehind 205 = .ok (.bipush 61, 2) := by decide +kernel
theorem dX7_modeBehind_207 : decode cX7_modeBehind 207 = .ok (.if_icmp .ne 8, 3) := by decide +kernel
theorem dX7_modeBehind_210 : decode cX7_modeBehind 210 = .ok (.bipush 19, 2) := by decide +kernel
theorem dX7_modeBehind_212 : decode cX7_modeBehind 212 = .ok (.goto 4, 3) := by decide +kernel
theorem dX7_modeBehind_215 : decode cX7_modeBehind 215 = .ok (.iconst (-1), 1) := by decide +kernel
theorem dX7_modeBehind_216 : decode cX7_modeBehind 216 = .ok (.ireturn, 1) := by decide +kernel
theorem dX7_modeBehind_217 : decode cX7_modeBehind 217 = .ok (.iload_n 0, 1) := by decide +kernel
theorem dX7_modeBehind_218 : decode cX7_modeBehind 218 = .ok (.bipush 13, 2) := by decide +kernel
theorem dX7_modeBehind_220 : decode cX7_modeBehind 220 = .ok (.if_icmp .ge 11, 3) := by decide +kernel
theorem dX7_modeBehind_223 : decode cX7_modeBehind 223 = .ok (.iload_n 0, 1) := by decide +kernel
theorem dX7_modeBehind_224 : decode cX7_modeBehind 224 = .ok (.iload_n 1, 1) := by decide +kernel
theorem dX7_modeBehind_225 : decode cX7_modeBehind 225 = .ok (.invokestatic 43, 3) := by decide +kernel
theorem dX7_modeBehind_228 : decode cX7_modeBehind 228 = .ok (.goto 8, 3) := by decide +kernel
theorem dX7_modeBehind_231 : decode cX7_modeBehind 231 = .ok (.iload_n 0, 1) := by decide +kernel
theorem dX7_modeBehind_232 : decode cX7_modeBehind 232 = .ok (.iload_n 1, 1) := by decide +kernel
theorem dX7_modeBehind_233 : decode cX7_modeBehind 233 = .ok (.invokestatic 46, 3) := by decide +kernel
theorem dX7_modeBehind_236 : decode cX7_modeBehind 236 = .ok (.ireturn, 1) := by decide +kernel
def fX7_modeBehind (μ : Mem) (a0 : Int32) (a1 : Int32) : Option (Int32 × Mem) :=
  if a0 = (0 : Int32) then
  if a1 = (91 : Int32) then
  some ((13 : Int32), μ)
  else
  bd (fX7_isLetter μ a1) fun r60 μ59 =>
  if r60 = 0 then
  some ((-1 : Int32), μ59)
  else
  some ((1 : Int32), μ59)
  else
  if a0 = (1 : Int32) then
  if a1 = (61 : Int32) then
  some ((2 : Int32), μ)
  else
  some ((-1 : Int32), μ)
  else
  if a0 = (2 : Int32) then
  bd (fX7_modeOnRight μ a1) fun r62 μ61 =>
  some (r62, μ61)
  else
  if a0 = (3 : Int32) then
  bd (fX7_modeInNumber μ a1) fun r64 μ63 =>
  some (r64, μ63)
  else
  if a0 = (4 : Int32) then
  bd (fX7_isDigit μ a1) fun r66 μ65 =>
  if r66 = 0 then
  if a1 = (59 : Int32) then
  some ((0 : Int32), μ65)
  else
  some ((-1 : Int32), μ65)
  else
  some ((5 : Int32), μ65)
  else
  if a0 = (5 : Int32) then
  if a1 = (59 : Int32) then
  some ((0 : Int32), μ)
  else
  some ((-1 : Int32), μ)
  else
  if a0 = (6 : Int32) then
  bd (fX7_isBetween μ a1) fun r68 μ67 =>
  if r68 = 0 then
  some ((-1 : Int32), μ67)
  else
  some ((7 : Int32), μ67)
  else
  if a0 = (7 : Int32) then
  bd (fX7_isLetter μ a1) fun r70 μ69 =>
  if r70 = 0 then
  some ((-1 : Int32), μ69)
  else
  some ((5 : Int32), μ69)
  else
  if a0 = (18 : Int32) then
  if a1 = (61 : Int32) then
  some ((19 : Int32), μ)
  else
  some ((-1 : Int32), μ)
  else
  if a0 = (19 : Int32) then
  bd (fX7_isLetter μ a1) fun r72 μ71 =>
  if r72 = 0 then
  some ((-1 : Int32), μ71)
  else
  some ((5 : Int32), μ71)
  else
  if (13 : Int32) ≤ a0 then
  bd (fX7_modeInStore μ a0 a1) fun r74 μ73 =>
  some (r74, μ73)
  else
  bd (fX7_modeInLoad μ a0 a1) fun r76 μ75 =>
  some (r76, μ75)
theorem ctX7_modeBehind {l : Launch} {D : va_G} {cI cR : ClassId} {ad : Nat → Nat} {μ : Mem} {a0 : Int32} {a1 : Int32} {r : Int32} {μ' : Mem} (hf : fX7_modeBehind μ a0 a1 = some (r, μ')) : CT l yX7_modeBehind cX7_modeBehind 2 (some .int) 3 D cI cR ad shX NX [.int a0, .int a1] μ (some (.int r)) μ' :=
  ct_of (own := RX7) (ov := fun r => some (.int r)) (by decide +kernel) rfl (Nat.le_of_ble_eq_true rfl) (fun p e s m below meth c A0 E hr => by
    refine ll_lo (lo' := [some (.int a0), some (.int a1)]) ⟨rfl, rfl, trivial⟩ ?_
    rw [fX7_modeBehind]
    refine ll_iload_n E (pc := 0) dX7_modeBehind_0 rfl ?_
    refine ll_ite (fun w0 => ?_) (fun w0 => ?_)
    · refine ll_tabIn E (pc := 1) (tgt := 96) 0 dX7_modeBehind_1 (w0.trans kc_0.symm) kt_0 (by decide) (by decide) rfl rfl ?_
      refine ll_iload_n E (pc := 96) dX7_modeBehind_96 rfl ?_
      refine ll_bipush E (pc := 97) dX7_modeBehind_97 kb_91 ?_
      refine ll_icmp_ne E (pc := 99) (tgt := 107) dX7_modeBehind_99 rfl ?_ ?_
      · refine ll_iload_n E (pc := 107) dX7_modeBehind_107 rfl ?_
        refine ll_callSi E (pc := 108) (d := 0) [.int a1] [] dX7_modeBehind_108 cv_X7_27 (fun h => ctX7_isLetter h) rfl rfl (Nat.le_of_ble_eq_true rfl) ⟨(Nat.le_of_ble_eq_true rfl), (Nat.le_of_ble_eq_true rfl)⟩ ⟨(Nat.le_of_ble_eq_true rfl), (Nat.le_of_ble_eq_true rfl)⟩ ?_
        intro r60 μ59
        refine ll_if_eq E (pc := 111) (tgt := 118) dX7_modeBehind_111 rfl ?_ ?_
        · refine ll_iconst E (pc := 118) dX7_modeBehind_118 kc_m1 ?_
          exact ll_ireturn E (pc := 119) hr dX7_modeBehind_119
        · refine ll_iconst E (pc := 114) dX7_modeBehind_114 kc_1 ?_
          refine ll_goto E (pc := 115) (tgt := 119) dX7_modeBehind_115 rfl ?_
          exact ll_ireturn E (pc := 119) hr dX7_modeBehind_119
      · refine ll_bipush E (pc := 102) dX7_modeBehind_102 kb_13 ?_
        refine ll_goto E (pc := 104) (tgt := 119) dX7_modeBehind_104 rfl ?_
        exact ll_ireturn E (pc := 119) hr dX7_modeBehind_119
    · skip
      refine ll_ite (fun w1 => ?_) (fun w1 => ?_)
      · refine ll_tabIn E (pc := 1) (tgt := 120) 1 dX7_modeBehind_1 (w1.trans kc_1.symm) kt_1 (by decide) (by decide) rfl rfl ?_
        refine ll_iload_n E (pc := 120) dX7_modeBehind_120 rfl ?_
        refine ll_bipush E (pc := 121) dX7_modeBehind_121 kb_61 ?_
        refine ll_icmp_ne E (pc := 123) (tgt := 130) dX7_modeBehind_123 rfl ?_ ?_
        · refine ll_iconst E (pc := 130) dX7_modeBehind_130 kc_m1 ?_
          exact ll_ireturn E (pc := 131) hr dX7_modeBehind_131
        · refine ll_iconst E (pc := 126) dX7_modeBehind_126 kc_2 ?_
          refine ll_goto E (pc := 127) (tgt := 131) dX7_modeBehind_127 rfl ?_
          exact ll_ireturn E (pc := 131) hr dX7_modeBehind_131
      · skip
        refine ll_ite (fun w2 => ?_) (fun w2 => ?_)
        · refine ll_tabIn E (pc := 1) (tgt := 132) 2 dX7_modeBehind_1 (w2.trans kc_2.symm) kt_2 (by decide) (by decide) rfl rfl ?_
          refine ll_iload_n E (pc := 132) dX7_modeBehind_132 rfl ?_
          refine ll_callSi E (pc := 133) (d := 2) [.int a1] [] dX7_modeBehind_133 cv_X7_31 (fun h => ctX7_modeOnRight h) rfl rfl (Nat.le_of_ble_eq_true rfl) ⟨(Nat.le_of_ble_eq_true rfl), (Nat.le_of_ble_eq_true rfl)⟩ ⟨(Nat.le_of_ble_eq_true rfl), (Nat.le_of_ble_eq_true rfl)⟩ ?_
          intro r62 μ61
          exact ll_ireturn E (pc := 136) hr dX7_modeBehind_136
        · skip
          refine ll_ite (fun w3 => ?_) (fun w3 => ?_)
          · refine ll_tabIn E (pc := 1) (tgt := 137) 3 dX7_modeBehind_1 (w3.trans kc_3.symm) kt_3 (by decide) (by decide) rfl rfl ?_
            refine ll_iload_n E (pc := 137) dX7_modeBehind_137 rfl ?_
            refine ll_callSi E (pc := 138) (d := 1) [.int a1] [] dX7_modeBehind_138 cv_X7_34 (fun h => ctX7_modeInNumber h) rfl rfl (Nat.le_of_ble_eq_true rfl) ⟨(Nat.le_of_ble_eq_true rfl), (Nat.le_of_ble_eq_true rfl)⟩ ⟨(Nat.le_of_ble_eq_true rfl), (Nat.le_of_ble_eq_true rfl)⟩ ?_
            intro r64 μ63
            exact ll_ireturn E (pc := 141) hr dX7_modeBehind_141
          · skip
            refine ll_ite (fun w4 => ?_) (fun w4 => ?_)
            · refine ll_tabIn E (pc := 1) (tgt := 142) 4 dX7_modeBehind_1 (w4.trans kc_4.symm) kt_4 (by decide) (by decide) rfl rfl ?_
              refine ll_iload_n E (pc := 142) dX7_modeBehind_142 rfl ?_
              refine ll_callSi E (pc := 143) (d := 0) [.int a1] [] dX7_modeBehind_143 cv_X7_37 (fun h => ctX7_isDigit h) rfl rfl (Nat.le_of_ble_eq_true rfl) ⟨(Nat.le_of_ble_eq_true rfl), (Nat.le_of_ble_eq_true rfl)⟩ ⟨(Nat.le_of_ble_eq_true rfl), (Nat.le_of_ble_eq_true rfl)⟩ ?_
              intro r66 μ65
              refine ll_if_eq E (pc := 146) (tgt := 153) dX7_modeBehind_146 rfl ?_ ?_
              · refine ll_iload_n E (pc := 153) dX7_modeBehind_153 rfl ?_
                refine ll_bipush E (pc := 154) dX7_modeBehind_154 kb_59 ?_
                refine ll_icmp_ne E (pc := 156) (tgt := 163) dX7_modeBehind_156 rfl ?_ ?_
                · refine ll_iconst E (pc := 163) dX7_modeBehind_163 kc_m1 ?_
                  exact ll_ireturn E (pc := 164) hr dX7_modeBehind_164
                · refine ll_iconst E (pc := 159) dX7_modeBehind_159 kc_0 ?_
                  refine ll_goto E (pc := 160) (tgt := 164) dX7_modeBehind_160 rfl ?_
                  exact ll_ireturn E (pc := 164) hr dX7_modeBehind_164
              · refine ll_iconst E (pc := 149) dX7_modeBehind_149 kc_5 ?_
                refine ll_goto E (pc := 150) (tgt := 164) dX7_modeBehind_150 rfl ?_
                exact ll_ireturn E (pc := 164) hr dX7_modeBehind_164
            · skip
              refine ll_ite (fun w5 => ?_) (fun w5 => ?_)
              · refine ll_tabIn E (pc := 1) (tgt := 165) 5 dX7_modeBehind_1 (w5.trans kc_5.symm) kt_5 (by decide) (by decide) rfl rfl ?_
                refine ll_iload_n E (pc := 165) dX7_modeBehind_165 rfl ?_
                refine ll_bipush E (pc := 166) dX7_modeBehind_166 kb_59 ?_
                refine ll_icmp_ne E (pc := 168) (tgt := 175) dX7_modeBehind_168 rfl ?_ ?_
                · refine ll_iconst E (pc := 175) dX7_modeBehind_175 kc_m1 ?_
                  exact ll_ireturn E (pc := 176) hr dX7_modeBehind_176
                · refine ll_iconst E (pc := 171) dX7_modeBehind_171 kc_0 ?_
                  refine ll_goto E (pc := 172) (tgt := 176) dX7_modeBehind_172 rfl ?_
                  exact ll_ireturn E (pc := 176) hr dX7_modeBehind_176
              · skip
                refine ll_ite (fun w6 => ?_) (fun w6 => ?_)
                · refine ll_tabIn E (pc := 1) (tgt := 177) 6 dX7_modeBehind_1 (w6.trans kc_6.symm) kt_6 (by decide) (by decide) rfl rfl ?_
                  refine ll_iload_n E (pc := 177) dX7_modeBehind_177 rfl ?_
                  refine ll_callSi E (pc := 178) (d := 0) [.int a1] [] dX7_modeBehind_178 cv_X7_40 (fun h => ctX7_isBetween h) rfl rfl (Nat.le_of_ble_eq_true rfl) ⟨(Nat.le_of_ble_eq_true rfl), (Nat.le_of_ble_eq_true rfl)⟩ ⟨(Nat.le_of_ble_eq_true rfl), (Nat.le_of_ble_eq_true rfl)⟩ ?_
                  intro r68 μ67
                  refine ll_if_eq E (pc := 181) (tgt := 189) dX7_modeBehind_181 rfl ?_ ?_
                  · refine ll_iconst E (pc := 189) dX7_modeBehind_189 kc_m1 ?_
                    exact ll_ireturn E (pc := 190) hr dX7_modeBehind_190
                  · refine ll_bipush E (pc := 184) dX7_modeBehind_184 kb_7 ?_
                    refine ll_goto E (pc := 186) (tgt := 190) dX7_modeBehind_186 rfl ?_
                    exact ll_ireturn E (pc := 190) hr dX7_modeBehind_190
                · skip
                  refine ll_ite (fun w7 => ?_) (fun w7 => ?_)
                  · refine ll_tabIn E (pc := 1) (tgt := 191) 7 dX7_modeBehind_1 (w7.trans kc_7.symm) kt_7 (by decide) (by decide) rfl rfl ?_
                    refine ll_iload_n E (pc := 191) dX7_modeBehind_191 rfl ?_
                    refine ll_callSi E (pc := 192) (d := 0) [.int a1] [] dX7_modeBehind_192 cv_X7_27 (fun h => ctX7_isLetter h) rfl rfl (Nat.le_of_ble_eq_true rfl) ⟨(Nat.le_of_ble_eq_true rfl), (Nat.le_of_ble_eq_true rfl)⟩ ⟨(Nat.le_of_ble_eq_true rfl), (Nat.le_of_ble_eq_true rfl)⟩ ?_
                    intro r70 μ69
                    refine ll_if_eq E (pc := 195) (tgt := 202) dX7_modeBehind_195 rfl ?_ ?_
                    · refine ll_iconst E (pc := 202) dX7_modeBehind_202 kc_m1 ?_
                      exact ll_ireturn E (pc := 203) hr dX7_modeBehind_203
                    · refine ll_iconst E (pc := 198) dX7_modeBehind_198 kc_5 ?_
                      refine ll_goto E (pc := 199) (tgt := 203) dX7_modeBehind_199 rfl ?_
                      exact ll_ireturn E (pc := 203) hr dX7_modeBehind_203
                  · skip
                    refine ll_ite (fun w18 => ?_) (fun w18 => ?_)
                    · refine ll_tabIn E (pc := 1) (tgt := 204) 18 dX7_modeBehind_1 (w18.trans kc_18.symm) kt_18 (by decide) (by decide) rfl rfl ?_
                      refine ll_iload_n E (pc := 204) dX7_modeBehind_204 rfl ?_
                      refine ll_bipush E (pc := 205) dX7_modeBehind_205 kb_61 ?_
                      refine ll_icmp_ne E (pc := 207) (tgt := 215) dX7_modeBehind_207 rfl ?_ ?_
                      · refine ll_iconst E (pc := 215) dX7_modeBehind_215 kc_m1 ?_
                        exact ll_ireturn E (pc := 216) hr dX7_modeBehind_216
                      · refine ll_bipush E (pc := 210) dX7_modeBehind_210 kb_19 ?_
                        refine ll_goto E (pc := 212) (tgt := 216) dX7_modeBehind_212 rfl ?_
                        exact ll_ireturn E (pc := 216) hr dX7_modeBehind_216
                    · skip
                      refine ll_ite (fun w19 => ?_) (fun w19 => ?_)
                      · refine ll_tabIn E (pc := 1) (tgt := 191) 19 dX7_modeBehind_1 (w19.trans kc_19.symm) kt_19 (by decide) (by decide) rfl rfl ?_
                        refine ll_iload_n E (pc := 191) dX7_modeBehind_191 rfl ?_
                        refine ll_callSi E (pc := 192) (d := 0) [.int a1] [] dX7_modeBehind_192 cv_X7_27 (fun h => ctX7_isLetter h) rfl rfl (Nat.le_of_ble_eq_true rfl) ⟨(Nat.le_of_ble_eq_true rfl), (Nat.le_of_ble_eq_true rfl)⟩ ⟨(Nat.le_of_ble_eq_true rfl), (Nat.le_of_ble_eq_true rfl)⟩ ?_
                        intro r72 μ71
                        refine ll_if_eq E (pc := 195) (tgt := 202) dX7_modeBehind_195 rfl ?_ ?_
                        · refine ll_iconst E (pc := 202) dX7_modeBehind_202 kc_m1 ?_
                          exact ll_ireturn E (pc := 203) hr dX7_modeBehind_203
                        · refine ll_iconst E (pc := 198) dX7_modeBehind_198 kc_5 ?_
                          refine ll_goto E (pc := 199) (tgt := 203) dX7_modeBehind_199 rfl ?_
                          exact ll_ireturn E (pc := 203) hr dX7_modeBehind_203
                      · skip
                        by_cases w8 : a0 = (8 : Int32)
                        · refine ll_tabIn E (pc := 1) (tgt := 217) 8 dX7_modeBehind_1 (w8.trans kc_8.symm) kt_8 (by decide) (by decide) rfl rfl ?_
                          refine ll_iload_n E (pc := 217) dX7_modeBehind_217 rfl ?_
                          refine ll_bipush E (pc := 218) dX7_modeBehind_218 kb_13 ?_
                          refine ll_icmp_ge E (pc := 220) (tgt := 231) dX7_modeBehind_220 rfl ?_ ?_
                          · refine ll_iload_n E (pc := 231) dX7_modeBehind_231 rfl ?_
                            refine ll_iload_n E (pc := 232) dX7_modeBehind_232 rfl ?_
                            refine ll_callSi E (pc := 233) (d := 1) [.int a0, .int a1] [] dX7_modeBehind_233 cv_X7_46 (fun h => ctX7_modeInStore h) rfl rfl (Nat.le_of_ble_eq_true rfl) ⟨(Nat.le_of_ble_eq_true rfl), (Nat.le_of_ble_eq_true rfl)⟩ ⟨(Nat.le_of_ble_eq_true rfl), (Nat.le_of_ble_eq_true rfl)⟩ ?_
                            intro r74 μ73
                            exact ll_ireturn E (pc := 236) hr dX7_modeBehind_236
                          · refine ll_iload_n E (pc := 223) dX7_modeBehind_223 rfl ?_
                            refine ll_iload_n E (pc := 224) dX7_modeBehind_224 rfl ?_
                            refine ll_callSi E (pc := 225) (d := 1) [.int a0, .int a1] [] dX7_modeBehind_225 cv_X7_43 (fun h => ctX7_modeInLoad h) rfl rfl (Nat.le_of_ble_eq_true rfl) ⟨(Nat.le_of_ble_eq_true rfl), (Nat.le_of_ble_eq_true rfl)⟩ ⟨(Nat.le_of_ble_eq_true rfl), (Nat.le_of_ble_eq_true rfl)⟩ ?_
                            intro r76 μ75
                            refine ll_goto E (pc := 228) (tgt := 236) dX7_modeBehind_228 rfl ?_
                            exact ll_ireturn E (pc := 236) hr dX7_modeBehind_236
                        · skip
                          by_cases w9 : a0 = (9 : Int32)
                          · refine ll_tabIn E (pc := 1) (tgt := 217) 9 dX7_modeBehind_1 (w9.trans kc_9.symm) kt_9 (by decide) (by decide) rfl rfl ?_
                            refine ll_iload_n E (pc := 217) dX7_modeBehind_217 rfl ?_
                            refine ll_bipush E (pc := 218) dX7_modeBehind_218 kb_13 ?_
                            refine ll_icmp_ge E (pc := 220) (tgt := 231) dX7_modeBehind_220 rfl ?_ ?_
                            · refine ll_iload_n E (pc := 231) dX7_modeBehind_231 rfl ?_
                              refine ll_iload_n E (pc := 232) dX7_modeBehind_232 rfl ?_
                              refine ll_callSi E (pc := 233) (d := 1) [.int a0, .int a1] [] dX7_modeBehind_233 cv_X7_46 (fun h => ctX7_modeInStore h) rfl rfl (Nat.le_of_ble_eq_true rfl) ⟨(Nat.le_of_ble_eq_true rfl), (Nat.le_of_ble_eq_true rfl)⟩ ⟨(Nat.le_of_ble_eq_true rfl), (Nat.le_of_ble_eq_true rfl)⟩ ?_
                              intro r74 μ73
                              exact ll_ireturn E (pc := 236) hr dX7_modeBehind_236
                            · refine ll_iload_n E (pc := 223) dX7_modeBehind_223 rfl ?_
                              refine ll_iload_n E (pc := 224) dX7_modeBehind_224 rfl ?_
                              refine ll_callSi E (pc := 225) (d := 1) [.int a0, .int a1] [] dX7_modeBehind_225 cv_X7_43 (fun h => ctX7_modeInLoad h) rfl rfl (Nat.le_of_ble_eq_true rfl) ⟨(Nat.le_of_ble_eq_true rfl), (Nat.le_of_ble_eq_true rfl)⟩ ⟨(Nat.le_of_ble_eq_true rfl), (Nat.le_of_ble_eq_true rfl)⟩ ?_
                              intro r76 μ75
                              refine ll_goto E (pc := 228) (tgt := 236) dX7_modeBehind_228 rfl ?_
                              exact ll_ireturn E (pc := 236) hr dX7_modeBehind_236
                          · skip
                            by_cases w10 : a0 = (10 : Int32)
                            · refine ll_tabIn E (pc := 1) (tgt := 217) 10 dX7_modeBehind_1 (w10.trans kc_10.symm) kt_10 (by decide) (by decide) rfl rfl ?_
                              refine ll_iload_n E (pc := 217) dX7_modeBehind_217 rfl ?_
                              refine ll_bipush E (pc := 218) dX7_modeBehind_218 kb_13 ?_
                              refine ll_icmp_ge E (pc := 220) (tgt := 231) dX7_modeBehind_220 rfl ?_ ?_
                              · refine ll_iload_n E (pc := 231) dX7_modeBehind_231 rfl ?_
                                refine ll_iload_n E (pc := 232) dX7_modeBehind_232 rfl ?_
                                refine ll_callSi E (pc := 233) (d := 1) [.int a0, .int a1] [] dX7_modeBehind_233 cv_X7_46 (fun h => ctX7_modeInStore h) rfl rfl (Nat.le_of_ble_eq_true rfl) ⟨(Nat.le_of_ble_eq_true rfl), (Nat.le_of_ble_eq_true rfl)⟩ ⟨(Nat.le_of_ble_eq_true rfl), (Nat.le_of_ble_eq_true rfl)⟩ ?_
                                intro r74 μ73
                                exact ll_ireturn E (pc := 236) hr dX7_modeBehind_236
                              · refine ll_iload_n E (pc := 223) dX7_modeBehind_223 rfl ?_
                                refine ll_iload_n E (pc := 224) dX7_modeBehind_224 rfl ?_
                                refine ll_callSi E (pc := 225) (d := 1) [.int a0, .int a1] [] dX7_modeBehind_225 cv_X7_43 (fun h => ctX7_modeInLoad h) rfl rfl (Nat.le_of_ble_eq_true rfl) ⟨(Nat.le_of_ble_eq_true rfl), (Nat.le_of_ble_eq_true rfl)⟩ ⟨(Nat.le_of_ble_eq_true rfl), (Nat.le_of_ble_eq_true rfl)⟩ ?_
                                intro r76 μ75
                                refine ll_goto E (pc := 228) (tgt := 236) dX7_modeBehind_228 rfl ?_
                                exact ll_ireturn E (pc := 236) hr dX7_modeBehind_236
                            · skip
                              by_cases w11 : a0 = (11 : Int32)
                              · refine ll_tabIn E (pc := 1) (tgt := 217) 11 dX7_modeBehind_1 (w11.trans kc_11.symm) kt_11 (by decide) (by decide) rfl rfl ?_
                                refine ll_iload_n E (pc := 217) dX7_modeBehind_217 rfl ?_
                                refine ll_bipush E (pc := 218) dX7_modeBehind_218 kb_13 ?_
                                refine ll_icmp_ge E (pc := 220) (tgt := 231) dX7_modeBehind_220 rfl ?_ ?_
                                · refine ll_iload_n E (pc := 231) dX7_modeBehind_231 rfl ?_
                                  refine ll_iload_n E (pc := 232) dX7_modeBehind_232 rfl ?_
                                  refine ll_callSi E (pc := 233) (d := 1) [.int a0, .int a1] [] dX7_modeBehind_233 cv_X7_46 (fun h => ctX7_modeInStore h) rfl rfl (Nat.le_of_ble_eq_true rfl) ⟨(Nat.le_of_ble_eq_true rfl), (Nat.le_of_ble_eq_true rfl)⟩ ⟨(Nat.le_of_ble_eq_true rfl), (Nat.le_of_ble_eq_true rfl)⟩ ?_
                                  intro r74 μ73
                                  exact ll_ireturn E (pc := 236) hr dX7_modeBehind_236
                                · refine ll_iload_n E (pc := 223) dX7_modeBehind_223 rfl ?_
                                  refine ll_iload_n E (pc := 224) dX7_modeBehind_224 rfl ?_
                                  refine ll_callSi E (pc := 225) (d := 1) [.int a0, .int a1] [] dX7_modeBehind_225 cv_X7_43 (fun h => ctX7_modeInLoad h) rfl rfl (Nat.le_of_ble_eq_true rfl) ⟨(Nat.le_of_ble_eq_true rfl), (Nat.le_of_ble_eq_true rfl)⟩ ⟨(Nat.le_of_ble_eq_true rfl), (Nat.le_of_ble_eq_true rfl)⟩ ?_
                                  intro r76 μ75
                                  refine ll_goto E (pc := 228) (tgt := 236) dX7_modeBehind_228 rfl ?_
                                  exact ll_ireturn E (pc := 236) hr dX7_modeBehind_236
                              · skip
                                by_cases w12 : a0 = (12 : Int32)
                                · refine ll_tabIn E (pc := 1) (tgt := 217) 12 dX7_modeBehind_1 (w12.trans kc_12.symm) kt_12 (by decide) (by decide) rfl rfl ?_
                                  refine ll_iload_n E (pc := 217) dX7_modeBehind_217 rfl ?_
                                  refine ll_bipush E (pc := 218) dX7_modeBehind_218 kb_13 ?_
                                  refine ll_icmp_ge E (pc := 220) (tgt := 231) dX7_modeBehind_220 rfl ?_ ?_
                                  · refine ll_iload_n E (pc := 231) dX7_modeBehind_231 rfl ?_
                                    refine ll_iload_n E (pc := 232) dX7_modeBehind_232 rfl ?_
                                    refine ll_callSi E (pc := 233) (d := 1) [.int a0, .int a1] [] dX7_modeBehind_233 cv_X7_46 (fun h => ctX7_modeInStore h) rfl rfl (Nat.le_of_ble_eq_true rfl) ⟨(Nat.le_of_ble_eq_true rfl), (Nat.le_of_ble_eq_true rfl)⟩ ⟨(Nat.le_of_ble_eq_true rfl), (Nat.le_of_ble_eq_true rfl)⟩ ?_
                                    intro r74 μ73
                                    exact ll_ireturn E (pc := 236) hr dX7_modeBehind_236
                                  · refine ll_iload_n E (pc := 223) dX7_modeBehind_223 rfl ?_
                                    refine ll_iload_n E (pc := 224) dX7_modeBehind_224 rfl ?_
                                    refine ll_callSi E (pc := 225) (d := 1) [.int a0, .int a1] [] dX7_modeBehind_225 cv_X7_43 (fun h => ctX7_modeInLoad h) rfl rfl (Nat.le_of_ble_eq_true rfl) ⟨(Nat.le_of_ble_eq_true rfl), (Nat.le_of_ble_eq_true rfl)⟩ ⟨(Nat.le_of_ble_eq_true rfl), (Nat.le_of_ble_eq_true rfl)⟩ ?_
                                    intro r76 μ75
                                    refine ll_goto E (pc := 228) (tgt := 236) dX7_modeBehind_228 rfl ?_
                                    exact ll_ireturn E (pc := 236) hr dX7_modeBehind_236
                                · skip
                                  by_cases w13 : a0 = (13 : Int32)
                                  · refine ll_tabIn E (pc := 1) (tgt := 217) 13 dX7_modeBehind_1 (w13.trans kc_13.symm) kt_13 (by decide) (by decide) rfl rfl ?_
                                    refine ll_iload_n E (pc := 217) dX7_modeBehind_217 rfl ?_
                                    refine ll_bipush E (pc := 218) dX7_modeBehind_218 kb_13 ?_
                                    refine ll_icmp_ge E (pc := 220) (tgt := 231) dX7_modeBehind_220 rfl ?_ ?_
                                    · refine ll_iload_n E (pc := 231) dX7_modeBehind_231 rfl ?_
                                      refine ll_iload_n E (pc := 232) dX7_modeBehind_232 rfl ?_
                                      refine ll_callSi E (pc := 233) (d := 1) [.int a0, .int a1] [] dX7_modeBehind_233 cv_X7_46 (fun h => ctX7_modeInStore h) rfl rfl (Nat.le_of_ble_eq_true rfl) ⟨(Nat.le_of_ble_eq_true rfl), (Nat.le_of_ble_eq_true rfl)⟩ ⟨(Nat.le_of_ble_eq_true rfl), (Nat.le_of_ble_eq_true rfl)⟩ ?_
                                      intro r74 μ73
                                      exact ll_ireturn E (pc := 236) hr dX7_modeBehind_236
                                    · refine ll_iload_n E (pc := 223) dX7_modeBehind_223 rfl ?_
                                      refine ll_iload_n E (pc := 224) dX7_modeBehind_224 rfl ?_
                                      refine ll_callSi E (pc := 225) (d := 1) [.int a0, .int a1] [] dX7_modeBehind_225 cv_X7_43 (fun h => ctX7_modeInLoad h) rfl rfl (Nat.le_of_ble_eq_true rfl) ⟨(Nat.le_of_ble_eq_true rfl), (Nat.le_of_ble_eq_true rfl)⟩ ⟨(Nat.le_of_ble_eq_true rfl), (Nat.le_of_ble_eq_true rfl)⟩ ?_
                                      intro r76 μ75
                                      refine ll_goto E (pc := 228) (tgt := 236) dX7_modeBehind_228 rfl ?_
                                      exact ll_ireturn E (pc := 236) hr dX7_modeBehind_236
                                  · skip
                                    by_cases w14 : a0 = (14 : Int32)
                                    · refine ll_tabIn E (pc := 1) (tgt := 217) 14 dX7_modeBehind_1 (w14.trans kc_14.symm) kt_14 (by decide) (by decide) rfl rfl ?_
                                      refine ll_iload_n E (pc := 217) dX7_modeBehind_217 rfl ?_
                                      refine ll_bipush E (pc := 218) dX7_modeBehind_218 kb_13 ?_
                                      refine ll_icmp_ge E (pc := 220) (tgt := 231) dX7_modeBehind_220 rfl ?_ ?_
                                      · refine ll_iload_n E (pc := 231) dX7_modeBehind_231 rfl ?_
                                        refine ll_iload_n E (pc := 232) dX7_modeBehind_232 rfl ?_
                                        refine ll_callSi E (pc := 233) (d := 1) [.int a0, .int a1] [] dX7_modeBehind_233 cv_X7_46 (fun h => ctX7_modeInStore h) rfl rfl (Nat.le_of_ble_eq_true rfl) ⟨(Nat.le_of_ble_eq_true rfl), (Nat.le_of_ble_eq_true rfl)⟩ ⟨(Nat.le_of_ble_eq_true rfl), (Nat.le_of_ble_eq_true rfl)⟩ ?_
                                        intro r74 μ73
                                        exact ll_ireturn E (pc := 236) hr dX7_modeBehind_236
                                      · refine ll_iload_n E (pc := 223) dX7_modeBehind_223 rfl ?_
                                        refine ll_iload_n E (pc := 224) dX7_modeBehind_224 rfl ?_
                                        refine ll_callSi E (pc := 225) (d := 1) [.int a0, .int a1] [] dX7_modeBehind_225 cv_X7_43 (fun h => ctX7_modeInLoad h) rfl rfl (Nat.le_of_ble_eq_true rfl) ⟨(Nat.le_of_ble_eq_true rfl), (Nat.le_of_ble_eq_true rfl)⟩ ⟨(Nat.le_of_ble_eq_true rfl), (Nat.le_of_ble_eq_true rfl)⟩ ?_
                                        intro r76 μ75
                                        refine ll_goto E (pc := 228) (tgt := 236) dX7_modeBehind_228 rfl ?_
                                        exact ll_ireturn E (pc := 236) hr dX7_modeBehind_236
                                    · skip
                                      by_cases w15 : a0 = (15 : Int32)
                                      · refine ll_tabIn E (pc := 1) (tgt := 217) 15 dX7_modeBehind_1 (w15.trans kc_15.symm) kt_15 (by decide) (by decide) rfl rfl ?_
                                        refine ll_iload_n E (pc := 217) dX7_modeBehind_217 rfl ?_
                                        refine ll_bipush E (pc := 218) dX7_modeBehind_218 kb_13 ?_
                                        refine ll_icmp_ge E (pc := 220) (tgt := 231) dX7_modeBehind_220 rfl ?_ ?_
                                        · refine ll_iload_n E (pc := 231) dX7_modeBehind_231 rfl ?_
                                          refine ll_iload_n E (pc := 232) dX7_modeBehind_232 rfl ?_
                                          refine ll_callSi E (pc := 233) (d := 1) [.int a0, .int a1] [] dX7_modeBehind_233 cv_X7_46 (fun h => ctX7_modeInStore h) rfl rfl (Nat.le_of_ble_eq_true rfl) ⟨(Nat.le_of_ble_eq_true rfl), (Nat.le_of_ble_eq_true rfl)⟩ ⟨(Nat.le_of_ble_eq_true rfl), (Nat.le_of_ble_eq_true rfl)⟩ ?_
                                          intro r74 μ73
                                          exact ll_ireturn E (pc := 236) hr dX7_modeBehind_236
                                        · refine ll_iload_n E (pc := 223) dX7_modeBehind_223 rfl ?_
                                          refine ll_iload_n E (pc := 224) dX7_modeBehind_224 rfl ?_
                                          refine ll_callSi E (pc := 225) (d := 1) [.int a0, .int a1] [] dX7_modeBehind_225 cv_X7_43 (fun h => ctX7_modeInLoad h) rfl rfl (Nat.le_of_ble_eq_true rfl) ⟨(Nat.le_of_ble_eq_true rfl), (Nat.le_of_ble_eq_true rfl)⟩ ⟨(Nat.le_of_ble_eq_true rfl), (Nat.le_of_ble_eq_true rfl)⟩ ?_
                                          intro r76 μ75
                                          refine ll_goto E (pc := 228) (tgt := 236) dX7_modeBehind_228 rfl ?_
                                          exact ll_ireturn E (pc := 236) hr dX7_modeBehind_236
                                      · skip
                                        by_cases w16 : a0 = (16 : Int32)
                                        · refine ll_tabIn E (pc := 1) (tgt := 217) 16 dX7_modeBehind_1 (w16.trans kc_16.symm) kt_16 (by decide) (by decide) rfl rfl ?_
                                          refine ll_iload_n E (pc := 217) dX7_modeBehind_217 rfl ?_
                                          refine ll_bipush E (pc := 218) dX7_modeBehind_218 kb_13 ?_
                                          refine ll_icmp_ge E (pc := 220) (tgt := 231) dX7_modeBehind_220 rfl ?_ ?_
                                          · refine ll_iload_n E (pc := 231) dX7_modeBehind_231 rfl ?_
                                            refine ll_iload_n E (pc := 232) dX7_modeBehind_232 rfl ?_
                                            refine ll_callSi E (pc := 233) (d := 1) [.int a0, .int a1] [] dX7_modeBehind_233 cv_X7_46 (fun h => ctX7_modeInStore h) rfl rfl (Nat.le_of_ble_eq_true rfl) ⟨(Nat.le_of_ble_eq_true rfl), (Nat.le_of_ble_eq_true rfl)⟩ ⟨(Nat.le_of_ble_eq_true rfl), (Nat.le_of_ble_eq_true rfl)⟩ ?_
                                            intro r74 μ73
                                            exact ll_ireturn E (pc := 236) hr dX7_modeBehind_236
                                          · refine ll_iload_n E (pc := 223) dX7_modeBehind_223 rfl ?_
                                            refine ll_iload_n E (pc := 224) dX7_modeBehind_224 rfl ?_
                                            refine ll_callSi E (pc := 225) (d := 1) [.int a0, .int a1] [] dX7_modeBehind_225 cv_X7_43 (fun h => ctX7_modeInLoad h) rfl rfl (Nat.le_of_ble_eq_true rfl) ⟨(Nat.le_of_ble_eq_true rfl), (Nat.le_of_ble_eq_true rfl)⟩ ⟨(Nat.le_of_ble_eq_true rfl), (Nat.le_of_ble_eq_true rfl)⟩ ?_
                                            intro r76 μ75
                                            refine ll_goto E (pc := 228) (tgt := 236) dX7_modeBehind_228 rfl ?_
                                            exact ll_ireturn E (pc := 236) hr dX7_modeBehind_236
                                        · skip
                                          by_cases w17 : a0 = (17 : Int32)
                                          · refine ll_tabIn E (pc := 1) (tgt := 217) 17 dX7_modeBehind_1 (w17.trans kc_17.symm) kt_17 (by decide) (by decide) rfl rfl ?_
                                            refine ll_iload_n E (pc := 217) dX7_modeBehind_217 rfl ?_
                                            refine ll_bipush E (pc := 218) dX7_modeBehind_218 kb_13 ?_
                                            refine ll_icmp_ge E (pc := 220) (tgt := 231) dX7_modeBehind_220 rfl ?_ ?_
                                            · refine ll_iload_n E (pc := 231) dX7_modeBehind_231 rfl ?_
                                              refine ll_iload_n E (pc := 232) dX7_modeBehind_232 rfl ?_
                                              refine ll_callSi E (pc := 233) (d := 1) [.int a0, .int a1] [] dX7_modeBehind_233 cv_X7_46 (fun h => ctX7_modeInStore h) rfl rfl (Nat.le_of_ble_eq_true rfl) ⟨(Nat.le_of_ble_eq_true rfl), (Nat.le_of_ble_eq_true rfl)⟩ ⟨(Nat.le_of_ble_eq_true rfl), (Nat.le_of_ble_eq_true rfl)⟩ ?_
                                              intro r74 μ73
                                              exact ll_ireturn E (pc := 236) hr dX7_modeBehind_236
                                            · refine ll_iload_n E (pc := 223) dX7_modeBehind_223 rfl ?_
                                              refine ll_iload_n E (pc := 224) dX7_modeBehind_224 rfl ?_
                                              refine ll_callSi E (pc := 225) (d := 1) [.int a0, .int a1] [] dX7_modeBehind_225 cv_X7_43 (fun h => ctX7_modeInLoad h) rfl rfl (Nat.le_of_ble_eq_true rfl) ⟨(Nat.le_of_ble_eq_true rfl), (Nat.le_of_ble_eq_true rfl)⟩ ⟨(Nat.le_of_ble_eq_true rfl), (Nat.le_of_ble_eq_true rfl)⟩ ?_
                                              intro r76 μ75
                                              refine ll_goto E (pc := 228) (tgt := 236) dX7_modeBehind_228 rfl ?_
                                              exact ll_ireturn E (pc := 236) hr dX7_modeBehind_236
                                          · skip
                                            refine ll_tabOut E (pc := 1) (tgt := 217) dX7_modeBehind_1 (by have g0 := tab_ne w0 kt0_0; have g1 := tab_ne w1 kt0_1; have g2 := tab_ne w2 kt0_2; have g3 := tab_ne w3 kt0_3; have g4 := tab_ne w4 kt0_4; have g5 := tab_ne w5 kt0_5; have g6 := tab_ne w6 kt0_6; have g7 := tab_ne w7 kt0_7; have g8 := tab_ne w8 kt0_8; have g9 := tab_ne w9 kt0_9; have g10 := tab_ne w10 kt0_10; have g11 := tab_ne w11 kt0_11; have g12 := tab_ne w12 kt0_12; have g13 := tab_ne w13 kt0_13; have g14 := tab_ne w14 kt0_14; have g15 := tab_ne w15 kt0_15; have g16 := tab_ne w16 kt0_16; have g17 := tab_ne w17 kt0_17; have g18 := tab_ne w18 kt0_18; have g19 := tab_ne w19 kt0_19; omega) rfl ?_
                                            refine ll_iload_n E (pc := 217) dX7_modeBehind_217 rfl ?_
                                            refine ll_bipush E (pc := 218) dX7_modeBehind_218 kb_13 ?_
                                            refine ll_icmp_ge E (pc := 220) (tgt := 231) dX7_modeBehind_220 rfl ?_ ?_
                                            · refine ll_iload_n E (pc := 231) dX7_modeBehind_231 rfl ?_
                                              refine ll_iload_n E (pc := 232) dX7_modeBehind_232 rfl ?_
                                              refine ll_callSi E (pc := 233) (d := 1) [.int a0, .int a1] [] dX7_modeBehind_233 cv_X7_46 (fun h => ctX7_modeInStore h) rfl rfl (Nat.le_of_ble_eq_true rfl) ⟨(Nat.le_of_ble_eq_true rfl), (Nat.le_of_ble_eq_true rfl)⟩ ⟨(Nat.le_of_ble_eq_true rfl), (Nat.le_of_ble_eq_true rfl)⟩ ?_
                                              intro r74 μ73
                                              exact ll_ireturn E (pc := 236) hr dX7_modeBehind_236
                                            · refine ll_iload_n E (pc := 223) dX7_modeBehind_223 rfl ?_
                                              refine ll_iload_n E (pc := 224) dX7_modeBehind_224 rfl ?_
                                              refine ll_callSi E (pc := 225) (d := 1) [.int a0, .int a1] [] dX7_modeBehind_225 cv_X7_43 (fun h => ctX7_modeInLoad h) rfl rfl (Nat.le_of_ble_eq_true rfl) ⟨(Nat.le_of_ble_eq_true rfl), (Nat.le_of_ble_eq_true rfl)⟩ ⟨(Nat.le_of_ble_eq_true rfl), (Nat.le_of_ble_eq_true rfl)⟩ ?_
                                              intro r76 μ75
                                              refine ll_goto E (pc := 228) (tgt := 236) dX7_modeBehind_228 rfl ?_
                                              exact ll_ireturn E (pc := 236) hr dX7_modeBehind_236) hf
theorem dX7_firstBad_0 : decode cX7_firstBad 0 = .ok (.iconst 0, 1) := by decide +kernel
theorem dX7_firstBad_1 : decode cX7_firstBad 1 = .ok (.istore_n 1, 1) := by decide +kernel
theorem dX7_firstBad_2 : decode cX7_firstBad 2 = .ok (.iconst 0, 1) := by decide +kernel
theorem dX7_firstBad_3 : decode cX7_firstBad 3 = .ok (.istore_n 2, 1) := by decide +kernel
theorem dX7_firstBad_4 : decode cX7_firstBad 4 = .ok (.iload_n 2, 1) := by decide +kernel
theorem dX7_firstBad_5 : decode cX7_firstBad 5 = .ok (.aload_n 0, 1) := by decide +kernel
theorem dX7_firstBad_6 : decode cX7_firstBad 6 = .ok (.getfield 15, 3) := by decide +kernel
theorem dX7_firstBad_9 : decode cX7_firstBad 9 = .ok (.if_icmp .ge 26, 3) := by decide +kernel
theorem dX7_firstBad_12 : decode cX7_firstBad 12 = .ok (.iload_n 1, 1) := by decide +kernel
theorem dX7_firstBad_13 : decode cX7_firstBad 13 = .ok (.aload_n 0, 1) := by decide +kernel
theorem dX7_firstBad_14 : decode cX7_firstBad 14 = .ok (.iload_n 2, 1) := by decide +kernel
theorem dX7_firstBad_15 : decode cX7_firstBad 15 = .ok (.invokevirtual 19, 3) := by decide +kernel
theorem dX7_firstBad_18 : decode cX7_firstBad 18 = .ok (.invokestatic 23, 3) := by decide +kernel
theorem dX7_firstBad_21 : decode cX7_firstBad 21 = .ok (.istore_n 1, 1) := by decide +kernel
theorem dX7_firstBad_22 : decode cX7_firstBad 22 = .ok (.iload_n 1, 1) := by decide +kernel
theorem dX7_firstBad_23 : decode cX7_firstBad 23 = .ok (.iconst (-1), 1) := by decide +kernel
theorem dX7_firstBad_24 : decode cX7_firstBad 24 = .ok (.if_icmp .ne 5, 3) := by decide +kernel
theorem dX7_firstBad_27 : decode cX7_firstBad 27 = .ok (.iload_n 2, 1) := by decide +kernel
theorem dX7_firstBad_28 : decode cX7_firstBad 28 = .ok (.ireturn, 1) := by decide +kernel
theorem dX7_firstBad_29 : decode cX7_firstBad 29 = .ok (.iinc 2 1, 3) := by decide +kernel
theorem dX7_firstBad_32 : decode cX7_firstBad 32 = .ok (.goto (-28), 3) := by decide +kernel
theorem dX7_firstBad_35 : decode cX7_firstBad 35 = .ok (.aload_n 0, 1) := by decide +kernel
theorem dX7_firstBad_36 : decode cX7_firstBad 36 = .ok (.getfield 15, 3) := by decide +kernel
theorem dX7_firstBad_39 : decode cX7_firstBad 39 = .ok (.ireturn, 1) := by decide +kernel
def fX7_firstBad_L4 : Nat → Int32 → Int32 → Mem → Option (Int32 × Mem)
  | 0, _, _, _ => none
  | n + 1, v1, v2, μ =>   if (μ 73 1) ≤ v2 then
  some ((μ 73 1), μ)
  else
  bd (fX7_signAt μ v2) fun r6 μ5 =>
  bd (fX7_modeBehind μ5 v1 r6) fun r8 μ7 =>
  if r8 = (-1 : Int32) then
  some (v2, μ7)
  else
  fX7_firstBad_L4 n r8 (v2 + (1 : Int32)) μ7
def fX7_firstBad (μ : Mem) : Option (Int32 × Mem) :=
  fX7_firstBad_L4 fu (0 : Int32) (0 : Int32) μ
theorem kX7_firstBad_L4 {p : Program} {l : Launch} {e : Env} {s : State} {m : MethodId} {args : Array Value} {below : List Frame} {meth : Method} {c : Code} {D : va_G} {cI cR : ClassId} {ad : Nat → Nat} {A0 : Nat → Prop} (E : EV p s m args meth c cX7_firstBad 3 RX7 D cI cR ad shX NX A0) (hr : meth.sig.returnType = (some .int)) (n : Nat) : ∀ (v1 : Int32) (v2 : Int32) (μ : Mem), LL p l e (RM 4) s m args below meth c 3 D cI cR ad shX NX A0 (fun (r : Int32) μ' => KG below args s D cI cR ad shX NX A0 (some (.int r)) μ') (fX7_firstBad_L4 n v1 v2 μ) 0 0 4 [some (.ref (ad 73)), some (.int v1), some (.int v2)] [] μ := by
  induction n with
  | zero =>
    intros
    exact ll_none
  | succ n ih =>
    intro v1 v2 μ
    rw [fX7_firstBad_L4]
    refine ll_iload_n E (pc := 4) dX7_firstBad_4 rfl ?_
    refine ll_aload_n E (pc := 5) dX7_firstBad_5 rfl ?_
    refine ll_getf E (pc := 6) (o9 := 73) (ci := 7) (k9 := 1) dX7_firstBad_6 fl_X7_15 (Nat.le_of_ble_eq_true rfl) fx_73_1 ?_
    refine ll_icmp_ge E (pc := 9) (tgt := 35) dX7_firstBad_9 rfl ?_ ?_
    · refine ll_aload_n E (pc := 35) dX7_firstBad_35 rfl ?_
      refine ll_getf E (pc := 36) (o9 := 73) (ci := 7) (k9 := 1) dX7_firstBad_36 fl_X7_15 (Nat.le_of_ble_eq_true rfl) fx_73_1 ?_
      exact ll_ireturn E (pc := 39) hr dX7_firstBad_39
    · refine ll_iload_n E (pc := 12) dX7_firstBad_12 rfl ?_
      refine ll_aload_n E (pc := 13) dX7_firstBad_13 rfl ?_
      refine ll_iload_n E (pc := 14) dX7_firstBad_14 rfl ?_
      refine ll_callVi E (pc := 15) (d := 0) (ci := 7) (o9 := 73) [.int v2] [.int v1] dX7_firstBad_15 cv_X7_19 (fun h => ctX7_signAt h) (Nat.le_of_ble_eq_true rfl) sx_73 ci_7 rfl rfl (Nat.le_of_ble_eq_true rfl) ⟨(Nat.le_of_ble_eq_true rfl), (Nat.le_of_ble_eq_true rfl)⟩ ⟨(Nat.le_of_ble_eq_true rfl), (Nat.le_of_ble_eq_true rfl)⟩ ?_
      intro r6 μ5
      refine ll_callSi E (pc := 18) (d := 3) [.int v1, .int r6] [] dX7_firstBad_18 cv_X7_23 (fun h => ctX7_modeBehind h) rfl rfl (Nat.le_of_ble_eq_true rfl) ⟨(Nat.le_of_ble_eq_true rfl), (Nat.le_of_ble_eq_true rfl)⟩ ⟨(Nat.le_of_ble_eq_true rfl), (Nat.le_of_ble_eq_true rfl)⟩ ?_
      intro r8 μ7
      refine ll_istore_n E (pc := 21) (lo' := [some (.ref (ad 73)), some (.int r8), some (.int v2)]) dX7_firstBad_21 (Nat.le_of_ble_eq_true rfl) rfl rfl ?_
      refine ll_iload_n E (pc := 22) dX7_firstBad_22 rfl ?_
      refine ll_iconst E (pc := 23) dX7_firstBad_23 kc_m1 ?_
      refine ll_icmp_ne E (pc := 24) (tgt := 29) dX7_firstBad_24 rfl ?_ ?_
      · refine ll_iinc E (pc := 29) (lo' := [some (.ref (ad 73)), some (.int r8), some (.int (v2 + (1 : Int32)))]) dX7_firstBad_29 rfl kc_1 (Nat.le_of_ble_eq_true rfl) rfl rfl ?_
        refine ll_goto E (pc := 32) (tgt := 4) dX7_firstBad_32 rfl ?_
        exact ll_lo (lo' := [some (.ref (ad 73)), some (.int r8), some (.int (v2 + (1 : Int32)))]) ⟨rfl, rfl, rfl, trivial⟩ (ih r8 (v2 + (1 : Int32)) μ7)
      · refine ll_iload_n E (pc := 27) dX7_firstBad_27 rfl ?_
        exact ll_ireturn E (pc := 28) hr dX7_firstBad_28
theorem ctX7_firstBad {l : Launch} {D : va_G} {cI cR : ClassId} {ad : Nat → Nat} {μ : Mem} {r : Int32} {μ' : Mem} (hf : fX7_firstBad μ = some (r, μ')) : CT l yX7_firstBad cX7_firstBad 3 (some .int) 4 D cI cR ad shX NX [.ref (ad 73)] μ (some (.int r)) μ' :=
  ct_of (own := RX7) (ov := fun r => some (.int r)) (by decide +kernel) rfl (Nat.le_of_ble_eq_true rfl) (fun p e s m below meth c A0 E hr => by
    refine ll_lo (lo' := [some (.ref (ad 73)), none, none]) ⟨rfl, trivial⟩ ?_
    rw [fX7_firstBad]
    refine ll_iconst E (pc := 0) dX7_firstBad_0 kc_0 ?_
    refine ll_istore_n E (pc := 1) (lo' := [some (.ref (ad 73)), some (.int (0 : Int32)), none]) dX7_firstBad_1 (Nat.le_of_ble_eq_true rfl) rfl rfl ?_
    refine ll_iconst E (pc := 2) dX7_firstBad_2 kc_0 ?_
    refine ll_istore_n E (pc := 3) (lo' := [some (.ref (ad 73)), some (.int (0 : Int32)), some (.int (0 : Int32))]) dX7_firstBad_3 (Nat.le_of_ble_eq_true rfl) rfl rfl ?_
    exact ll_lo (lo' := [some (.ref (ad 73)), some (.int (0 : Int32)), some (.int (0 : Int32))]) ⟨rfl, rfl, rfl, trivial⟩ (kX7_firstBad_L4 E hr fu (0 : Int32) (0 : Int32) μ)) hf
theorem dX7_isWhole_0 : decode cX7_isWhole 0 = .ok (.iconst 0, 1) := by decide +kernel
theorem dX7_isWhole_1 : decode cX7_isWhole 1 = .ok (.istore_n 1, 1) := by decide +kernel
theorem dX7_isWhole_2 : decode cX7_isWhole 2 = .ok (.iconst 0, 1) := by decide +kernel
theorem dX7_isWhole_3 : decode cX7_isWhole 3 = .ok (.istore_n 2, 1) := by decide +kernel
theorem dX7_isWhole_4 : decode cX7_isWhole 4 = .ok (.iload_n 2, 1) := by decide +kernel
theorem dX7_isWhole_5 : decode cX7_isWhole 5 = .ok (.aload_n 0, 1) := by decide +kernel
theorem dX7_isWhole_6 : decode cX7_isWhole 6 = .ok (.getfield 15, 3) := by decide +kernel
theorem dX7_isWhole_9 : decode cX7_isWhole 9 = .ok (.if_icmp .ge 24, 3) := by decide +kernel
theorem dX7_isWhole_12 : decode cX7_isWhole 12 = .ok (.iload_n 1, 1) := by decide +kernel
theorem dX7_isWhole_13 : decode cX7_isWhole 13 = .ok (.iconst (-1), 1) := by decide +kernel
theorem dX7_isWhole_14 : decode cX7_isWhole 14 = .ok (.if_icmp .eq 19, 3) := by decide +kernel
theorem dX7_isWhole_17 : decode cX7_isWhole 17 = .ok (.iload_n 1, 1) := by decide +kernel
theorem dX7_isWhole_18 : decode cX7_isWhole 18 = .ok (.aload_n 0, 1) := by decide +kernel
theorem dX7_isWhole_19 : decode cX7_isWhole 19 = .ok (.iload_n 2, 1) := by decide +kernel
theorem dX7_isWhole_20 : decode cX7_isWhole 20 = .ok (.invokevirtual 19, 3) := by decide +kernel
theorem dX7_isWhole_23 : decode cX7_isWhole 23 = .ok (.invokestatic 23, 3) := by decide +kernel
theorem dX7_isWhole_26 : decode cX7_isWhole 26 = .ok (.istore_n 1, 1) := by decide +kernel
theorem dX7_isWhole_27 : decode cX7_isWhole 27 = .ok (.iinc 2 1, 3) := by decide +kernel
theorem dX7_isWhole_30 : decode cX7_isWhole 30 = .ok (.goto (-26), 3) := by decide +kernel
theorem dX7_isWhole_33 : decode cX7_isWhole 33 = .ok (.iload_n 1, 1) := by decide +kernel
theorem dX7_isWhole_34 : decode cX7_isWhole 34 = .ok (.iconst 5, 1) := by decide +kernel
theorem dX7_isWhole_35 : decode cX7_isWhole 35 = .ok (.if_icmp .eq 8, 3) := by decide +kernel
theorem dX7_isWhole_38 : decode cX7_isWhole 38 = .ok (.iload_n 1, 1) := by decide +kernel
theorem dX7_isWhole_39 : decode cX7_isWhole 39 = .ok (.iconst 4, 1) := by decide +kernel
theorem dX7_isWhole_40 : decode cX7_isWhole 40 = .ok (.if_icmp .ne 7, 3) := by decide +kernel
theorem dX7_isWhole_43 : decode cX7_isWhole 43 = .ok (.iconst 1, 1) := by decide +kernel
theorem dX7_isWhole_44 : decode cX7_isWhole 44 = .ok (.goto 4, 3) := by decide +kernel
theorem dX7_isWhole_47 : decode cX7_isWhole 47 = .ok (.iconst 0, 1) := by decide +kernel
theorem dX7_isWhole_48 : decode cX7_isWhole 48 = .ok (.ireturn, 1) := by decide +kernel
def fX7_isWhole_L43  (μ : Mem) : Option (Int32 × Mem) :=
  some ((1 : Int32), μ)
def fX7_isWhole_L33 (v1 : Int32) (μ : Mem) : Option (Int32 × Mem) :=
  if v1 = (5 : Int32) then
  fX7_isWhole_L43 μ
  else
  if v1 = (4 : Int32) then
  fX7_isWhole_L43 μ
  else
  some ((0 : Int32), μ)
def fX7_isWhole_L4 : Nat → Int32 → Int32 → Mem → Option (Int32 × Mem)
  | 0, _, _, _ => none
  | n + 1, v1, v2, μ =>   if (μ 73 1) ≤ v2 then
  fX7_isWhole_L33 v1 μ
  else
  if v1 = (-1 : Int32) then
  fX7_isWhole_L33 v1 μ
  else
  bd (fX7_signAt μ v2) fun r6 μ5 =>
  bd (fX7_modeBehind μ5 v1 r6) fun r8 μ7 =>
  fX7_isWhole_L4 n r8 (v2 + (1 : Int32)) μ7
def fX7_isWhole (μ : Mem) : Option (Int32 × Mem) :=
  fX7_isWhole_L4 fu (0 : Int32) (0 : Int32) μ
theorem kX7_isWhole_L43 {p : Program} {l : Launch} {e : Env} {s : State} {m : MethodId} {args : Array Value} {below : List Frame} {meth : Method} {c : Code} {D : va_G} {cI cR : ClassId} {ad : Nat → Nat} {A0 : Nat → Prop} (E : EV p s m args meth c cX7_isWhole 3 RX7 D cI cR ad shX NX A0) (hr : meth.sig.returnType = (some .boolean))  (μ : Mem) : LL p l e (RM 4) s m args below meth c 3 D cI cR ad shX NX A0 (fun (r : Int32) μ' => KG below args s D cI cR ad shX NX A0 (some (.int r)) μ') (fX7_isWhole_L43 μ) 0 0 43 [none, none, none] [] μ := by
  rw [fX7_isWhole_L43]
  refine ll_iconst E (pc := 43) dX7_isWhole_43 kc_1 ?_
  refine ll_goto E (pc := 44) (tgt := 48) dX7_isWhole_44 rfl ?_
  exact ll_zreturn E (pc := 48) hr rfl dX7_isWhole_48
theorem kX7_isWhole_L33 {p : Program} {l : Launch} {e : Env} {s : State} {m : MethodId} {args : Array Value} {below : List Frame} {meth : Method} {c : Code} {D : va_G} {cI cR : ClassId} {ad : Nat → Nat} {A0 : Nat → Prop} (E : EV p s m args meth c cX7_isWhole 3 RX7 D cI cR ad shX NX A0) (hr : meth.sig.returnType = (some .boolean)) (v1 : Int32) (μ : Mem) : LL p l e (RM 4) s m args below meth c 3 D cI cR ad shX NX A0 (fun (r : Int32) μ' => KG below args s D cI cR ad shX NX A0 (some (.int r)) μ') (fX7_isWhole_L33 v1 μ) 0 0 33 [none, some (.int v1), none] [] μ := by
  rw [fX7_isWhole_L33]
  refine ll_iload_n E (pc := 33) dX7_isWhole_33 rfl ?_
  refine ll_iconst E (pc := 34) dX7_isWhole_34 kc_5 ?_
  refine ll_icmp_eq E (pc := 35) (tgt := 43) dX7_isWhole_35 rfl ?_ ?_
  · exact ll_lo (lo' := [none, none, none]) trivial (kX7_isWhole_L43 E hr μ)
  · refine ll_iload_n E (pc := 38) dX7_isWhole_38 rfl ?_
    refine ll_iconst E (pc := 39) dX7_isWhole_39 kc_4 ?_
    refine ll_icmp_ne E (pc := 40) (tgt := 47) dX7_isWhole_40 rfl ?_ ?_
    · refine ll_iconst E (pc := 47) dX7_isWhole_47 kc_0 ?_
      exact ll_zreturn E (pc := 48) hr rfl dX7_isWhole_48
    · exact ll_lo (lo' := [none, none, none]) trivial (kX7_isWhole_L43 E hr μ)
theorem kX7_isWhole_L4 {p : Program} {l : Launch} {e : Env} {s : State} {m : MethodId} {args : Array Value} {below : List Frame} {meth : Method} {c : Code} {D : va_G} {cI cR : ClassId} {ad : Nat → Nat} {A0 : Nat → Prop} (E : EV p s m args meth c cX7_isWhole 3 RX7 D cI cR ad shX NX A0) (hr : meth.sig.returnType = (some .boolean)) (n : Nat) : ∀ (v1 : Int32) (v2 : Int32) (μ : Mem), LL p l e (RM 4) s m args below meth c 3 D cI cR ad shX NX A0 (fun (r : Int32) μ' => KG below args s D cI cR ad shX NX A0 (some (.int r)) μ') (fX7_isWhole_L4 n v1 v2 μ) 0 0 4 [some (.ref (ad 73)), some (.int v1), some (.int v2)] [] μ := by
  induction n with
  | zero =>
    intros
    exact ll_none
  | succ n ih =>
    intro v1 v2 μ
    rw [fX7_isWhole_L4]
    refine ll_iload_n E (pc := 4) dX7_isWhole_4 rfl ?_
    refine ll_aload_n E (pc := 5) dX7_isWhole_5 rfl ?_
    refine ll_getf E (pc := 6) (o9 := 73) (ci := 7) (k9 := 1) dX7_isWhole_6 fl_X7_15 (Nat.le_of_ble_eq_true rfl) fx_73_1 ?_
    refine ll_icmp_ge E (pc := 9) (tgt := 33) dX7_isWhole_9 rfl ?_ ?_
    · exact ll_lo (lo' := [none, some (.int v1), none]) ⟨rfl, trivial⟩ (kX7_isWhole_L33 E hr v1 μ)
    · refine ll_iload_n E (pc := 12) dX7_isWhole_12 rfl ?_
      refine ll_iconst E (pc := 13) dX7_isWhole_13 kc_m1 ?_
      refine ll_icmp_eq E (pc := 14) (tgt := 33) dX7_isWhole_14 rfl ?_ ?_
      · exact ll_lo (lo' := [none, some (.int v1), none]) ⟨rfl, trivial⟩ (kX7_isWhole_L33 E hr v1 μ)
      · refine ll_iload_n E (pc := 17) dX7_isWhole_17 rfl ?_
        refine ll_aload_n E (pc := 18) dX7_isWhole_18 rfl ?_
        refine ll_iload_n E (pc := 19) dX7_isWhole_19 rfl ?_
        refine ll_callVi E (pc := 20) (d := 0) (ci := 7) (o9 := 73) [.int v2] [.int v1] dX7_isWhole_20 cv_X7_19 (fun h => ctX7_signAt h) (Nat.le_of_ble_eq_true rfl) sx_73 ci_7 rfl rfl (Nat.le_of_ble_eq_true rfl) ⟨(Nat.le_of_ble_eq_true rfl), (Nat.le_of_ble_eq_true rfl)⟩ ⟨(Nat.le_of_ble_eq_true rfl), (Nat.le_of_ble_eq_true rfl)⟩ ?_
        intro r6 μ5
        refine ll_callSi E (pc := 23) (d := 3) [.int v1, .int r6] [] dX7_isWhole_23 cv_X7_23 (fun h => ctX7_modeBehind h) rfl rfl (Nat.le_of_ble_eq_true rfl) ⟨(Nat.le_of_ble_eq_true rfl), (Nat.le_of_ble_eq_true rfl)⟩ ⟨(Nat.le_of_ble_eq_true rfl), (Nat.le_of_ble_eq_true rfl)⟩ ?_
        intro r8 μ7
        refine ll_istore_n E (pc := 26) (lo' := [some (.ref (ad 73)), some (.int r8), some (.int v2)]) dX7_isWhole_26 (Nat.le_of_ble_eq_true rfl) rfl rfl ?_
        refine ll_iinc E (pc := 27) (lo' := [some (.ref (ad 73)), some (.int r8), some (.int (v2 + (1 : Int32)))]) dX7_isWhole_27 rfl kc_1 (Nat.le_of_ble_eq_true rfl) rfl rfl ?_
        refine ll_goto E (pc := 30) (tgt := 4) dX7_isWhole_30 rfl ?_
        exact ll_lo (lo' := [some (.ref (ad 73)), some (.int r8), some (.int (v2 + (1 : Int32)))]) ⟨rfl, rfl, rfl, trivial⟩ (ih r8 (v2 + (1 : Int32)) μ7)
theorem ctX7_isWhole {l : Launch} {D : va_G} {cI cR : ClassId} {ad : Nat → Nat} {μ : Mem} {r : Int32} {μ' : Mem} (hf : fX7_isWhole μ = some (r, μ')) : CT l yX7_isWhole cX7_isWhole 3 (some .boolean) 4 D cI cR ad shX NX [.ref (ad 73)] μ (some (.int r)) μ' :=
  ct_of (own := RX7) (ov := fun r => some (.int r)) (by decide +kernel) rfl (Nat.le_of_ble_eq_true rfl) (fun p e s m below meth c A0 E hr => by
    refine ll_lo (lo' := [some (.ref (ad 73)), none, none]) ⟨rfl, trivial⟩ ?_
    rw [fX7_isWhole]
    refine ll_iconst E (pc := 0) dX7_isWhole_0 kc_0 ?_
    refine ll_istore_n E (pc := 1) (lo' := [some (.ref (ad 73)), some (.int (0 : Int32)), none]) dX7_isWhole_1 (Nat.le_of_ble_eq_true rfl) rfl rfl ?_
    refine ll_iconst E (pc := 2) dX7_isWhole_2 kc_0 ?_
    refine ll_istore_n E (pc := 3) (lo' := [some (.ref (ad 73)), some (.int (0 : Int32)), some (.int (0 : Int32))]) dX7_isWhole_3 (Nat.le_of_ble_eq_true rfl) rfl rfl ?_
    exact ll_lo (lo' := [some (.ref (ad 73)), some (.int (0 : Int32)), some (.int (0 : Int32))]) ⟨rfl, rfl, rfl, trivial⟩ (kX7_isWhole_L4 E hr fu (0 : Int32) (0 : Int32) μ)) hf
theorem dX7_countOfSteps_0 : decode cX7_countOfSteps 0 = .ok (.iconst 1, 1) := by decide +kernel
theorem dX7_countOfSteps_1 : decode cX7_countOfSteps 1 = .ok (.istore_n 1, 1) := by decide +kernel
theorem dX7_countOfSteps_2 : decode cX7_countOfSteps 2 = .ok (.iconst 0, 1) := by decide +kernel
theorem dX7_countOfSteps_3 : decode cX7_countOfSteps 3 = .ok (.istore_n 2, 1) := by decide +kernel
theorem dX7_countOfSteps_4 : decode cX7_countOfSteps 4 = .ok (.iload_n 2, 1) := by decide +kernel
theorem dX7_countOfSteps_5 : decode cX7_countOfSteps 5 = .ok (.aload_n 0, 1) := by decide +kernel
theorem dX7_countOfSteps_6 : decode cX7_countOfSteps 6 = .ok (.getfield 15, 3) := by decide +kernel
theorem dX7_countOfSteps_9 : decode cX7_countOfSteps 9 = .ok (.if_icmp .ge 27, 3) := by decide +kernel
theorem dX7_countOfSteps_12 : decode cX7_countOfSteps 12 = .ok (.iload_n 1, 1) := by decide +kernel
theorem dX7_countOfSteps_13 : decode cX7_countOfSteps 13 = .ok (.aload_n 0, 1) := by decide +kernel
theorem dX7_countOfSteps_14 : decode cX7_countOfSteps 14 = .ok (.iload_n 2, 1) := by decide +kernel
theorem dX7_countOfSteps_15 : decode cX7_countOfSteps 15 = .ok (.invokevirtual 19, 3) := by decide +kernel
theorem dX7_countOfSteps_18 : decode cX7_countOfSteps 18 = .ok (.bipush 59, 2) := by decide +kernel
theorem dX7_countOfSteps_20 : decode cX7_countOfSteps 20 = .ok (.if_icmp .ne 7, 3) := by decide +kernel
theorem dX7_countOfSteps_23 : decode cX7_countOfSteps 23 = .ok (.iconst 1, 1) := by decide +kernel
theorem dX7_countOfSteps_24 : decode cX7_countOfSteps 24 = .ok (.goto 4, 3) := by decide +kernel
theorem dX7_countOfSteps_27 : decode cX7_countOfSteps 27 = .ok (.iconst 0, 1) := by decide +kernel
theorem dX7_countOfSteps_28 : decode cX7_countOfSteps 28 = .ok (.iadd, 1) := by decide +kernel
theorem dX7_countOfSteps_29 : decode cX7_countOfSteps 29 = .ok (.istore_n 1, 1) := by decide +kernel
theorem dX7_countOfSteps_30 : decode cX7_countOfSteps 30 = .ok (.iinc 2 1, 3) := by decide +kernel
theorem dX7_countOfSteps_33 : decode cX7_countOfSteps 33 = .ok (.goto (-29), 3) := by decide +kernel
theorem dX7_countOfSteps_36 : decode cX7_countOfSteps 36 = .ok (.iload_n 1, 1) := by decide +kernel
theorem dX7_countOfSteps_37 : decode cX7_countOfSteps 37 = .ok (.ireturn, 1) := by decide +kernel
def fX7_countOfSteps_L28 (K4 : Int32 → Int32 → Mem → Option (Int32 × Mem)) (v2 : Int32) (s0 : Int32) (s1 : Int32) (μ : Mem) : Option (Int32 × Mem) :=
  K4 (s1 + s0) (v2 + (1 : Int32)) μ
def fX7_countOfSteps_L4 : Nat → Int32 → Int32 → Mem → Option (Int32 × Mem)
  | 0, _, _, _ => none
  | n + 1, v1, v2, μ =>   if (μ 73 1) ≤ v2 then
  some (v1, μ)
  else
  bd (fX7_signAt μ v2) fun r4 μ3 =>
  if r4 = (59 : Int32) then
  fX7_countOfSteps_L28 (fX7_countOfSteps_L4 n) v2 (1 : Int32) v1 μ3
  else
  fX7_countOfSteps_L28 (fX7_countOfSteps_L4 n) v2 (0 : Int32) v1 μ3
def fX7_countOfSteps (μ : Mem) : Option (Int32 × Mem) :=
  fX7_countOfSteps_L4 fu (1 : Int32) (0 : Int32) μ
theorem kX7_countOfSteps_L28 {p : Program} {l : Launch} {e : Env} {s : State} {m : MethodId} {args : Array Value} {below : List Frame} {meth : Method} {c : Code} {D : va_G} {cI cR : ClassId} {ad : Nat → Nat} {A0 : Nat → Prop} (E : EV p s m args meth c cX7_countOfSteps 3 RX7 D cI cR ad shX NX A0) (hr : meth.sig.returnType = (some .int)) {K4 : Int32 → Int32 → Mem → Option (Int32 × Mem)} (hK4 : ∀ (v1 : Int32) (v2 : Int32) (μ : Mem), LL p l e (RM 1) s m args below meth c 3 D cI cR ad shX NX A0 (fun (r : Int32) μ' => KG below args s D cI cR ad shX NX A0 (some (.int r)) μ') (K4 v1 v2 μ) 0 0 4 [some (.ref (ad 73)), some (.int v1), some (.int v2)] [] μ) (v2 : Int32) (s0 : Int32) (s1 : Int32) (μ : Mem) : LL p l e (RM 1) s m args below meth c 3 D cI cR ad shX NX A0 (fun (r : Int32) μ' => KG below args s D cI cR ad shX NX A0 (some (.int r)) μ') (fX7_countOfSteps_L28 K4 v2 s0 s1 μ) 0 0 28 [some (.ref (ad 73)), none, some (.int v2)] [.int s0, .int s1] μ := by
  rw [fX7_countOfSteps_L28]
  refine ll_iadd E (pc := 28) dX7_countOfSteps_28 ?_
  refine ll_istore_n E (pc := 29) (lo' := [some (.ref (ad 73)), some (.int (s1 + s0)), some (.int v2)]) dX7_countOfSteps_29 (Nat.le_of_ble_eq_true rfl) rfl rfl ?_
  refine ll_iinc E (pc := 30) (lo' := [some (.ref (ad 73)), some (.int (s1 + s0)), some (.int (v2 + (1 : Int32)))]) dX7_countOfSteps_30 rfl kc_1 (Nat.le_of_ble_eq_true rfl) rfl rfl ?_
  refine ll_goto E (pc := 33) (tgt := 4) dX7_countOfSteps_33 rfl ?_
  exact ll_lo (lo' := [some (.ref (ad 73)), some (.int (s1 + s0)), some (.int (v2 + (1 : Int32)))]) ⟨rfl, rfl, rfl, trivial⟩ (hK4 (s1 + s0) (v2 + (1 : Int32)) μ)
theorem kX7_countOfSteps_L4 {p : Program} {l : Launch} {e : Env} {s : State} {m : MethodId} {args : Array Value} {below : List Frame} {meth : Method} {c : Code} {D : va_G} {cI cR : ClassId} {ad : Nat → Nat} {A0 : Nat → Prop} (E : EV p s m args meth c cX7_countOfSteps 3 RX7 D cI cR ad shX NX A0) (hr : meth.sig.returnType = (some .int)) (n : Nat) : ∀ (v1 : Int32) (v2 : Int32) (μ : Mem), LL p l e (RM 1) s m args below meth c 3 D cI cR ad shX NX A0 (fun (r : Int32) μ' => KG below args s D cI cR ad shX NX A0 (some (.int r)) μ') (fX7_countOfSteps_L4 n v1 v2 μ) 0 0 4 [some (.ref (ad 73)), some (.int v1), some (.int v2)] [] μ := by
  induction n with
  | zero =>
    intros
    exact ll_none
  | succ n ih =>
    intro v1 v2 μ
    rw [fX7_countOfSteps_L4]
    refine ll_iload_n E (pc := 4) dX7_countOfSteps_4 rfl ?_
    refine ll_aload_n E (pc := 5) dX7_countOfSteps_5 rfl ?_
    refine ll_getf E (pc := 6) (o9 := 73) (ci := 7) (k9 := 1) dX7_countOfSteps_6 fl_X7_15 (Nat.le_of_ble_eq_true rfl) fx_73_1 ?_
    refine ll_icmp_ge E (pc := 9) (tgt := 36) dX7_countOfSteps_9 rfl ?_ ?_
    · refine ll_iload_n E (pc := 36) dX7_countOfSteps_36 rfl ?_
      exact ll_ireturn E (pc := 37) hr dX7_countOfSteps_37
    · refine ll_iload_n E (pc := 12) dX7_countOfSteps_12 rfl ?_
      refine ll_aload_n E (pc := 13) dX7_countOfSteps_13 rfl ?_
      refine ll_iload_n E (pc := 14) dX7_countOfSteps_14 rfl ?_
      refine ll_callVi E (pc := 15) (d := 0) (ci := 7) (o9 := 73) [.int v2] [.int v1] dX7_countOfSteps_15 cv_X7_19 (fun h => ctX7_signAt h) (Nat.le_of_ble_eq_true rfl) sx_73 ci_7 rfl rfl (Nat.le_of_ble_eq_true rfl) ⟨(Nat.le_of_ble_eq_true rfl), (Nat.le_of_ble_eq_true rfl)⟩ ⟨(Nat.le_of_ble_eq_true rfl), (Nat.le_of_ble_eq_true rfl)⟩ ?_
      intro r4 μ3
      refine ll_bipush E (pc := 18) dX7_countOfSteps_18 kb_59 ?_
      refine ll_icmp_ne E (pc := 20) (tgt := 27) dX7_countOfSteps_20 rfl ?_ ?_
      · refine ll_iconst E (pc := 27) dX7_countOfSteps_27 kc_0 ?_
        exact ll_lo (lo' := [some (.ref (ad 73)), none, some (.int v2)]) ⟨rfl, rfl, trivial⟩ (kX7_countOfSteps_L28 E hr ih v2 (0 : Int32) v1 μ3)
      · refine ll_iconst E (pc := 23) dX7_countOfSteps_23 kc_1 ?_
        refine ll_goto E (pc := 24) (tgt := 28) dX7_countOfSteps_24 rfl ?_
        exact ll_lo (lo' := [some (.ref (ad 73)), none, some (.int v2)]) ⟨rfl, rfl, trivial⟩ (kX7_countOfSteps_L28 E hr ih v2 (1 : Int32) v1 μ3)
theorem ctX7_countOfSteps {l : Launch} {D : va_G} {cI cR : ClassId} {ad : Nat → Nat} {μ : Mem} {r : Int32} {μ' : Mem} (hf : fX7_countOfSteps μ = some (r, μ')) : CT l yX7_countOfSteps cX7_countOfSteps 3 (some .int) 1 D cI cR ad shX NX [.ref (ad 73)] μ (some (.int r)) μ' :=
  ct_of (own := RX7) (ov := fun r => some (.int r)) (by decide +kernel) rfl (Nat.le_of_ble_eq_true rfl) (fun p e s m below meth c A0 E hr => by
    refine ll_lo (lo' := [some (.ref (ad 73)), none, none]) ⟨rfl, trivial⟩ ?_
    rw [fX7_countOfSteps]
    refine ll_iconst E (pc := 0) dX7_countOfSteps_0 kc_1 ?_
    refine ll_istore_n E (pc := 1) (lo' := [some (.ref (ad 73)), some (.int (1 : Int32)), none]) dX7_countOfSteps_1 (Nat.le_of_ble_eq_true rfl) rfl rfl ?_
    refine ll_iconst E (pc := 2) dX7_countOfSteps_2 kc_0 ?_
    refine ll_istore_n E (pc := 3) (lo' := [some (.ref (ad 73)), some (.int (1 : Int32)), some (.int (0 : Int32))]) dX7_countOfSteps_3 (Nat.le_of_ble_eq_true rfl) rfl rfl ?_
    exact ll_lo (lo' := [some (.ref (ad 73)), some (.int (1 : Int32)), some (.int (0 : Int32))]) ⟨rfl, rfl, rfl, trivial⟩ (kX7_countOfSteps_L4 E hr fu (1 : Int32) (0 : Int32) μ)) hf
theorem dX7_registerOf_0 : decode cX7_registerOf 0 = .ok (.aload_n 0, 1) := by decide +kernel
theorem dX7_registerOf_1 : decode cX7_registerOf 1 = .ok (.iload_n 1, 1) := by decide +kernel
theorem dX7_registerOf_2 : decode cX7_registerOf 2 = .ok (.invokevirtual 19, 3) := by decide +kernel
theorem dX7_registerOf_5 : decode cX7_registerOf 5 = .ok (.istore_n 2, 1) := by decide +kernel
theorem dX7_registerOf_6 : decode cX7_registerOf 6 = .ok (.iload_n 2, 1) := by decide +kernel
theorem dX7_registerOf_7 : decode cX7_registerOf 7 = .ok (.invokestatic 27, 3) := by decide +kernel
theorem dX7_registerOf_10 : decode cX7_registerOf 10 = .ok (.ifCond .eq 10, 3) := by decide +kernel
theorem dX7_registerOf_13 : decode cX7_registerOf 13 = .ok (.iload_n 2, 1) := by decide +kernel
theorem dX7_registerOf_14 : decode cX7_registerOf 14 = .ok (.bipush 97, 2) := by decide +kernel
theorem dX7_registerOf_16 : decode cX7_registerOf 16 = .ok (.isub, 1) := by decide +kernel
theorem dX7_registerOf_17 : decode cX7_registerOf 17 = .ok (.goto 4, 3) := by decide +kernel
theorem dX7_registerOf_20 : decode cX7_registerOf 20 = .ok (.iconst 0, 1) := by decide +kernel
theorem dX7_registerOf_21 : decode cX7_registerOf 21 = .ok (.ireturn, 1) := by decide +kernel
def fX7_registerOf (μ : Mem) (a1 : Int32) : Option (Int32 × Mem) :=
  bd (fX7_signAt μ a1) fun r6 μ5 =>
  bd (fX7_isLetter μ5 r6) fun r8 μ7 =>
  if r8 = 0 then
  some ((0 : Int32), μ7)
  else
  some ((r6 - (97 : Int32)), μ7)
theorem ctX7_registerOf {l : Launch} {D : va_G} {cI cR : ClassId} {ad : Nat → Nat} {μ : Mem} {a1 : Int32} {r : Int32} {μ' : Mem} (hf : fX7_registerOf μ a1 = some (r, μ')) : CT l yX7_registerOf cX7_registerOf 3 (some .int) 1 D cI cR ad shX NX [.ref (ad 73), .int a1] μ (some (.int r)) μ' :=
  ct_of (own := RX7) (ov := fun r => some (.int r)) (by decide +kernel) rfl (Nat.le_of_ble_eq_true rfl) (fun p e s m below meth c A0 E hr => by
    refine ll_lo (lo' := [some (.ref (ad 73)), some (.int a1), none]) ⟨rfl, rfl, trivial⟩ ?_
    rw [fX7_registerOf]
    refine ll_aload_n E (pc := 0) dX7_registerOf_0 rfl ?_
    refine ll_iload_n E (pc := 1) dX7_registerOf_1 rfl ?_
    refine ll_callVi E (pc := 2) (d := 0) (ci := 7) (o9 := 73) [.int a1] [] dX7_registerOf_2 cv_X7_19 (fun h => ctX7_signAt h) (Nat.le_of_ble_eq_true rfl) sx_73 ci_7 rfl rfl (Nat.le_of_ble_eq_true rfl) ⟨(Nat.le_of_ble_eq_true rfl), (Nat.le_of_ble_eq_true rfl)⟩ ⟨(Nat.le_of_ble_eq_true rfl), (Nat.le_of_ble_eq_true rfl)⟩ ?_
    intro r6 μ5
    refine ll_istore_n E (pc := 5) (lo' := [some (.ref (ad 73)), some (.int a1), some (.int r6)]) dX7_registerOf_5 (Nat.le_of_ble_eq_true rfl) rfl rfl ?_
    refine ll_iload_n E (pc := 6) dX7_registerOf_6 rfl ?_
    refine ll_callSi E (pc := 7) (d := 0) [.int r6] [] dX7_registerOf_7 cv_X7_27 (fun h => ctX7_isLetter h) rfl rfl (Nat.le_of_ble_eq_true rfl) ⟨(Nat.le_of_ble_eq_true rfl), (Nat.le_of_ble_eq_true rfl)⟩ ⟨(Nat.le_of_ble_eq_true rfl), (Nat.le_of_ble_eq_true rfl)⟩ ?_
    intro r8 μ7
    refine ll_if_eq E (pc := 10) (tgt := 20) dX7_registerOf_10 rfl ?_ ?_
    · refine ll_iconst E (pc := 20) dX7_registerOf_20 kc_0 ?_
      exact ll_ireturn E (pc := 21) hr dX7_registerOf_21
    · refine ll_iload_n E (pc := 13) dX7_registerOf_13 rfl ?_
      refine ll_bipush E (pc := 14) dX7_registerOf_14 kb_97 ?_
      refine ll_isub E (pc := 16) dX7_registerOf_16 ?_
      refine ll_goto E (pc := 17) (tgt := 21) dX7_registerOf_17 rfl ?_
      exact ll_ireturn E (pc := 21) hr dX7_registerOf_21) hf
theorem dX7_numberOf_0 : decode cX7_numberOf 0 = .ok (.aload_n 0, 1) := by decide +kernel
theorem dX7_numberOf_1 : decode cX7_numberOf 1 = .ok (.iload_n 1, 1) := by decide +kernel
theorem dX7_numberOf_2 : decode cX7_numberOf 2 = .ok (.invokevirtual 19, 3) := by decide +kernel
theorem dX7_numberOf_5 : decode cX7_numberOf 5 = .ok (.bipush 45, 2) := by decide +kernel
theorem dX7_numberOf_7 : decode cX7_numberOf 7 = .ok (.if_icmp .ne 7, 3) := by decide +kernel
theorem dX7_numberOf_10 : decode cX7_numberOf 10 = .ok (.iconst 1, 1) := by decide +kernel
theorem dX7_numberOf_11 : decode cX7_numberOf 11 = .ok (.goto 4, 3) := by decide +kernel
theorem dX7_numberOf_14 : decode cX7_numberOf 14 = .ok (.iconst 0, 1) := by decide +kernel
theorem dX7_numberOf_15 : decode cX7_numberOf 15 = .ok (.istore_n 2, 1) := by decide +kernel
theorem dX7_numberOf_16 : decode cX7_numberOf 16 = .ok (.iconst 0, 1) := by decide +kernel
theorem dX7_numberOf_17 : decode cX7_numberOf 17 = .ok (.istore_n 3, 1) := by decide +kernel
theorem dX7_numberOf_18 : decode cX7_numberOf 18 = .ok (.iload_n 2, 1) := by decide +kernel
theorem dX7_numberOf_19 : decode cX7_numberOf 19 = .ok (.ifCond .eq 9, 3) := by decide +kernel
theorem dX7_numberOf_22 : decode cX7_numberOf 22 = .ok (.iload_n 1, 1) := by decide +kernel
theorem dX7_numberOf_23 : decode cX7_numberOf 23 = .ok (.iconst 1, 1) := by decide +kernel
theorem dX7_numberOf_24 : decode cX7_numberOf 24 = .ok (.iadd, 1) := by decide +kernel
theorem dX7_numberOf_25 : decode cX7_numberOf 25 = .ok (.goto 4, 3) := by decide +kernel
theorem dX7_numberOf_28 : decode cX7_numberOf 28 = .ok (.iload_n 1, 1) := by decide +kernel
theorem dX7_numberOf_29 : decode cX7_numberOf 29 = .ok (.istore 4, 2) := by decide +kernel
theorem dX7_numberOf_31 : decode cX7_numberOf 31 = .ok (.aload_n 0, 1) := by decide +kernel
theorem dX7_numberOf_32 : decode cX7_numberOf 32 = .ok (.iload 4, 2) := by decide +kernel
theorem dX7_numberOf_34 : decode cX7_numberOf 34 = .ok (.invokevirtual 19, 3) := by decide +kernel
theorem dX7_numberOf_37 : decode cX7_numberOf 37 = .ok (.invokestatic 37, 3) := by decide +kernel
theorem dX7_numberOf_40 : decode cX7_numberOf 40 = .ok (.ifCond .eq 33, 3) := by decide +kernel
theorem dX7_numberOf_43 : decode cX7_numberOf 43 = .ok (.iload 4, 2) := by decide +kernel
theorem dX7_numberOf_45 : decode cX7_numberOf 45 = .ok (.aload_n 0, 1) := by decide +kernel
theorem dX7_numberOf_46 : decode cX7_numberOf 46 = .ok (.getfield 15, 3) := by decide +kernel
theorem dX7_numberOf_49 : decode cX7_numberOf 49 = .ok (.if_icmp .ge 24, 3) := by decide +kernel
theorem dX7_numberOf_52 : decode cX7_numberOf 52 = .ok (.iload_n 3, 1) := by decide +kernel
theorem dX7_numberOf_53 : decode cX7_numberOf 53 = .ok (.bipush 10, 2) := by decide +kernel
theorem dX7_numberOf_55 : decode cX7_numberOf 55 = .ok (.imul, 1) := by decide +kernel
theorem dX7_numberOf_56 : decode cX7_numberOf 56 = .ok (.aload_n 0, 1) := by decide +kernel
theorem dX7_numberOf_57 : decode cX7_numberOf 57 = .ok (.iload 4, 2) := by decide +kernel
theorem dX7_numberOf_59 : decode cX7_numberOf 59 = .ok (.invokevirtual 19, 3) := by decide +kernel
theorem dX7_numberOf_62 : decode cX7_numberOf 62 = .ok (.iadd, 1) := by decide +kernel
theorem dX7_numberOf_63 : decode cX7_numberOf 63 = .ok (.bipush 48, 2) := by decide +kernel
theorem dX7_numberOf_65 : decode cX7_numberOf 65 = .ok (.isub, 1) := by decide +kernel
theorem dX7_numberOf_66 : decode cX7_numberOf 66 = .ok (.istore_n 3, 1) := by decide +kernel
theorem dX7_numberOf_67 : decode cX7_numberOf 67 = .ok (.iinc 4 1, 3) := by decide +kernel
theorem dX7_numberOf_70 : decode cX7_numberOf 70 = .ok (.goto (-39), 3) := by decide +kernel
theorem dX7_numberOf_73 : decode cX7_numberOf 73 = .ok (.iload_n 2, 1) := by decide +kernel
theorem dX7_numberOf_74 : decode cX7_numberOf 74 = .ok (.ifCond .eq 8, 3) := by decide +kernel
theorem dX7_numberOf_77 : decode cX7_numberOf 77 = .ok (.iload_n 3, 1) := by decide +kernel
theorem dX7_numberOf_78 : decode cX7_numberOf 78 = .ok (.ineg, 1) := by decide +kernel
theorem dX7_numberOf_79 : decode cX7_numberOf 79 = .ok (.goto 4, 3) := by decide +kernel
theorem dX7_numberOf_82 : decode cX7_numberOf 82 = .ok (.iload_n 3, 1) := by decide +kernel
theorem dX7_numberOf_83 : decode cX7_numberOf 83 = .ok (.ireturn, 1) := by decide +kernel
def fX7_numberOf_L73 (v2 : Int32) (v3 : Int32) (μ : Mem) : Option (Int32 × Mem) :=
  if v2 = 0 then
  some (v3, μ)
  else
  some ((-v3), μ)
def fX7_numberOf_L31 : Nat → Int32 → Int32 → Int32 → Mem → Option (Int32 × Mem)
  | 0, _, _, _, _ => none
  | n + 1, v2, v3, v4, μ =>   bd (fX7_signAt μ v4) fun r10 μ9 =>
  bd (fX7_isDigit μ9 r10) fun r12 μ11 =>
  if r12 = 0 then
  fX7_numberOf_L73 v2 v3 μ11
  else
  if (μ11 73 1) ≤ v4 then
  fX7_numberOf_L73 v2 v3 μ11
  else
  bd (fX7_signAt μ11 v4) fun r14 μ13 =>
  fX7_numberOf_L31 n v2 (((v3 * (10 : Int32)) + r14) - (48 : Int32)) (v4 + (1 : Int32)) μ13
def fX7_numberOf_L29 (v2 : Int32) (v3 : Int32) (s0 : Int32) (μ : Mem) : Option (Int32 × Mem) :=
  fX7_numberOf_L31 fu v2 v3 s0 μ
def fX7_numberOf_L15 (v1 : Int32) (s0 : Int32) (μ : Mem) : Option (Int32 × Mem) :=
  if s0 = 0 then
  fX7_numberOf_L29 s0 (0 : Int32) v1 μ
  else
  fX7_numberOf_L29 s0 (0 : Int32) (v1 + (1 : Int32)) μ
def fX7_numberOf (μ : Mem) (a1 : Int32) : Option (Int32 × Mem) :=
  bd (fX7_signAt μ a1) fun r16 μ15 =>
  if r16 = (45 : Int32) then
  fX7_numberOf_L15 a1 (1 : Int32) μ15
  else
  fX7_numberOf_L15 a1 (0 : Int32) μ15
theorem kX7_numberOf_L73 {p : Program} {l : Launch} {e : Env} {s : State} {m : MethodId} {args : Array Value} {below : List Frame} {meth : Method} {c : Code} {D : va_G} {cI cR : ClassId} {ad : Nat → Nat} {A0 : Nat → Prop} (E : EV p s m args meth c cX7_numberOf 5 RX7 D cI cR ad shX NX A0) (hr : meth.sig.returnType = (some .int)) (v2 : Int32) (v3 : Int32) (μ : Mem) : LL p l e (RM 1) s m args below meth c 5 D cI cR ad shX NX A0 (fun (r : Int32) μ' => KG below args s D cI cR ad shX NX A0 (some (.int r)) μ') (fX7_numberOf_L73 v2 v3 μ) 0 0 73 [none, none, some (.int v2), some (.int v3), none] [] μ := by
  rw [fX7_numberOf_L73]
  refine ll_iload_n E (pc := 73) dX7_numberOf_73 rfl ?_
  refine ll_if_eq E (pc := 74) (tgt := 82) dX7_numberOf_74 rfl ?_ ?_
  · refine ll_iload_n E (pc := 82) dX7_numberOf_82 rfl ?_
    exact ll_ireturn E (pc := 83) hr dX7_numberOf_83
  · refine ll_iload_n E (pc := 77) dX7_numberOf_77 rfl ?_
    refine ll_ineg E (pc := 78) dX7_numberOf_78 ?_
    refine ll_goto E (pc := 79) (tgt := 83) dX7_numberOf_79 rfl ?_
    exact ll_ireturn E (pc := 83) hr dX7_numberOf_83
theorem kX7_numberOf_L31 {p : Program} {l : Launch} {e : Env} {s : State} {m : MethodId} {args : Array Value} {below : List Frame} {meth : Method} {c : Code} {D : va_G} {cI cR : ClassId} {ad : Nat → Nat} {A0 : Nat → Prop} (E : EV p s m args meth c cX7_numberOf 5 RX7 D cI cR ad shX NX A0) (hr : meth.sig.returnType = (some .int)) (n : Nat) : ∀ (v2 : Int32) (v3 : Int32) (v4 : Int32) (μ : Mem), LL p l e (RM 1) s m args below meth c 5 D cI cR ad shX NX A0 (fun (r : Int32) μ' => KG below args s D cI cR ad shX NX A0 (some (.int r)) μ') (fX7_numberOf_L31 n v2 v3 v4 μ) 0 0 31 [some (.ref (ad 73)), none, some (.int v2), some (.int v3), some (.int v4)] [] μ := by
  induction n with
  | zero =>
    intros
    exact ll_none
  | succ n ih =>
    intro v2 v3 v4 μ
    rw [fX7_numberOf_L31]
    refine ll_aload_n E (pc := 31) dX7_numberOf_31 rfl ?_
    refine ll_iload E (pc := 32) dX7_numberOf_32 rfl ?_
    refine ll_callVi E (pc := 34) (d := 0) (ci := 7) (o9 := 73) [.int v4] [] dX7_numberOf_34 cv_X7_19 (fun h => ctX7_signAt h) (Nat.le_of_ble_eq_true rfl) sx_73 ci_7 rfl rfl (Nat.le_of_ble_eq_true rfl) ⟨(Nat.le_of_ble_eq_true rfl), (Nat.le_of_ble_eq_true rfl)⟩ ⟨(Nat.le_of_ble_eq_true rfl), (Nat.le_of_ble_eq_true rfl)⟩ ?_
    intro r10 μ9
    refine ll_callSi E (pc := 37) (d := 0) [.int r10] [] dX7_numberOf_37 cv_X7_37 (fun h => ctX7_isDigit h) rfl rfl (Nat.le_of_ble_eq_true rfl) ⟨(Nat.le_of_ble_eq_true rfl), (Nat.le_of_ble_eq_true rfl)⟩ ⟨(Nat.le_of_ble_eq_true rfl), (Nat.le_of_ble_eq_true rfl)⟩ ?_
    intro r12 μ11
    refine ll_if_eq E (pc := 40) (tgt := 73) dX7_numberOf_40 rfl ?_ ?_
    · exact ll_lo (lo' := [none, none, some (.int v2), some (.int v3), none]) ⟨rfl, rfl, trivial⟩ (kX7_numberOf_L73 E hr v2 v3 μ11)
    · refine ll_iload E (pc := 43) dX7_numberOf_43 rfl ?_
      refine ll_aload_n E (pc := 45) dX7_numberOf_45 rfl ?_
      refine ll_getf E (pc := 46) (o9 := 73) (ci := 7) (k9 := 1) dX7_numberOf_46 fl_X7_15 (Nat.le_of_ble_eq_true rfl) fx_73_1 ?_
      refine ll_icmp_ge E (pc := 49) (tgt := 73) dX7_numberOf_49 rfl ?_ ?_
      · exact ll_lo (lo' := [none, none, some (.int v2), some (.int v3), none]) ⟨rfl, rfl, trivial⟩ (kX7_numberOf_L73 E hr v2 v3 μ11)
      · refine ll_iload_n E (pc := 52) dX7_numberOf_52 rfl ?_
        refine ll_bipush E (pc := 53) dX7_numberOf_53 kb_10 ?_
        refine ll_imul E (pc := 55) dX7_numberOf_55 ?_
        refine ll_aload_n E (pc := 56) dX7_numberOf_56 rfl ?_
        refine ll_iload E (pc := 57) dX7_numberOf_57 rfl ?_
        refine ll_callVi E (pc := 59) (d := 0) (ci := 7) (o9 := 73) [.int v4] [.int (v3 * (10 : Int32))] dX7_numberOf_59 cv_X7_19 (fun h => ctX7_signAt h) (Nat.le_of_ble_eq_true rfl) sx_73 ci_7 rfl rfl (Nat.le_of_ble_eq_true rfl) ⟨(Nat.le_of_ble_eq_true rfl), (Nat.le_of_ble_eq_true rfl)⟩ ⟨(Nat.le_of_ble_eq_true rfl), (Nat.le_of_ble_eq_true rfl)⟩ ?_
        intro r14 μ13
        refine ll_iadd E (pc := 62) dX7_numberOf_62 ?_
        refine ll_bipush E (pc := 63) dX7_numberOf_63 kb_48 ?_
        refine ll_isub E (pc := 65) dX7_numberOf_65 ?_
        refine ll_istore_n E (pc := 66) (lo' := [some (.ref (ad 73)), none, some (.int v2), some (.int (((v3 * (10 : Int32)) + r14) - (48 : Int32))), some (.int v4)]) dX7_numberOf_66 (Nat.le_of_ble_eq_true rfl) rfl rfl ?_
        refine ll_iinc E (pc := 67) (lo' := [some (.ref (ad 73)), none, some (.int v2), some (.int (((v3 * (10 : Int32)) + r14) - (48 : Int32))), some (.int (v4 + (1 : Int32)))]) dX7_numberOf_67 rfl kc_1 (Nat.le_of_ble_eq_true rfl) rfl rfl ?_
        refine ll_goto E (pc := 70) (tgt := 31) dX7_numberOf_70 rfl ?_
        exact ll_lo (lo' := [some (.ref (ad 73)), none, some (.int v2), some (.int (((v3 * (10 : Int32)) + r14) - (48 : Int32))), some (.int (v4 + (1 : Int32)))]) ⟨rfl, rfl, rfl, rfl, trivial⟩ (ih v2 (((v3 * (10 : Int32)) + r14) - (48 : Int32)) (v4 + (1 : Int32)) μ13)
theorem kX7_numberOf_L29 {p : Program} {l : Launch} {e : Env} {s : State} {m : MethodId} {args : Array Value} {below : List Frame} {meth : Method} {c : Code} {D : va_G} {cI cR : ClassId} {ad : Nat → Nat} {A0 : Nat → Prop} (E : EV p s m args meth c cX7_numberOf 5 RX7 D cI cR ad shX NX A0) (hr : meth.sig.returnType = (some .int)) (v2 : Int32) (v3 : Int32) (s0 : Int32) (μ : Mem) : LL p l e (RM 1) s m args below meth c 5 D cI cR ad shX NX A0 (fun (r : Int32) μ' => KG below args s D cI cR ad shX NX A0 (some (.int r)) μ') (fX7_numberOf_L29 v2 v3 s0 μ) 0 0 29 [some (.ref (ad 73)), none, some (.int v2), some (.int v3), none] [.int s0] μ := by
  rw [fX7_numberOf_L29]
  refine ll_istore E (pc := 29) (lo' := [some (.ref (ad 73)), none, some (.int v2), some (.int v3), some (.int s0)]) dX7_numberOf_29 (Nat.le_of_ble_eq_true rfl) rfl rfl ?_
  exact ll_lo (lo' := [some (.ref (ad 73)), none, some (.int v2), some (.int v3), some (.int s0)]) ⟨rfl, rfl, rfl, rfl, trivial⟩ (kX7_numberOf_L31 E hr fu v2 v3 s0 μ)
theorem kX7_numberOf_L15 {p : Program} {l : Launch} {e : Env} {s : State} {m : MethodId} {args : Array Value} {below : List Frame} {meth : Method} {c : Code} {D : va_G} {cI cR : ClassId} {ad : Nat → Nat} {A0 : Nat → Prop} (E : EV p s m args meth c cX7_numberOf 5 RX7 D cI cR ad shX NX A0) (hr : meth.sig.returnType = (some .int)) (v1 : Int32) (s0 : Int32) (μ : Mem) : LL p l e (RM 1) s m args below meth c 5 D cI cR ad shX NX A0 (fun (r : Int32) μ' => KG below args s D cI cR ad shX NX A0 (some (.int r)) μ') (fX7_numberOf_L15 v1 s0 μ) 0 0 15 [some (.ref (ad 73)), some (.int v1), none, none, none] [.int s0] μ := by
  rw [fX7_numberOf_L15]
  refine ll_istore_n E (pc := 15) (lo' := [some (.ref (ad 73)), some (.int v1), some (.int s0), none, none]) dX7_numberOf_15 (Nat.le_of_ble_eq_true rfl) rfl rfl ?_
  refine ll_iconst E (pc := 16) dX7_numberOf_16 kc_0 ?_
  refine ll_istore_n E (pc := 17) (lo' := [some (.ref (ad 73)), some (.int v1), some (.int s0), some (.int (0 : Int32)), none]) dX7_numberOf_17 (Nat.le_of_ble_eq_true rfl) rfl rfl ?_
  refine ll_iload_n E (pc := 18) dX7_numberOf_18 rfl ?_
  refine ll_if_eq E (pc := 19) (tgt := 28) dX7_numberOf_19 rfl ?_ ?_
  · refine ll_iload_n E (pc := 28) dX7_numberOf_28 rfl ?_
    exact ll_lo (lo' := [some (.ref (ad 73)), none, some (.int s0), some (.int (0 : Int32)), none]) ⟨rfl, rfl, rfl, trivial⟩ (kX7_numberOf_L29 E hr s0 (0 : Int32) v1 μ)
  · refine ll_iload_n E (pc := 22) dX7_numberOf_22 rfl ?_
    refine ll_iconst E (pc := 23) dX7_numberOf_23 kc_1 ?_
    refine ll_iadd E (pc := 24) dX7_numberOf_24 ?_
    refine ll_goto E (pc := 25) (tgt := 29) dX7_numberOf_25 rfl ?_
    exact ll_lo (lo' := [some (.ref (ad 73)), none, some (.int s0), some (.int (0 : Int32)), none]) ⟨rfl, rfl, rfl, trivial⟩ (kX7_numberOf_L29 E hr s0 (0 : Int32) (v1 + (1 : Int32)) μ)
theorem ctX7_numberOf {l : Launch} {D : va_G} {cI cR : ClassId} {ad : Nat → Nat} {μ : Mem} {a1 : Int32} {r : Int32} {μ' : Mem} (hf : fX7_numberOf μ a1 = some (r, μ')) : CT l yX7_numberOf cX7_numberOf 5 (some .int) 1 D cI cR ad shX NX [.ref (ad 73), .int a1] μ (some (.int r)) μ' :=
  ct_of (own := RX7) (ov := fun r => some (.int r)) (by decide +kernel) rfl (Nat.le_of_ble_eq_true rfl) (fun p e s m below meth c A0 E hr => by
    refine ll_lo (lo' := [some (.ref (ad 73)), some (.int a1), none, none, none]) ⟨rfl, rfl, trivial⟩ ?_
    rw [fX7_numberOf]
    refine ll_aload_n E (pc := 0) dX7_numberOf_0 rfl ?_
    refine ll_iload_n E (pc := 1) dX7_numberOf_1 rfl ?_
    refine ll_callVi E (pc := 2) (d := 0) (ci := 7) (o9 := 73) [.int a1] [] dX7_numberOf_2 cv_X7_19 (fun h => ctX7_signAt h) (Nat.le_of_ble_eq_true rfl) sx_73 ci_7 rfl rfl (Nat.le_of_ble_eq_true rfl) ⟨(Nat.le_of_ble_eq_true rfl), (Nat.le_of_ble_eq_true rfl)⟩ ⟨(Nat.le_of_ble_eq_true rfl), (Nat.le_of_ble_eq_true rfl)⟩ ?_
    intro r16 μ15
    refine ll_bipush E (pc := 5) dX7_numberOf_5 kb_45 ?_
    refine ll_icmp_ne E (pc := 7) (tgt := 14) dX7_numberOf_7 rfl ?_ ?_
    · refine ll_iconst E (pc := 14) dX7_numberOf_14 kc_0 ?_
      exact ll_lo (lo' := [some (.ref (ad 73)), some (.int a1), none, none, none]) ⟨rfl, rfl, trivial⟩ (kX7_numberOf_L15 E hr a1 (0 : Int32) μ15)
    · refine ll_iconst E (pc := 10) dX7_numberOf_10 kc_1 ?_
      refine ll_goto E (pc := 11) (tgt := 15) dX7_numberOf_11 rfl ?_
      exact ll_lo (lo' := [some (.ref (ad 73)), some (.int a1), none, none, none]) ⟨rfl, rfl, trivial⟩ (kX7_numberOf_L15 E hr a1 (1 : Int32) μ15)) hf
theorem dX7_kindFor_0 : decode cX7_kindFor 0 = .ok (.iload_n 0, 1) := by decide +kernel
theorem dX7_kindFor_1 : decode cX7_kindFor 1 = .ok (.bipush 43, 2) := by decide +kernel
theorem dX7_kindFor_3 : decode cX7_kindFor 3 = .ok (.if_icmp .ne 5, 3) := by decide +kernel
theorem dX7_kindFor_6 : decode cX7_kindFor 6 = .ok (.iconst 1, 1) := by decide +kernel
theorem dX7_kindFor_7 : decode cX7_kindFor 7 = .ok (.ireturn, 1) := by decide +kernel
theorem dX7_kindFor_8 : decode cX7_kindFor 8 = .ok (.iload_n 0, 1) := by decide +kernel
theorem dX7_kindFor_9 : decode cX7_kindFor 9 = .ok (.bipush 45, 2) := by decide +kernel
theorem dX7_kindFor_11 : decode cX7_kindFor 11 = .ok (.if_icmp .ne 5, 3) := by decide +kernel
theorem dX7_kindFor_14 : decode cX7_kindFor 14 = .ok (.iconst 2, 1) := by decide +kernel
theorem dX7_kindFor_15 : decode cX7_kindFor 15 = .ok (.ireturn, 1) := by decide +kernel
theorem dX7_kindFor_16 : decode cX7_kindFor 16 = .ok (.iload_n 0, 1) := by decide +kernel
theorem dX7_kindFor_17 : decode cX7_kindFor 17 = .ok (.bipush 42, 2) := by decide +kernel
theorem dX7_kindFor_19 : decode cX7_kindFor 19 = .ok (.if_icmp .ne 7, 3) := by decide +kernel
theorem dX7_kindFor_22 : decode cX7_kindFor 22 = .ok (.iconst 3, 1) := by decide +kernel
theorem dX7_kindFor_23 : decode cX7_kindFor 23 = .ok (.goto 4, 3) := by decide +kernel
theorem dX7_kindFor_26 : decode cX7_kindFor 26 = .ok (.iconst 4, 1) := by decide +kernel
theorem dX7_kindFor_27 : decode cX7_kindFor 27 = .ok (.ireturn, 1) := by decide +kernel
def fX7_kindFor (μ : Mem) (a0 : Int32) : Option (Int32 × Mem) :=
  if a0 = (43 : Int32) then
  some ((1 : Int32), μ)
  else
  if a0 = (45 : Int32) then
  some ((2 : Int32), μ)
  else
  if a0 = (42 : Int32) then
  some ((3 : Int32), μ)
  else
  some ((4 : Int32), μ)
theorem ctX7_kindFor {l : Launch} {D : va_G} {cI cR : ClassId} {ad : Nat → Nat} {μ : Mem} {a0 : Int32} {r : Int32} {μ' : Mem} (hf : fX7_kindFor μ a0 = some (r, μ')) : CT l yX7_kindFor cX7_kindFor 1 (some .int) 0 D cI cR ad shX NX [.int a0] μ (some (.int r)) μ' :=
  ct_of (own := RX7) (ov := fun r => some (.int r)) (by decide +kernel) rfl (Nat.le_of_ble_eq_true rfl) (fun p e s m below meth c A0 E hr => by
    refine ll_lo (lo' := [some (.int a0)]) ⟨rfl, trivial⟩ ?_
    rw [fX7_kindFor]
    refine ll_iload_n E (pc := 0) dX7_kindFor_0 rfl ?_
    refine ll_bipush E (pc := 1) dX7_kindFor_1 kb_43 ?_
    refine ll_icmp_ne E (pc := 3) (tgt := 8) dX7_kindFor_3 rfl ?_ ?_
    · refine ll_iload_n E (pc := 8) dX7_kindFor_8 rfl ?_
      refine ll_bipush E (pc := 9) dX7_kindFor_9 kb_45 ?_
      refine ll_icmp_ne E (pc := 11) (tgt := 16) dX7_kindFor_11 rfl ?_ ?_
      · refine ll_iload_n E (pc := 16) dX7_kindFor_16 rfl ?_
        refine ll_bipush E (pc := 17) dX7_kindFor_17 kb_42 ?_
        refine ll_icmp_ne E (pc := 19) (tgt := 26) dX7_kindFor_19 rfl ?_ ?_
        · refine ll_iconst E (pc := 26) dX7_kindFor_26 kc_4 ?_
          exact ll_ireturn E (pc := 27) hr dX7_kindFor_27
        · refine ll_iconst E (pc := 22) dX7_kindFor_22 kc_3 ?_
          refine ll_goto E (pc := 23) (tgt := 27) dX7_kindFor_23 rfl ?_
          exact ll_ireturn E (pc := 27) hr dX7_kindFor_27
      · refine ll_iconst E (pc := 14) dX7_kindFor_14 kc_2 ?_
        exact ll_ireturn E (pc := 15) hr dX7_kindFor_15
    · refine ll_iconst E (pc := 6) dX7_kindFor_6 kc_1 ?_
      exact ll_ireturn E (pc := 7) hr dX7_kindFor_7) hf
theorem dX7_putStep_0 : decode cX7_putStep 0 = .ok (.aload_n 0, 1) := by decide +kernel
theorem dX7_putStep_1 : decode cX7_putStep 1 = .ok (.iload_n 2, 1) := by decide +kernel
theorem dX7_putStep_2 : decode cX7_putStep 2 = .ok (.invokevirtual 19, 3) := by decide +kernel
theorem dX7_putStep_5 : decode cX7_putStep 5 = .ok (.bipush 91, 2) := by decide +kernel
theorem dX7_putStep_7 : decode cX7_putStep 7 = .ok (.if_icmp .ne 36, 3) := by decide +kernel
theorem dX7_putStep_10 : decode cX7_putStep 10 = .ok (.aload_n 1, 1) := by decide +kernel
theorem dX7_putStep_11 : decode cX7_putStep 11 = .ok (.aload_n 1, 1) := by decide +kernel
theorem dX7_putStep_12 : decode cX7_putStep 12 = .ok (.getfield 53, 3) := by decide +kernel
theorem dX7_putStep_15 : decode cX7_putStep 15 = .ok (.bipush 6, 2) := by decide +kernel
theorem dX7_putStep_17 : decode cX7_putStep 17 = .ok (.iconst 0, 1) := by decide +kernel
theorem dX7_putStep_18 : decode cX7_putStep 18 = .ok (.aload_n 0, 1) := by decide +kernel
theorem dX7_putStep_19 : decode cX7_putStep 19 = .ok (.iload_n 2, 1) := by decide +kernel
theorem dX7_putStep_20 : decode cX7_putStep 20 = .ok (.iconst 1, 1) := by decide +kernel
theorem dX7_putStep_21 : decode cX7_putStep 21 = .ok (.iadd, 1) := by decide +kernel
theorem dX7_putStep_22 : decode cX7_putStep 22 = .ok (.invokevirtual 58, 3) := by decide +kernel
theorem dX7_putStep_25 : decode cX7_putStep 25 = .ok (.aload_n 0, 1) := by decide +kernel
theorem dX7_putStep_26 : decode cX7_putStep 26 = .ok (.iload_n 3, 1) := by decide +kernel
theorem dX7_putStep_27 : decode cX7_putStep 27 = .ok (.iconst 1, 1) := by decide +kernel
theorem dX7_putStep_28 : decode cX7_putStep 28 = .ok (.isub, 1) := by decide +kernel
theorem dX7_putStep_29 : decode cX7_putStep 29 = .ok (.invokevirtual 58, 3) := by decide +kernel
theorem dX7_putStep_32 : decode cX7_putStep 32 = .ok (.aload_n 0, 1) := by decide +kernel
theorem dX7_putStep_33 : decode cX7_putStep 33 = .ok (.iload_n 2, 1) := by decide +kernel
theorem dX7_putStep_34 : decode cX7_putStep 34 = .ok (.iconst 3, 1) := by decide +kernel
theorem dX7_putStep_35 : decode cX7_putStep 35 = .ok (.iadd, 1) := by decide +kernel
theorem dX7_putStep_36 : decode cX7_putStep 36 = .ok (.invokevirtual 61, 3) := by decide +kernel
theorem dX7_putStep_39 : decode cX7_putStep 39 = .ok (.invokevirtual 64, 3) := by decide +kernel
theorem dX7_putStep_42 : decode cX7_putStep 42 = .ok (.return_, 1) := by decide +kernel
theorem dX7_putStep_43 : decode cX7_putStep 43 = .ok (.aload_n 0, 1) := by decide +kernel
theorem dX7_putStep_44 : decode cX7_putStep 44 = .ok (.iload_n 2, 1) := by decide +kernel
theorem dX7_putStep_45 : decode cX7_putStep 45 = .ok (.invokevirtual 58, 3) := by decide +kernel
theorem dX7_putStep_48 : decode cX7_putStep 48 = .ok (.istore 4, 2) := by decide +kernel
theorem dX7_putStep_50 : decode cX7_putStep 50 = .ok (.aload_n 0, 1) := by decide +kernel
theorem dX7_putStep_51 : decode cX7_putStep 51 = .ok (.iload_n 2, 1) := by decide +kernel
theorem dX7_putStep_52 : decode cX7_putStep 52 = .ok (.iconst 2, 1) := by decide +kernel
theorem dX7_putStep_53 : decode cX7_putStep 53 = .ok (.iadd, 1) := by decide +kernel
theorem dX7_putStep_54 : decode cX7_putStep 54 = .ok (.invokevirtual 19, 3) := by decide +kernel
theorem dX7_putStep_57 : decode cX7_putStep 57 = .ok (.bipush 91, 2) := by decide +kernel
theorem dX7_putStep_59 : decode cX7_putStep 59 = .ok (.if_icmp .ne 32, 3) := by decide +kernel
theorem dX7_putStep_62 : decode cX7_putStep 62 = .ok (.aload_n 1, 1) := by decide +kernel
theorem dX7_putStep_63 : decode cX7_putStep 63 = .ok (.aload_n 1, 1) := by decide +kernel
theorem dX7_putStep_64 : decode cX7_putStep 64 = .ok (.getfield 53, 3) := by decide +kernel
theorem dX7_putStep_67 : decode cX7_putStep 67 = .ok (.iconst 5, 1) := by decide +kernel
theorem dX7_putStep_68 : decode cX7_putStep 68 = .ok (.iload 4, 2) := by decide +kernel
theorem dX7_putStep_70 : decode cX7_putStep 70 = .ok (.aload_n 0, 1) := by decide +kernel
theorem dX7_putStep_71 : decode cX7_putStep 71 = .ok (.iload_n 2, 1) := by decide +kernel
theorem dX7_putStep_72 : decode cX7_putStep 72 = .ok (.iconst 3, 1) := by decide +kernel
theorem dX7_putStep_73 : decode cX7_putStep 73 = .ok (.iadd, 1) := by decide +kernel
theorem dX7_putStep_74 : decode cX7_putStep 74 = .ok (.invokevirtual 58, 3) := by decide +kernel
theorem dX7_putStep_77 : decode cX7_putStep 77 = .ok (.iconst 0, 1) := by decide +kernel
theorem dX7_putStep_78 : decode cX7_putStep 78 = .ok (.aload_n 0, 1) := by decide +kernel
theorem dX7_putStep_79 : decode cX7_putStep 79 = .ok (.iload_n 2, 1) := by decide +kernel
theorem dX7_putStep_80 : decode cX7_putStep 80 = .ok (.iconst 5, 1) := by decide +kernel
theorem dX7_putStep_81 : decode cX7_putStep 81 = .ok (.iadd, 1) := by decide +kernel
theorem dX7_putStep_82 : decode cX7_putStep 82 = .ok (.invokevirtual 61, 3) := by decide +kernel
theorem dX7_putStep_85 : decode cX7_putStep 85 = .ok (.invokevirtual 64, 3) := by decide +kernel
theorem dX7_putStep_88 : decode cX7_putStep 88 = .ok (.goto 74, 3) := by decide +kernel
theorem dX7_putStep_91 : decode cX7_putStep 91 = .ok (.aload_n 0, 1) := by decide +kernel
theorem dX7_putStep_92 : decode cX7_putStep 92 = .ok (.iload_n 2, 1) := by decide +kernel
theorem dX7_putStep_93 : decode cX7_putStep 93 = .ok (.iconst 2, 1) := by decide +kernel
theorem dX7_putStep_94 : decode cX7_putStep 94 = .ok (.iadd, 1) := by decide +kernel
theorem dX7_putStep_95 : decode cX7_putStep 95 = .ok (.invokevirtual 19, 3) := by decide +kernel
theorem dX7_putStep_98 : decode cX7_putStep 98 = .ok (.invokestatic 27, 3) := by decide +kernel
theorem dX7_putStep_101 : decode cX7_putStep 101 = .ok (.ifCond .eq 41, 3) := by decide +kernel
theorem dX7_putStep_104 : decode cX7_putStep 104 = .ok (.aload_n 1, 1) := by decide +kernel
theorem dX7_putStep_105 : decode cX7_putStep 105 = .ok (.aload_n 1, 1) := by decide +kernel
theorem dX7_putStep_106 : decode cX7_putStep 106 = .ok (.getfield 53, 3) := by decide +kernel
theorem dX7_putStep_109 : decode cX7_putStep 109 = .ok (.aload_n 0, 1) := by decide +kernel
theorem dX7_putStep_110 : decode cX7_putStep 110 = .ok (.iload_n 2, 1) := by decide +kernel
theorem dX7_putStep_111 : decode cX7_putStep 111 = .ok (.iconst 3, 1) := by decide +kernel
theorem dX7_putStep_112 : decode cX7_putStep 112 = .ok (.iadd, 1) := by decide +kernel
theorem dX7_putStep_113 : decode cX7_putStep 113 = .ok (.invokevirtual 19, 3) := by decide +kernel
theorem dX7_putStep_116 : decode cX7_putStep 116 = .ok (.invokestatic 68, 3) := by decide +kernel
theorem dX7_putStep_119 : decode cX7_putStep 119 = .ok (.iload 4, 2) := by decide +kernel
theorem dX7_putStep_121 : decode cX7_putStep 121 = .ok (.aload_n 0, 1) := by decide +kernel
theorem dX7_putStep_122 : decode cX7_putStep 122 = .ok (.iload_n 2, 1) := by decide +kernel
theorem dX7_putStep_123 : decode cX7_putStep 123 = .ok (.iconst 2, 1) := by decide +kernel
theorem dX7_putStep_124 : decode cX7_putStep 124 = .ok (.iadd, 1) := by decide +kernel
theorem dX7_putStep_125 : decode cX7_putStep 125 = .ok (.invokevirtual 58, 3) := by decide +kernel
theorem dX7_putStep_128 : decode cX7_putStep 128 = .ok (.aload_n 0, 1) := by decide +kernel
theorem dX7_putStep_129 : decode cX7_putStep 129 = .ok (.iload_n 2, 1) := by decide +kernel
theorem dX7_putStep_130 : decode cX7_putStep 130 = .ok (.iconst 4, 1) := by decide +kernel
theorem dX7_putStep_131 : decode cX7_putStep 131 = .ok (.iadd, 1) := by decide +kernel
theorem dX7_putStep_132 : decode cX7_putStep 132 = .ok (.invokevirtual 58, 3) := by decide +kernel
theorem dX7_putStep_135 : decode cX7_putStep 135 = .ok (.iconst 0, 1) := by decide +kernel
theorem dX7_putStep_136 : decode cX7_putStep 136 = .ok (.invokevirtual 64, 3) := by decide +kernel
theorem dX7_putStep_139 : decode cX7_putStep 139 = .ok (.goto 23, 3) := by decide +kernel
theorem dX7_putStep_142 : decode cX7_putStep 142 = .ok (.aload_n 1, 1) := by decide +kernel
theorem dX7_putStep_143 : decode cX7_putStep 143 = .ok (.aload_n 1, 1) := by decide +kernel
theorem dX7_putStep_144 : decode cX7_putStep 144 = .ok (.getfield 53, 3) := by decide +kernel
theorem dX7_putStep_147 : decode cX7_putStep 147 = .ok (.iconst 0, 1) := by decide +kernel
theorem dX7_putStep_148 : decode cX7_putStep 148 = .ok (.iload 4, 2) := by decide +kernel
theorem dX7_putStep_150 : decode cX7_putStep 150 = .ok (.iconst 0, 1) := by decide +kernel
theorem dX7_putStep_151 : decode cX7_putStep 151 = .ok (.iconst 0, 1) := by decide +kernel
theorem dX7_putStep_152 : decode cX7_putStep 152 = .ok (.aload_n 0, 1) := by decide +kernel
theorem dX7_putStep_153 : decode cX7_putStep 153 = .ok (.iload_n 2, 1) := by decide +kernel
theorem dX7_putStep_154 : decode cX7_putStep 154 = .ok (.iconst 2, 1) := by decide +kernel
theorem dX7_putStep_155 : decode cX7_putStep 155 = .ok (.iadd, 1) := by decide +kernel
theorem dX7_putStep_156 : decode cX7_putStep 156 = .ok (.invokevirtual 61, 3) := by decide +kernel
theorem dX7_putStep_159 : decode cX7_putStep 159 = .ok (.invokevirtual 64, 3) := by decide +kernel
theorem dX7_putStep_162 : decode cX7_putStep 162 = .ok (.return_, 1) := by decide +kernel
def fX7_putStep (μ : Mem) (a2 : Int32) (a3 : Int32) : Option (Unit × Mem) :=
  bd (fX7_signAt μ a2) fun r40 μ39 =>
  if r40 = (91 : Int32) then
  bd (fX7_registerOf μ39 (a2 + (1 : Int32))) fun r70 μ69 =>
  bd (fX7_registerOf μ69 (a3 - (1 : Int32))) fun r72 μ71 =>
  bd (fX7_numberOf μ71 (a2 + (3 : Int32))) fun r74 μ73 =>
  bd (fX6_putIn μ73 (μ39 1 0) (6 : Int32) (0 : Int32) r70 r72 r74) fun _ μ75 =>
  some ((), μ75)
  else
  bd (fX7_registerOf μ39 a2) fun r42 μ41 =>
  bd (fX7_signAt μ41 (a2 + (2 : Int32))) fun r44 μ43 =>
  if r44 = (91 : Int32) then
  bd (fX7_registerOf μ43 (a2 + (3 : Int32))) fun r64 μ63 =>
  bd (fX7_numberOf μ63 (a2 + (5 : Int32))) fun r66 μ65 =>
  bd (fX6_putIn μ65 (μ43 1 0) (5 : Int32) r42 r64 (0 : Int32) r66) fun _ μ67 =>
  some ((), μ67)
  else
  bd (fX7_signAt μ43 (a2 + (2 : Int32))) fun r46 μ45 =>
  bd (fX7_isLetter μ45 r46) fun r48 μ47 =>
  if r48 = 0 then
  bd (fX7_numberOf μ47 (a2 + (2 : Int32))) fun r50 μ49 =>
  bd (fX6_putIn μ49 (μ47 1 0) (0 : Int32) r42 (0 : Int32) (0 : Int32) r50) fun _ μ51 =>
  some ((), μ51)
  else
  bd (fX7_signAt μ47 (a2 + (3 : Int32))) fun r54 μ53 =>
  bd (fX7_kindFor μ53 r54) fun r56 μ55 =>
  bd (fX7_registerOf μ55 (a2 + (2 : Int32))) fun r58 μ57 =>
  bd (fX7_registerOf μ57 (a2 + (4 : Int32))) fun r60 μ59 =>
  bd (fX6_putIn μ59 (μ47 1 0) r56 r42 r58 r60 (0 : Int32)) fun _ μ61 =>
  some ((), μ61)
theorem ctX7_putStep {l : Launch} {D : va_G} {cI cR : ClassId} {ad : Nat → Nat} {μ : Mem} {a2 : Int32} {a3 : Int32} {r : Unit} {μ' : Mem} (hf : fX7_putStep μ a2 a3 = some (r, μ')) : CT l yX7_putStep cX7_putStep 5 none 3 D cI cR ad shX NX [.ref (ad 73), .ref (ad 1), .int a2, .int a3] μ none μ' :=
  ct_of (own := RX7) (ov := fun _ => none) (by decide +kernel) rfl (Nat.le_of_ble_eq_true rfl) (fun p e s m below meth c A0 E hr => by
    refine ll_lo (lo' := [some (.ref (ad 73)), some (.ref (ad 1)), some (.int a2), some (.int a3), none]) ⟨rfl, rfl, rfl, rfl, trivial⟩ ?_
    rw [fX7_putStep]
    refine ll_aload_n E (pc := 0) dX7_putStep_0 rfl ?_
    refine ll_iload_n E (pc := 1) dX7_putStep_1 rfl ?_
    refine ll_callVi E (pc := 2) (d := 0) (ci := 7) (o9 := 73) [.int a2] [] dX7_putStep_2 cv_X7_19 (fun h => ctX7_signAt h) (Nat.le_of_ble_eq_true rfl) sx_73 ci_7 rfl rfl (Nat.le_of_ble_eq_true rfl) ⟨(Nat.le_of_ble_eq_true rfl), (Nat.le_of_ble_eq_true rfl)⟩ ⟨(Nat.le_of_ble_eq_true rfl), (Nat.le_of_ble_eq_true rfl)⟩ ?_
    intro r40 μ39
    refine ll_bipush E (pc := 5) dX7_putStep_5 kb_91 ?_
    refine ll_icmp_ne E (pc := 7) (tgt := 43) dX7_putStep_7 rfl ?_ ?_
    · refine ll_aload_n E (pc := 43) dX7_putStep_43 rfl ?_
      refine ll_iload_n E (pc := 44) dX7_putStep_44 rfl ?_
      refine ll_callVi E (pc := 45) (d := 1) (ci := 7) (o9 := 73) [.int a2] [] dX7_putStep_45 cv_X7_58 (fun h => ctX7_registerOf h) (Nat.le_of_ble_eq_true rfl) sx_73 ci_7 rfl rfl (Nat.le_of_ble_eq_true rfl) ⟨(Nat.le_of_ble_eq_true rfl), (Nat.le_of_ble_eq_true rfl)⟩ ⟨(Nat.le_of_ble_eq_true rfl), (Nat.le_of_ble_eq_true rfl)⟩ ?_
      intro r42 μ41
      refine ll_istore E (pc := 48) (lo' := [some (.ref (ad 73)), some (.ref (ad 1)), some (.int a2), some (.int a3), some (.int r42)]) dX7_putStep_48 (Nat.le_of_ble_eq_true rfl) rfl rfl ?_
      refine ll_aload_n E (pc := 50) dX7_putStep_50 rfl ?_
      refine ll_iload_n E (pc := 51) dX7_putStep_51 rfl ?_
      refine ll_iconst E (pc := 52) dX7_putStep_52 kc_2 ?_
      refine ll_iadd E (pc := 53) dX7_putStep_53 ?_
      refine ll_callVi E (pc := 54) (d := 0) (ci := 7) (o9 := 73) [.int (a2 + (2 : Int32))] [] dX7_putStep_54 cv_X7_19 (fun h => ctX7_signAt h) (Nat.le_of_ble_eq_true rfl) sx_73 ci_7 rfl rfl (Nat.le_of_ble_eq_true rfl) ⟨(Nat.le_of_ble_eq_true rfl), (Nat.le_of_ble_eq_true rfl)⟩ ⟨(Nat.le_of_ble_eq_true rfl), (Nat.le_of_ble_eq_true rfl)⟩ ?_
      intro r44 μ43
      refine ll_bipush E (pc := 57) dX7_putStep_57 kb_91 ?_
      refine ll_icmp_ne E (pc := 59) (tgt := 91) dX7_putStep_59 rfl ?_ ?_
      · refine ll_aload_n E (pc := 91) dX7_putStep_91 rfl ?_
        refine ll_iload_n E (pc := 92) dX7_putStep_92 rfl ?_
        refine ll_iconst E (pc := 93) dX7_putStep_93 kc_2 ?_
        refine ll_iadd E (pc := 94) dX7_putStep_94 ?_
        refine ll_callVi E (pc := 95) (d := 0) (ci := 7) (o9 := 73) [.int (a2 + (2 : Int32))] [] dX7_putStep_95 cv_X7_19 (fun h => ctX7_signAt h) (Nat.le_of_ble_eq_true rfl) sx_73 ci_7 rfl rfl (Nat.le_of_ble_eq_true rfl) ⟨(Nat.le_of_ble_eq_true rfl), (Nat.le_of_ble_eq_true rfl)⟩ ⟨(Nat.le_of_ble_eq_true rfl), (Nat.le_of_ble_eq_true rfl)⟩ ?_
        intro r46 μ45
        refine ll_callSi E (pc := 98) (d := 0) [.int r46] [] dX7_putStep_98 cv_X7_27 (fun h => ctX7_isLetter h) rfl rfl (Nat.le_of_ble_eq_true rfl) ⟨(Nat.le_of_ble_eq_true rfl), (Nat.le_of_ble_eq_true rfl)⟩ ⟨(Nat.le_of_ble_eq_true rfl), (Nat.le_of_ble_eq_true rfl)⟩ ?_
        intro r48 μ47
        refine ll_if_eq E (pc := 101) (tgt := 142) dX7_putStep_101 rfl ?_ ?_
        · refine ll_aload_n E (pc := 142) dX7_putStep_142 rfl ?_
          refine ll_aload_n E (pc := 143) dX7_putStep_143 rfl ?_
          refine ll_getf E (pc := 144) (o9 := 1) (ci := 6) (k9 := 0) dX7_putStep_144 fl_X7_53 (Nat.le_of_ble_eq_true rfl) fx_1_0 ?_
          refine ll_iconst E (pc := 147) dX7_putStep_147 kc_0 ?_
          refine ll_iload E (pc := 148) dX7_putStep_148 rfl ?_
          refine ll_iconst E (pc := 150) dX7_putStep_150 kc_0 ?_
          refine ll_iconst E (pc := 151) dX7_putStep_151 kc_0 ?_
          refine ll_aload_n E (pc := 152) dX7_putStep_152 rfl ?_
          refine ll_iload_n E (pc := 153) dX7_putStep_153 rfl ?_
          refine ll_iconst E (pc := 154) dX7_putStep_154 kc_2 ?_
          refine ll_iadd E (pc := 155) dX7_putStep_155 ?_
          refine ll_callVi E (pc := 156) (d := 1) (ci := 7) (o9 := 73) [.int (a2 + (2 : Int32))] [.int (0 : Int32), .int (0 : Int32), .int r42, .int (0 : Int32), .int (μ47 1 0), .ref (ad 1)] dX7_putStep_156 cv_X7_61 (fun h => ctX7_numberOf h) (Nat.le_of_ble_eq_true rfl) sx_73 ci_7 rfl rfl (Nat.le_of_ble_eq_true rfl) ⟨(Nat.le_of_ble_eq_true rfl), (Nat.le_of_ble_eq_true rfl)⟩ ⟨(Nat.le_of_ble_eq_true rfl), (Nat.le_of_ble_eq_true rfl)⟩ ?_
          intro r50 μ49
          refine ll_callVv E (pc := 159) (d := 2) (ci := 6) (o9 := 1) [.int (μ47 1 0), .int (0 : Int32), .int r42, .int (0 : Int32), .int (0 : Int32), .int r50] [] dX7_putStep_159 cv_X7_64 (fun h => ctX6_putIn h) (Nat.le_of_ble_eq_true rfl) sx_1 ci_6 rfl rfl (Nat.le_of_ble_eq_true rfl) ⟨(Nat.le_of_ble_eq_true rfl), (Nat.le_of_ble_eq_true rfl)⟩ ⟨(Nat.le_of_ble_eq_true rfl), (Nat.le_of_ble_eq_true rfl)⟩ ?_
          intro r52 μ51
          exact ll_return E (pc := 162) hr dX7_putStep_162
        · refine ll_aload_n E (pc := 104) dX7_putStep_104 rfl ?_
          refine ll_aload_n E (pc := 105) dX7_putStep_105 rfl ?_
          refine ll_getf E (pc := 106) (o9 := 1) (ci := 6) (k9 := 0) dX7_putStep_106 fl_X7_53 (Nat.le_of_ble_eq_true rfl) fx_1_0 ?_
          refine ll_aload_n E (pc := 109) dX7_putStep_109 rfl ?_
          refine ll_iload_n E (pc := 110) dX7_putStep_110 rfl ?_
          refine ll_iconst E (pc := 111) dX7_putStep_111 kc_3 ?_
          refine ll_iadd E (pc := 112) dX7_putStep_112 ?_
          refine ll_callVi E (pc := 113) (d := 0) (ci := 7) (o9 := 73) [.int (a2 + (3 : Int32))] [.int (μ47 1 0), .ref (ad 1)] dX7_putStep_113 cv_X7_19 (fun h => ctX7_signAt h) (Nat.le_of_ble_eq_true rfl) sx_73 ci_7 rfl rfl (Nat.le_of_ble_eq_true rfl) ⟨(Nat.le_of_ble_eq_true rfl), (Nat.le_of_ble_eq_true rfl)⟩ ⟨(Nat.le_of_ble_eq_true rfl), (Nat.le_of_ble_eq_true rfl)⟩ ?_
          intro r54 μ53
          refine ll_callSi E (pc := 116) (d := 0) [.int r54] [.int (μ47 1 0), .ref (ad 1)] dX7_putStep_116 cv_X7_68 (fun h => ctX7_kindFor h) rfl rfl (Nat.le_of_ble_eq_true rfl) ⟨(Nat.le_of_ble_eq_true rfl), (Nat.le_of_ble_eq_true rfl)⟩ ⟨(Nat.le_of_ble_eq_true rfl), (Nat.le_of_ble_eq_true rfl)⟩ ?_
          intro r56 μ55
          refine ll_iload E (pc := 119) dX7_putStep_119 rfl ?_
          refine ll_aload_n E (pc := 121) dX7_putStep_121 rfl ?_
          refine ll_iload_n E (pc := 122) dX7_putStep_122 rfl ?_
          refine ll_iconst E (pc := 123) dX7_putStep_123 kc_2 ?_
          refine ll_iadd E (pc := 124) dX7_putStep_124 ?_
          refine ll_callVi E (pc := 125) (d := 1) (ci := 7) (o9 := 73) [.int (a2 + (2 : Int32))] [.int r42, .int r56, .int (μ47 1 0), .ref (ad 1)] dX7_putStep_125 cv_X7_58 (fun h => ctX7_registerOf h) (Nat.le_of_ble_eq_true rfl) sx_73 ci_7 rfl rfl (Nat.le_of_ble_eq_true rfl) ⟨(Nat.le_of_ble_eq_true rfl), (Nat.le_of_ble_eq_true rfl)⟩ ⟨(Nat.le_of_ble_eq_true rfl), (Nat.le_of_ble_eq_true rfl)⟩ ?_
          intro r58 μ57
          refine ll_aload_n E (pc := 128) dX7_putStep_128 rfl ?_
          refine ll_iload_n E (pc := 129) dX7_putStep_129 rfl ?_
          refine ll_iconst E (pc := 130) dX7_putStep_130 kc_4 ?_
          refine ll_iadd E (pc := 131) dX7_putStep_131 ?_
          refine ll_callVi E (pc := 132) (d := 1) (ci := 7) (o9 := 73) [.int (a2 + (4 : Int32))] [.int r58, .int r42, .int r56, .int (μ47 1 0), .ref (ad 1)] dX7_putStep_132 cv_X7_58 (fun h => ctX7_registerOf h) (Nat.le_of_ble_eq_true rfl) sx_73 ci_7 rfl rfl (Nat.le_of_ble_eq_true rfl) ⟨(Nat.le_of_ble_eq_true rfl), (Nat.le_of_ble_eq_true rfl)⟩ ⟨(Nat.le_of_ble_eq_true rfl), (Nat.le_of_ble_eq_true rfl)⟩ ?_
          intro r60 μ59
          refine ll_iconst E (pc := 135) dX7_putStep_135 kc_0 ?_
          refine ll_callVv E (pc := 136) (d := 2) (ci := 6) (o9 := 1) [.int (μ47 1 0), .int r56, .int r42, .int r58, .int r60, .int (0 : Int32)] [] dX7_putStep_136 cv_X7_64 (fun h => ctX6_putIn h) (Nat.le_of_ble_eq_true rfl) sx_1 ci_6 rfl rfl (Nat.le_of_ble_eq_true rfl) ⟨(Nat.le_of_ble_eq_true rfl), (Nat.le_of_ble_eq_true rfl)⟩ ⟨(Nat.le_of_ble_eq_true rfl), (Nat.le_of_ble_eq_true rfl)⟩ ?_
          intro r62 μ61
          refine ll_goto E (pc := 139) (tgt := 162) dX7_putStep_139 rfl ?_
          exact ll_return E (pc := 162) hr dX7_putStep_162
      · refine ll_aload_n E (pc := 62) dX7_putStep_62 rfl ?_
        refine ll_aload_n E (pc := 63) dX7_putStep_63 rfl ?_
        refine ll_getf E (pc := 64) (o9 := 1) (ci := 6) (k9 := 0) dX7_putStep_64 fl_X7_53 (Nat.le_of_ble_eq_true rfl) fx_1_0 ?_
        refine ll_iconst E (pc := 67) dX7_putStep_67 kc_5 ?_
        refine ll_iload E (pc := 68) dX7_putStep_68 rfl ?_
        refine ll_aload_n E (pc := 70) dX7_putStep_70 rfl ?_
        refine ll_iload_n E (pc := 71) dX7_putStep_71 rfl ?_
        refine ll_iconst E (pc := 72) dX7_putStep_72 kc_3 ?_
        refine ll_iadd E (pc := 73) dX7_putStep_73 ?_
        refine ll_callVi E (pc := 74) (d := 1) (ci := 7) (o9 := 73) [.int (a2 + (3 : Int32))] [.int r42, .int (5 : Int32), .int (μ43 1 0), .ref (ad 1)] dX7_putStep_74 cv_X7_58 (fun h => ctX7_registerOf h) (Nat.le_of_ble_eq_true rfl) sx_73 ci_7 rfl rfl (Nat.le_of_ble_eq_true rfl) ⟨(Nat.le_of_ble_eq_true rfl), (Nat.le_of_ble_eq_true rfl)⟩ ⟨(Nat.le_of_ble_eq_true rfl), (Nat.le_of_ble_eq_true rfl)⟩ ?_
        intro r64 μ63
        refine ll_iconst E (pc := 77) dX7_putStep_77 kc_0 ?_
        refine ll_aload_n E (pc := 78) dX7_putStep_78 rfl ?_
        refine ll_iload_n E (pc := 79) dX7_putStep_79 rfl ?_
        refine ll_iconst E (pc := 80) dX7_putStep_80 kc_5 ?_
        refine ll_iadd E (pc := 81) dX7_putStep_81 ?_
        refine ll_callVi E (pc := 82) (d := 1) (ci := 7) (o9 := 73) [.int (a2 + (5 : Int32))] [.int (0 : Int32), .int r64, .int r42, .int (5 : Int32), .int (μ43 1 0), .ref (ad 1)] dX7_putStep_82 cv_X7_61 (fun h => ctX7_numberOf h) (Nat.le_of_ble_eq_true rfl) sx_73 ci_7 rfl rfl (Nat.le_of_ble_eq_true rfl) ⟨(Nat.le_of_ble_eq_true rfl), (Nat.le_of_ble_eq_true rfl)⟩ ⟨(Nat.le_of_ble_eq_true rfl), (Nat.le_of_ble_eq_true rfl)⟩ ?_
        intro r66 μ65
        refine ll_callVv E (pc := 85) (d := 2) (ci := 6) (o9 := 1) [.int (μ43 1 0), .int (5 : Int32), .int r42, .int r64, .int (0 : Int32), .int r66] [] dX7_putStep_85 cv_X7_64 (fun h => ctX6_putIn h) (Nat.le_of_ble_eq_true rfl) sx_1 ci_6 rfl rfl (Nat.le_of_ble_eq_true rfl) ⟨(Nat.le_of_ble_eq_true rfl), (Nat.le_of_ble_eq_true rfl)⟩ ⟨(Nat.le_of_ble_eq_true rfl), (Nat.le_of_ble_eq_true rfl)⟩ ?_
        intro r68 μ67
        refine ll_goto E (pc := 88) (tgt := 162) dX7_putStep_88 rfl ?_
        exact ll_return E (pc := 162) hr dX7_putStep_162
    · refine ll_aload_n E (pc := 10) dX7_putStep_10 rfl ?_
      refine ll_aload_n E (pc := 11) dX7_putStep_11 rfl ?_
      refine ll_getf E (pc := 12) (o9 := 1) (ci := 6) (k9 := 0) dX7_putStep_12 fl_X7_53 (Nat.le_of_ble_eq_true rfl) fx_1_0 ?_
      refine ll_bipush E (pc := 15) dX7_putStep_15 kb_6 ?_
      refine ll_iconst E (pc := 17) dX7_putStep_17 kc_0 ?_
      refine ll_aload_n E (pc := 18) dX7_putStep_18 rfl ?_
      refine ll_iload_n E (pc := 19) dX7_putStep_19 rfl ?_
      refine ll_iconst E (pc := 20) dX7_putStep_20 kc_1 ?_
      refine ll_iadd E (pc := 21) dX7_putStep_21 ?_
      refine ll_callVi E (pc := 22) (d := 1) (ci := 7) (o9 := 73) [.int (a2 + (1 : Int32))] [.int (0 : Int32), .int (6 : Int32), .int (μ39 1 0), .ref (ad 1)] dX7_putStep_22 cv_X7_58 (fun h => ctX7_registerOf h) (Nat.le_of_ble_eq_true rfl) sx_73 ci_7 rfl rfl (Nat.le_of_ble_eq_true rfl) ⟨(Nat.le_of_ble_eq_true rfl), (Nat.le_of_ble_eq_true rfl)⟩ ⟨(Nat.le_of_ble_eq_true rfl), (Nat.le_of_ble_eq_true rfl)⟩ ?_
      intro r70 μ69
      refine ll_aload_n E (pc := 25) dX7_putStep_25 rfl ?_
      refine ll_iload_n E (pc := 26) dX7_putStep_26 rfl ?_
      refine ll_iconst E (pc := 27) dX7_putStep_27 kc_1 ?_
      refine ll_isub E (pc := 28) dX7_putStep_28 ?_
      refine ll_callVi E (pc := 29) (d := 1) (ci := 7) (o9 := 73) [.int (a3 - (1 : Int32))] [.int r70, .int (0 : Int32), .int (6 : Int32), .int (μ39 1 0), .ref (ad 1)] dX7_putStep_29 cv_X7_58 (fun h => ctX7_registerOf h) (Nat.le_of_ble_eq_true rfl) sx_73 ci_7 rfl rfl (Nat.le_of_ble_eq_true rfl) ⟨(Nat.le_of_ble_eq_true rfl), (Nat.le_of_ble_eq_true rfl)⟩ ⟨(Nat.le_of_ble_eq_true rfl), (Nat.le_of_ble_eq_true rfl)⟩ ?_
      intro r72 μ71
      refine ll_aload_n E (pc := 32) dX7_putStep_32 rfl ?_
      refine ll_iload_n E (pc := 33) dX7_putStep_33 rfl ?_
      refine ll_iconst E (pc := 34) dX7_putStep_34 kc_3 ?_
      refine ll_iadd E (pc := 35) dX7_putStep_35 ?_
      refine ll_callVi E (pc := 36) (d := 1) (ci := 7) (o9 := 73) [.int (a2 + (3 : Int32))] [.int r72, .int r70, .int (0 : Int32), .int (6 : Int32), .int (μ39 1 0), .ref (ad 1)] dX7_putStep_36 cv_X7_61 (fun h => ctX7_numberOf h) (Nat.le_of_ble_eq_true rfl) sx_73 ci_7 rfl rfl (Nat.le_of_ble_eq_true rfl) ⟨(Nat.le_of_ble_eq_true rfl), (Nat.le_of_ble_eq_true rfl)⟩ ⟨(Nat.le_of_ble_eq_true rfl), (Nat.le_of_ble_eq_true rfl)⟩ ?_
      intro r74 μ73
      refine ll_callVv E (pc := 39) (d := 2) (ci := 6) (o9 := 1) [.int (μ39 1 0), .int (6 : Int32), .int (0 : Int32), .int r70, .int r72, .int r74] [] dX7_putStep_39 cv_X7_64 (fun h => ctX6_putIn h) (Nat.le_of_ble_eq_true rfl) sx_1 ci_6 rfl rfl (Nat.le_of_ble_eq_true rfl) ⟨(Nat.le_of_ble_eq_true rfl), (Nat.le_of_ble_eq_true rfl)⟩ ⟨(Nat.le_of_ble_eq_true rfl), (Nat.le_of_ble_eq_true rfl)⟩ ?_
      intro r76 μ75
      exact ll_return E (pc := 42) hr dX7_putStep_42) hf
theorem dX7_putInto_0 : decode cX7_putInto 0 = .ok (.iconst 0, 1) := by decide +kernel
theorem dX7_putInto_1 : decode cX7_putInto 1 = .ok (.istore_n 2, 1) := by decide +kernel
theorem dX7_putInto_2 : decode cX7_putInto 2 = .ok (.iconst 0, 1) := by decide +kernel
theorem dX7_putInto_3 : decode cX7_putInto 3 = .ok (.istore_n 3, 1) := by decide +kernel
theorem dX7_putInto_4 : decode cX7_putInto 4 = .ok (.iload_n 3, 1) := by decide +kernel
theorem dX7_putInto_5 : decode cX7_putInto 5 = .ok (.aload_n 0, 1) := by decide +kernel
theorem dX7_putInto_6 : decode cX7_putInto 6 = .ok (.getfield 15, 3) := by decide +kernel
theorem dX7_putInto_9 : decode cX7_putInto 9 = .ok (.if_icmp .gt 38, 3) := by decide +kernel
theorem dX7_putInto_12 : decode cX7_putInto 12 = .ok (.iload_n 3, 1) := by decide +kernel
theorem dX7_putInto_13 : decode cX7_putInto 13 = .ok (.aload_n 0, 1) := by decide +kernel
theorem dX7_putInto_14 : decode cX7_putInto 14 = .ok (.getfield 15, 3) := by decide +kernel
theorem dX7_putInto_17 : decode cX7_putInto 17 = .ok (.if_icmp .eq 13, 3) := by decide +kernel
theorem dX7_putInto_20 : decode cX7_putInto 20 = .ok (.aload_n 0, 1) := by decide +kernel
theorem dX7_putInto_21 : decode cX7_putInto 21 = .ok (.iload_n 3, 1) := by decide +kernel
theorem dX7_putInto_22 : decode cX7_putInto 22 = .ok (.invokevirtual 19, 3) := by decide +kernel
theorem dX7_putInto_25 : decode cX7_putInto 25 = .ok (.bipush 59, 2) := by decide +kernel
theorem dX7_putInto_27 : decode cX7_putInto 27 = .ok (.if_icmp .ne 14, 3) := by decide +kernel
theorem dX7_putInto_30 : decode cX7_putInto 30 = .ok (.aload_n 0, 1) := by decide +kernel
theorem dX7_putInto_31 : decode cX7_putInto 31 = .ok (.aload_n 1, 1) := by decide +kernel
theorem dX7_putInto_32 : decode cX7_putInto 32 = .ok (.iload_n 2, 1) := by decide +kernel
theorem dX7_putInto_33 : decode cX7_putInto 33 = .ok (.iload_n 3, 1) := by decide +kernel
theorem dX7_putInto_34 : decode cX7_putInto 34 = .ok (.invokevirtual 49, 3) := by decide +kernel
theorem dX7_putInto_37 : decode cX7_putInto 37 = .ok (.iload_n 3, 1) := by decide +kernel
theorem dX7_putInto_38 : decode cX7_putInto 38 = .ok (.iconst 1, 1) := by decide +kernel
theorem dX7_putInto_39 : decode cX7_putInto 39 = .ok (.iadd, 1) := by decide +kernel
theorem dX7_putInto_40 : decode cX7_putInto 40 = .ok (.istore_n 2, 1) := by decide +kernel
theorem dX7_putInto_41 : decode cX7_putInto 41 = .ok (.iinc 3 1, 3) := by decide +kernel
theorem dX7_putInto_44 : decode cX7_putInto 44 = .ok (.goto (-40), 3) := by decide +kernel
theorem dX7_putInto_47 : decode cX7_putInto 47 = .ok (.return_, 1) := by decide +kernel
def fX7_putInto_L41 (K4 : Int32 → Int32 → Mem → Option (Unit × Mem)) (v2 : Int32) (v3 : Int32) (μ : Mem) : Option (Unit × Mem) :=
  K4 v2 (v3 + (1 : Int32)) μ
def fX7_putInto_L30 (K4 : Int32 → Int32 → Mem → Option (Unit × Mem)) (v2 : Int32) (v3 : Int32) (μ : Mem) : Option (Unit × Mem) :=
  bd (fX7_putStep μ v2 v3) fun _ μ5 =>
  fX7_putInto_L41 K4 (v3 + (1 : Int32)) v3 μ5
def fX7_putInto_L4 : Nat → Int32 → Int32 → Mem → Option (Unit × Mem)
  | 0, _, _, _ => none
  | n + 1, v2, v3, μ =>   if (μ 73 1) < v3 then
  some ((), μ)
  else
  if v3 = (μ 73 1) then
  fX7_putInto_L30 (fX7_putInto_L4 n) v2 v3 μ
  else
  bd (fX7_signAt μ v3) fun r8 μ7 =>
  if r8 = (59 : Int32) then
  fX7_putInto_L30 (fX7_putInto_L4 n) v2 v3 μ7
  else
  fX7_putInto_L41 (fX7_putInto_L4 n) v2 v3 μ7
def fX7_putInto (μ : Mem) : Option (Unit × Mem) :=
  fX7_putInto_L4 fu (0 : Int32) (0 : Int32) μ
theorem kX7_putInto_L41 {p : Program} {l : Launch} {e : Env} {s : State} {m : MethodId} {args : Array Value} {below : List Frame} {meth : Method} {c : Code} {D : va_G} {cI cR : ClassId} {ad : Nat → Nat} {A0 : Nat → Prop} (E : EV p s m args meth c cX7_putInto 4 RX7 D cI cR ad shX NX A0) (hr : meth.sig.returnType = none) {K4 : Int32 → Int32 → Mem → Option (Unit × Mem)} (hK4 : ∀ (v2 : Int32) (v3 : Int32) (μ : Mem), LL p l e (RM 4) s m args below meth c 4 D cI cR ad shX NX A0 (fun (r : Unit) μ' => KG below args s D cI cR ad shX NX A0 none μ') (K4 v2 v3 μ) 0 0 4 [some (.ref (ad 73)), some (.ref (ad 1)), some (.int v2), some (.int v3)] [] μ) (v2 : Int32) (v3 : Int32) (μ : Mem) : LL p l e (RM 4) s m args below meth c 4 D cI cR ad shX NX A0 (fun (r : Unit) μ' => KG below args s D cI cR ad shX NX A0 none μ') (fX7_putInto_L41 K4 v2 v3 μ) 0 0 41 [some (.ref (ad 73)), some (.ref (ad 1)), some (.int v2), some (.int v3)] [] μ := by
  rw [fX7_putInto_L41]
  refine ll_iinc E (pc := 41) (lo' := [some (.ref (ad 73)), some (.ref (ad 1)), some (.int v2), some (.int (v3 + (1 : Int32)))]) dX7_putInto_41 rfl kc_1 (Nat.le_of_ble_eq_true rfl) rfl rfl ?_
  refine ll_goto E (pc := 44) (tgt := 4) dX7_putInto_44 rfl ?_
  exact ll_lo (lo' := [some (.ref (ad 73)), some (.ref (ad 1)), some (.int v2), some (.int (v3 + (1 : Int32)))]) ⟨rfl, rfl, rfl, rfl, trivial⟩ (hK4 v2 (v3 + (1 : Int32)) μ)
theorem kX7_putInto_L30 {p : Program} {l : Launch} {e : Env} {s : State} {m : MethodId} {args : Array Value} {below : List Frame} {meth : Method} {c : Code} {D : va_G} {cI cR : ClassId} {ad : Nat → Nat} {A0 : Nat → Prop} (E : EV p s m args meth c cX7_putInto 4 RX7 D cI cR ad shX NX A0) (hr : meth.sig.returnType = none) {K4 : Int32 → Int32 → Mem → Option (Unit × Mem)} (hK4 : ∀ (v2 : Int32) (v3 : Int32) (μ : Mem), LL p l e (RM 4) s m args below meth c 4 D cI cR ad shX NX A0 (fun (r : Unit) μ' => KG below args s D cI cR ad shX NX A0 none μ') (K4 v2 v3 μ) 0 0 4 [some (.ref (ad 73)), some (.ref (ad 1)), some (.int v2), some (.int v3)] [] μ) (v2 : Int32) (v3 : Int32) (μ : Mem) : LL p l e (RM 4) s m args below meth c 4 D cI cR ad shX NX A0 (fun (r : Unit) μ' => KG below args s D cI cR ad shX NX A0 none μ') (fX7_putInto_L30 K4 v2 v3 μ) 0 0 30 [some (.ref (ad 73)), some (.ref (ad 1)), some (.int v2), some (.int v3)] [] μ := by
  rw [fX7_putInto_L30]
  refine ll_aload_n E (pc := 30) dX7_putInto_30 rfl ?_
  refine ll_aload_n E (pc := 31) dX7_putInto_31 rfl ?_
  refine ll_iload_n E (pc := 32) dX7_putInto_32 rfl ?_
  refine ll_iload_n E (pc := 33) dX7_putInto_33 rfl ?_
  refine ll_callVv E (pc := 34) (d := 3) (ci := 7) (o9 := 73) [.ref (ad 1), .int v2, .int v3] [] dX7_putInto_34 cv_X7_49 (fun h => ctX7_putStep h) (Nat.le_of_ble_eq_true rfl) sx_73 ci_7 rfl rfl (Nat.le_of_ble_eq_true rfl) ⟨(Nat.le_of_ble_eq_true rfl), (Nat.le_of_ble_eq_true rfl)⟩ ⟨(Nat.le_of_ble_eq_true rfl), (Nat.le_of_ble_eq_true rfl)⟩ ?_
  intro r6 μ5
  refine ll_iload_n E (pc := 37) dX7_putInto_37 rfl ?_
  refine ll_iconst E (pc := 38) dX7_putInto_38 kc_1 ?_
  refine ll_iadd E (pc := 39) dX7_putInto_39 ?_
  refine ll_istore_n E (pc := 40) (lo' := [some (.ref (ad 73)), some (.ref (ad 1)), some (.int (v3 + (1 : Int32))), some (.int v3)]) dX7_putInto_40 (Nat.le_of_ble_eq_true rfl) rfl rfl ?_
  exact ll_lo (lo' := [some (.ref (ad 73)), some (.ref (ad 1)), some (.int (v3 + (1 : Int32))), some (.int v3)]) ⟨rfl, rfl, rfl, rfl, trivial⟩ (kX7_putInto_L41 E hr hK4 (v3 + (1 : Int32)) v3 μ5)
theorem kX7_putInto_L4 {p : Program} {l : Launch} {e : Env} {s : State} {m : MethodId} {args : Array Value} {below : List Frame} {meth : Method} {c : Code} {D : va_G} {cI cR : ClassId} {ad : Nat → Nat} {A0 : Nat → Prop} (E : EV p s m args meth c cX7_putInto 4 RX7 D cI cR ad shX NX A0) (hr : meth.sig.returnType = none) (n : Nat) : ∀ (v2 : Int32) (v3 : Int32) (μ : Mem), LL p l e (RM 4) s m args below meth c 4 D cI cR ad shX NX A0 (fun (r : Unit) μ' => KG below args s D cI cR ad shX NX A0 none μ') (fX7_putInto_L4 n v2 v3 μ) 0 0 4 [some (.ref (ad 73)), some (.ref (ad 1)), some (.int v2), some (.int v3)] [] μ := by
  induction n with
  | zero =>
    intros
    exact ll_none
  | succ n ih =>
    intro v2 v3 μ
    rw [fX7_putInto_L4]
    refine ll_iload_n E (pc := 4) dX7_putInto_4 rfl ?_
    refine ll_aload_n E (pc := 5) dX7_putInto_5 rfl ?_
    refine ll_getf E (pc := 6) (o9 := 73) (ci := 7) (k9 := 1) dX7_putInto_6 fl_X7_15 (Nat.le_of_ble_eq_true rfl) fx_73_1 ?_
    refine ll_icmp_gt E (pc := 9) (tgt := 47) dX7_putInto_9 rfl ?_ ?_
    · exact ll_return E (pc := 47) hr dX7_putInto_47
    · refine ll_iload_n E (pc := 12) dX7_putInto_12 rfl ?_
      refine ll_aload_n E (pc := 13) dX7_putInto_13 rfl ?_
      refine ll_getf E (pc := 14) (o9 := 73) (ci := 7) (k9 := 1) dX7_putInto_14 fl_X7_15 (Nat.le_of_ble_eq_true rfl) fx_73_1 ?_
      refine ll_icmp_eq E (pc := 17) (tgt := 30) dX7_putInto_17 rfl ?_ ?_
      · exact ll_lo (lo' := [some (.ref (ad 73)), some (.ref (ad 1)), some (.int v2), some (.int v3)]) ⟨rfl, rfl, rfl, rfl, trivial⟩ (kX7_putInto_L30 E hr ih v2 v3 μ)
      · refine ll_aload_n E (pc := 20) dX7_putInto_20 rfl ?_
        refine ll_iload_n E (pc := 21) dX7_putInto_21 rfl ?_
        refine ll_callVi E (pc := 22) (d := 0) (ci := 7) (o9 := 73) [.int v3] [] dX7_putInto_22 cv_X7_19 (fun h => ctX7_signAt h) (Nat.le_of_ble_eq_true rfl) sx_73 ci_7 rfl rfl (Nat.le_of_ble_eq_true rfl) ⟨(Nat.le_of_ble_eq_true rfl), (Nat.le_of_ble_eq_true rfl)⟩ ⟨(Nat.le_of_ble_eq_true rfl), (Nat.le_of_ble_eq_true rfl)⟩ ?_
        intro r8 μ7
        refine ll_bipush E (pc := 25) dX7_putInto_25 kb_59 ?_
        refine ll_icmp_ne E (pc := 27) (tgt := 41) dX7_putInto_27 rfl ?_ ?_
        · exact ll_lo (lo' := [some (.ref (ad 73)), some (.ref (ad 1)), some (.int v2), some (.int v3)]) ⟨rfl, rfl, rfl, rfl, trivial⟩ (kX7_putInto_L41 E hr ih v2 v3 μ7)
        · exact ll_lo (lo' := [some (.ref (ad 73)), some (.ref (ad 1)), some (.int v2), some (.int v3)]) ⟨rfl, rfl, rfl, rfl, trivial⟩ (kX7_putInto_L30 E hr ih v2 v3 μ7)
theorem ctX7_putInto {l : Launch} {D : va_G} {cI cR : ClassId} {ad : Nat → Nat} {μ : Mem} {r : Unit} {μ' : Mem} (hf : fX7_putInto μ = some (r, μ')) : CT l yX7_putInto cX7_putInto 4 none 4 D cI cR ad shX NX [.ref (ad 73), .ref (ad 1)] μ none μ' :=
  ct_of (own := RX7) (ov := fun _ => none) (by decide +kernel) rfl (Nat.le_of_ble_eq_true rfl) (fun p e s m below meth c A0 E hr => by
    refine ll_lo (lo' := [some (.ref (ad 73)), some (.ref (ad 1)), none, none]) ⟨rfl, rfl, trivial⟩ ?_
    rw [fX7_putInto]
    refine ll_iconst E (pc := 0) dX7_putInto_0 kc_0 ?_
    refine ll_istore_n E (pc := 1) (lo' := [some (.ref (ad 73)), some (.ref (ad 1)), some (.int (0 : Int32)), none]) dX7_putInto_1 (Nat.le_of_ble_eq_true rfl) rfl rfl ?_
    refine ll_iconst E (pc := 2) dX7_putInto_2 kc_0 ?_
    refine ll_istore_n E (pc := 3) (lo' := [some (.ref (ad 73)), some (.ref (ad 1)), some (.int (0 : Int32)), some (.int (0 : Int32))]) dX7_putInto_3 (Nat.le_of_ble_eq_true rfl) rfl rfl ?_
    exact ll_lo (lo' := [some (.ref (ad 73)), some (.ref (ad 1)), some (.int (0 : Int32)), some (.int (0 : Int32))]) ⟨rfl, rfl, rfl, rfl, trivial⟩ (kX7_putInto_L4 E hr fu (0 : Int32) (0 : Int32) μ)) hf
theorem dX7_hashOfSigns_0 : decode cX7_hashOfSigns 0 = .ok (.lload_n 1, 1) := by decide +kernel
theorem dX7_hashOfSigns_1 : decode cX7_hashOfSigns 1 = .ok (.aload_n 0, 1) := by decide +kernel
theorem dX7_hashOfSigns_2 : decode cX7_hashOfSigns 2 = .ok (.getfield 15, 3) := by decide +kernel
theorem dX7_hashOfSigns_5 : decode cX7_hashOfSigns 5 = .ok (.i2l, 1) := by decide +kernel
theorem dX7_hashOfSigns_6 : decode cX7_hashOfSigns 6 = .ok (.invokestatic 71, 3) := by decide +kernel
theorem dX7_hashOfSigns_9 : decode cX7_hashOfSigns 9 = .ok (.lstore_n 3, 1) := by decide +kernel
theorem dX7_hashOfSigns_10 : decode cX7_hashOfSigns 10 = .ok (.iconst 0, 1) := by decide +kernel
theorem dX7_hashOfSigns_11 : decode cX7_hashOfSigns 11 = .ok (.istore 5, 2) := by decide +kernel
theorem dX7_hashOfSigns_13 : decode cX7_hashOfSigns 13 = .ok (.iload 5, 2) := by decide +kernel
theorem dX7_hashOfSigns_15 : decode cX7_hashOfSigns 15 = .ok (.aload_n 0, 1) := by decide +kernel
theorem dX7_hashOfSigns_16 : decode cX7_hashOfSigns 16 = .ok (.getfield 15, 3) := by decide +kernel
theorem dX7_hashOfSigns_19 : decode cX7_hashOfSigns 19 = .ok (.if_icmp .ge 21, 3) := by decide +kernel
theorem dX7_hashOfSigns_22 : decode cX7_hashOfSigns 22 = .ok (.lload_n 3, 1) := by decide +kernel
theorem dX7_hashOfSigns_23 : decode cX7_hashOfSigns 23 = .ok (.aload_n 0, 1) := by decide +kernel
theorem dX7_hashOfSigns_24 : decode cX7_hashOfSigns 24 = .ok (.iload 5, 2) := by decide +kernel
theorem dX7_hashOfSigns_26 : decode cX7_hashOfSigns 26 = .ok (.invokevirtual 19, 3) := by decide +kernel
theorem dX7_hashOfSigns_29 : decode cX7_hashOfSigns 29 = .ok (.i2l, 1) := by decide +kernel
theorem dX7_hashOfSigns_30 : decode cX7_hashOfSigns 30 = .ok (.invokestatic 71, 3) := by decide +kernel
theorem dX7_hashOfSigns_33 : decode cX7_hashOfSigns 33 = .ok (.lstore_n 3, 1) := by decide +kernel
theorem dX7_hashOfSigns_34 : decode cX7_hashOfSigns 34 = .ok (.iinc 5 1, 3) := by decide +kernel
theorem dX7_hashOfSigns_37 : decode cX7_hashOfSigns 37 = .ok (.goto (-24), 3) := by decide +kernel
theorem dX7_hashOfSigns_40 : decode cX7_hashOfSigns 40 = .ok (.lload_n 3, 1) := by decide +kernel
theorem dX7_hashOfSigns_41 : decode cX7_hashOfSigns 41 = .ok (.lreturn, 1) := by decide +kernel
def fX7_hashOfSigns_L13 : Nat → Int64 → Int32 → Mem → Option (Int64 × Mem)
  | 0, _, _, _ => none
  | n + 1, v3, v5, μ =>   if (μ 73 1) ≤ v5 then
  some (v3, μ)
  else
  bd (fX7_signAt μ v5) fun r8 μ7 =>
  bd (fX8_mixed μ7 v3 (Int32.toInt64 r8)) fun r10 μ9 =>
  fX7_hashOfSigns_L13 n r10 (v5 + (1 : Int32)) μ9
def fX7_hashOfSigns (μ : Mem) (a1 : Int64) : Option (Int64 × Mem) :=
  bd (fX8_mixed μ a1 (Int32.toInt64 (μ 73 1))) fun r12 μ11 =>
  fX7_hashOfSigns_L13 fu r12 (0 : Int32) μ11
theorem kX7_hashOfSigns_L13 {p : Program} {l : Launch} {e : Env} {s : State} {m : MethodId} {args : Array Value} {below : List Frame} {meth : Method} {c : Code} {D : va_G} {cI cR : ClassId} {ad : Nat → Nat} {A0 : Nat → Prop} (E : EV p s m args meth c cX7_hashOfSigns 6 RX7 D cI cR ad shX NX A0) (hr : meth.sig.returnType = (some .long)) (n : Nat) : ∀ (v3 : Int64) (v5 : Int32) (μ : Mem), LL p l e (RM 1) s m args below meth c 6 D cI cR ad shX NX A0 (fun (r : Int64) μ' => KG below args s D cI cR ad shX NX A0 (some (.long r)) μ') (fX7_hashOfSigns_L13 n v3 v5 μ) 0 0 13 [some (.ref (ad 73)), none, none, some (.long v3), none, some (.int v5)] [] μ := by
  induction n with
  | zero =>
    intros
    exact ll_none
  | succ n ih =>
    intro v3 v5 μ
    rw [fX7_hashOfSigns_L13]
    refine ll_iload E (pc := 13) dX7_hashOfSigns_13 rfl ?_
    refine ll_aload_n E (pc := 15) dX7_hashOfSigns_15 rfl ?_
    refine ll_getf E (pc := 16) (o9 := 73) (ci := 7) (k9 := 1) dX7_hashOfSigns_16 fl_X7_15 (Nat.le_of_ble_eq_true rfl) fx_73_1 ?_
    refine ll_icmp_ge E (pc := 19) (tgt := 40) dX7_hashOfSigns_19 rfl ?_ ?_
    · refine ll_lload_n E (pc := 40) dX7_hashOfSigns_40 rfl ?_
      exact ll_lreturn E (pc := 41) hr dX7_hashOfSigns_41
    · refine ll_lload_n E (pc := 22) dX7_hashOfSigns_22 rfl ?_
      refine ll_aload_n E (pc := 23) dX7_hashOfSigns_23 rfl ?_
      refine ll_iload E (pc := 24) dX7_hashOfSigns_24 rfl ?_
      refine ll_callVi E (pc := 26) (d := 0) (ci := 7) (o9 := 73) [.int v5] [.long v3] dX7_hashOfSigns_26 cv_X7_19 (fun h => ctX7_signAt h) (Nat.le_of_ble_eq_true rfl) sx_73 ci_7 rfl rfl (Nat.le_of_ble_eq_true rfl) ⟨(Nat.le_of_ble_eq_true rfl), (Nat.le_of_ble_eq_true rfl)⟩ ⟨(Nat.le_of_ble_eq_true rfl), (Nat.le_of_ble_eq_true rfl)⟩ ?_
      intro r8 μ7
      refine ll_i2l E (pc := 29) dX7_hashOfSigns_29 ?_
      refine ll_callNj E (pc := 30) (d := 0) [.long v3, .long (Int32.toInt64 r8)] [] dX7_hashOfSigns_30 cv_X7_71 (fun h => ctX8_mixed h) rfl rfl (Nat.le_of_ble_eq_true rfl) ⟨(Nat.le_of_ble_eq_true rfl), (Nat.le_of_ble_eq_true rfl)⟩ ⟨(Nat.le_of_ble_eq_true rfl), (Nat.le_of_ble_eq_true rfl)⟩ ?_
      intro r10 μ9
      refine ll_lstore_n E (pc := 33) (lo' := [some (.ref (ad 73)), none, none, some (.long r10), none, some (.int v5)]) dX7_hashOfSigns_33 (Nat.le_of_ble_eq_true rfl) rfl rfl ?_
      refine ll_iinc E (pc := 34) (lo' := [some (.ref (ad 73)), none, none, some (.long r10), none, some (.int (v5 + (1 : Int32)))]) dX7_hashOfSigns_34 rfl kc_1 (Nat.le_of_ble_eq_true rfl) rfl rfl ?_
      refine ll_goto E (pc := 37) (tgt := 13) dX7_hashOfSigns_37 rfl ?_
      exact ll_lo (lo' := [some (.ref (ad 73)), none, none, some (.long r10), none, some (.int (v5 + (1 : Int32)))]) ⟨rfl, rfl, rfl, trivial⟩ (ih r10 (v5 + (1 : Int32)) μ9)
theorem ctX7_hashOfSigns {l : Launch} {D : va_G} {cI cR : ClassId} {ad : Nat → Nat} {μ : Mem} {a1 : Int64} {r : Int64} {μ' : Mem} (hf : fX7_hashOfSigns μ a1 = some (r, μ')) : CT l yX7_hashOfSigns cX7_hashOfSigns 6 (some .long) 1 D cI cR ad shX NX [.ref (ad 73), .long a1] μ (some (.long r)) μ' :=
  ct_of (own := RX7) (ov := fun r => some (.long r)) (by decide +kernel) rfl (Nat.le_of_ble_eq_true rfl) (fun p e s m below meth c A0 E hr => by
    refine ll_lo (lo' := [some (.ref (ad 73)), some (.long a1), none, none, none, none]) ⟨rfl, rfl, trivial⟩ ?_
    rw [fX7_hashOfSigns]
    refine ll_lload_n E (pc := 0) dX7_hashOfSigns_0 rfl ?_
    refine ll_aload_n E (pc := 1) dX7_hashOfSigns_1 rfl ?_
    refine ll_getf E (pc := 2) (o9 := 73) (ci := 7) (k9 := 1) dX7_hashOfSigns_2 fl_X7_15 (Nat.le_of_ble_eq_true rfl) fx_73_1 ?_
    refine ll_i2l E (pc := 5) dX7_hashOfSigns_5 ?_
    refine ll_callNj E (pc := 6) (d := 0) [.long a1, .long (Int32.toInt64 (μ 73 1))] [] dX7_hashOfSigns_6 cv_X7_71 (fun h => ctX8_mixed h) rfl rfl (Nat.le_of_ble_eq_true rfl) ⟨(Nat.le_of_ble_eq_true rfl), (Nat.le_of_ble_eq_true rfl)⟩ ⟨(Nat.le_of_ble_eq_true rfl), (Nat.le_of_ble_eq_true rfl)⟩ ?_
    intro r12 μ11
    refine ll_lstore_n E (pc := 9) (lo' := [some (.ref (ad 73)), some (.long a1), none, some (.long r12), none, none]) dX7_hashOfSigns_9 (Nat.le_of_ble_eq_true rfl) rfl rfl ?_
    refine ll_iconst E (pc := 10) dX7_hashOfSigns_10 kc_0 ?_
    refine ll_istore E (pc := 11) (lo' := [some (.ref (ad 73)), some (.long a1), none, some (.long r12), none, some (.int (0 : Int32))]) dX7_hashOfSigns_11 (Nat.le_of_ble_eq_true rfl) rfl rfl ?_
    exact ll_lo (lo' := [some (.ref (ad 73)), none, none, some (.long r12), none, some (.int (0 : Int32))]) ⟨rfl, rfl, rfl, trivial⟩ (kX7_hashOfSigns_L13 E hr fu r12 (0 : Int32) μ11)) hf
