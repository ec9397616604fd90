theorem dX6_copyFrom_0 : decode cX6_copyFrom 0 = .ok (.aload_n 0, 1) := by decide +kernel
theorem dX6_copyFrom_1 : decode cX6_copyFrom 1 = .ok (.aload_n 1, 1) := by decide +kernel
theorem dX6_copyFrom_2 : decode cX6_copyFrom 2 = .ok (.getfield 43, 3) := by decide +kernel
theorem dX6_copyFrom_5 : decode cX6_copyFrom 5 = .ok (.putfield 43, 3) := by decide +kernel
theorem dX6_copyFrom_8 : decode cX6_copyFrom 8 = .ok (.aload_n 1, 1) := by decide +kernel
theorem dX6_copyFrom_9 : decode cX6_copyFrom 9 = .ok (.getfield 9, 3) := by decide +kernel
theorem dX6_copyFrom_12 : decode cX6_copyFrom 12 = .ok (.iconst 0, 1) := by decide +kernel
theorem dX6_copyFrom_13 : decode cX6_copyFrom 13 = .ok (.aload_n 0, 1) := by decide +kernel
theorem dX6_copyFrom_14 : decode cX6_copyFrom 14 = .ok (.getfield 9, 3) := by decide +kernel
theorem dX6_copyFrom_17 : decode cX6_copyFrom 17 = .ok (.iconst 0, 1) := by decide +kernel
theorem dX6_copyFrom_18 : decode cX6_copyFrom 18 = .ok (.bipush 20, 2) := by decide +kernel
theorem dX6_copyFrom_20 : decode cX6_copyFrom 20 = .ok (.invokestatic 46, 3) := by decide +kernel
theorem dX6_copyFrom_23 : decode cX6_copyFrom 23 = .ok (.aload_n 1, 1) := by decide +kernel
theorem dX6_copyFrom_24 : decode cX6_copyFrom 24 = .ok (.getfield 15, 3) := by decide +kernel
theorem dX6_copyFrom_27 : decode cX6_copyFrom 27 = .ok (.iconst 0, 1) := by decide +kernel
theorem dX6_copyFrom_28 : decode cX6_copyFrom 28 = .ok (.aload_n 0, 1) := by decide +kernel
theorem dX6_copyFrom_29 : decode cX6_copyFrom 29 = .ok (.getfield 15, 3) := by decide +kernel
theorem dX6_copyFrom_32 : decode cX6_copyFrom 32 = .ok (.iconst 0, 1) := by decide +kernel
theorem dX6_copyFrom_33 : decode cX6_copyFrom 33 = .ok (.bipush 20, 2) := by decide +kernel
theorem dX6_copyFrom_35 : decode cX6_copyFrom 35 = .ok (.invokestatic 46, 3) := by decide +kernel
theorem dX6_copyFrom_38 : decode cX6_copyFrom 38 = .ok (.aload_n 1, 1) := by decide +kernel
theorem dX6_copyFrom_39 : decode cX6_copyFrom 39 = .ok (.getfield 18, 3) := by decide +kernel
theorem dX6_copyFrom_42 : decode cX6_copyFrom 42 = .ok (.iconst 0, 1) := by decide +kernel
theorem dX6_copyFrom_43 : decode cX6_copyFrom 43 = .ok (.aload_n 0, 1) := by decide +kernel
theorem dX6_copyFrom_44 : decode cX6_copyFrom 44 = .ok (.getfield 18, 3) := by decide +kernel
theorem dX6_copyFrom_47 : decode cX6_copyFrom 47 = .ok (.iconst 0, 1) := by decide +kernel
theorem dX6_copyFrom_48 : decode cX6_copyFrom 48 = .ok (.bipush 20, 2) := by decide +kernel
theorem dX6_copyFrom_50 : decode cX6_copyFrom 50 = .ok (.invokestatic 46, 3) := by decide +kernel
theorem dX6_copyFrom_53 : decode cX6_copyFrom 53 = .ok (.aload_n 1, 1) := by decide +kernel
theorem dX6_copyFrom_54 : decode cX6_copyFrom 54 = .ok (.getfield 21, 3) := by decide +kernel
theorem dX6_copyFrom_57 : decode cX6_copyFrom 57 = .ok (.iconst 0, 1) := by decide +kernel
theorem dX6_copyFrom_58 : decode cX6_copyFrom 58 = .ok (.aload_n 0, 1) := by decide +kernel
theorem dX6_copyFrom_59 : decode cX6_copyFrom 59 = .ok (.getfield 21, 3) := by decide +kernel
theorem dX6_copyFrom_62 : decode cX6_copyFrom 62 = .ok (.iconst 0, 1) := by decide +kernel
theorem dX6_copyFrom_63 : decode cX6_copyFrom 63 = .ok (.bipush 20, 2) := by decide +kernel
theorem dX6_copyFrom_65 : decode cX6_copyFrom 65 = .ok (.invokestatic 46, 3) := by decide +kernel
theorem dX6_copyFrom_68 : decode cX6_copyFrom 68 = .ok (.aload_n 1, 1) := by decide +kernel
theorem dX6_copyFrom_69 : decode cX6_copyFrom 69 = .ok (.getfield 24, 3) := by decide +kernel
theorem dX6_copyFrom_72 : decode cX6_copyFrom 72 = .ok (.iconst 0, 1) := by decide +kernel
theorem dX6_copyFrom_73 : decode cX6_copyFrom 73 = .ok (.aload_n 0, 1) := by decide +kernel
theorem dX6_copyFrom_74 : decode cX6_copyFrom 74 = .ok (.getfield 24, 3) := by decide +kernel
theorem dX6_copyFrom_77 : decode cX6_copyFrom 77 = .ok (.iconst 0, 1) := by decide +kernel
theorem dX6_copyFrom_78 : decode cX6_copyFrom 78 = .ok (.bipush 20, 2) := by decide +kernel
theorem dX6_copyFrom_80 : decode cX6_copyFrom 80 = .ok (.invokestatic 46, 3) := by decide +kernel
theorem dX6_copyFrom_83 : decode cX6_copyFrom 83 = .ok (.aload_n 1, 1) := by decide +kernel
theorem dX6_copyFrom_84 : decode cX6_copyFrom 84 = .ok (.getfield 27, 3) := by decide +kernel
theorem dX6_copyFrom_87 : decode cX6_copyFrom 87 = .ok (.iconst 0, 1) := by decide +kernel
theorem dX6_copyFrom_88 : decode cX6_copyFrom 88 = .ok (.aload_n 0, 1) := by decide +kernel
theorem dX6_copyFrom_89 : decode cX6_copyFrom 89 = .ok (.getfield 27, 3) := by decide +kernel
theorem dX6_copyFrom_92 : decode cX6_copyFrom 92 = .ok (.iconst 0, 1) := by decide +kernel
theorem dX6_copyFrom_93 : decode cX6_copyFrom 93 = .ok (.bipush 20, 2) := by decide +kernel
theorem dX6_copyFrom_95 : decode cX6_copyFrom 95 = .ok (.invokestatic 46, 3) := by decide +kernel
theorem dX6_copyFrom_98 : decode cX6_copyFrom 98 = .ok (.aload_n 1, 1) := by decide +kernel
theorem dX6_copyFrom_99 : decode cX6_copyFrom 99 = .ok (.getfield 30, 3) := by decide +kernel
theorem dX6_copyFrom_102 : decode cX6_copyFrom 102 = .ok (.iconst 0, 1) := by decide +kernel
theorem dX6_copyFrom_103 : decode cX6_copyFrom 103 = .ok (.aload_n 0, 1) := by decide +kernel
theorem dX6_copyFrom_104 : decode cX6_copyFrom 104 = .ok (.getfield 30, 3) := by decide +kernel
theorem dX6_copyFrom_107 : decode cX6_copyFrom 107 = .ok (.iconst 0, 1) := by decide +kernel
theorem dX6_copyFrom_108 : decode cX6_copyFrom 108 = .ok (.bipush 24, 2) := by decide +kernel
theorem dX6_copyFrom_110 : decode cX6_copyFrom 110 = .ok (.invokestatic 46, 3) := by decide +kernel
theorem dX6_copyFrom_113 : decode cX6_copyFrom 113 = .ok (.aload_n 1, 1) := by decide +kernel
theorem dX6_copyFrom_114 : decode cX6_copyFrom 114 = .ok (.getfield 33, 3) := by decide +kernel
theorem dX6_copyFrom_117 : decode cX6_copyFrom 117 = .ok (.iconst 0, 1) := by decide +kernel
theorem dX6_copyFrom_118 : decode cX6_copyFrom 118 = .ok (.aload_n 0, 1) := by decide +kernel
theorem dX6_copyFrom_119 : decode cX6_copyFrom 119 = .ok (.getfield 33, 3) := by decide +kernel
theorem dX6_copyFrom_122 : decode cX6_copyFrom 122 = .ok (.iconst 0, 1) := by decide +kernel
theorem dX6_copyFrom_123 : decode cX6_copyFrom 123 = .ok (.iconst 3, 1) := by decide +kernel
theorem dX6_copyFrom_124 : decode cX6_copyFrom 124 = .ok (.invokestatic 46, 3) := by decide +kernel
theorem dX6_copyFrom_127 : decode cX6_copyFrom 127 = .ok (.aload_n 1, 1) := by decide +kernel
theorem dX6_copyFrom_128 : decode cX6_copyFrom 128 = .ok (.getfield 36, 3) := by decide +kernel
theorem dX6_copyFrom_131 : decode cX6_copyFrom 131 = .ok (.iconst 0, 1) := by decide +kernel
theorem dX6_copyFrom_132 : decode cX6_copyFrom 132 = .ok (.aload_n 0, 1) := by decide +kernel
theorem dX6_copyFrom_133 : decode cX6_copyFrom 133 = .ok (.getfield 36, 3) := by decide +kernel
theorem dX6_copyFrom_136 : decode cX6_copyFrom 136 = .ok (.iconst 0, 1) := by decide +kernel
theorem dX6_copyFrom_137 : decode cX6_copyFrom 137 = .ok (.iconst 3, 1) := by decide +kernel
theorem dX6_copyFrom_138 : decode cX6_copyFrom 138 = .ok (.invokestatic 46, 3) := by decide +kernel
theorem dX6_copyFrom_141 : decode cX6_copyFrom 141 = .ok (.aload_n 0, 1) := by decide +kernel
theorem dX6_copyFrom_142 : decode cX6_copyFrom 142 = .ok (.aload_n 1, 1) := by decide +kernel
theorem dX6_copyFrom_143 : decode cX6_copyFrom 143 = .ok (.getfield 39, 3) := by decide +kernel
theorem dX6_copyFrom_146 : decode cX6_copyFrom 146 = .ok (.putfield 39, 3) := by decide +kernel
theorem dX6_copyFrom_149 : decode cX6_copyFrom 149 = .ok (.return_, 1) := by decide +kernel
def fX6_copyFrom (μ : Mem) (a0 : Nat) (a1 : Nat) : Option (Unit × Mem) :=
  (pt μ a0 0 (μ a1 0)).bind fun μ12 =>
  (acp 20 20 μ12 (a1 + 1) (0 : Int32) (a0 + 1) (0 : Int32) (20 : Int32)).bind fun μ13 =>
  (acp 20 20 μ13 (a1 + 2) (0 : Int32) (a0 + 2) (0 : Int32) (20 : Int32)).bind fun μ14 =>
  (acp 20 20 μ14 (a1 + 3) (0 : Int32) (a0 + 3) (0 : Int32) (20 : Int32)).bind fun μ15 =>
  (acp 20 20 μ15 (a1 + 4) (0 : Int32) (a0 + 4) (0 : Int32) (20 : Int32)).bind fun μ16 =>
  (acp 20 20 μ16 (a1 + 5) (0 : Int32) (a0 + 5) (0 : Int32) (20 : Int32)).bind fun μ17 =>
  (acp 20 20 μ17 (a1 + 6) (0 : Int32) (a0 + 6) (0 : Int32) (20 : Int32)).bind fun μ18 =>
  (acp 24 24 μ18 (a1 + 7) (0 : Int32) (a0 + 7) (0 : Int32) (24 : Int32)).bind fun μ19 =>
  (acp 3 3 μ19 (a1 + 8) (0 : Int32) (a0 + 8) (0 : Int32) (3 : Int32)).bind fun μ20 =>
  (acp 3 3 μ20 (a1 + 9) (0 : Int32) (a0 + 9) (0 : Int32) (3 : Int32)).bind fun μ21 =>
  (pt μ21 a0 10 (μ21 a1 10)).bind fun μ22 =>
  some ((), μ22)
theorem ctX6_copyFrom {l : Launch} {D : va_G} {cI cR : ClassId} {ad : Nat → Nat} {μ : Mem} {a0 : Nat} {a1 : Nat} (h0 : Pst a0) (h1 : Pst a1) {r : Unit} {μ' : Mem} (hf : fX6_copyFrom μ a0 a1 = some (r, μ')) : CT l yX6_copyFrom cX6_copyFrom 2 none 1 D cI cR ad shX NX [.ref (ad a0), .ref (ad a1)] μ none μ' :=
  ct_of (own := RX6) (ov := fun _ => none) (by decide +kernel) rfl (Nat.le_of_ble_eq_true rfl) (fun p e s m below meth c A0 E hr => by
    refine ll_lo (lo' := [some (.ref (ad a0)), some (.ref (ad a1))]) ⟨rfl, rfl, trivial⟩ ?_
    rw [fX6_copyFrom]
    refine ll_aload_n E (pc := 0) dX6_copyFrom_0 rfl ?_
    refine ll_aload_n E (pc := 1) dX6_copyFrom_1 rfl ?_
    refine ll_getf E (pc := 2) (o9 := a1) (ci := 6) (k9 := 0) dX6_copyFrom_2 fl_X6_43 (pst_lt h1) (pst_f0 h1) ?_
    refine ll_putf E (pc := 5) (o9 := a0) (ci := 6) (k9 := 0) dX6_copyFrom_5 fw_X6_43 (pst_lt h0) (pst_f0 h0) ?_
    intro μ12
    refine ll_aload_n E (pc := 8) dX6_copyFrom_8 rfl ?_
    refine ll_getfr E (pc := 9) (o9 := a1) (ci := 6) (k9 := 1) (q := (a1 + 1)) dX6_copyFrom_9 fl_X6_9 (pst_lt h1) (pst_f1 h1) ?_
    refine ll_iconst E (pc := 12) dX6_copyFrom_12 kc_0 ?_
    refine ll_aload_n E (pc := 13) dX6_copyFrom_13 rfl ?_
    refine ll_getfr E (pc := 14) (o9 := a0) (ci := 6) (k9 := 1) (q := (a0 + 1)) dX6_copyFrom_14 fl_X6_9 (pst_lt h0) (pst_f1 h0) ?_
    refine ll_iconst E (pc := 17) dX6_copyFrom_17 kc_0 ?_
    refine ll_bipush E (pc := 18) dX6_copyFrom_18 kb_20 ?_
    refine ll_acopy E (pc := 20) (a0 := (a1 + 1)) (a1 := (a0 + 1)) dX6_copyFrom_20 mw_X6_46 mw_ac1 mw_ac2 mw_sys ((pst_a1 h1)).1 ((pst_a1 h0)).1 ((pst_a1 h1)).2 ((pst_a1 h0)).2 (Nat.le_of_ble_eq_true rfl) ⟨(Nat.le_of_ble_eq_true rfl), (Nat.le_of_ble_eq_true rfl)⟩ ?_
    intro μ13
    refine ll_aload_n E (pc := 23) dX6_copyFrom_23 rfl ?_
    refine ll_getfr E (pc := 24) (o9 := a1) (ci := 6) (k9 := 2) (q := (a1 + 2)) dX6_copyFrom_24 fl_X6_15 (pst_lt h1) (pst_f2 h1) ?_
    refine ll_iconst E (pc := 27) dX6_copyFrom_27 kc_0 ?_
    refine ll_aload_n E (pc := 28) dX6_copyFrom_28 rfl ?_
    refine ll_getfr E (pc := 29) (o9 := a0) (ci := 6) (k9 := 2) (q := (a0 + 2)) dX6_copyFrom_29 fl_X6_15 (pst_lt h0) (pst_f2 h0) ?_
    refine ll_iconst E (pc := 32) dX6_copyFrom_32 kc_0 ?_
    refine ll_bipush E (pc := 33) dX6_copyFrom_33 kb_20 ?_
    refine ll_acopy E (pc := 35) (a0 := (a1 + 2)) (a1 := (a0 + 2)) dX6_copyFrom_35 mw_X6_46 mw_ac1 mw_ac2 mw_sys ((pst_a2 h1)).1 ((pst_a2 h0)).1 ((pst_a2 h1)).2 ((pst_a2 h0)).2 (Nat.le_of_ble_eq_true rfl) ⟨(Nat.le_of_ble_eq_true rfl), (Nat.le_of_ble_eq_true rfl)⟩ ?_
    intro μ14
    refine ll_aload_n E (pc := 38) dX6_copyFrom_38 rfl ?_
    refine ll_getfr E (pc := 39) (o9 := a1) (ci := 6) (k9 := 3) (q := (a1 + 3)) dX6_copyFrom_39 fl_X6_18 (pst_lt h1) (pst_f3 h1) ?_
    refine ll_iconst E (pc := 42) dX6_copyFrom_42 kc_0 ?_
    refine ll_aload_n E (pc := 43) dX6_copyFrom_43 rfl ?_
    refine ll_getfr E (pc := 44) (o9 := a0) (ci := 6) (k9 := 3) (q := (a0 + 3)) dX6_copyFrom_44 fl_X6_18 (pst_lt h0) (pst_f3 h0) ?_
    refine ll_iconst E (pc := 47) dX6_copyFrom_47 kc_0 ?_
    refine ll_bipush E (pc := 48) dX6_copyFrom_48 kb_20 ?_
    refine ll_acopy E (pc := 50) (a0 := (a1 + 3)) (a1 := (a0 + 3)) dX6_copyFrom_50 mw_X6_46 mw_ac1 mw_ac2 mw_sys ((pst_a3 h1)).1 ((pst_a3 h0)).1 ((pst_a3 h1)).2 ((pst_a3 h0)).2 (Nat.le_of_ble_eq_true rfl) ⟨(Nat.le_of_ble_eq_true rfl), (Nat.le_of_ble_eq_true rfl)⟩ ?_
    intro μ15
    refine ll_aload_n E (pc := 53) dX6_copyFrom_53 rfl ?_
    refine ll_getfr E (pc := 54) (o9 := a1) (ci := 6) (k9 := 4) (q := (a1 + 4)) dX6_copyFrom_54 fl_X6_21 (pst_lt h1) (pst_f4 h1) ?_
    refine ll_iconst E (pc := 57) dX6_copyFrom_57 kc_0 ?_
    refine ll_aload_n E (pc := 58) dX6_copyFrom_58 rfl ?_
    refine ll_getfr E (pc := 59) (o9 := a0) (ci := 6) (k9 := 4) (q := (a0 + 4)) dX6_copyFrom_59 fl_X6_21 (pst_lt h0) (pst_f4 h0) ?_
    refine ll_iconst E (pc := 62) dX6_copyFrom_62 kc_0 ?_
    refine ll_bipush E (pc := 63) dX6_copyFrom_63 kb_20 ?_
    refine ll_acopy E (pc := 65) (a0 := (a1 + 4)) (a1 := (a0 + 4)) dX6_copyFrom_65 mw_X6_46 mw_ac1 mw_ac2 mw_sys ((pst_a4 h1)).1 ((pst_a4 h0)).1 ((pst_a4 h1)).2 ((pst_a4 h0)).2 (Nat.le_of_ble_eq_true rfl) ⟨(Nat.le_of_ble_eq_true rfl), (Nat.le_of_ble_eq_true rfl)⟩ ?_
    intro μ16
    refine ll_aload_n E (pc := 68) dX6_copyFrom_68 rfl ?_
    refine ll_getfr E (pc := 69) (o9 := a1) (ci := 6) (k9 := 5) (q := (a1 + 5)) dX6_copyFrom_69 fl_X6_24 (pst_lt h1) (pst_f5 h1) ?_
    refine ll_iconst E (pc := 72) dX6_copyFrom_72 kc_0 ?_
    refine ll_aload_n E (pc := 73) dX6_copyFrom_73 rfl ?_
    refine ll_getfr E (pc := 74) (o9 := a0) (ci := 6) (k9 := 5) (q := (a0 + 5)) dX6_copyFrom_74 fl_X6_24 (pst_lt h0) (pst_f5 h0) ?_
    refine ll_iconst E (pc := 77) dX6_copyFrom_77 kc_0 ?_
    refine ll_bipush E (pc := 78) dX6_copyFrom_78 kb_20 ?_
    refine ll_acopy E (pc := 80) (a0 := (a1 + 5)) (a1 := (a0 + 5)) dX6_copyFrom_80 mw_X6_46 mw_ac1 mw_ac2 mw_sys ((pst_a5 h1)).1 ((pst_a5 h0)).1 ((pst_a5 h1)).2 ((pst_a5 h0)).2 (Nat.le_of_ble_eq_true rfl) ⟨(Nat.le_of_ble_eq_true rfl), (Nat.le_of_ble_eq_true rfl)⟩ ?_
    intro μ17
    refine ll_aload_n E (pc := 83) dX6_copyFrom_83 rfl ?_
    refine ll_getfr E (pc := 84) (o9 := a1) (ci := 6) (k9 := 6) (q := (a1 + 6)) dX6_copyFrom_84 fl_X6_27 (pst_lt h1) (pst_f6 h1) ?_
    refine ll_iconst E (pc := 87) dX6_copyFrom_87 kc_0 ?_
    refine ll_aload_n E (pc := 88) dX6_copyFrom_88 rfl ?_
    refine ll_getfr E (pc := 89) (o9 := a0) (ci := 6) (k9 := 6) (q := (a0 + 6)) dX6_copyFrom_89 fl_X6_27 (pst_lt h0) (pst_f6 h0) ?_
    refine ll_iconst E (pc := 92) dX6_copyFrom_92 kc_0 ?_
    refine ll_bipush E (pc := 93) dX6_copyFrom_93 kb_20 ?_
    refine ll_acopy E (pc := 95) (a0 := (a1 + 6)) (a1 := (a0 + 6)) dX6_copyFrom_95 mw_X6_46 mw_ac1 mw_ac2 mw_sys ((pst_a6 h1)).1 ((pst_a6 h0)).1 ((pst_a6 h1)).2 ((pst_a6 h0)).2 (Nat.le_of_ble_eq_true rfl) ⟨(Nat.le_of_ble_eq_true rfl), (Nat.le_of_ble_eq_true rfl)⟩ ?_
    intro μ18
    refine ll_aload_n E (pc := 98) dX6_copyFrom_98 rfl ?_
    refine ll_getfr E (pc := 99) (o9 := a1) (ci := 6) (k9 := 7) (q := (a1 + 7)) dX6_copyFrom_99 fl_X6_30 (pst_lt h1) (pst_f7 h1) ?_
    refine ll_iconst E (pc := 102) dX6_copyFrom_102 kc_0 ?_
    refine ll_aload_n E (pc := 103) dX6_copyFrom_103 rfl ?_
    refine ll_getfr E (pc := 104) (o9 := a0) (ci := 6) (k9 := 7) (q := (a0 + 7)) dX6_copyFrom_104 fl_X6_30 (pst_lt h0) (pst_f7 h0) ?_
    refine ll_iconst E (pc := 107) dX6_copyFrom_107 kc_0 ?_
    refine ll_bipush E (pc := 108) dX6_copyFrom_108 kb_24 ?_
    refine ll_acopy E (pc := 110) (a0 := (a1 + 7)) (a1 := (a0 + 7)) dX6_copyFrom_110 mw_X6_46 mw_ac1 mw_ac2 mw_sys ((pst_a7 h1)).1 ((pst_a7 h0)).1 ((pst_a7 h1)).2 ((pst_a7 h0)).2 (Nat.le_of_ble_eq_true rfl) ⟨(Nat.le_of_ble_eq_true rfl), (Nat.le_of_ble_eq_true rfl)⟩ ?_
    intro μ19
    refine ll_aload_n E (pc := 113) dX6_copyFrom_113 rfl ?_
    refine ll_getfr E (pc := 114) (o9 := a1) (ci := 6) (k9 := 8) (q := (a1 + 8)) dX6_copyFrom_114 fl_X6_33 (pst_lt h1) (pst_f8 h1) ?_
    refine ll_iconst E (pc := 117) dX6_copyFrom_117 kc_0 ?_
    refine ll_aload_n E (pc := 118) dX6_copyFrom_118 rfl ?_
    refine ll_getfr E (pc := 119) (o9 := a0) (ci := 6) (k9 := 8) (q := (a0 + 8)) dX6_copyFrom_119 fl_X6_33 (pst_lt h0) (pst_f8 h0) ?_
    refine ll_iconst E (pc := 122) dX6_copyFrom_122 kc_0 ?_
    refine ll_iconst E (pc := 123) dX6_copyFrom_123 kc_3 ?_
    refine ll_acopy E (pc := 124) (a0 := (a1 + 8)) (a1 := (a0 + 8)) dX6_copyFrom_124 mw_X6_46 mw_ac1 mw_ac2 mw_sys ((pst_a8 h1)).1 ((pst_a8 h0)).1 ((pst_a8 h1)).2 ((pst_a8 h0)).2 (Nat.le_of_ble_eq_true rfl) ⟨(Nat.le_of_ble_eq_true rfl), (Nat.le_of_ble_eq_true rfl)⟩ ?_
    intro μ20
    refine ll_aload_n E (pc := 127) dX6_copyFrom_127 rfl ?_
    refine ll_getfr E (pc := 128) (o9 := a1) (ci := 6) (k9 := 9) (q := (a1 + 9)) dX6_copyFrom_128 fl_X6_36 (pst_lt h1) (pst_f9 h1) ?_
    refine ll_iconst E (pc := 131) dX6_copyFrom_131 kc_0 ?_
    refine ll_aload_n E (pc := 132) dX6_copyFrom_132 rfl ?_
    refine ll_getfr E (pc := 133) (o9 := a0) (ci := 6) (k9 := 9) (q := (a0 + 9)) dX6_copyFrom_133 fl_X6_36 (pst_lt h0) (pst_f9 h0) ?_
    refine ll_iconst E (pc := 136) dX6_copyFrom_136 kc_0 ?_
    refine ll_iconst E (pc := 137) dX6_copyFrom_137 kc_3 ?_
    refine ll_acopy E (pc := 138) (a0 := (a1 + 9)) (a1 := (a0 + 9)) dX6_copyFrom_138 mw_X6_46 mw_ac1 mw_ac2 mw_sys ((pst_a9 h1)).1 ((pst_a9 h0)).1 ((pst_a9 h1)).2 ((pst_a9 h0)).2 (Nat.le_of_ble_eq_true rfl) ⟨(Nat.le_of_ble_eq_true rfl), (Nat.le_of_ble_eq_true rfl)⟩ ?_
    intro μ21
    refine ll_aload_n E (pc := 141) dX6_copyFrom_141 rfl ?_
    refine ll_aload_n E (pc := 142) dX6_copyFrom_142 rfl ?_
    refine ll_getf E (pc := 143) (o9 := a1) (ci := 6) (k9 := 10) dX6_copyFrom_143 fl_X6_39 (pst_lt h1) (pst_f10 h1) ?_
    refine ll_putf E (pc := 146) (o9 := a0) (ci := 6) (k9 := 10) dX6_copyFrom_146 fw_X6_39 (pst_lt h0) (pst_f10 h0) ?_
    intro μ22
    exact ll_return E (pc := 149) hr dX6_copyFrom_149) hf
theorem dX6_putInRow_0 : decode cX6_putInRow 0 = .ok (.aload_n 1, 1) := by decide +kernel
theorem dX6_putInRow_1 : decode cX6_putInRow 1 = .ok (.iload_n 2, 1) := by decide +kernel
theorem dX6_putInRow_2 : decode cX6_putInRow 2 = .ok (.aload_n 1, 1) := by decide +kernel
theorem dX6_putInRow_3 : decode cX6_putInRow 3 = .ok (.iload_n 2, 1) := by decide +kernel
theorem dX6_putInRow_4 : decode cX6_putInRow 4 = .ok (.iconst 1, 1) := by decide +kernel
theorem dX6_putInRow_5 : decode cX6_putInRow 5 = .ok (.iadd, 1) := by decide +kernel
theorem dX6_putInRow_6 : decode cX6_putInRow 6 = .ok (.aload_n 0, 1) := by decide +kernel
theorem dX6_putInRow_7 : decode cX6_putInRow 7 = .ok (.getfield 43, 3) := by decide +kernel
theorem dX6_putInRow_10 : decode cX6_putInRow 10 = .ok (.iload_n 2, 1) := by decide +kernel
theorem dX6_putInRow_11 : decode cX6_putInRow 11 = .ok (.isub, 1) := by decide +kernel
theorem dX6_putInRow_12 : decode cX6_putInRow 12 = .ok (.invokestatic 46, 3) := by decide +kernel
theorem dX6_putInRow_15 : decode cX6_putInRow 15 = .ok (.aload_n 1, 1) := by decide +kernel
theorem dX6_putInRow_16 : decode cX6_putInRow 16 = .ok (.iload_n 2, 1) := by decide +kernel
theorem dX6_putInRow_17 : decode cX6_putInRow 17 = .ok (.iload_n 3, 1) := by decide +kernel
theorem dX6_putInRow_18 : decode cX6_putInRow 18 = .ok (.iastore, 1) := by decide +kernel
theorem dX6_putInRow_19 : decode cX6_putInRow 19 = .ok (.return_, 1) := by decide +kernel
def fX6_putInRow (μ : Mem) (a1 : Nat) (a2 : Int32) (a3 : Int32) : Option (Unit × Mem) :=
  (acp 20 20 μ a1 a2 a1 (a2 + (1 : Int32)) ((μ 1 0) - a2)).bind fun μ3 =>
  (ast 20 μ3 a1 a2 a3).bind fun μ4 =>
  some ((), μ4)
theorem ctX6_putInRow {l : Launch} {D : va_G} {cI cR : ClassId} {ad : Nat → Nat} {μ : Mem} {a1 : Nat} {a2 : Int32} {a3 : Int32} (h1 : Pa shX NX 20 a1) {r : Unit} {μ' : Mem} (hf : fX6_putInRow μ a1 a2 a3 = some (r, μ')) : CT l yX6_putInRow cX6_putInRow 4 none 1 D cI cR ad shX NX [.ref (ad 1), .ref (ad a1), .int a2, .int a3] μ none μ' :=
  ct_of (own := RX6) (ov := fun _ => none) (by decide +kernel) rfl (Nat.le_of_ble_eq_true rfl) (fun p e s m below meth c A0 E hr => by
    refine ll_lo (lo' := [some (.ref (ad 1)), some (.ref (ad a1)), some (.int a2), some (.int a3)]) ⟨rfl, rfl, rfl, rfl, trivial⟩ ?_
    rw [fX6_putInRow]
    refine ll_aload_n E (pc := 0) dX6_putInRow_0 rfl ?_
    refine ll_iload_n E (pc := 1) dX6_putInRow_1 rfl ?_
    refine ll_aload_n E (pc := 2) dX6_putInRow_2 rfl ?_
    refine ll_iload_n E (pc := 3) dX6_putInRow_3 rfl ?_
    refine ll_iconst E (pc := 4) dX6_putInRow_4 kc_1 ?_
    refine ll_iadd E (pc := 5) dX6_putInRow_5 ?_
    refine ll_aload_n E (pc := 6) dX6_putInRow_6 rfl ?_
    refine ll_getf E (pc := 7) (o9 := 1) (ci := 6) (k9 := 0) dX6_putInRow_7 fl_X6_43 (Nat.le_of_ble_eq_true rfl) fx_1_0 ?_
    refine ll_iload_n E (pc := 10) dX6_putInRow_10 rfl ?_
    refine ll_isub E (pc := 11) dX6_putInRow_11 ?_
    refine ll_acopy E (pc := 12) (a0 := a1) (a1 := a1) dX6_putInRow_12 mw_X6_46 mw_ac1 mw_ac2 mw_sys (h1).1 (h1).1 (h1).2 (h1).2 (Nat.le_of_ble_eq_true rfl) ⟨(Nat.le_of_ble_eq_true rfl), (Nat.le_of_ble_eq_true rfl)⟩ ?_
    intro μ3
    refine ll_aload_n E (pc := 15) dX6_putInRow_15 rfl ?_
    refine ll_iload_n E (pc := 16) dX6_putInRow_16 rfl ?_
    refine ll_iload_n E (pc := 17) dX6_putInRow_17 rfl ?_
    refine ll_iast E (pc := 18) (a := a1) dX6_putInRow_18 (h1).1 (h1).2 ?_
    intro μ4
    exact ll_return E (pc := 19) hr dX6_putInRow_19) hf
theorem dX6_putIn_0 : decode cX6_putIn 0 = .ok (.iload_n 1, 1) := by decide +kernel
theorem dX6_putIn_1 : decode cX6_putIn 1 = .ok (.ifCond .lt 20, 3) := by decide +kernel
theorem dX6_putIn_4 : decode cX6_putIn 4 = .ok (.iload_n 1, 1) := by decide +kernel
theorem dX6_putIn_5 : decode cX6_putIn 5 = .ok (.aload_n 0, 1) := by decide +kernel
theorem dX6_putIn_6 : decode cX6_putIn 6 = .ok (.getfield 43, 3) := by decide +kernel
theorem dX6_putIn_9 : decode cX6_putIn 9 = .ok (.if_icmp .gt 12, 3) := by decide +kernel
theorem dX6_putIn_12 : decode cX6_putIn 12 = .ok (.aload_n 0, 1) := by decide +kernel
theorem dX6_putIn_13 : decode cX6_putIn 13 = .ok (.getfield 43, 3) := by decide +kernel
theorem dX6_putIn_16 : decode cX6_putIn 16 = .ok (.bipush 20, 2) := by decide +kernel
theorem dX6_putIn_18 : decode cX6_putIn 18 = .ok (.if_icmp .lt 4, 3) := by decide +kernel
theorem dX6_putIn_21 : decode cX6_putIn 21 = .ok (.return_, 1) := by decide +kernel
theorem dX6_putIn_22 : decode cX6_putIn 22 = .ok (.aload_n 0, 1) := by decide +kernel
theorem dX6_putIn_23 : decode cX6_putIn 23 = .ok (.aload_n 0, 1) := by decide +kernel
theorem dX6_putIn_24 : decode cX6_putIn 24 = .ok (.getfield 9, 3) := by decide +kernel
theorem dX6_putIn_27 : decode cX6_putIn 27 = .ok (.iload_n 1, 1) := by decide +kernel
theorem dX6_putIn_28 : decode cX6_putIn 28 = .ok (.iload_n 2, 1) := by decide +kernel
theorem dX6_putIn_29 : decode cX6_putIn 29 = .ok (.invokevirtual 52, 3) := by decide +kernel
theorem dX6_putIn_32 : decode cX6_putIn 32 = .ok (.aload_n 0, 1) := by decide +kernel
theorem dX6_putIn_33 : decode cX6_putIn 33 = .ok (.aload_n 0, 1) := by decide +kernel
theorem dX6_putIn_34 : decode cX6_putIn 34 = .ok (.getfield 15, 3) := by decide +kernel
theorem dX6_putIn_37 : decode cX6_putIn 37 = .ok (.iload_n 1, 1) := by decide +kernel
theorem dX6_putIn_38 : decode cX6_putIn 38 = .ok (.iload_n 3, 1) := by decide +kernel
theorem dX6_putIn_39 : decode cX6_putIn 39 = .ok (.invokevirtual 52, 3) := by decide +kernel
theorem dX6_putIn_42 : decode cX6_putIn 42 = .ok (.aload_n 0, 1) := by decide +kernel
theorem dX6_putIn_43 : decode cX6_putIn 43 = .ok (.aload_n 0, 1) := by decide +kernel
theorem dX6_putIn_44 : decode cX6_putIn 44 = .ok (.getfield 18, 3) := by decide +kernel
theorem dX6_putIn_47 : decode cX6_putIn 47 = .ok (.iload_n 1, 1) := by decide +kernel
theorem dX6_putIn_48 : decode cX6_putIn 48 = .ok (.iload 4, 2) := by decide +kernel
theorem dX6_putIn_50 : decode cX6_putIn 50 = .ok (.invokevirtual 52, 3) := by decide +kernel
theorem dX6_putIn_53 : decode cX6_putIn 53 = .ok (.aload_n 0, 1) := by decide +kernel
theorem dX6_putIn_54 : decode cX6_putIn 54 = .ok (.aload_n 0, 1) := by decide +kernel
theorem dX6_putIn_55 : decode cX6_putIn 55 = .ok (.getfield 21, 3) := by decide +kernel
theorem dX6_putIn_58 : decode cX6_putIn 58 = .ok (.iload_n 1, 1) := by decide +kernel
theorem dX6_putIn_59 : decode cX6_putIn 59 = .ok (.iload 5, 2) := by decide +kernel
theorem dX6_putIn_61 : decode cX6_putIn 61 = .ok (.invokevirtual 52, 3) := by decide +kernel
theorem dX6_putIn_64 : decode cX6_putIn 64 = .ok (.aload_n 0, 1) := by decide +kernel
theorem dX6_putIn_65 : decode cX6_putIn 65 = .ok (.aload_n 0, 1) := by decide +kernel
theorem dX6_putIn_66 : decode cX6_putIn 66 = .ok (.getfield 24, 3) := by decide +kernel
theorem dX6_putIn_69 : decode cX6_putIn 69 = .ok (.iload_n 1, 1) := by decide +kernel
theorem dX6_putIn_70 : decode cX6_putIn 70 = .ok (.iload 6, 2) := by decide +kernel
theorem dX6_putIn_72 : decode cX6_putIn 72 = .ok (.invokevirtual 52, 3) := by decide +kernel
theorem dX6_putIn_75 : decode cX6_putIn 75 = .ok (.aload_n 0, 1) := by decide +kernel
theorem dX6_putIn_76 : decode cX6_putIn 76 = .ok (.aload_n 0, 1) := by decide +kernel
theorem dX6_putIn_77 : decode cX6_putIn 77 = .ok (.getfield 27, 3) := by decide +kernel
theorem dX6_putIn_80 : decode cX6_putIn 80 = .ok (.iload_n 1, 1) := by decide +kernel
theorem dX6_putIn_81 : decode cX6_putIn 81 = .ok (.iconst (-1), 1) := by decide +kernel
theorem dX6_putIn_82 : decode cX6_putIn 82 = .ok (.invokevirtual 52, 3) := by decide +kernel
theorem dX6_putIn_85 : decode cX6_putIn 85 = .ok (.aload_n 0, 1) := by decide +kernel
theorem dX6_putIn_86 : decode cX6_putIn 86 = .ok (.dup, 1) := by decide +kernel
theorem dX6_putIn_87 : decode cX6_putIn 87 = .ok (.getfield 43, 3) := by decide +kernel
theorem dX6_putIn_90 : decode cX6_putIn 90 = .ok (.iconst 1, 1) := by decide +kernel
theorem dX6_putIn_91 : decode cX6_putIn 91 = .ok (.iadd, 1) := by decide +kernel
theorem dX6_putIn_92 : decode cX6_putIn 92 = .ok (.putfield 43, 3) := by decide +kernel
theorem dX6_putIn_95 : decode cX6_putIn 95 = .ok (.return_, 1) := by decide +kernel
def fX6_putIn (μ : Mem) (a1 : Int32) (a2 : Int32) (a3 : Int32) (a4 : Int32) (a5 : Int32) (a6 : Int32) : Option (Unit × Mem) :=
  if a1 < 0 then
  some ((), μ)
  else
  if (μ 1 0) < a1 then
  some ((), μ)
  else
  if (μ 1 0) < (20 : Int32) then
  bd (fX6_putInRow μ 2 a1 a2) fun _ μ14 =>
  bd (fX6_putInRow μ14 3 a1 a3) fun _ μ16 =>
  bd (fX6_putInRow μ16 4 a1 a4) fun _ μ18 =>
  bd (fX6_putInRow μ18 5 a1 a5) fun _ μ20 =>
  bd (fX6_putInRow μ20 6 a1 a6) fun _ μ22 =>
  bd (fX6_putInRow μ22 7 a1 (-1 : Int32)) fun _ μ24 =>
  (pt μ24 1 0 ((μ24 1 0) + (1 : Int32))).bind fun μ26 =>
  some ((), μ26)
  else
  some ((), μ)
theorem ctX6_putIn {l : Launch} {D : va_G} {cI cR : ClassId} {ad : Nat → Nat} {μ : Mem} {a1 : Int32} {a2 : Int32} {a3 : Int32} {a4 : Int32} {a5 : Int32} {a6 : Int32} {r : Unit} {μ' : Mem} (hf : fX6_putIn μ a1 a2 a3 a4 a5 a6 = some (r, μ')) : CT l yX6_putIn cX6_putIn 7 none 2 D cI cR ad shX NX [.ref (ad 1), .int a1, .int a2, .int a3, .int a4, .int a5, .int a6] μ none μ' :=
  ct_of (own := RX6) (ov := fun _ => none) (by decide +kernel) rfl (Nat.le_of_ble_eq_true rfl) (fun p e s m below meth c A0 E hr => by
    refine ll_lo (lo' := [some (.ref (ad 1)), some (.int a1), some (.int a2), some (.int a3), some (.int a4), some (.int a5), some (.int a6)]) ⟨rfl, rfl, rfl, rfl, rfl, rfl, rfl, trivial⟩ ?_
    rw [fX6_putIn]
    refine ll_iload_n E (pc := 0) dX6_putIn_0 rfl ?_
    refine ll_if_lt E (pc := 1) (tgt := 21) dX6_putIn_1 rfl ?_ ?_
    · exact ll_return E (pc := 21) hr dX6_putIn_21
    · refine ll_iload_n E (pc := 4) dX6_putIn_4 rfl ?_
      refine ll_aload_n E (pc := 5) dX6_putIn_5 rfl ?_
      refine ll_getf E (pc := 6) (o9 := 1) (ci := 6) (k9 := 0) dX6_putIn_6 fl_X6_43 (Nat.le_of_ble_eq_true rfl) fx_1_0 ?_
      refine ll_icmp_gt E (pc := 9) (tgt := 21) dX6_putIn_9 rfl ?_ ?_
      · exact ll_return E (pc := 21) hr dX6_putIn_21
      · refine ll_aload_n E (pc := 12) dX6_putIn_12 rfl ?_
        refine ll_getf E (pc := 13) (o9 := 1) (ci := 6) (k9 := 0) dX6_putIn_13 fl_X6_43 (Nat.le_of_ble_eq_true rfl) fx_1_0 ?_
        refine ll_bipush E (pc := 16) dX6_putIn_16 kb_20 ?_
        refine ll_icmp_lt E (pc := 18) (tgt := 22) dX6_putIn_18 rfl ?_ ?_
        · refine ll_aload_n E (pc := 22) dX6_putIn_22 rfl ?_
          refine ll_aload_n E (pc := 23) dX6_putIn_23 rfl ?_
          refine ll_getfr E (pc := 24) (o9 := 1) (ci := 6) (k9 := 1) (q := 2) dX6_putIn_24 fl_X6_9 (Nat.le_of_ble_eq_true rfl) fx_1_1 ?_
          refine ll_iload_n E (pc := 27) dX6_putIn_27 rfl ?_
          refine ll_iload_n E (pc := 28) dX6_putIn_28 rfl ?_
          refine ll_callVv E (pc := 29) (d := 1) (ci := 6) (o9 := 1) [.ref (ad 2), .int a1, .int a2] [] dX6_putIn_29 cv_X6_52 (fun h => ctX6_putInRow px_2 h) (Nat.le_of_ble_eq_true rfl) sx_1 ci_6 rfl rfl (Nat.le_of_ble_eq_true rfl) ⟨(Nat.le_of_ble_eq_true rfl), (Nat.le_of_ble_eq_true rfl)⟩ ⟨(Nat.le_of_ble_eq_true rfl), (Nat.le_of_ble_eq_true rfl)⟩ ?_
          intro r15 μ14
          refine ll_aload_n E (pc := 32) dX6_putIn_32 rfl ?_
          refine ll_aload_n E (pc := 33) dX6_putIn_33 rfl ?_
          refine ll_getfr E (pc := 34) (o9 := 1) (ci := 6) (k9 := 2) (q := 3) dX6_putIn_34 fl_X6_15 (Nat.le_of_ble_eq_true rfl) fx_1_2 ?_
          refine ll_iload_n E (pc := 37) dX6_putIn_37 rfl ?_
          refine ll_iload_n E (pc := 38) dX6_putIn_38 rfl ?_
          refine ll_callVv E (pc := 39) (d := 1) (ci := 6) (o9 := 1) [.ref (ad 3), .int a1, .int a3] [] dX6_putIn_39 cv_X6_52 (fun h => ctX6_putInRow px_3 h) (Nat.le_of_ble_eq_true rfl) sx_1 ci_6 rfl rfl (Nat.le_of_ble_eq_true rfl) ⟨(Nat.le_of_ble_eq_true rfl), (Nat.le_of_ble_eq_true rfl)⟩ ⟨(Nat.le_of_ble_eq_true rfl), (Nat.le_of_ble_eq_true rfl)⟩ ?_
          intro r17 μ16
          refine ll_aload_n E (pc := 42) dX6_putIn_42 rfl ?_
          refine ll_aload_n E (pc := 43) dX6_putIn_43 rfl ?_
          refine ll_getfr E (pc := 44) (o9 := 1) (ci := 6) (k9 := 3) (q := 4) dX6_putIn_44 fl_X6_18 (Nat.le_of_ble_eq_true rfl) fx_1_3 ?_
          refine ll_iload_n E (pc := 47) dX6_putIn_47 rfl ?_
          refine ll_iload E (pc := 48) dX6_putIn_48 rfl ?_
          refine ll_callVv E (pc := 50) (d := 1) (ci := 6) (o9 := 1) [.ref (ad 4), .int a1, .int a4] [] dX6_putIn_50 cv_X6_52 (fun h => ctX6_putInRow px_4 h) (Nat.le_of_ble_eq_true rfl) sx_1 ci_6 rfl rfl (Nat.le_of_ble_eq_true rfl) ⟨(Nat.le_of_ble_eq_true rfl), (Nat.le_of_ble_eq_true rfl)⟩ ⟨(Nat.le_of_ble_eq_true rfl), (Nat.le_of_ble_eq_true rfl)⟩ ?_
          intro r19 μ18
          refine ll_aload_n E (pc := 53) dX6_putIn_53 rfl ?_
          refine ll_aload_n E (pc := 54) dX6_putIn_54 rfl ?_
          refine ll_getfr E (pc := 55) (o9 := 1) (ci := 6) (k9 := 4) (q := 5) dX6_putIn_55 fl_X6_21 (Nat.le_of_ble_eq_true rfl) fx_1_4 ?_
          refine ll_iload_n E (pc := 58) dX6_putIn_58 rfl ?_
          refine ll_iload E (pc := 59) dX6_putIn_59 rfl ?_
          refine ll_callVv E (pc := 61) (d := 1) (ci := 6) (o9 := 1) [.ref (ad 5), .int a1, .int a5] [] dX6_putIn_61 cv_X6_52 (fun h => ctX6_putInRow px_5 h) (Nat.le_of_ble_eq_true rfl) sx_1 ci_6 rfl rfl (Nat.le_of_ble_eq_true rfl) ⟨(Nat.le_of_ble_eq_true rfl), (Nat.le_of_ble_eq_true rfl)⟩ ⟨(Nat.le_of_ble_eq_true rfl), (Nat.le_of_ble_eq_true rfl)⟩ ?_
          intro r21 μ20
          refine ll_aload_n E (pc := 64) dX6_putIn_64 rfl ?_
          refine ll_aload_n E (pc := 65) dX6_putIn_65 rfl ?_
          refine ll_getfr E (pc := 66) (o9 := 1) (ci := 6) (k9 := 5) (q := 6) dX6_putIn_66 fl_X6_24 (Nat.le_of_ble_eq_true rfl) fx_1_5 ?_
          refine ll_iload_n E (pc := 69) dX6_putIn_69 rfl ?_
          refine ll_iload E (pc := 70) dX6_putIn_70 rfl ?_
          refine ll_callVv E (pc := 72) (d := 1) (ci := 6) (o9 := 1) [.ref (ad 6), .int a1, .int a6] [] dX6_putIn_72 cv_X6_52 (fun h => ctX6_putInRow px_6 h) (Nat.le_of_ble_eq_true rfl) sx_1 ci_6 rfl rfl (Nat.le_of_ble_eq_true rfl) ⟨(Nat.le_of_ble_eq_true rfl), (Nat.le_of_ble_eq_true rfl)⟩ ⟨(Nat.le_of_ble_eq_true rfl), (Nat.le_of_ble_eq_true rfl)⟩ ?_
          intro r23 μ22
          refine ll_aload_n E (pc := 75) dX6_putIn_75 rfl ?_
          refine ll_aload_n E (pc := 76) dX6_putIn_76 rfl ?_
          refine ll_getfr E (pc := 77) (o9 := 1) (ci := 6) (k9 := 6) (q := 7) dX6_putIn_77 fl_X6_27 (Nat.le_of_ble_eq_true rfl) fx_1_6 ?_
          refine ll_iload_n E (pc := 80) dX6_putIn_80 rfl ?_
          refine ll_iconst E (pc := 81) dX6_putIn_81 kc_m1 ?_
          refine ll_callVv E (pc := 82) (d := 1) (ci := 6) (o9 := 1) [.ref (ad 7), .int a1, .int (-1 : Int32)] [] dX6_putIn_82 cv_X6_52 (fun h => ctX6_putInRow px_7 h) (Nat.le_of_ble_eq_true rfl) sx_1 ci_6 rfl rfl (Nat.le_of_ble_eq_true rfl) ⟨(Nat.le_of_ble_eq_true rfl), (Nat.le_of_ble_eq_true rfl)⟩ ⟨(Nat.le_of_ble_eq_true rfl), (Nat.le_of_ble_eq_true rfl)⟩ ?_
          intro r25 μ24
          refine ll_aload_n E (pc := 85) dX6_putIn_85 rfl ?_
          refine ll_dup E (pc := 86) dX6_putIn_86 rfl ?_
          refine ll_getf E (pc := 87) (o9 := 1) (ci := 6) (k9 := 0) dX6_putIn_87 fl_X6_43 (Nat.le_of_ble_eq_true rfl) fx_1_0 ?_
          refine ll_iconst E (pc := 90) dX6_putIn_90 kc_1 ?_
          refine ll_iadd E (pc := 91) dX6_putIn_91 ?_
          refine ll_putf E (pc := 92) (o9 := 1) (ci := 6) (k9 := 0) dX6_putIn_92 fw_X6_43 (Nat.le_of_ble_eq_true rfl) fx_1_0 ?_
          intro μ26
          exact ll_return E (pc := 95) hr dX6_putIn_95
        · exact ll_return E (pc := 21) hr dX6_putIn_21) hf
theorem dX6_takeFromRow_0 : decode cX6_takeFromRow 0 = .ok (.aload_n 1, 1) := by decide +kernel
theorem dX6_takeFromRow_1 : decode cX6_takeFromRow 1 = .ok (.iload_n 2, 1) := by decide +kernel
theorem dX6_takeFromRow_2 : decode cX6_takeFromRow 2 = .ok (.iconst 1, 1) := by decide +kernel
theorem dX6_takeFromRow_3 : decode cX6_takeFromRow 3 = .ok (.iadd, 1) := by decide +kernel
theorem dX6_takeFromRow_4 : decode cX6_takeFromRow 4 = .ok (.aload_n 1, 1) := by decide +kernel
theorem dX6_takeFromRow_5 : decode cX6_takeFromRow 5 = .ok (.iload_n 2, 1) := by decide +kernel
theorem dX6_takeFromRow_6 : decode cX6_takeFromRow 6 = .ok (.aload_n 0, 1) := by decide +kernel
theorem dX6_takeFromRow_7 : decode cX6_takeFromRow 7 = .ok (.getfield 43, 3) := by decide +kernel
theorem dX6_takeFromRow_10 : decode cX6_takeFromRow 10 = .ok (.iconst 1, 1) := by decide +kernel
theorem dX6_takeFromRow_11 : decode cX6_takeFromRow 11 = .ok (.isub, 1) := by decide +kernel
theorem dX6_takeFromRow_12 : decode cX6_takeFromRow 12 = .ok (.iload_n 2, 1) := by decide +kernel
theorem dX6_takeFromRow_13 : decode cX6_takeFromRow 13 = .ok (.isub, 1) := by decide +kernel
theorem dX6_takeFromRow_14 : decode cX6_takeFromRow 14 = .ok (.invokestatic 46, 3) := by decide +kernel
theorem dX6_takeFromRow_17 : decode cX6_takeFromRow 17 = .ok (.return_, 1) := by decide +kernel
def fX6_takeFromRow (μ : Mem) (a1 : Nat) (a2 : Int32) : Option (Unit × Mem) :=
  (acp 20 20 μ a1 (a2 + (1 : Int32)) a1 a2 (((μ 1 0) - (1 : Int32)) - a2)).bind fun μ2 =>
  some ((), μ2)
theorem ctX6_takeFromRow {l : Launch} {D : va_G} {cI cR : ClassId} {ad : Nat → Nat} {μ : Mem} {a1 : Nat} {a2 : Int32} (h1 : Pa shX NX 20 a1) {r : Unit} {μ' : Mem} (hf : fX6_takeFromRow μ a1 a2 = some (r, μ')) : CT l yX6_takeFromRow cX6_takeFromRow 3 none 1 D cI cR ad shX NX [.ref (ad 1), .ref (ad a1), .int a2] μ none μ' :=
  ct_of (own := RX6) (ov := fun _ => none) (by decide +kernel) rfl (Nat.le_of_ble_eq_true rfl) (fun p e s m below meth c A0 E hr => by
    refine ll_lo (lo' := [some (.ref (ad 1)), some (.ref (ad a1)), some (.int a2)]) ⟨rfl, rfl, rfl, trivial⟩ ?_
    rw [fX6_takeFromRow]
    refine ll_aload_n E (pc := 0) dX6_takeFromRow_0 rfl ?_
    refine ll_iload_n E (pc := 1) dX6_takeFromRow_1 rfl ?_
    refine ll_iconst E (pc := 2) dX6_takeFromRow_2 kc_1 ?_
    refine ll_iadd E (pc := 3) dX6_takeFromRow_3 ?_
    refine ll_aload_n E (pc := 4) dX6_takeFromRow_4 rfl ?_
    refine ll_iload_n E (pc := 5) dX6_takeFromRow_5 rfl ?_
    refine ll_aload_n E (pc := 6) dX6_takeFromRow_6 rfl ?_
    refine ll_getf E (pc := 7) (o9 := 1) (ci := 6) (k9 := 0) dX6_takeFromRow_7 fl_X6_43 (Nat.le_of_ble_eq_true rfl) fx_1_0 ?_
    refine ll_iconst E (pc := 10) dX6_takeFromRow_10 kc_1 ?_
    refine ll_isub E (pc := 11) dX6_takeFromRow_11 ?_
    refine ll_iload_n E (pc := 12) dX6_takeFromRow_12 rfl ?_
    refine ll_isub E (pc := 13) dX6_takeFromRow_13 ?_
    refine ll_acopy E (pc := 14) (a0 := a1) (a1 := a1) dX6_takeFromRow_14 mw_X6_46 mw_ac1 mw_ac2 mw_sys (h1).1 (h1).1 (h1).2 (h1).2 (Nat.le_of_ble_eq_true rfl) ⟨(Nat.le_of_ble_eq_true rfl), (Nat.le_of_ble_eq_true rfl)⟩ ?_
    intro μ2
    exact ll_return E (pc := 17) hr dX6_takeFromRow_17) hf
theorem dX6_takeAway_0 : decode cX6_takeAway 0 = .ok (.iload_n 1, 1) := by decide +kernel
theorem dX6_takeAway_1 : decode cX6_takeAway 1 = .ok (.ifCond .lt 11, 3) := by decide +kernel
theorem dX6_takeAway_4 : decode cX6_takeAway 4 = .ok (.iload_n 1, 1) := by decide +kernel
theorem dX6_takeAway_5 : decode cX6_takeAway 5 = .ok (.aload_n 0, 1) := by decide +kernel
theorem dX6_takeAway_6 : decode cX6_takeAway 6 = .ok (.getfield 43, 3) := by decide +kernel
theorem dX6_takeAway_9 : decode cX6_takeAway 9 = .ok (.if_icmp .lt 4, 3) := by decide +kernel
theorem dX6_takeAway_12 : decode cX6_takeAway 12 = .ok (.return_, 1) := by decide +kernel
theorem dX6_takeAway_13 : decode cX6_takeAway 13 = .ok (.aload_n 0, 1) := by decide +kernel
theorem dX6_takeAway_14 : decode cX6_takeAway 14 = .ok (.aload_n 0, 1) := by decide +kernel
theorem dX6_takeAway_15 : decode cX6_takeAway 15 = .ok (.getfield 9, 3) := by decide +kernel
theorem dX6_takeAway_18 : decode cX6_takeAway 18 = .ok (.iload_n 1, 1) := by decide +kernel
theorem dX6_takeAway_19 : decode cX6_takeAway 19 = .ok (.invokevirtual 56, 3) := by decide +kernel
theorem dX6_takeAway_22 : decode cX6_takeAway 22 = .ok (.aload_n 0, 1) := by decide +kernel
theorem dX6_takeAway_23 : decode cX6_takeAway 23 = .ok (.aload_n 0, 1) := by decide +kernel
theorem dX6_takeAway_24 : decode cX6_takeAway 24 = .ok (.getfield 15, 3) := by decide +kernel
theorem dX6_takeAway_27 : decode cX6_takeAway 27 = .ok (.iload_n 1, 1) := by decide +kernel
theorem dX6_takeAway_28 : decode cX6_takeAway 28 = .ok (.invokevirtual 56, 3) := by decide +kernel
theorem dX6_takeAway_31 : decode cX6_takeAway 31 = .ok (.aload_n 0, 1) := by decide +kernel
theorem dX6_takeAway_32 : decode cX6_takeAway 32 = .ok (.aload_n 0, 1) := by decide +kernel
theorem dX6_takeAway_33 : decode cX6_takeAway 33 = .ok (.getfield 18, 3) := by decide +kernel
theorem dX6_takeAway_36 : decode cX6_takeAway 36 = .ok (.iload_n 1, 1) := by decide +kernel
theorem dX6_takeAway_37 : decode cX6_takeAway 37 = .ok (.invokevirtual 56, 3) := by decide +kernel
theorem dX6_takeAway_40 : decode cX6_takeAway 40 = .ok (.aload_n 0, 1) := by decide +kernel
theorem dX6_takeAway_41 : decode cX6_takeAway 41 = .ok (.aload_n 0, 1) := by decide +kernel
theorem dX6_takeAway_42 : decode cX6_takeAway 42 = .ok (.getfield 21, 3) := by decide +kernel
theorem dX6_takeAway_45 : decode cX6_takeAway 45 = .ok (.iload_n 1, 1) := by decide +kernel
theorem dX6_takeAway_46 : decode cX6_takeAway 46 = .ok (.invokevirtual 56, 3) := by decide +kernel
theorem dX6_takeAway_49 : decode cX6_takeAway 49 = .ok (.aload_n 0, 1) := by decide +kernel
theorem dX6_takeAway_50 : decode cX6_takeAway 50 = .ok (.aload_n 0, 1) := by decide +kernel
theorem dX6_takeAway_51 : decode cX6_takeAway 51 = .ok (.getfield 24, 3) := by decide +kernel
theorem dX6_takeAway_54 : decode cX6_takeAway 54 = .ok (.iload_n 1, 1) := by decide +kernel
theorem dX6_takeAway_55 : decode cX6_takeAway 55 = .ok (.invokevirtual 56, 3) := by decide +kernel
theorem dX6_takeAway_58 : decode cX6_takeAway 58 = .ok (.aload_n 0, 1) := by decide +kernel
theorem dX6_takeAway_59 : decode cX6_takeAway 59 = .ok (.aload_n 0, 1) := by decide +kernel
theorem dX6_takeAway_60 : decode cX6_takeAway 60 = .ok (.getfield 27, 3) := by decide +kernel
theorem dX6_takeAway_63 : decode cX6_takeAway 63 = .ok (.iload_n 1, 1) := by decide +kernel
theorem dX6_takeAway_64 : decode cX6_takeAway 64 = .ok (.invokevirtual 56, 3) := by decide +kernel
theorem dX6_takeAway_67 : decode cX6_takeAway 67 = .ok (.aload_n 0, 1) := by decide +kernel
theorem dX6_takeAway_68 : decode cX6_takeAway 68 = .ok (.dup, 1) := by decide +kernel
theorem dX6_takeAway_69 : decode cX6_takeAway 69 = .ok (.getfield 43, 3) := by decide +kernel
theorem dX6_takeAway_72 : decode cX6_takeAway 72 = .ok (.iconst 1, 1) := by decide +kernel
theorem dX6_takeAway_73 : decode cX6_takeAway 73 = .ok (.isub, 1) := by decide +kernel
theorem dX6_takeAway_74 : decode cX6_takeAway 74 = .ok (.putfield 43, 3) := by decide +kernel
theorem dX6_takeAway_77 : decode cX6_takeAway 77 = .ok (.return_, 1) := by decide +kernel
def fX6_takeAway (μ : Mem) (a1 : Int32) : Option (Unit × Mem) :=
  if a1 < 0 then
  some ((), μ)
  else
  if a1 < (μ 1 0) then
  bd (fX6_takeFromRow μ 2 a1) fun _ μ14 =>
  bd (fX6_takeFromRow μ14 3 a1) fun _ μ16 =>
  bd (fX6_takeFromRow μ16 4 a1) fun _ μ18 =>
  bd (fX6_takeFromRow μ18 5 a1) fun _ μ20 =>
  bd (fX6_takeFromRow μ20 6 a1) fun _ μ22 =>
  bd (fX6_takeFromRow μ22 7 a1) fun _ μ24 =>
  (pt μ24 1 0 ((μ24 1 0) - (1 : Int32))).bind fun μ26 =>
  some ((), μ26)
  else
  some ((), μ)
theorem ctX6_takeAway {l : Launch} {D : va_G} {cI cR : ClassId} {ad : Nat → Nat} {μ : Mem} {a1 : Int32} {r : Unit} {μ' : Mem} (hf : fX6_takeAway μ a1 = some (r, μ')) : CT l yX6_takeAway cX6_takeAway 2 none 2 D cI cR ad shX NX [.ref (ad 1), .int a1] μ none μ' :=
  ct_of (own := RX6) (ov := fun _ => none) (by decide +kernel) rfl (Nat.le_of_ble_eq_true rfl) (fun p e s m below meth c A0 E hr => by
    refine ll_lo (lo' := [some (.ref (ad 1)), some (.int a1)]) ⟨rfl, rfl, trivial⟩ ?_
    rw [fX6_takeAway]
    refine ll_iload_n E (pc := 0) dX6_takeAway_0 rfl ?_
    refine ll_if_lt E (pc := 1) (tgt := 12) dX6_takeAway_1 rfl ?_ ?_
    · exact ll_return E (pc := 12) hr dX6_takeAway_12
    · refine ll_iload_n E (pc := 4) dX6_takeAway_4 rfl ?_
      refine ll_aload_n E (pc := 5) dX6_takeAway_5 rfl ?_
      refine ll_getf E (pc := 6) (o9 := 1) (ci := 6) (k9 := 0) dX6_takeAway_6 fl_X6_43 (Nat.le_of_ble_eq_true rfl) fx_1_0 ?_
      refine ll_icmp_lt E (pc := 9) (tgt := 13) dX6_takeAway_9 rfl ?_ ?_
      · refine ll_aload_n E (pc := 13) dX6_takeAway_13 rfl ?_
        refine ll_aload_n E (pc := 14) dX6_takeAway_14 rfl ?_
        refine ll_getfr E (pc := 15) (o9 := 1) (ci := 6) (k9 := 1) (q := 2) dX6_takeAway_15 fl_X6_9 (Nat.le_of_ble_eq_true rfl) fx_1_1 ?_
        refine ll_iload_n E (pc := 18) dX6_takeAway_18 rfl ?_
        refine ll_callVv E (pc := 19) (d := 1) (ci := 6) (o9 := 1) [.ref (ad 2), .int a1] [] dX6_takeAway_19 cv_X6_56 (fun h => ctX6_takeFromRow px_2 h) (Nat.le_of_ble_eq_true rfl) sx_1 ci_6 rfl rfl (Nat.le_of_ble_eq_true rfl) ⟨(Nat.le_of_ble_eq_true rfl), (Nat.le_of_ble_eq_true rfl)⟩ ⟨(Nat.le_of_ble_eq_true rfl), (Nat.le_of_ble_eq_true rfl)⟩ ?_
        intro r15 μ14
        refine ll_aload_n E (pc := 22) dX6_takeAway_22 rfl ?_
        refine ll_aload_n E (pc := 23) dX6_takeAway_23 rfl ?_
        refine ll_getfr E (pc := 24) (o9 := 1) (ci := 6) (k9 := 2) (q := 3) dX6_takeAway_24 fl_X6_15 (Nat.le_of_ble_eq_true rfl) fx_1_2 ?_
        refine ll_iload_n E (pc := 27) dX6_takeAway_27 rfl ?_
        refine ll_callVv E (pc := 28) (d := 1) (ci := 6) (o9 := 1) [.ref (ad 3), .int a1] [] dX6_takeAway_28 cv_X6_56 (fun h => ctX6_takeFromRow px_3 h) (Nat.le_of_ble_eq_true rfl) sx_1 ci_6 rfl rfl (Nat.le_of_ble_eq_true rfl) ⟨(Nat.le_of_ble_eq_true rfl), (Nat.le_of_ble_eq_true rfl)⟩ ⟨(Nat.le_of_ble_eq_true rfl), (Nat.le_of_ble_eq_true rfl)⟩ ?_
        intro r17 μ16
        refine ll_aload_n E (pc := 31) dX6_takeAway_31 rfl ?_
        refine ll_aload_n E (pc := 32) dX6_takeAway_32 rfl ?_
        refine ll_getfr E (pc := 33) (o9 := 1) (ci := 6) (k9 := 3) (q := 4) dX6_takeAway_33 fl_X6_18 (Nat.le_of_ble_eq_true rfl) fx_1_3 ?_
        refine ll_iload_n E (pc := 36) dX6_takeAway_36 rfl ?_
        refine ll_callVv E (pc := 37) (d := 1) (ci := 6) (o9 := 1) [.ref (ad 4), .int a1] [] dX6_takeAway_37 cv_X6_56 (fun h => ctX6_takeFromRow px_4 h) (Nat.le_of_ble_eq_true rfl) sx_1 ci_6 rfl rfl (Nat.le_of_ble_eq_true rfl) ⟨(Nat.le_of_ble_eq_true rfl), (Nat.le_of_ble_eq_true rfl)⟩ ⟨(Nat.le_of_ble_eq_true rfl), (Nat.le_of_ble_eq_true rfl)⟩ ?_
        intro r19 μ18
        refine ll_aload_n E (pc := 40) dX6_takeAway_40 rfl ?_
        refine ll_aload_n E (pc := 41) dX6_takeAway_41 rfl ?_
        refine ll_getfr E (pc := 42) (o9 := 1) (ci := 6) (k9 := 4) (q := 5) dX6_takeAway_42 fl_X6_21 (Nat.le_of_ble_eq_true rfl) fx_1_4 ?_
        refine ll_iload_n E (pc := 45) dX6_takeAway_45 rfl ?_
        refine ll_callVv E (pc := 46) (d := 1) (ci := 6) (o9 := 1) [.ref (ad 5), .int a1] [] dX6_takeAway_46 cv_X6_56 (fun h => ctX6_takeFromRow px_5 h) (Nat.le_of_ble_eq_true rfl) sx_1 ci_6 rfl rfl (Nat.le_of_ble_eq_true rfl) ⟨(Nat.le_of_ble_eq_true rfl), (Nat.le_of_ble_eq_true rfl)⟩ ⟨(Nat.le_of_ble_eq_true rfl), (Nat.le_of_ble_eq_true rfl)⟩ ?_
        intro r21 μ20
        refine ll_aload_n E (pc := 49) dX6_takeAway_49 rfl ?_
        refine ll_aload_n E (pc := 50) dX6_takeAway_50 rfl ?_
        refine ll_getfr E (pc := 51) (o9 := 1) (ci := 6) (k9 := 5) (q := 6) dX6_takeAway_51 fl_X6_24 (Nat.le_of_ble_eq_true rfl) fx_1_5 ?_
        refine ll_iload_n E (pc := 54) dX6_takeAway_54 rfl ?_
        refine ll_callVv E (pc := 55) (d := 1) (ci := 6) (o9 := 1) [.ref (ad 6), .int a1] [] dX6_takeAway_55 cv_X6_56 (fun h => ctX6_takeFromRow px_6 h) (Nat.le_of_ble_eq_true rfl) sx_1 ci_6 rfl rfl (Nat.le_of_ble_eq_true rfl) ⟨(Nat.le_of_ble_eq_true rfl), (Nat.le_of_ble_eq_true rfl)⟩ ⟨(Nat.le_of_ble_eq_true rfl), (Nat.le_of_ble_eq_true rfl)⟩ ?_
        intro r23 μ22
        refine ll_aload_n E (pc := 58) dX6_takeAway_58 rfl ?_
        refine ll_aload_n E (pc := 59) dX6_takeAway_59 rfl ?_
        refine ll_getfr E (pc := 60) (o9 := 1) (ci := 6) (k9 := 6) (q := 7) dX6_takeAway_60 fl_X6_27 (Nat.le_of_ble_eq_true rfl) fx_1_6 ?_
        refine ll_iload_n E (pc := 63) dX6_takeAway_63 rfl ?_
        refine ll_callVv E (pc := 64) (d := 1) (ci := 6) (o9 := 1) [.ref (ad 7), .int a1] [] dX6_takeAway_64 cv_X6_56 (fun h => ctX6_takeFromRow px_7 h) (Nat.le_of_ble_eq_true rfl) sx_1 ci_6 rfl rfl (Nat.le_of_ble_eq_true rfl) ⟨(Nat.le_of_ble_eq_true rfl), (Nat.le_of_ble_eq_true rfl)⟩ ⟨(Nat.le_of_ble_eq_true rfl), (Nat.le_of_ble_eq_true rfl)⟩ ?_
        intro r25 μ24
        refine ll_aload_n E (pc := 67) dX6_takeAway_67 rfl ?_
        refine ll_dup E (pc := 68) dX6_takeAway_68 rfl ?_
        refine ll_getf E (pc := 69) (o9 := 1) (ci := 6) (k9 := 0) dX6_takeAway_69 fl_X6_43 (Nat.le_of_ble_eq_true rfl) fx_1_0 ?_
        refine ll_iconst E (pc := 72) dX6_takeAway_72 kc_1 ?_
        refine ll_isub E (pc := 73) dX6_takeAway_73 ?_
        refine ll_putf E (pc := 74) (o9 := 1) (ci := 6) (k9 := 0) dX6_takeAway_74 fw_X6_43 (Nat.le_of_ble_eq_true rfl) fx_1_0 ?_
        intro μ26
        exact ll_return E (pc := 77) hr dX6_takeAway_77
      · exact ll_return E (pc := 12) hr dX6_takeAway_12) hf
theorem dX6_swapInRow_0 : decode cX6_swapInRow 0 = .ok (.aload_n 0, 1) := by decide +kernel
theorem dX6_swapInRow_1 : decode cX6_swapInRow 1 = .ok (.iload_n 1, 1) := by decide +kernel
theorem dX6_swapInRow_2 : decode cX6_swapInRow 2 = .ok (.iaload, 1) := by decide +kernel
theorem dX6_swapInRow_3 : decode cX6_swapInRow 3 = .ok (.istore_n 3, 1) := by decide +kernel
theorem dX6_swapInRow_4 : decode cX6_swapInRow 4 = .ok (.aload_n 0, 1) := by decide +kernel
theorem dX6_swapInRow_5 : decode cX6_swapInRow 5 = .ok (.iload_n 1, 1) := by decide +kernel
theorem dX6_swapInRow_6 : decode cX6_swapInRow 6 = .ok (.aload_n 0, 1) := by decide +kernel
theorem dX6_swapInRow_7 : decode cX6_swapInRow 7 = .ok (.iload_n 2, 1) := by decide +kernel
theorem dX6_swapInRow_8 : decode cX6_swapInRow 8 = .ok (.iaload, 1) := by decide +kernel
theorem dX6_swapInRow_9 : decode cX6_swapInRow 9 = .ok (.iastore, 1) := by decide +kernel
theorem dX6_swapInRow_10 : decode cX6_swapInRow 10 = .ok (.aload_n 0, 1) := by decide +kernel
theorem dX6_swapInRow_11 : decode cX6_swapInRow 11 = .ok (.iload_n 2, 1) := by decide +kernel
theorem dX6_swapInRow_12 : decode cX6_swapInRow 12 = .ok (.iload_n 3, 1) := by decide +kernel
theorem dX6_swapInRow_13 : decode cX6_swapInRow 13 = .ok (.iastore, 1) := by decide +kernel
theorem dX6_swapInRow_14 : decode cX6_swapInRow 14 = .ok (.return_, 1) := by decide +kernel
def fX6_swapInRow (μ : Mem) (a0 : Nat) (a1 : Int32) (a2 : Int32) : Option (Unit × Mem) :=
  (ld 20 (μ a0) a1).bind fun r5 =>
  (ld 20 (μ a0) a2).bind fun r6 =>
  (ast 20 μ a0 a1 r6).bind fun μ7 =>
  (ast 20 μ7 a0 a2 r5).bind fun μ8 =>
  some ((), μ8)
theorem ctX6_swapInRow {l : Launch} {D : va_G} {cI cR : ClassId} {ad : Nat → Nat} {μ : Mem} {a0 : Nat} {a1 : Int32} {a2 : Int32} (h0 : Pa shX NX 20 a0) {r : Unit} {μ' : Mem} (hf : fX6_swapInRow μ a0 a1 a2 = some (r, μ')) : CT l yX6_swapInRow cX6_swapInRow 4 none 0 D cI cR ad shX NX [.ref (ad a0), .int a1, .int a2] μ none μ' :=
  ct_of (own := RX6) (ov := fun _ => none) (by decide +kernel) rfl (Nat.le_of_ble_eq_true rfl) (fun p e s m below meth c A0 E hr => by
    refine ll_lo (lo' := [some (.ref (ad a0)), some (.int a1), some (.int a2), none]) ⟨rfl, rfl, rfl, trivial⟩ ?_
    rw [fX6_swapInRow]
    refine ll_aload_n E (pc := 0) dX6_swapInRow_0 rfl ?_
    refine ll_iload_n E (pc := 1) dX6_swapInRow_1 rfl ?_
    refine ll_iald E (pc := 2) (a := a0) dX6_swapInRow_2 (h0).1 (h0).2 ?_
    intro r5
    refine ll_istore_n E (pc := 3) (lo' := [some (.ref (ad a0)), some (.int a1), some (.int a2), some (.int r5)]) dX6_swapInRow_3 (Nat.le_of_ble_eq_true rfl) rfl rfl ?_
    refine ll_aload_n E (pc := 4) dX6_swapInRow_4 rfl ?_
    refine ll_iload_n E (pc := 5) dX6_swapInRow_5 rfl ?_
    refine ll_aload_n E (pc := 6) dX6_swapInRow_6 rfl ?_
    refine ll_iload_n E (pc := 7) dX6_swapInRow_7 rfl ?_
    refine ll_iald E (pc := 8) (a := a0) dX6_swapInRow_8 (h0).1 (h0).2 ?_
    intro r6
    refine ll_iast E (pc := 9) (a := a0) dX6_swapInRow_9 (h0).1 (h0).2 ?_
    intro μ7
    refine ll_aload_n E (pc := 10) dX6_swapInRow_10 rfl ?_
    refine ll_iload_n E (pc := 11) dX6_swapInRow_11 rfl ?_
    refine ll_iload_n E (pc := 12) dX6_swapInRow_12 rfl ?_
    refine ll_iast E (pc := 13) (a := a0) dX6_swapInRow_13 (h0).1 (h0).2 ?_
    intro μ8
    exact ll_return E (pc := 14) hr dX6_swapInRow_14) hf
theorem dX6_swapSteps_0 : decode cX6_swapSteps 0 = .ok (.iload_n 1, 1) := by decide +kernel
theorem dX6_swapSteps_1 : decode cX6_swapSteps 1 = .ok (.ifCond .lt 23, 3) := by decide +kernel
theorem dX6_swapSteps_4 : decode cX6_swapSteps 4 = .ok (.iload_n 1, 1) := by decide +kernel
theorem dX6_swapSteps_5 : decode cX6_swapSteps 5 = .ok (.aload_n 0, 1) := by decide +kernel
theorem dX6_swapSteps_6 : decode cX6_swapSteps 6 = .ok (.getfield 43, 3) := by decide +kernel
theorem dX6_swapSteps_9 : decode cX6_swapSteps 9 = .ok (.if_icmp .ge 15, 3) := by decide +kernel
theorem dX6_swapSteps_12 : decode cX6_swapSteps 12 = .ok (.iload_n 2, 1) := by decide +kernel
theorem dX6_swapSteps_13 : decode cX6_swapSteps 13 = .ok (.ifCond .lt 11, 3) := by decide +kernel
theorem dX6_swapSteps_16 : decode cX6_swapSteps 16 = .ok (.iload_n 2, 1) := by decide +kernel
theorem dX6_swapSteps_17 : decode cX6_swapSteps 17 = .ok (.aload_n 0, 1) := by decide +kernel
theorem dX6_swapSteps_18 : decode cX6_swapSteps 18 = .ok (.getfield 43, 3) := by decide +kernel
theorem dX6_swapSteps_21 : decode cX6_swapSteps 21 = .ok (.if_icmp .lt 4, 3) := by decide +kernel
theorem dX6_swapSteps_24 : decode cX6_swapSteps 24 = .ok (.return_, 1) := by decide +kernel
theorem dX6_swapSteps_25 : decode cX6_swapSteps 25 = .ok (.aload_n 0, 1) := by decide +kernel
theorem dX6_swapSteps_26 : decode cX6_swapSteps 26 = .ok (.getfield 9, 3) := by decide +kernel
theorem dX6_swapSteps_29 : decode cX6_swapSteps 29 = .ok (.iload_n 1, 1) := by decide +kernel
theorem dX6_swapSteps_30 : decode cX6_swapSteps 30 = .ok (.iload_n 2, 1) := by decide +kernel
theorem dX6_swapSteps_31 : decode cX6_swapSteps 31 = .ok (.invokestatic 60, 3) := by decide +kernel
theorem dX6_swapSteps_34 : decode cX6_swapSteps 34 = .ok (.aload_n 0, 1) := by decide +kernel
theorem dX6_swapSteps_35 : decode cX6_swapSteps 35 = .ok (.getfield 15, 3) := by decide +kernel
theorem dX6_swapSteps_38 : decode cX6_swapSteps 38 = .ok (.iload_n 1, 1) := by decide +kernel
theorem dX6_swapSteps_39 : decode cX6_swapSteps 39 = .ok (.iload_n 2, 1) := by decide +kernel
theorem dX6_swapSteps_40 : decode cX6_swapSteps 40 = .ok (.invokestatic 60, 3) := by decide +kernel
theorem dX6_swapSteps_43 : decode cX6_swapSteps 43 = .ok (.aload_n 0, 1) := by decide +kernel
theorem dX6_swapSteps_44 : decode cX6_swapSteps 44 = .ok (.getfield 18, 3) := by decide +kernel
theorem dX6_swapSteps_47 : decode cX6_swapSteps 47 = .ok (.iload_n 1, 1) := by decide +kernel
theorem dX6_swapSteps_48 : decode cX6_swapSteps 48 = .ok (.iload_n 2, 1) := by decide +kernel
theorem dX6_swapSteps_49 : decode cX6_swapSteps 49 = .ok (.invokestatic 60, 3) := by decide +kernel
theorem dX6_swapSteps_52 : decode cX6_swapSteps 52 = .ok (.aload_n 0, 1) := by decide +kernel
theorem dX6_swapSteps_53 : decode cX6_swapSteps 53 = .ok (.getfield 21, 3) := by decide +kernel
theorem dX6_swapSteps_56 : decode cX6_swapSteps 56 = .ok (.iload_n 1, 1) := by decide +kernel
theorem dX6_swapSteps_57 : decode cX6_swapSteps 57 = .ok (.iload_n 2, 1) := by decide +kernel
theorem dX6_swapSteps_58 : decode cX6_swapSteps 58 = .ok (.invokestatic 60, 3) := by decide +kernel
theorem dX6_swapSteps_61 : decode cX6_swapSteps 61 = .ok (.aload_n 0, 1) := by decide +kernel
theorem dX6_swapSteps_62 : decode cX6_swapSteps 62 = .ok (.getfield 24, 3) := by decide +kernel
theorem dX6_swapSteps_65 : decode cX6_swapSteps 65 = .ok (.iload_n 1, 1) := by decide +kernel
theorem dX6_swapSteps_66 : decode cX6_swapSteps 66 = .ok (.iload_n 2, 1) := by decide +kernel
theorem dX6_swapSteps_67 : decode cX6_swapSteps 67 = .ok (.invokestatic 60, 3) := by decide +kernel
theorem dX6_swapSteps_70 : decode cX6_swapSteps 70 = .ok (.aload_n 0, 1) := by decide +kernel
theorem dX6_swapSteps_71 : decode cX6_swapSteps 71 = .ok (.getfield 27, 3) := by decide +kernel
theorem dX6_swapSteps_74 : decode cX6_swapSteps 74 = .ok (.iload_n 1, 1) := by decide +kernel
theorem dX6_swapSteps_75 : decode cX6_swapSteps 75 = .ok (.iload_n 2, 1) := by decide +kernel
theorem dX6_swapSteps_76 : decode cX6_swapSteps 76 = .ok (.invokestatic 60, 3) := by decide +kernel
theorem dX6_swapSteps_79 : decode cX6_swapSteps 79 = .ok (.return_, 1) := by decide +kernel
def fX6_swapSteps (μ : Mem) (a1 : Int32) (a2 : Int32) : Option (Unit × Mem) :=
  if a1 < 0 then
  some ((), μ)
  else
  if (μ 1 0) ≤ a1 then
  some ((), μ)
  else
  if a2 < 0 then
  some ((), μ)
  else
  if a2 < (μ 1 0) then
  bd (fX6_swapInRow μ 2 a1 a2) fun _ μ13 =>
  bd (fX6_swapInRow μ13 3 a1 a2) fun _ μ15 =>
  bd (fX6_swapInRow μ15 4 a1 a2) fun _ μ17 =>
  bd (fX6_swapInRow μ17 5 a1 a2) fun _ μ19 =>
  bd (fX6_swapInRow μ19 6 a1 a2) fun _ μ21 =>
  bd (fX6_swapInRow μ21 7 a1 a2) fun _ μ23 =>
  some ((), μ23)
  else
  some ((), μ)
theorem ctX6_swapSteps {l : Launch} {D : va_G} {cI cR : ClassId} {ad : Nat → Nat} {μ : Mem} {a1 : Int32} {a2 : Int32} {r : Unit} {μ' : Mem} (hf : fX6_swapSteps μ a1 a2 = some (r, μ')) : CT l yX6_swapSteps cX6_swapSteps 3 none 1 D cI cR ad shX NX [.ref (ad 1), .int a1, .int a2] μ none μ' :=
  ct_of (own := RX6) (ov := fun _ => none) (by decide +kernel) rfl (Nat.le_of_ble_eq_true rfl) (fun p e s m below meth c A0 E hr => by
    refine ll_lo (lo' := [some (.ref (ad 1)), some (.int a1), some (.int a2)]) ⟨rfl, rfl, rfl, trivial⟩ ?_
    rw [fX6_swapSteps]
    refine ll_iload_n E (pc := 0) dX6_swapSteps_0 rfl ?_
    refine ll_if_lt E (pc := 1) (tgt := 24) dX6_swapSteps_1 rfl ?_ ?_
    · exact ll_return E (pc := 24) hr dX6_swapSteps_24
    · refine ll_iload_n E (pc := 4) dX6_swapSteps_4 rfl ?_
      refine ll_aload_n E (pc := 5) dX6_swapSteps_5 rfl ?_
      refine ll_getf E (pc := 6) (o9 := 1) (ci := 6) (k9 := 0) dX6_swapSteps_6 fl_X6_43 (Nat.le_of_ble_eq_true rfl) fx_1_0 ?_
      refine ll_icmp_ge E (pc := 9) (tgt := 24) dX6_swapSteps_9 rfl ?_ ?_
      · exact ll_return E (pc := 24) hr dX6_swapSteps_24
      · refine ll_iload_n E (pc := 12) dX6_swapSteps_12 rfl ?_
        refine ll_if_lt E (pc := 13) (tgt := 24) dX6_swapSteps_13 rfl ?_ ?_
        · exact ll_return E (pc := 24) hr dX6_swapSteps_24
        · refine ll_iload_n E (pc := 16) dX6_swapSteps_16 rfl ?_
          refine ll_aload_n E (pc := 17) dX6_swapSteps_17 rfl ?_
          refine ll_getf E (pc := 18) (o9 := 1) (ci := 6) (k9 := 0) dX6_swapSteps_18 fl_X6_43 (Nat.le_of_ble_eq_true rfl) fx_1_0 ?_
          refine ll_icmp_lt E (pc := 21) (tgt := 25) dX6_swapSteps_21 rfl ?_ ?_
          · refine ll_aload_n E (pc := 25) dX6_swapSteps_25 rfl ?_
            refine ll_getfr E (pc := 26) (o9 := 1) (ci := 6) (k9 := 1) (q := 2) dX6_swapSteps_26 fl_X6_9 (Nat.le_of_ble_eq_true rfl) fx_1_1 ?_
            refine ll_iload_n E (pc := 29) dX6_swapSteps_29 rfl ?_
            refine ll_iload_n E (pc := 30) dX6_swapSteps_30 rfl ?_
            refine ll_callSv E (pc := 31) (d := 0) [.ref (ad 2), .int a1, .int a2] [] dX6_swapSteps_31 cv_X6_60 (fun h => ctX6_swapInRow px_2 h) rfl rfl (Nat.le_of_ble_eq_true rfl) ⟨(Nat.le_of_ble_eq_true rfl), (Nat.le_of_ble_eq_true rfl)⟩ ⟨(Nat.le_of_ble_eq_true rfl), (Nat.le_of_ble_eq_true rfl)⟩ ?_
            intro r14 μ13
            refine ll_aload_n E (pc := 34) dX6_swapSteps_34 rfl ?_
            refine ll_getfr E (pc := 35) (o9 := 1) (ci := 6) (k9 := 2) (q := 3) dX6_swapSteps_35 fl_X6_15 (Nat.le_of_ble_eq_true rfl) fx_1_2 ?_
            refine ll_iload_n E (pc := 38) dX6_swapSteps_38 rfl ?_
            refine ll_iload_n E (pc := 39) dX6_swapSteps_39 rfl ?_
            refine ll_callSv E (pc := 40) (d := 0) [.ref (ad 3), .int a1, .int a2] [] dX6_swapSteps_40 cv_X6_60 (fun h => ctX6_swapInRow px_3 h) rfl rfl (Nat.le_of_ble_eq_true rfl) ⟨(Nat.le_of_ble_eq_true rfl), (Nat.le_of_ble_eq_true rfl)⟩ ⟨(Nat.le_of_ble_eq_true rfl), (Nat.le_of_ble_eq_true rfl)⟩ ?_
            intro r16 μ15
            refine ll_aload_n E (pc := 43) dX6_swapSteps_43 rfl ?_
            refine ll_getfr E (pc := 44) (o9 := 1) (ci := 6) (k9 := 3) (q := 4) dX6_swapSteps_44 fl_X6_18 (Nat.le_of_ble_eq_true rfl) fx_1_3 ?_
            refine ll_iload_n E (pc := 47) dX6_swapSteps_47 rfl ?_
            refine ll_iload_n E (pc := 48) dX6_swapSteps_48 rfl ?_
            refine ll_callSv E (pc := 49) (d := 0) [.ref (ad 4), .int a1, .int a2] [] dX6_swapSteps_49 cv_X6_60 (fun h => ctX6_swapInRow px_4 h) rfl rfl (Nat.le_of_ble_eq_true rfl) ⟨(Nat.le_of_ble_eq_true rfl), (Nat.le_of_ble_eq_true rfl)⟩ ⟨(Nat.le_of_ble_eq_true rfl), (Nat.le_of_ble_eq_true rfl)⟩ ?_
            intro r18 μ17
            refine ll_aload_n E (pc := 52) dX6_swapSteps_52 rfl ?_
            refine ll_getfr E (pc := 53) (o9 := 1) (ci := 6) (k9 := 4) (q := 5) dX6_swapSteps_53 fl_X6_21 (Nat.le_of_ble_eq_true rfl) fx_1_4 ?_
            refine ll_iload_n E (pc := 56) dX6_swapSteps_56 rfl ?_
            refine ll_iload_n E (pc := 57) dX6_swapSteps_57 rfl ?_
            refine ll_callSv E (pc := 58) (d := 0) [.ref (ad 5), .int a1, .int a2] [] dX6_swapSteps_58 cv_X6_60 (fun h => ctX6_swapInRow px_5 h) rfl rfl (Nat.le_of_ble_eq_true rfl) ⟨(Nat.le_of_ble_eq_true rfl), (Nat.le_of_ble_eq_true rfl)⟩ ⟨(Nat.le_of_ble_eq_true rfl), (Nat.le_of_ble_eq_true rfl)⟩ ?_
            intro r20 μ19
            refine ll_aload_n E (pc := 61) dX6_swapSteps_61 rfl ?_
            refine ll_getfr E (pc := 62) (o9 := 1) (ci := 6) (k9 := 5) (q := 6) dX6_swapSteps_62 fl_X6_24 (Nat.le_of_ble_eq_true rfl) fx_1_5 ?_
            refine ll_iload_n E (pc := 65) dX6_swapSteps_65 rfl ?_
            refine ll_iload_n E (pc := 66) dX6_swapSteps_66 rfl ?_
            refine ll_callSv E (pc := 67) (d := 0) [.ref (ad 6), .int a1, .int a2] [] dX6_swapSteps_67 cv_X6_60 (fun h => ctX6_swapInRow px_6 h) rfl rfl (Nat.le_of_ble_eq_true rfl) ⟨(Nat.le_of_ble_eq_true rfl), (Nat.le_of_ble_eq_true rfl)⟩ ⟨(Nat.le_of_ble_eq_true rfl), (Nat.le_of_ble_eq_true rfl)⟩ ?_
            intro r22 μ21
            refine ll_aload_n E (pc := 70) dX6_swapSteps_70 rfl ?_
            refine ll_getfr E (pc := 71) (o9 := 1) (ci := 6) (k9 := 6) (q := 7) dX6_swapSteps_71 fl_X6_27 (Nat.le_of_ble_eq_true rfl) fx_1_6 ?_
            refine ll_iload_n E (pc := 74) dX6_swapSteps_74 rfl ?_
            refine ll_iload_n E (pc := 75) dX6_swapSteps_75 rfl ?_
            refine ll_callSv E (pc := 76) (d := 0) [.ref (ad 7), .int a1, .int a2] [] dX6_swapSteps_76 cv_X6_60 (fun h => ctX6_swapInRow px_7 h) rfl rfl (Nat.le_of_ble_eq_true rfl) ⟨(Nat.le_of_ble_eq_true rfl), (Nat.le_of_ble_eq_true rfl)⟩ ⟨(Nat.le_of_ble_eq_true rfl), (Nat.le_of_ble_eq_true rfl)⟩ ?_
            intro r24 μ23
            exact ll_return E (pc := 79) hr dX6_swapSteps_79
          · exact ll_return E (pc := 24) hr dX6_swapSteps_24) hf
theorem dX6_changeFirst_0 : decode cX6_changeFirst 0 = .ok (.iload_n 1, 1) := by decide +kernel
theorem dX6_changeFirst_1 : decode cX6_changeFirst 1 = .ok (.ifCond .lt 9, 3) := by decide +kernel
theorem dX6_changeFirst_4 : decode cX6_changeFirst 4 = .ok (.iload_n 1, 1) := by decide +kernel
theorem dX6_changeFirst_5 : decode cX6_changeFirst 5 = .ok (.bipush 24, 2) := by decide +kernel
theorem dX6_changeFirst_7 : decode cX6_changeFirst 7 = .ok (.if_icmp .lt 5, 3) := by decide +kernel
theorem dX6_changeFirst_10 : decode cX6_changeFirst 10 = .ok (.iconst 0, 1) := by decide +kernel
theorem dX6_changeFirst_11 : decode cX6_changeFirst 11 = .ok (.ireturn, 1) := by decide +kernel
theorem dX6_changeFirst_12 : decode cX6_changeFirst 12 = .ok (.aload_n 0, 1) := by decide +kernel
theorem dX6_changeFirst_13 : decode cX6_changeFirst 13 = .ok (.getfield 30, 3) := by decide +kernel
theorem dX6_changeFirst_16 : decode cX6_changeFirst 16 = .ok (.iload_n 1, 1) := by decide +kernel
theorem dX6_changeFirst_17 : decode cX6_changeFirst 17 = .ok (.iaload, 1) := by decide +kernel
theorem dX6_changeFirst_18 : decode cX6_changeFirst 18 = .ok (.istore_n 3, 1) := by decide +kernel
theorem dX6_changeFirst_19 : decode cX6_changeFirst 19 = .ok (.aload_n 0, 1) := by decide +kernel
theorem dX6_changeFirst_20 : decode cX6_changeFirst 20 = .ok (.getfield 30, 3) := by decide +kernel
theorem dX6_changeFirst_23 : decode cX6_changeFirst 23 = .ok (.iload_n 1, 1) := by decide +kernel
theorem dX6_changeFirst_24 : decode cX6_changeFirst 24 = .ok (.iload_n 2, 1) := by decide +kernel
theorem dX6_changeFirst_25 : decode cX6_changeFirst 25 = .ok (.iastore, 1) := by decide +kernel
theorem dX6_changeFirst_26 : decode cX6_changeFirst 26 = .ok (.iload_n 3, 1) := by decide +kernel
theorem dX6_changeFirst_27 : decode cX6_changeFirst 27 = .ok (.ireturn, 1) := by decide +kernel
def fX6_changeFirst (μ : Mem) (a1 : Int32) (a2 : Int32) : Option (Int32 × Mem) :=
  if a1 < 0 then
  some ((0 : Int32), μ)
  else
  if a1 < (24 : Int32) then
  (ld 24 (μ 8) a1).bind fun r3 =>
  (ast 24 μ 8 a1 a2).bind fun μ4 =>
  some (r3, μ4)
  else
  some ((0 : Int32), μ)
theorem ctX6_changeFirst {l : Launch} {D : va_G} {cI cR : ClassId} {ad : Nat → Nat} {μ : Mem} {a1 : Int32} {a2 : Int32} {r : Int32} {μ' : Mem} (hf : fX6_changeFirst μ a1 a2 = some (r, μ')) : CT l yX6_changeFirst cX6_changeFirst 4 (some .int) 0 D cI cR ad shX NX [.ref (ad 1), .int a1, .int a2] μ (some (.int r)) μ' :=
  ct_of (own := RX6) (ov := fun r => some (.int r)) (by decide +kernel) rfl (Nat.le_of_ble_eq_true rfl) (fun p e s m below meth c A0 E hr => by
    refine ll_lo (lo' := [some (.ref (ad 1)), some (.int a1), some (.int a2), none]) ⟨rfl, rfl, rfl, trivial⟩ ?_
    rw [fX6_changeFirst]
    refine ll_iload_n E (pc := 0) dX6_changeFirst_0 rfl ?_
    refine ll_if_lt E (pc := 1) (tgt := 10) dX6_changeFirst_1 rfl ?_ ?_
    · refine ll_iconst E (pc := 10) dX6_changeFirst_10 kc_0 ?_
      exact ll_ireturn E (pc := 11) hr dX6_changeFirst_11
    · refine ll_iload_n E (pc := 4) dX6_changeFirst_4 rfl ?_
      refine ll_bipush E (pc := 5) dX6_changeFirst_5 kb_24 ?_
      refine ll_icmp_lt E (pc := 7) (tgt := 12) dX6_changeFirst_7 rfl ?_ ?_
      · refine ll_aload_n E (pc := 12) dX6_changeFirst_12 rfl ?_
        refine ll_getfr E (pc := 13) (o9 := 1) (ci := 6) (k9 := 7) (q := 8) dX6_changeFirst_13 fl_X6_30 (Nat.le_of_ble_eq_true rfl) fx_1_7 ?_
        refine ll_iload_n E (pc := 16) dX6_changeFirst_16 rfl ?_
        refine ll_iald E (pc := 17) (a := 8) dX6_changeFirst_17 (px_8).1 (px_8).2 ?_
        intro r3
        refine ll_istore_n E (pc := 18) (lo' := [some (.ref (ad 1)), some (.int a1), some (.int a2), some (.int r3)]) dX6_changeFirst_18 (Nat.le_of_ble_eq_true rfl) rfl rfl ?_
        refine ll_aload_n E (pc := 19) dX6_changeFirst_19 rfl ?_
        refine ll_getfr E (pc := 20) (o9 := 1) (ci := 6) (k9 := 7) (q := 8) dX6_changeFirst_20 fl_X6_30 (Nat.le_of_ble_eq_true rfl) fx_1_7 ?_
        refine ll_iload_n E (pc := 23) dX6_changeFirst_23 rfl ?_
        refine ll_iload_n E (pc := 24) dX6_changeFirst_24 rfl ?_
        refine ll_iast E (pc := 25) (a := 8) dX6_changeFirst_25 (px_8).1 (px_8).2 ?_
        intro μ4
        refine ll_iload_n E (pc := 26) dX6_changeFirst_26 rfl ?_
        exact ll_ireturn E (pc := 27) hr dX6_changeFirst_27
      · refine ll_iconst E (pc := 10) dX6_changeFirst_10 kc_0 ?_
        exact ll_ireturn E (pc := 11) hr dX6_changeFirst_11) hf
theorem dX6_usesCells_0 : decode cX6_usesCells 0 = .ok (.aload_n 0, 1) := by decide +kernel
theorem dX6_usesCells_1 : decode cX6_usesCells 1 = .ok (.getfield 9, 3) := by decide +kernel
theorem dX6_usesCells_4 : decode cX6_usesCells 4 = .ok (.iload_n 1, 1) := by decide +kernel
theorem dX6_usesCells_5 : decode cX6_usesCells 5 = .ok (.iaload, 1) := by decide +kernel
theorem dX6_usesCells_6 : decode cX6_usesCells 6 = .ok (.iconst 5, 1) := by decide +kernel
theorem dX6_usesCells_7 : decode cX6_usesCells 7 = .ok (.if_icmp .eq 14, 3) := by decide +kernel
theorem dX6_usesCells_10 : decode cX6_usesCells 10 = .ok (.aload_n 0, 1) := by decide +kernel
theorem dX6_usesCells_11 : decode cX6_usesCells 11 = .ok (.getfield 9, 3) := by decide +kernel
theorem dX6_usesCells_14 : decode cX6_usesCells 14 = .ok (.iload_n 1, 1) := by decide +kernel
theorem dX6_usesCells_15 : decode cX6_usesCells 15 = .ok (.iaload, 1) := by decide +kernel
theorem dX6_usesCells_16 : decode cX6_usesCells 16 = .ok (.bipush 6, 2) := by decide +kernel
theorem dX6_usesCells_18 : decode cX6_usesCells 18 = .ok (.if_icmp .ne 7, 3) := by decide +kernel
theorem dX6_usesCells_21 : decode cX6_usesCells 21 = .ok (.iconst 1, 1) := by decide +kernel
theorem dX6_usesCells_22 : decode cX6_usesCells 22 = .ok (.goto 4, 3) := by decide +kernel
theorem dX6_usesCells_25 : decode cX6_usesCells 25 = .ok (.iconst 0, 1) := by decide +kernel
theorem dX6_usesCells_26 : decode cX6_usesCells 26 = .ok (.ireturn, 1) := by decide +kernel
def fX6_usesCells_L21  (μ : Mem) : Option (Int32 × Mem) :=
  some ((1 : Int32), μ)
def fX6_usesCells (μ : Mem) (a1 : Int32) : Option (Int32 × Mem) :=
  (ld 20 (μ 2) a1).bind fun r3 =>
  if r3 = (5 : Int32) then
  fX6_usesCells_L21 μ
  else
  (ld 20 (μ 2) a1).bind fun r4 =>
  if r4 = (6 : Int32) then
  fX6_usesCells_L21 μ
  else
  some ((0 : Int32), μ)
theorem kX6_usesCells_L21 {p : Program} {l : Launch} {e : Env} {s : State} {m : MethodId} {args : Array Value} {below : List Frame} {meth : Method} {c : Code} {D : va_G} {cI cR : ClassId} {ad : Nat → Nat} {A0 : Nat → Prop} (E : EV p s m args meth c cX6_usesCells 2 RX6 D cI cR ad shX NX A0) (hr : meth.sig.returnType = (some .boolean))  (μ : Mem) : LL p l e (RM 0) s m args below meth c 2 D cI cR ad shX NX A0 (fun (r : Int32) μ' => KG below args s D cI cR ad shX NX A0 (some (.int r)) μ') (fX6_usesCells_L21 μ) 0 0 21 [none, none] [] μ := by
  rw [fX6_usesCells_L21]
  refine ll_iconst E (pc := 21) dX6_usesCells_21 kc_1 ?_
  refine ll_goto E (pc := 22) (tgt := 26) dX6_usesCells_22 rfl ?_
  exact ll_zreturn E (pc := 26) hr rfl dX6_usesCells_26
theorem ctX6_usesCells {l : Launch} {D : va_G} {cI cR : ClassId} {ad : Nat → Nat} {μ : Mem} {a1 : Int32} {r : Int32} {μ' : Mem} (hf : fX6_usesCells μ a1 = some (r, μ')) : CT l yX6_usesCells cX6_usesCells 2 (some .boolean) 0 D cI cR ad shX NX [.ref (ad 1), .int a1] μ (some (.int r)) μ' :=
  ct_of (own := RX6) (ov := fun r => some (.int r)) (by decide +kernel) rfl (Nat.le_of_ble_eq_true rfl) (fun p e s m below meth c A0 E hr => by
    refine ll_lo (lo' := [some (.ref (ad 1)), some (.int a1)]) ⟨rfl, rfl, trivial⟩ ?_
    rw [fX6_usesCells]
    refine ll_aload_n E (pc := 0) dX6_usesCells_0 rfl ?_
    refine ll_getfr E (pc := 1) (o9 := 1) (ci := 6) (k9 := 1) (q := 2) dX6_usesCells_1 fl_X6_9 (Nat.le_of_ble_eq_true rfl) fx_1_1 ?_
    refine ll_iload_n E (pc := 4) dX6_usesCells_4 rfl ?_
    refine ll_iald E (pc := 5) (a := 2) dX6_usesCells_5 (px_2).1 (px_2).2 ?_
    intro r3
    refine ll_iconst E (pc := 6) dX6_usesCells_6 kc_5 ?_
    refine ll_icmp_eq E (pc := 7) (tgt := 21) dX6_usesCells_7 rfl ?_ ?_
    · exact ll_lo (lo' := [none, none]) trivial (kX6_usesCells_L21 E hr μ)
    · refine ll_aload_n E (pc := 10) dX6_usesCells_10 rfl ?_
      refine ll_getfr E (pc := 11) (o9 := 1) (ci := 6) (k9 := 1) (q := 2) dX6_usesCells_11 fl_X6_9 (Nat.le_of_ble_eq_true rfl) fx_1_1 ?_
      refine ll_iload_n E (pc := 14) dX6_usesCells_14 rfl ?_
      refine ll_iald E (pc := 15) (a := 2) dX6_usesCells_15 (px_2).1 (px_2).2 ?_
      intro r4
      refine ll_bipush E (pc := 16) dX6_usesCells_16 kb_6 ?_
      refine ll_icmp_ne E (pc := 18) (tgt := 25) dX6_usesCells_18 rfl ?_ ?_
      · refine ll_iconst E (pc := 25) dX6_usesCells_25 kc_0 ?_
        exact ll_zreturn E (pc := 26) hr rfl dX6_usesCells_26
      · exact ll_lo (lo' := [none, none]) trivial (kX6_usesCells_L21 E hr μ)) hf
theorem dX6_unitOf_0 : decode cX6_unitOf 0 = .ok (.aload_n 0, 1) := by decide +kernel
theorem dX6_unitOf_1 : decode cX6_unitOf 1 = .ok (.getfield 9, 3) := by decide +kernel
theorem dX6_unitOf_4 : decode cX6_unitOf 4 = .ok (.iload_n 1, 1) := by decide +kernel
theorem dX6_unitOf_5 : decode cX6_unitOf 5 = .ok (.iaload, 1) := by decide +kernel
theorem dX6_unitOf_6 : decode cX6_unitOf 6 = .ok (.iconst 3, 1) := by decide +kernel
theorem dX6_unitOf_7 : decode cX6_unitOf 7 = .ok (.if_icmp .ne 5, 3) := by decide +kernel
theorem dX6_unitOf_10 : decode cX6_unitOf 10 = .ok (.iconst 1, 1) := by decide +kernel
theorem dX6_unitOf_11 : decode cX6_unitOf 11 = .ok (.ireturn, 1) := by decide +kernel
theorem dX6_unitOf_12 : decode cX6_unitOf 12 = .ok (.aload_n 0, 1) := by decide +kernel
theorem dX6_unitOf_13 : decode cX6_unitOf 13 = .ok (.iload_n 1, 1) := by decide +kernel
theorem dX6_unitOf_14 : decode cX6_unitOf 14 = .ok (.invokevirtual 63, 3) := by decide +kernel
theorem dX6_unitOf_17 : decode cX6_unitOf 17 = .ok (.ifCond .eq 7, 3) := by decide +kernel
theorem dX6_unitOf_20 : decode cX6_unitOf 20 = .ok (.iconst 2, 1) := by decide +kernel
theorem dX6_unitOf_21 : decode cX6_unitOf 21 = .ok (.goto 4, 3) := by decide +kernel
theorem dX6_unitOf_24 : decode cX6_unitOf 24 = .ok (.iconst 0, 1) := by decide +kernel
theorem dX6_unitOf_25 : decode cX6_unitOf 25 = .ok (.ireturn, 1) := by decide +kernel
def fX6_unitOf (μ : Mem) (a1 : Int32) : Option (Int32 × Mem) :=
  (ld 20 (μ 2) a1).bind fun r4 =>
  if r4 = (3 : Int32) then
  some ((1 : Int32), μ)
  else
  bd (fX6_usesCells μ a1) fun r6 μ5 =>
  if r6 = 0 then
  some ((0 : Int32), μ5)
  else
  some ((2 : Int32), μ5)
theorem ctX6_unitOf {l : Launch} {D : va_G} {cI cR : ClassId} {ad : Nat → Nat} {μ : Mem} {a1 : Int32} {r : Int32} {μ' : Mem} (hf : fX6_unitOf μ a1 = some (r, μ')) : CT l yX6_unitOf cX6_unitOf 2 (some .int) 1 D cI cR ad shX NX [.ref (ad 1), .int a1] μ (some (.int r)) μ' :=
  ct_of (own := RX6) (ov := fun r => some (.int r)) (by decide +kernel) rfl (Nat.le_of_ble_eq_true rfl) (fun p e s m below meth c A0 E hr => by
    refine ll_lo (lo' := [some (.ref (ad 1)), some (.int a1)]) ⟨rfl, rfl, trivial⟩ ?_
    rw [fX6_unitOf]
    refine ll_aload_n E (pc := 0) dX6_unitOf_0 rfl ?_
    refine ll_getfr E (pc := 1) (o9 := 1) (ci := 6) (k9 := 1) (q := 2) dX6_unitOf_1 fl_X6_9 (Nat.le_of_ble_eq_true rfl) fx_1_1 ?_
    refine ll_iload_n E (pc := 4) dX6_unitOf_4 rfl ?_
    refine ll_iald E (pc := 5) (a := 2) dX6_unitOf_5 (px_2).1 (px_2).2 ?_
    intro r4
    refine ll_iconst E (pc := 6) dX6_unitOf_6 kc_3 ?_
    refine ll_icmp_ne E (pc := 7) (tgt := 12) dX6_unitOf_7 rfl ?_ ?_
    · refine ll_aload_n E (pc := 12) dX6_unitOf_12 rfl ?_
      refine ll_iload_n E (pc := 13) dX6_unitOf_13 rfl ?_
      refine ll_callVi E (pc := 14) (d := 0) (ci := 6) (o9 := 1) [.int a1] [] dX6_unitOf_14 cv_X6_63 (fun h => ctX6_usesCells h) (Nat.le_of_ble_eq_true rfl) sx_1 ci_6 rfl rfl (Nat.le_of_ble_eq_true rfl) ⟨(Nat.le_of_ble_eq_true rfl), (Nat.le_of_ble_eq_true rfl)⟩ ⟨(Nat.le_of_ble_eq_true rfl), (Nat.le_of_ble_eq_true rfl)⟩ ?_
      intro r6 μ5
      refine ll_if_eq E (pc := 17) (tgt := 24) dX6_unitOf_17 rfl ?_ ?_
      · refine ll_iconst E (pc := 24) dX6_unitOf_24 kc_0 ?_
        exact ll_ireturn E (pc := 25) hr dX6_unitOf_25
      · refine ll_iconst E (pc := 20) dX6_unitOf_20 kc_2 ?_
        refine ll_goto E (pc := 21) (tgt := 25) dX6_unitOf_21 rfl ?_
        exact ll_ireturn E (pc := 25) hr dX6_unitOf_25
    · refine ll_iconst E (pc := 10) dX6_unitOf_10 kc_1 ?_
      exact ll_ireturn E (pc := 11) hr dX6_unitOf_11) hf
theorem dX6_lengthOf_0 : decode cX6_lengthOf 0 = .ok (.aload_n 0, 1) := by decide +kernel
theorem dX6_lengthOf_1 : decode cX6_lengthOf 1 = .ok (.getfield 9, 3) := by decide +kernel
theorem dX6_lengthOf_4 : decode cX6_lengthOf 4 = .ok (.iload_n 1, 1) := by decide +kernel
theorem dX6_lengthOf_5 : decode cX6_lengthOf 5 = .ok (.iaload, 1) := by decide +kernel
theorem dX6_lengthOf_6 : decode cX6_lengthOf 6 = .ok (.bipush 6, 2) := by decide +kernel
theorem dX6_lengthOf_8 : decode cX6_lengthOf 8 = .ok (.if_icmp .ne 7, 3) := by decide +kernel
theorem dX6_lengthOf_11 : decode cX6_lengthOf 11 = .ok (.iconst 1, 1) := by decide +kernel
theorem dX6_lengthOf_12 : decode cX6_lengthOf 12 = .ok (.goto 13, 3) := by decide +kernel
theorem dX6_lengthOf_15 : decode cX6_lengthOf 15 = .ok (.aload_n 0, 1) := by decide +kernel
theorem dX6_lengthOf_16 : decode cX6_lengthOf 16 = .ok (.getfield 36, 3) := by decide +kernel
theorem dX6_lengthOf_19 : decode cX6_lengthOf 19 = .ok (.aload_n 0, 1) := by decide +kernel
theorem dX6_lengthOf_20 : decode cX6_lengthOf 20 = .ok (.iload_n 1, 1) := by decide +kernel
theorem dX6_lengthOf_21 : decode cX6_lengthOf 21 = .ok (.invokevirtual 67, 3) := by decide +kernel
theorem dX6_lengthOf_24 : decode cX6_lengthOf 24 = .ok (.iaload, 1) := by decide +kernel
theorem dX6_lengthOf_25 : decode cX6_lengthOf 25 = .ok (.ireturn, 1) := by decide +kernel
def fX6_lengthOf (μ : Mem) (a1 : Int32) : Option (Int32 × Mem) :=
  (ld 20 (μ 2) a1).bind fun r5 =>
  if r5 = (6 : Int32) then
  some ((1 : Int32), μ)
  else
  bd (fX6_unitOf μ a1) fun r7 μ6 =>
  (ld 3 (μ6 10) r7).bind fun r8 =>
  some (r8, μ6)
theorem ctX6_lengthOf {l : Launch} {D : va_G} {cI cR : ClassId} {ad : Nat → Nat} {μ : Mem} {a1 : Int32} {r : Int32} {μ' : Mem} (hf : fX6_lengthOf μ a1 = some (r, μ')) : CT l yX6_lengthOf cX6_lengthOf 2 (some .int) 2 D cI cR ad shX NX [.ref (ad 1), .int a1] μ (some (.int r)) μ' :=
  ct_of (own := RX6) (ov := fun r => some (.int r)) (by decide +kernel) rfl (Nat.le_of_ble_eq_true rfl) (fun p e s m below meth c A0 E hr => by
    refine ll_lo (lo' := [some (.ref (ad 1)), some (.int a1)]) ⟨rfl, rfl, trivial⟩ ?_
    rw [fX6_lengthOf]
    refine ll_aload_n E (pc := 0) dX6_lengthOf_0 rfl ?_
    refine ll_getfr E (pc := 1) (o9 := 1) (ci := 6) (k9 := 1) (q := 2) dX6_lengthOf_1 fl_X6_9 (Nat.le_of_ble_eq_true rfl) fx_1_1 ?_
    refine ll_iload_n E (pc := 4) dX6_lengthOf_4 rfl ?_
    refine ll_iald E (pc := 5) (a := 2) dX6_lengthOf_5 (px_2).1 (px_2).2 ?_
    intro r5
    refine ll_bipush E (pc := 6) dX6_lengthOf_6 kb_6 ?_
    refine ll_icmp_ne E (pc := 8) (tgt := 15) dX6_lengthOf_8 rfl ?_ ?_
    · refine ll_aload_n E (pc := 15) dX6_lengthOf_15 rfl ?_
      refine ll_getfr E (pc := 16) (o9 := 1) (ci := 6) (k9 := 9) (q := 10) dX6_lengthOf_16 fl_X6_36 (Nat.le_of_ble_eq_true rfl) fx_1_9 ?_
      refine ll_aload_n E (pc := 19) dX6_lengthOf_19 rfl ?_
      refine ll_iload_n E (pc := 20) dX6_lengthOf_20 rfl ?_
      refine ll_callVi E (pc := 21) (d := 1) (ci := 6) (o9 := 1) [.int a1] [.ref (ad 10)] dX6_lengthOf_21 cv_X6_67 (fun h => ctX6_unitOf h) (Nat.le_of_ble_eq_true rfl) sx_1 ci_6 rfl rfl (Nat.le_of_ble_eq_true rfl) ⟨(Nat.le_of_ble_eq_true rfl), (Nat.le_of_ble_eq_true rfl)⟩ ⟨(Nat.le_of_ble_eq_true rfl), (Nat.le_of_ble_eq_true rfl)⟩ ?_
      intro r7 μ6
      refine ll_iald E (pc := 24) (a := 10) dX6_lengthOf_24 (px_10).1 (px_10).2 ?_
      intro r8
      exact ll_ireturn E (pc := 25) hr dX6_lengthOf_25
    · refine ll_iconst E (pc := 11) dX6_lengthOf_11 kc_1 ?_
      refine ll_goto E (pc := 12) (tgt := 25) dX6_lengthOf_12 rfl ?_
      exact ll_ireturn E (pc := 25) hr dX6_lengthOf_25) hf
theorem dX6_readsOf_0 : decode cX6_readsOf 0 = .ok (.aload_n 0, 1) := by decide +kernel
theorem dX6_readsOf_1 : decode cX6_readsOf 1 = .ok (.getfield 9, 3) := by decide +kernel
theorem dX6_readsOf_4 : decode cX6_readsOf 4 = .ok (.iload_n 1, 1) := by decide +kernel
theorem dX6_readsOf_5 : decode cX6_readsOf 5 = .ok (.iaload, 1) := by decide +kernel
theorem dX6_readsOf_6 : decode cX6_readsOf 6 = .ok (.ifCond .ne 5, 3) := by decide +kernel
theorem dX6_readsOf_9 : decode cX6_readsOf 9 = .ok (.iconst 0, 1) := by decide +kernel
theorem dX6_readsOf_10 : decode cX6_readsOf 10 = .ok (.ireturn, 1) := by decide +kernel
theorem dX6_readsOf_11 : decode cX6_readsOf 11 = .ok (.aload_n 0, 1) := by decide +kernel
theorem dX6_readsOf_12 : decode cX6_readsOf 12 = .ok (.getfield 9, 3) := by decide +kernel
theorem dX6_readsOf_15 : decode cX6_readsOf 15 = .ok (.iload_n 1, 1) := by decide +kernel
theorem dX6_readsOf_16 : decode cX6_readsOf 16 = .ok (.iaload, 1) := by decide +kernel
theorem dX6_readsOf_17 : decode cX6_readsOf 17 = .ok (.iconst 5, 1) := by decide +kernel
theorem dX6_readsOf_18 : decode cX6_readsOf 18 = .ok (.if_icmp .ne 12, 3) := by decide +kernel
theorem dX6_readsOf_21 : decode cX6_readsOf 21 = .ok (.iconst 1, 1) := by decide +kernel
theorem dX6_readsOf_22 : decode cX6_readsOf 22 = .ok (.aload_n 0, 1) := by decide +kernel
theorem dX6_readsOf_23 : decode cX6_readsOf 23 = .ok (.getfield 18, 3) := by decide +kernel
theorem dX6_readsOf_26 : decode cX6_readsOf 26 = .ok (.iload_n 1, 1) := by decide +kernel
theorem dX6_readsOf_27 : decode cX6_readsOf 27 = .ok (.iaload, 1) := by decide +kernel
theorem dX6_readsOf_28 : decode cX6_readsOf 28 = .ok (.ishl, 1) := by decide +kernel
theorem dX6_readsOf_29 : decode cX6_readsOf 29 = .ok (.ireturn, 1) := by decide +kernel
theorem dX6_readsOf_30 : decode cX6_readsOf 30 = .ok (.iconst 1, 1) := by decide +kernel
theorem dX6_readsOf_31 : decode cX6_readsOf 31 = .ok (.aload_n 0, 1) := by decide +kernel
theorem dX6_readsOf_32 : decode cX6_readsOf 32 = .ok (.getfield 18, 3) := by decide +kernel
theorem dX6_readsOf_35 : decode cX6_readsOf 35 = .ok (.iload_n 1, 1) := by decide +kernel
theorem dX6_readsOf_36 : decode cX6_readsOf 36 = .ok (.iaload, 1) := by decide +kernel
theorem dX6_readsOf_37 : decode cX6_readsOf 37 = .ok (.ishl, 1) := by decide +kernel
theorem dX6_readsOf_38 : decode cX6_readsOf 38 = .ok (.iconst 1, 1) := by decide +kernel
theorem dX6_readsOf_39 : decode cX6_readsOf 39 = .ok (.aload_n 0, 1) := by decide +kernel
theorem dX6_readsOf_40 : decode cX6_readsOf 40 = .ok (.getfield 21, 3) := by decide +kernel
theorem dX6_readsOf_43 : decode cX6_readsOf 43 = .ok (.iload_n 1, 1) := by decide +kernel
theorem dX6_readsOf_44 : decode cX6_readsOf 44 = .ok (.iaload, 1) := by decide +kernel
theorem dX6_readsOf_45 : decode cX6_readsOf 45 = .ok (.ishl, 1) := by decide +kernel
theorem dX6_readsOf_46 : decode cX6_readsOf 46 = .ok (.ior, 1) := by decide +kernel
theorem dX6_readsOf_47 : decode cX6_readsOf 47 = .ok (.ireturn, 1) := by decide +kernel
def fX6_readsOf (μ : Mem) (a1 : Int32) : Option (Int32 × Mem) :=
  (ld 20 (μ 2) a1).bind fun r6 =>
  if r6 = 0 then
  some ((0 : Int32), μ)
  else
  (ld 20 (μ 2) a1).bind fun r7 =>
  if r7 = (5 : Int32) then
  (ld 20 (μ 4) a1).bind fun r10 =>
  some (((1 : Int32) <<< (r10 &&& 31)), μ)
  else
  (ld 20 (μ 4) a1).bind fun r8 =>
  (ld 20 (μ 5) a1).bind fun r9 =>
  some ((((1 : Int32) <<< (r8 &&& 31)) ||| ((1 : Int32) <<< (r9 &&& 31))), μ)
theorem ctX6_readsOf {l : Launch} {D : va_G} {cI cR : ClassId} {ad : Nat → Nat} {μ : Mem} {a1 : Int32} {r : Int32} {μ' : Mem} (hf : fX6_readsOf μ a1 = some (r, μ')) : CT l yX6_readsOf cX6_readsOf 2 (some .int) 0 D cI cR ad shX NX [.ref (ad 1), .int a1] μ (some (.int r)) μ' :=
  ct_of (own := RX6) (ov := fun r => some (.int r)) (by decide +kernel) rfl (Nat.le_of_ble_eq_true rfl) (fun p e s m below meth c A0 E hr => by
    refine ll_lo (lo' := [some (.ref (ad 1)), some (.int a1)]) ⟨rfl, rfl, trivial⟩ ?_
    rw [fX6_readsOf]
    refine ll_aload_n E (pc := 0) dX6_readsOf_0 rfl ?_
    refine ll_getfr E (pc := 1) (o9 := 1) (ci := 6) (k9 := 1) (q := 2) dX6_readsOf_1 fl_X6_9 (Nat.le_of_ble_eq_true rfl) fx_1_1 ?_
    refine ll_iload_n E (pc := 4) dX6_readsOf_4 rfl ?_
    refine ll_iald E (pc := 5) (a := 2) dX6_readsOf_5 (px_2).1 (px_2).2 ?_
    intro r6
    refine ll_if_ne E (pc := 6) (tgt := 11) dX6_readsOf_6 rfl ?_ ?_
    · refine ll_aload_n E (pc := 11) dX6_readsOf_11 rfl ?_
      refine ll_getfr E (pc := 12) (o9 := 1) (ci := 6) (k9 := 1) (q := 2) dX6_readsOf_12 fl_X6_9 (Nat.le_of_ble_eq_true rfl) fx_1_1 ?_
      refine ll_iload_n E (pc := 15) dX6_readsOf_15 rfl ?_
      refine ll_iald E (pc := 16) (a := 2) dX6_readsOf_16 (px_2).1 (px_2).2 ?_
      intro r7
      refine ll_iconst E (pc := 17) dX6_readsOf_17 kc_5 ?_
      refine ll_icmp_ne E (pc := 18) (tgt := 30) dX6_readsOf_18 rfl ?_ ?_
      · refine ll_iconst E (pc := 30) dX6_readsOf_30 kc_1 ?_
        refine ll_aload_n E (pc := 31) dX6_readsOf_31 rfl ?_
        refine ll_getfr E (pc := 32) (o9 := 1) (ci := 6) (k9 := 3) (q := 4) dX6_readsOf_32 fl_X6_18 (Nat.le_of_ble_eq_true rfl) fx_1_3 ?_
        refine ll_iload_n E (pc := 35) dX6_readsOf_35 rfl ?_
        refine ll_iald E (pc := 36) (a := 4) dX6_readsOf_36 (px_4).1 (px_4).2 ?_
        intro r8
        refine ll_ishl E (pc := 37) dX6_readsOf_37 ?_
        refine ll_iconst E (pc := 38) dX6_readsOf_38 kc_1 ?_
        refine ll_aload_n E (pc := 39) dX6_readsOf_39 rfl ?_
        refine ll_getfr E (pc := 40) (o9 := 1) (ci := 6) (k9 := 4) (q := 5) dX6_readsOf_40 fl_X6_21 (Nat.le_of_ble_eq_true rfl) fx_1_4 ?_
        refine ll_iload_n E (pc := 43) dX6_readsOf_43 rfl ?_
        refine ll_iald E (pc := 44) (a := 5) dX6_readsOf_44 (px_5).1 (px_5).2 ?_
        intro r9
        refine ll_ishl E (pc := 45) dX6_readsOf_45 ?_
        refine ll_ior E (pc := 46) dX6_readsOf_46 ?_
        exact ll_ireturn E (pc := 47) hr dX6_readsOf_47
      · refine ll_iconst E (pc := 21) dX6_readsOf_21 kc_1 ?_
        refine ll_aload_n E (pc := 22) dX6_readsOf_22 rfl ?_
        refine ll_getfr E (pc := 23) (o9 := 1) (ci := 6) (k9 := 3) (q := 4) dX6_readsOf_23 fl_X6_18 (Nat.le_of_ble_eq_true rfl) fx_1_3 ?_
        refine ll_iload_n E (pc := 26) dX6_readsOf_26 rfl ?_
        refine ll_iald E (pc := 27) (a := 4) dX6_readsOf_27 (px_4).1 (px_4).2 ?_
        intro r10
        refine ll_ishl E (pc := 28) dX6_readsOf_28 ?_
        exact ll_ireturn E (pc := 29) hr dX6_readsOf_29
    · refine ll_iconst E (pc := 9) dX6_readsOf_9 kc_0 ?_
      exact ll_ireturn E (pc := 10) hr dX6_readsOf_10) hf
theorem dX6_writesOf_0 : decode cX6_writesOf 0 = .ok (.aload_n 0, 1) := by decide +kernel
theorem dX6_writesOf_1 : decode cX6_writesOf 1 = .ok (.getfield 9, 3) := by decide +kernel
theorem dX6_writesOf_4 : decode cX6_writesOf 4 = .ok (.iload_n 1, 1) := by decide +kernel
theorem dX6_writesOf_5 : decode cX6_writesOf 5 = .ok (.iaload, 1) := by decide +kernel
theorem dX6_writesOf_6 : decode cX6_writesOf 6 = .ok (.bipush 6, 2) := by decide +kernel
theorem dX6_writesOf_8 : decode cX6_writesOf 8 = .ok (.if_icmp .ne 7, 3) := by decide +kernel
theorem dX6_writesOf_11 : decode cX6_writesOf 11 = .ok (.iconst (-1), 1) := by decide +kernel
theorem dX6_writesOf_12 : decode cX6_writesOf 12 = .ok (.goto 9, 3) := by decide +kernel
theorem dX6_writesOf_15 : decode cX6_writesOf 15 = .ok (.aload_n 0, 1) := by decide +kernel
theorem dX6_writesOf_16 : decode cX6_writesOf 16 = .ok (.getfield 15, 3) := by decide +kernel
theorem dX6_writesOf_19 : decode cX6_writesOf 19 = .ok (.iload_n 1, 1) := by decide +kernel
theorem dX6_writesOf_20 : decode cX6_writesOf 20 = .ok (.iaload, 1) := by decide +kernel
theorem dX6_writesOf_21 : decode cX6_writesOf 21 = .ok (.ireturn, 1) := by decide +kernel
def fX6_writesOf (μ : Mem) (a1 : Int32) : Option (Int32 × Mem) :=
  (ld 20 (μ 2) a1).bind fun r3 =>
  if r3 = (6 : Int32) then
  some ((-1 : Int32), μ)
  else
  (ld 20 (μ 3) a1).bind fun r4 =>
  some (r4, μ)
theorem ctX6_writesOf {l : Launch} {D : va_G} {cI cR : ClassId} {ad : Nat → Nat} {μ : Mem} {a1 : Int32} {r : Int32} {μ' : Mem} (hf : fX6_writesOf μ a1 = some (r, μ')) : CT l yX6_writesOf cX6_writesOf 2 (some .int) 0 D cI cR ad shX NX [.ref (ad 1), .int a1] μ (some (.int r)) μ' :=
  ct_of (own := RX6) (ov := fun r => some (.int r)) (by decide +kernel) rfl (Nat.le_of_ble_eq_true rfl) (fun p e s m below meth c A0 E hr => by
    refine ll_lo (lo' := [some (.ref (ad 1)), some (.int a1)]) ⟨rfl, rfl, trivial⟩ ?_
    rw [fX6_writesOf]
    refine ll_aload_n E (pc := 0) dX6_writesOf_0 rfl ?_
    refine ll_getfr E (pc := 1) (o9 := 1) (ci := 6) (k9 := 1) (q := 2) dX6_writesOf_1 fl_X6_9 (Nat.le_of_ble_eq_true rfl) fx_1_1 ?_
    refine ll_iload_n E (pc := 4) dX6_writesOf_4 rfl ?_
    refine ll_iald E (pc := 5) (a := 2) dX6_writesOf_5 (px_2).1 (px_2).2 ?_
    intro r3
    refine ll_bipush E (pc := 6) dX6_writesOf_6 kb_6 ?_
    refine ll_icmp_ne E (pc := 8) (tgt := 15) dX6_writesOf_8 rfl ?_ ?_
    · refine ll_aload_n E (pc := 15) dX6_writesOf_15 rfl ?_
      refine ll_getfr E (pc := 16) (o9 := 1) (ci := 6) (k9 := 2) (q := 3) dX6_writesOf_16 fl_X6_15 (Nat.le_of_ble_eq_true rfl) fx_1_2 ?_
      refine ll_iload_n E (pc := 19) dX6_writesOf_19 rfl ?_
      refine ll_iald E (pc := 20) (a := 3) dX6_writesOf_20 (px_3).1 (px_3).2 ?_
      intro r4
      exact ll_ireturn E (pc := 21) hr dX6_writesOf_21
    · refine ll_iconst E (pc := 11) dX6_writesOf_11 kc_m1 ?_
      refine ll_goto E (pc := 12) (tgt := 21) dX6_writesOf_12 rfl ?_
      exact ll_ireturn E (pc := 21) hr dX6_writesOf_21) hf
theorem dX6_setLaidIn_0 : decode cX6_setLaidIn 0 = .ok (.iconst 0, 1) := by decide +kernel
theorem dX6_setLaidIn_1 : decode cX6_setLaidIn 1 = .ok (.istore_n 2, 1) := by decide +kernel
theorem dX6_setLaidIn_2 : decode cX6_setLaidIn 2 = .ok (.iconst 0, 1) := by decide +kernel
theorem dX6_setLaidIn_3 : decode cX6_setLaidIn 3 = .ok (.istore_n 3, 1) := by decide +kernel
theorem dX6_setLaidIn_4 : decode cX6_setLaidIn 4 = .ok (.iload_n 3, 1) := by decide +kernel
theorem dX6_setLaidIn_5 : decode cX6_setLaidIn 5 = .ok (.aload_n 0, 1) := by decide +kernel
theorem dX6_setLaidIn_6 : decode cX6_setLaidIn 6 = .ok (.getfield 43, 3) := by decide +kernel
theorem dX6_setLaidIn_9 : decode cX6_setLaidIn 9 = .ok (.if_icmp .ge 25, 3) := by decide +kernel
theorem dX6_setLaidIn_12 : decode cX6_setLaidIn 12 = .ok (.aload_n 0, 1) := by decide +kernel
theorem dX6_setLaidIn_13 : decode cX6_setLaidIn 13 = .ok (.getfield 27, 3) := by decide +kernel
theorem dX6_setLaidIn_16 : decode cX6_setLaidIn 16 = .ok (.iload_n 3, 1) := by decide +kernel
theorem dX6_setLaidIn_17 : decode cX6_setLaidIn 17 = .ok (.iaload, 1) := by decide +kernel
theorem dX6_setLaidIn_18 : decode cX6_setLaidIn 18 = .ok (.iload_n 1, 1) := by decide +kernel
theorem dX6_setLaidIn_19 : decode cX6_setLaidIn 19 = .ok (.if_icmp .ne 9, 3) := by decide +kernel
theorem dX6_setLaidIn_22 : decode cX6_setLaidIn 22 = .ok (.iload_n 2, 1) := by decide +kernel
theorem dX6_setLaidIn_23 : decode cX6_setLaidIn 23 = .ok (.iconst 1, 1) := by decide +kernel
theorem dX6_setLaidIn_24 : decode cX6_setLaidIn 24 = .ok (.iload_n 3, 1) := by decide +kernel
theorem dX6_setLaidIn_25 : decode cX6_setLaidIn 25 = .ok (.ishl, 1) := by decide +kernel
theorem dX6_setLaidIn_26 : decode cX6_setLaidIn 26 = .ok (.ior, 1) := by decide +kernel
theorem dX6_setLaidIn_27 : decode cX6_setLaidIn 27 = .ok (.istore_n 2, 1) := by decide +kernel
theorem dX6_setLaidIn_28 : decode cX6_setLaidIn 28 = .ok (.iinc 3 1, 3) := by decide +kernel
theorem dX6_setLaidIn_31 : decode cX6_setLaidIn 31 = .ok (.goto (-27), 3) := by decide +kernel
theorem dX6_setLaidIn_34 : decode cX6_setLaidIn 34 = .ok (.iload_n 2, 1) := by decide +kernel
theorem dX6_setLaidIn_35 : decode cX6_setLaidIn 35 = .ok (.ireturn, 1) := by decide +kernel
def fX6_setLaidIn_L28 (K4 : Int32 → Int32 → Int32 → Mem → Option (Int32 × Mem)) (v1 : Int32) (v2 : Int32) (v3 : Int32) (μ : Mem) : Option (Int32 × Mem) :=
  K4 v1 v2 (v3 + (1 : Int32)) μ
def fX6_setLaidIn_L4 : Nat → Int32 → Int32 → Int32 → Mem → Option (Int32 × Mem)
  | 0, _, _, _, _ => none
  | n + 1, v1, v2, v3, μ =>   if (μ 1 0) ≤ v3 then
  some (v2, μ)
  else
  (ld 20 (μ 7) v3).bind fun r2 =>
  if r2 = v1 then
  fX6_setLaidIn_L28 (fX6_setLaidIn_L4 n) v1 (v2 ||| ((1 : Int32) <<< (v3 &&& 31))) v3 μ
  else
  fX6_setLaidIn_L28 (fX6_setLaidIn_L4 n) v1 v2 v3 μ
def fX6_setLaidIn (μ : Mem) (a1 : Int32) : Option (Int32 × Mem) :=
  fX6_setLaidIn_L4 fu a1 (0 : Int32) (0 : Int32) μ
theorem kX6_setLaidIn_L28 {p : Program} {l : Launch} {e : Env} {s : State} {m : MethodId} {args : Array Value} {below : List Frame} {meth : Method} {c : Code} {D : va_G} {cI cR : ClassId} {ad : Nat → Nat} {A0 : Nat → Prop} (E : EV p s m args meth c cX6_setLaidIn 4 RX6 D cI cR ad shX NX A0) (hr : meth.sig.returnType = (some .int)) {K4 : Int32 → Int32 → Int32 → Mem → Option (Int32 × Mem)} (hK4 : ∀ (v1 : Int32) (v2 : Int32) (v3 : Int32) (μ : Mem), LL p l e (RM 0) s m args below meth c 4 D cI cR ad shX NX A0 (fun (r : Int32) μ' => KG below args s D cI cR ad shX NX A0 (some (.int r)) μ') (K4 v1 v2 v3 μ) 0 0 4 [some (.ref (ad 1)), some (.int v1), some (.int v2), some (.int v3)] [] μ) (v1 : Int32) (v2 : Int32) (v3 : Int32) (μ : Mem) : LL p l e (RM 0) s m args below meth c 4 D cI cR ad shX NX A0 (fun (r : Int32) μ' => KG below args s D cI cR ad shX NX A0 (some (.int r)) μ') (fX6_setLaidIn_L28 K4 v1 v2 v3 μ) 0 0 28 [some (.ref (ad 1)), some (.int v1), some (.int v2), some (.int v3)] [] μ := by
  rw [fX6_setLaidIn_L28]
  refine ll_iinc E (pc := 28) (lo' := [some (.ref (ad 1)), some (.int v1), some (.int v2), some (.int (v3 + (1 : Int32)))]) dX6_setLaidIn_28 rfl kc_1 (Nat.le_of_ble_eq_true rfl) rfl rfl ?_
  refine ll_goto E (pc := 31) (tgt := 4) dX6_setLaidIn_31 rfl ?_
  exact ll_lo (lo' := [some (.ref (ad 1)), some (.int v1), some (.int v2), some (.int (v3 + (1 : Int32)))]) ⟨rfl, rfl, rfl, rfl, trivial⟩ (hK4 v1 v2 (v3 + (1 : Int32)) μ)
theorem kX6_setLaidIn_L4 {p : Program} {l : Launch} {e : Env} {s : State} {m : MethodId} {args : Array Value} {below : List Frame} {meth : Method} {c : Code} {D : va_G} {cI cR : ClassId} {ad : Nat → Nat} {A0 : Nat → Prop} (E : EV p s m args meth c cX6_setLaidIn 4 RX6 D cI cR ad shX NX A0) (hr : meth.sig.returnType = (some .int)) (n : Nat) : ∀ (v1 : Int32) (v2 : Int32) (v3 : Int32) (μ : Mem), LL p l e (RM 0) s m args below meth c 4 D cI cR ad shX NX A0 (fun (r : Int32) μ' => KG below args s D cI cR ad shX NX A0 (some (.int r)) μ') (fX6_setLaidIn_L4 n v1 v2 v3 μ) 0 0 4 [some (.ref (ad 1)), some (.int v1), some (.int v2), some (.int v3)] [] μ := by
  induction n with
  | zero =>
    intros
    exact ll_none
  | succ n ih =>
    intro v1 v2 v3 μ
    rw [fX6_setLaidIn_L4]
    refine ll_iload_n E (pc := 4) dX6_setLaidIn_4 rfl ?_
    refine ll_aload_n E (pc := 5) dX6_setLaidIn_5 rfl ?_
    refine ll_getf E (pc := 6) (o9 := 1) (ci := 6) (k9 := 0) dX6_setLaidIn_6 fl_X6_43 (Nat.le_of_ble_eq_true rfl) fx_1_0 ?_
    refine ll_icmp_ge E (pc := 9) (tgt := 34) dX6_setLaidIn_9 rfl ?_ ?_
    · refine ll_iload_n E (pc := 34) dX6_setLaidIn_34 rfl ?_
      exact ll_ireturn E (pc := 35) hr dX6_setLaidIn_35
    · refine ll_aload_n E (pc := 12) dX6_setLaidIn_12 rfl ?_
      refine ll_getfr E (pc := 13) (o9 := 1) (ci := 6) (k9 := 6) (q := 7) dX6_setLaidIn_13 fl_X6_27 (Nat.le_of_ble_eq_true rfl) fx_1_6 ?_
      refine ll_iload_n E (pc := 16) dX6_setLaidIn_16 rfl ?_
      refine ll_iald E (pc := 17) (a := 7) dX6_setLaidIn_17 (px_7).1 (px_7).2 ?_
      intro r2
      refine ll_iload_n E (pc := 18) dX6_setLaidIn_18 rfl ?_
      refine ll_icmp_ne E (pc := 19) (tgt := 28) dX6_setLaidIn_19 rfl ?_ ?_
      · exact ll_lo (lo' := [some (.ref (ad 1)), some (.int v1), some (.int v2), some (.int v3)]) ⟨rfl, rfl, rfl, rfl, trivial⟩ (kX6_setLaidIn_L28 E hr ih v1 v2 v3 μ)
      · refine ll_iload_n E (pc := 22) dX6_setLaidIn_22 rfl ?_
        refine ll_iconst E (pc := 23) dX6_setLaidIn_23 kc_1 ?_
        refine ll_iload_n E (pc := 24) dX6_setLaidIn_24 rfl ?_
        refine ll_ishl E (pc := 25) dX6_setLaidIn_25 ?_
        refine ll_ior E (pc := 26) dX6_setLaidIn_26 ?_
        refine ll_istore_n E (pc := 27) (lo' := [some (.ref (ad 1)), some (.int v1), some (.int (v2 ||| ((1 : Int32) <<< (v3 &&& 31)))), some (.int v3)]) dX6_setLaidIn_27 (Nat.le_of_ble_eq_true rfl) rfl rfl ?_
        exact ll_lo (lo' := [some (.ref (ad 1)), some (.int v1), some (.int (v2 ||| ((1 : Int32) <<< (v3 &&& 31)))), some (.int v3)]) ⟨rfl, rfl, rfl, rfl, trivial⟩ (kX6_setLaidIn_L28 E hr ih v1 (v2 ||| ((1 : Int32) <<< (v3 &&& 31))) v3 μ)
theorem ctX6_setLaidIn {l : Launch} {D : va_G} {cI cR : ClassId} {ad : Nat → Nat} {μ : Mem} {a1 : Int32} {r : Int32} {μ' : Mem} (hf : fX6_setLaidIn μ a1 = some (r, μ')) : CT l yX6_setLaidIn cX6_setLaidIn 4 (some .int) 0 D cI cR ad shX NX [.ref (ad 1), .int a1] μ (some (.int r)) μ' :=
  ct_of (own := RX6) (ov := fun r => some (.int r)) (by decide +kernel) rfl (Nat.le_of_ble_eq_true rfl) (fun p e s m below meth c A0 E hr => by
    refine ll_lo (lo' := [some (.ref (ad 1)), some (.int a1), none, none]) ⟨rfl, rfl, trivial⟩ ?_
    rw [fX6_setLaidIn]
    refine ll_iconst E (pc := 0) dX6_setLaidIn_0 kc_0 ?_
    refine ll_istore_n E (pc := 1) (lo' := [some (.ref (ad 1)), some (.int a1), some (.int (0 : Int32)), none]) dX6_setLaidIn_1 (Nat.le_of_ble_eq_true rfl) rfl rfl ?_
    refine ll_iconst E (pc := 2) dX6_setLaidIn_2 kc_0 ?_
    refine ll_istore_n E (pc := 3) (lo' := [some (.ref (ad 1)), some (.int a1), some (.int (0 : Int32)), some (.int (0 : Int32))]) dX6_setLaidIn_3 (Nat.le_of_ble_eq_true rfl) rfl rfl ?_
    exact ll_lo (lo' := [some (.ref (ad 1)), some (.int a1), some (.int (0 : Int32)), some (.int (0 : Int32))]) ⟨rfl, rfl, rfl, rfl, trivial⟩ (kX6_setLaidIn_L4 E hr fu a1 (0 : Int32) (0 : Int32) μ)) hf
theorem dX6_countLaid_0 : decode cX6_countLaid 0 = .ok (.iconst 0, 1) := by decide +kernel
theorem dX6_countLaid_1 : decode cX6_countLaid 1 = .ok (.istore_n 1, 1) := by decide +kernel
theorem dX6_countLaid_2 : decode cX6_countLaid 2 = .ok (.iconst 0, 1) := by decide +kernel
theorem dX6_countLaid_3 : decode cX6_countLaid 3 = .ok (.istore_n 2, 1) := by decide +kernel
theorem dX6_countLaid_4 : decode cX6_countLaid 4 = .ok (.iload_n 2, 1) := by decide +kernel
theorem dX6_countLaid_5 : decode cX6_countLaid 5 = .ok (.aload_n 0, 1) := by decide +kernel
theorem dX6_countLaid_6 : decode cX6_countLaid 6 = .ok (.getfield 43, 3) := by decide +kernel
theorem dX6_countLaid_9 : decode cX6_countLaid 9 = .ok (.if_icmp .ge 22, 3) := by decide +kernel
theorem dX6_countLaid_12 : decode cX6_countLaid 12 = .ok (.aload_n 0, 1) := by decide +kernel
theorem dX6_countLaid_13 : decode cX6_countLaid 13 = .ok (.getfield 27, 3) := by decide +kernel
theorem dX6_countLaid_16 : decode cX6_countLaid 16 = .ok (.iload_n 2, 1) := by decide +kernel
theorem dX6_countLaid_17 : decode cX6_countLaid 17 = .ok (.iaload, 1) := by decide +kernel
theorem dX6_countLaid_18 : decode cX6_countLaid 18 = .ok (.iconst (-1), 1) := by decide +kernel
theorem dX6_countLaid_19 : decode cX6_countLaid 19 = .ok (.if_icmp .eq 6, 3) := by decide +kernel
theorem dX6_countLaid_22 : decode cX6_countLaid 22 = .ok (.iinc 1 1, 3) := by decide +kernel
theorem dX6_countLaid_25 : decode cX6_countLaid 25 = .ok (.iinc 2 1, 3) := by decide +kernel
theorem dX6_countLaid_28 : decode cX6_countLaid 28 = .ok (.goto (-24), 3) := by decide +kernel
theorem dX6_countLaid_31 : decode cX6_countLaid 31 = .ok (.iload_n 1, 1) := by decide +kernel
theorem dX6_countLaid_32 : decode cX6_countLaid 32 = .ok (.ireturn, 1) := by decide +kernel
def fX6_countLaid_L25 (K4 : Int32 → Int32 → Mem → Option (Int32 × Mem)) (v1 : Int32) (v2 : Int32) (μ : Mem) : Option (Int32 × Mem) :=
  K4 v1 (v2 + (1 : Int32)) μ
def fX6_countLaid_L4 : Nat → Int32 → Int32 → Mem → Option (Int32 × Mem)
  | 0, _, _, _ => none
  | n + 1, v1, v2, μ =>   if (μ 1 0) ≤ v2 then
  some (v1, μ)
  else
  (ld 20 (μ 7) v2).bind fun r2 =>
  if r2 = (-1 : Int32) then
  fX6_countLaid_L25 (fX6_countLaid_L4 n) v1 v2 μ
  else
  fX6_countLaid_L25 (fX6_countLaid_L4 n) (v1 + (1 : Int32)) v2 μ
def fX6_countLaid (μ : Mem) : Option (Int32 × Mem) :=
  fX6_countLaid_L4 fu (0 : Int32) (0 : Int32) μ
theorem kX6_countLaid_L25 {p : Program} {l : Launch} {e : Env} {s : State} {m : MethodId} {args : Array Value} {below : List Frame} {meth : Method} {c : Code} {D : va_G} {cI cR : ClassId} {ad : Nat → Nat} {A0 : Nat → Prop} (E : EV p s m args meth c cX6_countLaid 3 RX6 D cI cR ad shX NX A0) (hr : meth.sig.returnType = (some .int)) {K4 : Int32 → Int32 → Mem → Option (Int32 × Mem)} (hK4 : ∀ (v1 : Int32) (v2 : Int32) (μ : Mem), LL p l e (RM 0) s m args below meth c 3 D cI cR ad shX NX A0 (fun (r : Int32) μ' => KG below args s D cI cR ad shX NX A0 (some (.int r)) μ') (K4 v1 v2 μ) 0 0 4 [some (.ref (ad 1)), some (.int v1), some (.int v2)] [] μ) (v1 : Int32) (v2 : Int32) (μ : Mem) : LL p l e (RM 0) s m args below meth c 3 D cI cR ad shX NX A0 (fun (r : Int32) μ' => KG below args s D cI cR ad shX NX A0 (some (.int r)) μ') (fX6_countLaid_L25 K4 v1 v2 μ) 0 0 25 [some (.ref (ad 1)), some (.int v1), some (.int v2)] [] μ := by
  rw [fX6_countLaid_L25]
  refine ll_iinc E (pc := 25) (lo' := [some (.ref (ad 1)), some (.int v1), some (.int (v2 + (1 : Int32)))]) dX6_countLaid_25 rfl kc_1 (Nat.le_of_ble_eq_true rfl) rfl rfl ?_
  refine ll_goto E (pc := 28) (tgt := 4) dX6_countLaid_28 rfl ?_
  exact ll_lo (lo' := [some (.ref (ad 1)), some (.int v1), some (.int (v2 + (1 : Int32)))]) ⟨rfl, rfl, rfl, trivial⟩ (hK4 v1 (v2 + (1 : Int32)) μ)
theorem kX6_countLaid_L4 {p : Program} {l : Launch} {e : Env} {s : State} {m : MethodId} {args : Array Value} {below : List Frame} {meth : Method} {c : Code} {D : va_G} {cI cR : ClassId} {ad : Nat → Nat} {A0 : Nat → Prop} (E : EV p s m args meth c cX6_countLaid 3 RX6 D cI cR ad shX NX A0) (hr : meth.sig.returnType = (some .int)) (n : Nat) : ∀ (v1 : Int32) (v2 : Int32) (μ : Mem), LL p l e (RM 0) s m args below meth c 3 D cI cR ad shX NX A0 (fun (r : Int32) μ' => KG below args s D cI cR ad shX NX A0 (some (.int r)) μ') (fX6_countLaid_L4 n v1 v2 μ) 0 0 4 [some (.ref (ad 1)), some (.int v1), some (.int v2)] [] μ := by
  induction n with
  | zero =>
    intros
    exact ll_none
  | succ n ih =>
    intro v1 v2 μ
    rw [fX6_countLaid_L4]
    refine ll_iload_n E (pc := 4) dX6_countLaid_4 rfl ?_
    refine ll_aload_n E (pc := 5) dX6_countLaid_5 rfl ?_
    refine ll_getf E (pc := 6) (o9 := 1) (ci := 6) (k9 := 0) dX6_countLaid_6 fl_X6_43 (Nat.le_of_ble_eq_true rfl) fx_1_0 ?_
    refine ll_icmp_ge E (pc := 9) (tgt := 31) dX6_countLaid_9 rfl ?_ ?_
    · refine ll_iload_n E (pc := 31) dX6_countLaid_31 rfl ?_
      exact ll_ireturn E (pc := 32) hr dX6_countLaid_32
    · refine ll_aload_n E (pc := 12) dX6_countLaid_12 rfl ?_
      refine ll_getfr E (pc := 13) (o9 := 1) (ci := 6) (k9 := 6) (q := 7) dX6_countLaid_13 fl_X6_27 (Nat.le_of_ble_eq_true rfl) fx_1_6 ?_
      refine ll_iload_n E (pc := 16) dX6_countLaid_16 rfl ?_
      refine ll_iald E (pc := 17) (a := 7) dX6_countLaid_17 (px_7).1 (px_7).2 ?_
      intro r2
      refine ll_iconst E (pc := 18) dX6_countLaid_18 kc_m1 ?_
      refine ll_icmp_eq E (pc := 19) (tgt := 25) dX6_countLaid_19 rfl ?_ ?_
      · exact ll_lo (lo' := [some (.ref (ad 1)), some (.int v1), some (.int v2)]) ⟨rfl, rfl, rfl, trivial⟩ (kX6_countLaid_L25 E hr ih v1 v2 μ)
      · refine ll_iinc E (pc := 22) (lo' := [some (.ref (ad 1)), some (.int (v1 + (1 : Int32))), some (.int v2)]) dX6_countLaid_22 rfl kc_1 (Nat.le_of_ble_eq_true rfl) rfl rfl ?_
        exact ll_lo (lo' := [some (.ref (ad 1)), some (.int (v1 + (1 : Int32))), some (.int v2)]) ⟨rfl, rfl, rfl, trivial⟩ (kX6_countLaid_L25 E hr ih (v1 + (1 : Int32)) v2 μ)
theorem ctX6_countLaid {l : Launch} {D : va_G} {cI cR : ClassId} {ad : Nat → Nat} {μ : Mem} {r : Int32} {μ' : Mem} (hf : fX6_countLaid μ = some (r, μ')) : CT l yX6_countLaid cX6_countLaid 3 (some .int) 0 D cI cR ad shX NX [.ref (ad 1)] μ (some (.int r)) μ' :=
  ct_of (own := RX6) (ov := fun r => some (.int r)) (by decide +kernel) rfl (Nat.le_of_ble_eq_true rfl) (fun p e s m below meth c A0 E hr => by
    refine ll_lo (lo' := [some (.ref (ad 1)), none, none]) ⟨rfl, trivial⟩ ?_
    rw [fX6_countLaid]
    refine ll_iconst E (pc := 0) dX6_countLaid_0 kc_0 ?_
    refine ll_istore_n E (pc := 1) (lo' := [some (.ref (ad 1)), some (.int (0 : Int32)), none]) dX6_countLaid_1 (Nat.le_of_ble_eq_true rfl) rfl rfl ?_
    refine ll_iconst E (pc := 2) dX6_countLaid_2 kc_0 ?_
    refine ll_istore_n E (pc := 3) (lo' := [some (.ref (ad 1)), some (.int (0 : Int32)), some (.int (0 : Int32))]) dX6_countLaid_3 (Nat.le_of_ble_eq_true rfl) rfl rfl ?_
    exact ll_lo (lo' := [some (.ref (ad 1)), some (.int (0 : Int32)), some (.int (0 : Int32))]) ⟨rfl, rfl, rfl, trivial⟩ (kX6_countLaid_L4 E hr fu (0 : Int32) (0 : Int32) μ)) hf
theorem dX6_lowestNotLaid_0 : decode cX6_lowestNotLaid 0 = .ok (.iconst 0, 1) := by decide +kernel
theorem dX6_lowestNotLaid_1 : decode cX6_lowestNotLaid 1 = .ok (.istore_n 1, 1) := by decide +kernel
theorem dX6_lowestNotLaid_2 : decode cX6_lowestNotLaid 2 = .ok (.iload_n 1, 1) := by decide +kernel
theorem dX6_lowestNotLaid_3 : decode cX6_lowestNotLaid 3 = .ok (.aload_n 0, 1) := by decide +kernel
theorem dX6_lowestNotLaid_4 : decode cX6_lowestNotLaid 4 = .ok (.getfield 43, 3) := by decide +kernel
theorem dX6_lowestNotLaid_7 : decode cX6_lowestNotLaid 7 = .ok (.if_icmp .ge 21, 3) := by decide +kernel
theorem dX6_lowestNotLaid_10 : decode cX6_lowestNotLaid 10 = .ok (.aload_n 0, 1) := by decide +kernel
theorem dX6_lowestNotLaid_11 : decode cX6_lowestNotLaid 11 = .ok (.getfield 27, 3) := by decide +kernel
theorem dX6_lowestNotLaid_14 : decode cX6_lowestNotLaid 14 = .ok (.iload_n 1, 1) := by decide +kernel
theorem dX6_lowestNotLaid_15 : decode cX6_lowestNotLaid 15 = .ok (.iaload, 1) := by decide +kernel
theorem dX6_lowestNotLaid_16 : decode cX6_lowestNotLaid 16 = .ok (.iconst (-1), 1) := by decide +kernel
theorem dX6_lowestNotLaid_17 : decode cX6_lowestNotLaid 17 = .ok (.if_icmp .ne 5, 3) := by decide +kernel
theorem dX6_lowestNotLaid_20 : decode cX6_lowestNotLaid 20 = .ok (.iload_n 1, 1) := by decide +kernel
theorem dX6_lowestNotLaid_21 : decode cX6_lowestNotLaid 21 = .ok (.ireturn, 1) := by decide +kernel
theorem dX6_lowestNotLaid_22 : decode cX6_lowestNotLaid 22 = .ok (.iinc 1 1, 3) := by decide +kernel
theorem dX6_lowestNotLaid_25 : decode cX6_lowestNotLaid 25 = .ok (.goto (-23), 3) := by decide +kernel
theorem dX6_lowestNotLaid_28 : decode cX6_lowestNotLaid 28 = .ok (.iconst (-1), 1) := by decide +kernel
theorem dX6_lowestNotLaid_29 : decode cX6_lowestNotLaid 29 = .ok (.ireturn, 1) := by decide +kernel
def fX6_lowestNotLaid_L2 : Nat → Int32 → Mem → Option (Int32 × Mem)
  | 0, _, _ => none
  | n + 1, v1, μ =>   if (μ 1 0) ≤ v1 then
  some ((-1 : Int32), μ)
  else
  (ld 20 (μ 7) v1).bind fun r2 =>
  if r2 = (-1 : Int32) then
  some (v1, μ)
  else
  fX6_lowestNotLaid_L2 n (v1 + (1 : Int32)) μ
def fX6_lowestNotLaid (μ : Mem) : Option (Int32 × Mem) :=
  fX6_lowestNotLaid_L2 fu (0 : Int32) μ
theorem kX6_lowestNotLaid_L2 {p : Program} {l : Launch} {e : Env} {s : State} {m : MethodId} {args : Array Value} {below : List Frame} {meth : Method} {c : Code} {D : va_G} {cI cR : ClassId} {ad : Nat → Nat} {A0 : Nat → Prop} (E : EV p s m args meth c cX6_lowestNotLaid 2 RX6 D cI cR ad shX NX A0) (hr : meth.sig.returnType = (some .int)) (n : Nat) : ∀ (v1 : Int32) (μ : Mem), LL p l e (RM 0) s m args below meth c 2 D cI cR ad shX NX A0 (fun (r : Int32) μ' => KG below args s D cI cR ad shX NX A0 (some (.int r)) μ') (fX6_lowestNotLaid_L2 n v1 μ) 0 0 2 [some (.ref (ad 1)), some (.int v1)] [] μ := by
  induction n with
  | zero =>
    intros
    exact ll_none
  | succ n ih =>
    intro v1 μ
    rw [fX6_lowestNotLaid_L2]
    refine ll_iload_n E (pc := 2) dX6_lowestNotLaid_2 rfl ?_
    refine ll_aload_n E (pc := 3) dX6_lowestNotLaid_3 rfl ?_
    refine ll_getf E (pc := 4) (o9 := 1) (ci := 6) (k9 := 0) dX6_lowestNotLaid_4 fl_X6_43 (Nat.le_of_ble_eq_true rfl) fx_1_0 ?_
    refine ll_icmp_ge E (pc := 7) (tgt := 28) dX6_lowestNotLaid_7 rfl ?_ ?_
    · refine ll_iconst E (pc := 28) dX6_lowestNotLaid_28 kc_m1 ?_
      exact ll_ireturn E (pc := 29) hr dX6_lowestNotLaid_29
    · refine ll_aload_n E (pc := 10) dX6_lowestNotLaid_10 rfl ?_
      refine ll_getfr E (pc := 11) (o9 := 1) (ci := 6) (k9 := 6) (q := 7) dX6_lowestNotLaid_11 fl_X6_27 (Nat.le_of_ble_eq_true rfl) fx_1_6 ?_
      refine ll_iload_n E (pc := 14) dX6_lowestNotLaid_14 rfl ?_
      refine ll_iald E (pc := 15) (a := 7) dX6_lowestNotLaid_15 (px_7).1 (px_7).2 ?_
      intro r2
      refine ll_iconst E (pc := 16) dX6_lowestNotLaid_16 kc_m1 ?_
      refine ll_icmp_ne E (pc := 17) (tgt := 22) dX6_lowestNotLaid_17 rfl ?_ ?_
      · refine ll_iinc E (pc := 22) (lo' := [some (.ref (ad 1)), some (.int (v1 + (1 : Int32)))]) dX6_lowestNotLaid_22 rfl kc_1 (Nat.le_of_ble_eq_true rfl) rfl rfl ?_
        refine ll_goto E (pc := 25) (tgt := 2) dX6_lowestNotLaid_25 rfl ?_
        exact ll_lo (lo' := [some (.ref (ad 1)), some (.int (v1 + (1 : Int32)))]) ⟨rfl, rfl, trivial⟩ (ih (v1 + (1 : Int32)) μ)
      · refine ll_iload_n E (pc := 20) dX6_lowestNotLaid_20 rfl ?_
        exact ll_ireturn E (pc := 21) hr dX6_lowestNotLaid_21
theorem ctX6_lowestNotLaid {l : Launch} {D : va_G} {cI cR : ClassId} {ad : Nat → Nat} {μ : Mem} {r : Int32} {μ' : Mem} (hf : fX6_lowestNotLaid μ = some (r, μ')) : CT l yX6_lowestNotLaid cX6_lowestNotLaid 2 (some .int) 0 D cI cR ad shX NX [.ref (ad 1)] μ (some (.int r)) μ' :=
  ct_of (own := RX6) (ov := fun r => some (.int r)) (by decide +kernel) rfl (Nat.le_of_ble_eq_true rfl) (fun p e s m below meth c A0 E hr => by
    refine ll_lo (lo' := [some (.ref (ad 1)), none]) ⟨rfl, trivial⟩ ?_
    rw [fX6_lowestNotLaid]
    refine ll_iconst E (pc := 0) dX6_lowestNotLaid_0 kc_0 ?_
    refine ll_istore_n E (pc := 1) (lo' := [some (.ref (ad 1)), some (.int (0 : Int32))]) dX6_lowestNotLaid_1 (Nat.le_of_ble_eq_true rfl) rfl rfl ?_
    exact ll_lo (lo' := [some (.ref (ad 1)), some (.int (0 : Int32))]) ⟨rfl, rfl, trivial⟩ (kX6_lowestNotLaid_L2 E hr fu (0 : Int32) μ)) hf
theorem dX6_countBeside_0 : decode cX6_countBeside 0 = .ok (.iconst 0, 1) := by decide +kernel
theorem dX6_countBeside_1 : decode cX6_countBeside 1 = .ok (.istore_n 2, 1) := by decide +kernel
theorem dX6_countBeside_2 : decode cX6_countBeside 2 = .ok (.iconst 0, 1) := by decide +kernel
theorem dX6_countBeside_3 : decode cX6_countBeside 3 = .ok (.istore_n 3, 1) := by decide +kernel
theorem dX6_countBeside_4 : decode cX6_countBeside 4 = .ok (.iload_n 3, 1) := by decide +kernel
theorem dX6_countBeside_5 : decode cX6_countBeside 5 = .ok (.aload_n 0, 1) := by decide +kernel
theorem dX6_countBeside_6 : decode cX6_countBeside 6 = .ok (.getfield 43, 3) := by decide +kernel
theorem dX6_countBeside_9 : decode cX6_countBeside 9 = .ok (.if_icmp .ge 40, 3) := by decide +kernel
theorem dX6_countBeside_12 : decode cX6_countBeside 12 = .ok (.aload_n 0, 1) := by decide +kernel
theorem dX6_countBeside_13 : decode cX6_countBeside 13 = .ok (.getfield 27, 3) := by decide +kernel
theorem dX6_countBeside_16 : decode cX6_countBeside 16 = .ok (.iload_n 3, 1) := by decide +kernel
theorem dX6_countBeside_17 : decode cX6_countBeside 17 = .ok (.iaload, 1) := by decide +kernel
theorem dX6_countBeside_18 : decode cX6_countBeside 18 = .ok (.aload_n 0, 1) := by decide +kernel
theorem dX6_countBeside_19 : decode cX6_countBeside 19 = .ok (.getfield 27, 3) := by decide +kernel
theorem dX6_countBeside_22 : decode cX6_countBeside 22 = .ok (.iload_n 1, 1) := by decide +kernel
theorem dX6_countBeside_23 : decode cX6_countBeside 23 = .ok (.iaload, 1) := by decide +kernel
theorem dX6_countBeside_24 : decode cX6_countBeside 24 = .ok (.if_icmp .ne 19, 3) := by decide +kernel
theorem dX6_countBeside_27 : decode cX6_countBeside 27 = .ok (.aload_n 0, 1) := by decide +kernel
theorem dX6_countBeside_28 : decode cX6_countBeside 28 = .ok (.iload_n 3, 1) := by decide +kernel
theorem dX6_countBeside_29 : decode cX6_countBeside 29 = .ok (.invokevirtual 67, 3) := by decide +kernel
theorem dX6_countBeside_32 : decode cX6_countBeside 32 = .ok (.aload_n 0, 1) := by decide +kernel
theorem dX6_countBeside_33 : decode cX6_countBeside 33 = .ok (.iload_n 1, 1) := by decide +kernel
theorem dX6_countBeside_34 : decode cX6_countBeside 34 = .ok (.invokevirtual 67, 3) := by decide +kernel
theorem dX6_countBeside_37 : decode cX6_countBeside 37 = .ok (.if_icmp .ne 6, 3) := by decide +kernel
theorem dX6_countBeside_40 : decode cX6_countBeside 40 = .ok (.iinc 2 1, 3) := by decide +kernel
theorem dX6_countBeside_43 : decode cX6_countBeside 43 = .ok (.iinc 3 1, 3) := by decide +kernel
theorem dX6_countBeside_46 : decode cX6_countBeside 46 = .ok (.goto (-42), 3) := by decide +kernel
theorem dX6_countBeside_49 : decode cX6_countBeside 49 = .ok (.iload_n 2, 1) := by decide +kernel
theorem dX6_countBeside_50 : decode cX6_countBeside 50 = .ok (.ireturn, 1) := by decide +kernel
def fX6_countBeside_L43 (K4 : Int32 → Int32 → Int32 → Mem → Option (Int32 × Mem)) (v1 : Int32) (v2 : Int32) (v3 : Int32) (μ : Mem) : Option (Int32 × Mem) :=
  K4 v1 v2 (v3 + (1 : Int32)) μ
def fX6_countBeside_L4 : Nat → Int32 → Int32 → Int32 → Mem → Option (Int32 × Mem)
  | 0, _, _, _, _ => none
  | n + 1, v1, v2, v3, μ =>   if (μ 1 0) ≤ v3 then
  some (v2, μ)
  else
  (ld 20 (μ 7) v3).bind fun r7 =>
  (ld 20 (μ 7) v1).bind fun r8 =>
  if r7 = r8 then
  bd (fX6_unitOf μ v3) fun r10 μ9 =>
  bd (fX6_unitOf μ9 v1) fun r12 μ11 =>
  if r10 = r12 then
  fX6_countBeside_L43 (fX6_countBeside_L4 n) v1 (v2 + (1 : Int32)) v3 μ11
  else
  fX6_countBeside_L43 (fX6_countBeside_L4 n) v1 v2 v3 μ11
  else
  fX6_countBeside_L43 (fX6_countBeside_L4 n) v1 v2 v3 μ
def fX6_countBeside (μ : Mem) (a1 : Int32) : Option (Int32 × Mem) :=
  fX6_countBeside_L4 fu a1 (0 : Int32) (0 : Int32) μ
theorem kX6_countBeside_L43 {p : Program} {l : Launch} {e : Env} {s : State} {m : MethodId} {args : Array Value} {below : List Frame} {meth : Method} {c : Code} {D : va_G} {cI cR : ClassId} {ad : Nat → Nat} {A0 : Nat → Prop} (E : EV p s m args meth c cX6_countBeside 4 RX6 D cI cR ad shX NX A0) (hr : meth.sig.returnType = (some .int)) {K4 : Int32 → Int32 → Int32 → Mem → Option (Int32 × Mem)} (hK4 : ∀ (v1 : Int32) (v2 : Int32) (v3 : Int32) (μ : Mem), LL p l e (RM 2) s m args below meth c 4 D cI cR ad shX NX A0 (fun (r : Int32) μ' => KG below args s D cI cR ad shX NX A0 (some (.int r)) μ') (K4 v1 v2 v3 μ) 0 0 4 [some (.ref (ad 1)), some (.int v1), some (.int v2), some (.int v3)] [] μ) (v1 : Int32) (v2 : Int32) (v3 : Int32) (μ : Mem) : LL p l e (RM 2) s m args below meth c 4 D cI cR ad shX NX A0 (fun (r : Int32) μ' => KG below args s D cI cR ad shX NX A0 (some (.int r)) μ') (fX6_countBeside_L43 K4 v1 v2 v3 μ) 0 0 43 [some (.ref (ad 1)), some (.int v1), some (.int v2), some (.int v3)] [] μ := by
  rw [fX6_countBeside_L43]
  refine ll_iinc E (pc := 43) (lo' := [some (.ref (ad 1)), some (.int v1), some (.int v2), some (.int (v3 + (1 : Int32)))]) dX6_countBeside_43 rfl kc_1 (Nat.le_of_ble_eq_true rfl) rfl rfl ?_
  refine ll_goto E (pc := 46) (tgt := 4) dX6_countBeside_46 rfl ?_
  exact ll_lo (lo' := [some (.ref (ad 1)), some (.int v1), some (.int v2), some (.int (v3 + (1 : Int32)))]) ⟨rfl, rfl, rfl, rfl, trivial⟩ (hK4 v1 v2 (v3 + (1 : Int32)) μ)
theorem kX6_countBeside_L4 {p : Program} {l : Launch} {e : Env} {s : State} {m : MethodId} {args : Array Value} {below : List Frame} {meth : Method} {c : Code} {D : va_G} {cI cR : ClassId} {ad : Nat → Nat} {A0 : Nat → Prop} (E : EV p s m args meth c cX6_countBeside 4 RX6 D cI cR ad shX NX A0) (hr : meth.sig.returnType = (some .int)) (n : Nat) : ∀ (v1 : Int32) (v2 : Int32) (v3 : Int32) (μ : Mem), LL p l e (RM 2) s m args below meth c 4 D cI cR ad shX NX A0 (fun (r : Int32) μ' => KG below args s D cI cR ad shX NX A0 (some (.int r)) μ') (fX6_countBeside_L4 n v1 v2 v3 μ) 0 0 4 [some (.ref (ad 1)), some (.int v1), some (.int v2), some (.int v3)] [] μ := by
  induction n with
  | zero =>
    intros
    exact ll_none
  | succ n ih =>
    intro v1 v2 v3 μ
    rw [fX6_countBeside_L4]
    refine ll_iload_n E (pc := 4) dX6_countBeside_4 rfl ?_
    refine ll_aload_n E (pc := 5) dX6_countBeside_5 rfl ?_
    refine ll_getf E (pc := 6) (o9 := 1) (ci := 6) (k9 := 0) dX6_countBeside_6 fl_X6_43 (Nat.le_of_ble_eq_true rfl) fx_1_0 ?_
    refine ll_icmp_ge E (pc := 9) (tgt := 49) dX6_countBeside_9 rfl ?_ ?_
    · refine ll_iload_n E (pc := 49) dX6_countBeside_49 rfl ?_
      exact ll_ireturn E (pc := 50) hr dX6_countBeside_50
    · refine ll_aload_n E (pc := 12) dX6_countBeside_12 rfl ?_
      refine ll_getfr E (pc := 13) (o9 := 1) (ci := 6) (k9 := 6) (q := 7) dX6_countBeside_13 fl_X6_27 (Nat.le_of_ble_eq_true rfl) fx_1_6 ?_
      refine ll_iload_n E (pc := 16) dX6_countBeside_16 rfl ?_
      refine ll_iald E (pc := 17) (a := 7) dX6_countBeside_17 (px_7).1 (px_7).2 ?_
      intro r7
      refine ll_aload_n E (pc := 18) dX6_countBeside_18 rfl ?_
      refine ll_getfr E (pc := 19) (o9 := 1) (ci := 6) (k9 := 6) (q := 7) dX6_countBeside_19 fl_X6_27 (Nat.le_of_ble_eq_true rfl) fx_1_6 ?_
      refine ll_iload_n E (pc := 22) dX6_countBeside_22 rfl ?_
      refine ll_iald E (pc := 23) (a := 7) dX6_countBeside_23 (px_7).1 (px_7).2 ?_
      intro r8
      refine ll_icmp_ne E (pc := 24) (tgt := 43) dX6_countBeside_24 rfl ?_ ?_
      · exact ll_lo (lo' := [some (.ref (ad 1)), some (.int v1), some (.int v2), some (.int v3)]) ⟨rfl, rfl, rfl, rfl, trivial⟩ (kX6_countBeside_L43 E hr ih v1 v2 v3 μ)
      · refine ll_aload_n E (pc := 27) dX6_countBeside_27 rfl ?_
        refine ll_iload_n E (pc := 28) dX6_countBeside_28 rfl ?_
        refine ll_callVi E (pc := 29) (d := 1) (ci := 6) (o9 := 1) [.int v3] [] dX6_countBeside_29 cv_X6_67 (fun h => ctX6_unitOf h) (Nat.le_of_ble_eq_true rfl) sx_1 ci_6 rfl rfl (Nat.le_of_ble_eq_true rfl) ⟨(Nat.le_of_ble_eq_true rfl), (Nat.le_of_ble_eq_true rfl)⟩ ⟨(Nat.le_of_ble_eq_true rfl), (Nat.le_of_ble_eq_true rfl)⟩ ?_
        intro r10 μ9
        refine ll_aload_n E (pc := 32) dX6_countBeside_32 rfl ?_
        refine ll_iload_n E (pc := 33) dX6_countBeside_33 rfl ?_
        refine ll_callVi E (pc := 34) (d := 1) (ci := 6) (o9 := 1) [.int v1] [.int r10] dX6_countBeside_34 cv_X6_67 (fun h => ctX6_unitOf h) (Nat.le_of_ble_eq_true rfl) sx_1 ci_6 rfl rfl (Nat.le_of_ble_eq_true rfl) ⟨(Nat.le_of_ble_eq_true rfl), (Nat.le_of_ble_eq_true rfl)⟩ ⟨(Nat.le_of_ble_eq_true rfl), (Nat.le_of_ble_eq_true rfl)⟩ ?_
        intro r12 μ11
        refine ll_icmp_ne E (pc := 37) (tgt := 43) dX6_countBeside_37 rfl ?_ ?_
        · exact ll_lo (lo' := [some (.ref (ad 1)), some (.int v1), some (.int v2), some (.int v3)]) ⟨rfl, rfl, rfl, rfl, trivial⟩ (kX6_countBeside_L43 E hr ih v1 v2 v3 μ11)
        · refine ll_iinc E (pc := 40) (lo' := [some (.ref (ad 1)), some (.int v1), some (.int (v2 + (1 : Int32))), some (.int v3)]) dX6_countBeside_40 rfl kc_1 (Nat.le_of_ble_eq_true rfl) rfl rfl ?_
          exact ll_lo (lo' := [some (.ref (ad 1)), some (.int v1), some (.int (v2 + (1 : Int32))), some (.int v3)]) ⟨rfl, rfl, rfl, rfl, trivial⟩ (kX6_countBeside_L43 E hr ih v1 (v2 + (1 : Int32)) v3 μ11)
theorem ctX6_countBeside {l : Launch} {D : va_G} {cI cR : ClassId} {ad : Nat → Nat} {μ : Mem} {a1 : Int32} {r : Int32} {μ' : Mem} (hf : fX6_countBeside μ a1 = some (r, μ')) : CT l yX6_countBeside cX6_countBeside 4 (some .int) 2 D cI cR ad shX NX [.ref (ad 1), .int a1] μ (some (.int r)) μ' :=
  ct_of (own := RX6) (ov := fun r => some (.int r)) (by decide +kernel) rfl (Nat.le_of_ble_eq_true rfl) (fun p e s m below meth c A0 E hr => by
    refine ll_lo (lo' := [some (.ref (ad 1)), some (.int a1), none, none]) ⟨rfl, rfl, trivial⟩ ?_
    rw [fX6_countBeside]
    refine ll_iconst E (pc := 0) dX6_countBeside_0 kc_0 ?_
    refine ll_istore_n E (pc := 1) (lo' := [some (.ref (ad 1)), some (.int a1), some (.int (0 : Int32)), none]) dX6_countBeside_1 (Nat.le_of_ble_eq_true rfl) rfl rfl ?_
    refine ll_iconst E (pc := 2) dX6_countBeside_2 kc_0 ?_
    refine ll_istore_n E (pc := 3) (lo' := [some (.ref (ad 1)), some (.int a1), some (.int (0 : Int32)), some (.int (0 : Int32))]) dX6_countBeside_3 (Nat.le_of_ble_eq_true rfl) rfl rfl ?_
    exact ll_lo (lo' := [some (.ref (ad 1)), some (.int a1), some (.int (0 : Int32)), some (.int (0 : Int32))]) ⟨rfl, rfl, rfl, rfl, trivial⟩ (kX6_countBeside_L4 E hr fu a1 (0 : Int32) (0 : Int32) μ)) hf
theorem dX6_lowestCrowded_0 : decode cX6_lowestCrowded 0 = .ok (.iconst (-1), 1) := by decide +kernel
theorem dX6_lowestCrowded_1 : decode cX6_lowestCrowded 1 = .ok (.istore_n 1, 1) := by decide +kernel
theorem dX6_lowestCrowded_2 : decode cX6_lowestCrowded 2 = .ok (.iconst 0, 1) := by decide +kernel
theorem dX6_lowestCrowded_3 : decode cX6_lowestCrowded 3 = .ok (.istore_n 2, 1) := by decide +kernel
theorem dX6_lowestCrowded_4 : decode cX6_lowestCrowded 4 = .ok (.iload_n 2, 1) := by decide +kernel
theorem dX6_lowestCrowded_5 : decode cX6_lowestCrowded 5 = .ok (.aload_n 0, 1) := by decide +kernel
theorem dX6_lowestCrowded_6 : decode cX6_lowestCrowded 6 = .ok (.getfield 43, 3) := by decide +kernel
theorem dX6_lowestCrowded_9 : decode cX6_lowestCrowded 9 = .ok (.if_icmp .ge 51, 3) := by decide +kernel
theorem dX6_lowestCrowded_12 : decode cX6_lowestCrowded 12 = .ok (.aload_n 0, 1) := by decide +kernel
theorem dX6_lowestCrowded_13 : decode cX6_lowestCrowded 13 = .ok (.getfield 27, 3) := by decide +kernel
theorem dX6_lowestCrowded_16 : decode cX6_lowestCrowded 16 = .ok (.iload_n 2, 1) := by decide +kernel
theorem dX6_lowestCrowded_17 : decode cX6_lowestCrowded 17 = .ok (.iaload, 1) := by decide +kernel
theorem dX6_lowestCrowded_18 : decode cX6_lowestCrowded 18 = .ok (.istore_n 3, 1) := by decide +kernel
theorem dX6_lowestCrowded_19 : decode cX6_lowestCrowded 19 = .ok (.iload_n 3, 1) := by decide +kernel
theorem dX6_lowestCrowded_20 : decode cX6_lowestCrowded 20 = .ok (.iconst (-1), 1) := by decide +kernel
theorem dX6_lowestCrowded_21 : decode cX6_lowestCrowded 21 = .ok (.if_icmp .eq 33, 3) := by decide +kernel
theorem dX6_lowestCrowded_24 : decode cX6_lowestCrowded 24 = .ok (.iload_n 1, 1) := by decide +kernel
theorem dX6_lowestCrowded_25 : decode cX6_lowestCrowded 25 = .ok (.iconst (-1), 1) := by decide +kernel
theorem dX6_lowestCrowded_26 : decode cX6_lowestCrowded 26 = .ok (.if_icmp .eq 8, 3) := by decide +kernel
theorem dX6_lowestCrowded_29 : decode cX6_lowestCrowded 29 = .ok (.iload_n 3, 1) := by decide +kernel
theorem dX6_lowestCrowded_30 : decode cX6_lowestCrowded 30 = .ok (.iload_n 1, 1) := by decide +kernel
theorem dX6_lowestCrowded_31 : decode cX6_lowestCrowded 31 = .ok (.if_icmp .ge 23, 3) := by decide +kernel
theorem dX6_lowestCrowded_34 : decode cX6_lowestCrowded 34 = .ok (.aload_n 0, 1) := by decide +kernel
theorem dX6_lowestCrowded_35 : decode cX6_lowestCrowded 35 = .ok (.iload_n 2, 1) := by decide +kernel
theorem dX6_lowestCrowded_36 : decode cX6_lowestCrowded 36 = .ok (.invokevirtual 71, 3) := by decide +kernel
theorem dX6_lowestCrowded_39 : decode cX6_lowestCrowded 39 = .ok (.aload_n 0, 1) := by decide +kernel
theorem dX6_lowestCrowded_40 : decode cX6_lowestCrowded 40 = .ok (.getfield 33, 3) := by decide +kernel
theorem dX6_lowestCrowded_43 : decode cX6_lowestCrowded 43 = .ok (.aload_n 0, 1) := by decide +kernel
theorem dX6_lowestCrowded_44 : decode cX6_lowestCrowded 44 = .ok (.iload_n 2, 1) := by decide +kernel
theorem dX6_lowestCrowded_45 : decode cX6_lowestCrowded 45 = .ok (.invokevirtual 67, 3) := by decide +kernel
theorem dX6_lowestCrowded_48 : decode cX6_lowestCrowded 48 = .ok (.iaload, 1) := by decide +kernel
theorem dX6_lowestCrowded_49 : decode cX6_lowestCrowded 49 = .ok (.if_icmp .le 5, 3) := by decide +kernel
theorem dX6_lowestCrowded_52 : decode cX6_lowestCrowded 52 = .ok (.iload_n 3, 1) := by decide +kernel
theorem dX6_lowestCrowded_53 : decode cX6_lowestCrowded 53 = .ok (.istore_n 1, 1) := by decide +kernel
theorem dX6_lowestCrowded_54 : decode cX6_lowestCrowded 54 = .ok (.iinc 2 1, 3) := by decide +kernel
theorem dX6_lowestCrowded_57 : decode cX6_lowestCrowded 57 = .ok (.goto (-53), 3) := by decide +kernel
theorem dX6_lowestCrowded_60 : decode cX6_lowestCrowded 60 = .ok (.iload_n 1, 1) := by decide +kernel
theorem dX6_lowestCrowded_61 : decode cX6_lowestCrowded 61 = .ok (.ireturn, 1) := by decide +kernel
def fX6_lowestCrowded_L54 (K4 : Int32 → Int32 → Mem → Option (Int32 × Mem)) (v1 : Int32) (v2 : Int32) (μ : Mem) : Option (Int32 × Mem) :=
  K4 v1 (v2 + (1 : Int32)) μ
def fX6_lowestCrowded_L34 (K4 : Int32 → Int32 → Mem → Option (Int32 × Mem)) (v1 : Int32) (v2 : Int32) (v3 : Int32) (μ : Mem) : Option (Int32 × Mem) :=
  bd (fX6_countBeside μ v2) fun r8 μ7 =>
  bd (fX6_unitOf μ7 v2) fun r10 μ9 =>
  (ld 3 (μ9 9) r10).bind fun r11 =>
  if r8 ≤ r11 then
  fX6_lowestCrowded_L54 K4 v1 v2 μ9
  else
  fX6_lowestCrowded_L54 K4 v3 v2 μ9
def fX6_lowestCrowded_L4 : Nat → Int32 → Int32 → Mem → Option (Int32 × Mem)
  | 0, _, _, _ => none
  | n + 1, v1, v2, μ =>   if (μ 1 0) ≤ v2 then
  some (v1, μ)
  else
  (ld 20 (μ 7) v2).bind fun r12 =>
  if r12 = (-1 : Int32) then
  fX6_lowestCrowded_L54 (fX6_lowestCrowded_L4 n) v1 v2 μ
  else
  if v1 = (-1 : Int32) then
  fX6_lowestCrowded_L34 (fX6_lowestCrowded_L4 n) v1 v2 r12 μ
  else
  if v1 ≤ r12 then
  fX6_lowestCrowded_L54 (fX6_lowestCrowded_L4 n) v1 v2 μ
  else
  fX6_lowestCrowded_L34 (fX6_lowestCrowded_L4 n) v1 v2 r12 μ
def fX6_lowestCrowded (μ : Mem) : Option (Int32 × Mem) :=
  fX6_lowestCrowded_L4 fu (-1 : Int32) (0 : Int32) μ
theorem kX6_lowestCrowded_L54 {p : Program} {l : Launch} {e : Env} {s : State} {m : MethodId} {args : Array Value} {below : List Frame} {meth : Method} {c : Code} {D : va_G} {cI cR : ClassId} {ad : Nat → Nat} {A0 : Nat → Prop} (E : EV p s m args meth c cX6_lowestCrowded 4 RX6 D cI cR ad shX NX A0) (hr : meth.sig.returnType = (some .int)) {K4 : Int32 → Int32 → Mem → Option (Int32 × Mem)} (hK4 : ∀ (v1 : Int32) (v2 : Int32) (μ : Mem), LL p l e (RM 3) s m args below meth c 4 D cI cR ad shX NX A0 (fun (r : Int32) μ' => KG below args s D cI cR ad shX NX A0 (some (.int r)) μ') (K4 v1 v2 μ) 0 0 4 [some (.ref (ad 1)), some (.int v1), some (.int v2), none] [] μ) (v1 : Int32) (v2 : Int32) (μ : Mem) : LL p l e (RM 3) s m args below meth c 4 D cI cR ad shX NX A0 (fun (r : Int32) μ' => KG below args s D cI cR ad shX NX A0 (some (.int r)) μ') (fX6_lowestCrowded_L54 K4 v1 v2 μ) 0 0 54 [some (.ref (ad 1)), some (.int v1), some (.int v2), none] [] μ := by
  rw [fX6_lowestCrowded_L54]
  refine ll_iinc E (pc := 54) (lo' := [some (.ref (ad 1)), some (.int v1), some (.int (v2 + (1 : Int32))), none]) dX6_lowestCrowded_54 rfl kc_1 (Nat.le_of_ble_eq_true rfl) rfl rfl ?_
  refine ll_goto E (pc := 57) (tgt := 4) dX6_lowestCrowded_57 rfl ?_
  exact ll_lo (lo' := [some (.ref (ad 1)), some (.int v1), some (.int (v2 + (1 : Int32))), none]) ⟨rfl, rfl, rfl, trivial⟩ (hK4 v1 (v2 + (1 : Int32)) μ)
theorem kX6_lowestCrowded_L34 {p : Program} {l : Launch} {e : Env} {s : State} {m : MethodId} {args : Array Value} {below : List Frame} {meth : Method} {c : Code} {D : va_G} {cI cR : ClassId} {ad : Nat → Nat} {A0 : Nat → Prop} (E : EV p s m args meth c cX6_lowestCrowded 4 RX6 D cI cR ad shX NX A0) (hr : meth.sig.returnType = (some .int)) {K4 : Int32 → Int32 → Mem → Option (Int32 × Mem)} (hK4 : ∀ (v1 : Int32) (v2 : Int32) (μ : Mem), LL p l e (RM 3) s m args below meth c 4 D cI cR ad shX NX A0 (fun (r : Int32) μ' => KG below args s D cI cR ad shX NX A0 (some (.int r)) μ') (K4 v1 v2 μ) 0 0 4 [some (.ref (ad 1)), some (.int v1), some (.int v2), none] [] μ) (v1 : Int32) (v2 : Int32) (v3 : Int32) (μ : Mem) : LL p l e (RM 3) s m args below meth c 4 D cI cR ad shX NX A0 (fun (r : Int32) μ' => KG below args s D cI cR ad shX NX A0 (some (.int r)) μ') (fX6_lowestCrowded_L34 K4 v1 v2 v3 μ) 0 0 34 [some (.ref (ad 1)), some (.int v1), some (.int v2), some (.int v3)] [] μ := by
  rw [fX6_lowestCrowded_L34]
  refine ll_aload_n E (pc := 34) dX6_lowestCrowded_34 rfl ?_
  refine ll_iload_n E (pc := 35) dX6_lowestCrowded_35 rfl ?_
  refine ll_callVi E (pc := 36) (d := 2) (ci := 6) (o9 := 1) [.int v2] [] dX6_lowestCrowded_36 cv_X6_71 (fun h => ctX6_countBeside h) (Nat.le_of_ble_eq_true rfl) sx_1 ci_6 rfl rfl (Nat.le_of_ble_eq_true rfl) ⟨(Nat.le_of_ble_eq_true rfl), (Nat.le_of_ble_eq_true rfl)⟩ ⟨(Nat.le_of_ble_eq_true rfl), (Nat.le_of_ble_eq_true rfl)⟩ ?_
  intro r8 μ7
  refine ll_aload_n E (pc := 39) dX6_lowestCrowded_39 rfl ?_
  refine ll_getfr E (pc := 40) (o9 := 1) (ci := 6) (k9 := 8) (q := 9) dX6_lowestCrowded_40 fl_X6_33 (Nat.le_of_ble_eq_true rfl) fx_1_8 ?_
  refine ll_aload_n E (pc := 43) dX6_lowestCrowded_43 rfl ?_
  refine ll_iload_n E (pc := 44) dX6_lowestCrowded_44 rfl ?_
  refine ll_callVi E (pc := 45) (d := 1) (ci := 6) (o9 := 1) [.int v2] [.ref (ad 9), .int r8] dX6_lowestCrowded_45 cv_X6_67 (fun h => ctX6_unitOf h) (Nat.le_of_ble_eq_true rfl) sx_1 ci_6 rfl rfl (Nat.le_of_ble_eq_true rfl) ⟨(Nat.le_of_ble_eq_true rfl), (Nat.le_of_ble_eq_true rfl)⟩ ⟨(Nat.le_of_ble_eq_true rfl), (Nat.le_of_ble_eq_true rfl)⟩ ?_
  intro r10 μ9
  refine ll_iald E (pc := 48) (a := 9) dX6_lowestCrowded_48 (px_9).1 (px_9).2 ?_
  intro r11
  refine ll_icmp_le E (pc := 49) (tgt := 54) dX6_lowestCrowded_49 rfl ?_ ?_
  · exact ll_lo (lo' := [some (.ref (ad 1)), some (.int v1), some (.int v2), none]) ⟨rfl, rfl, rfl, trivial⟩ (kX6_lowestCrowded_L54 E hr hK4 v1 v2 μ9)
  · refine ll_iload_n E (pc := 52) dX6_lowestCrowded_52 rfl ?_
    refine ll_istore_n E (pc := 53) (lo' := [some (.ref (ad 1)), some (.int v3), some (.int v2), some (.int v3)]) dX6_lowestCrowded_53 (Nat.le_of_ble_eq_true rfl) rfl rfl ?_
    exact ll_lo (lo' := [some (.ref (ad 1)), some (.int v3), some (.int v2), none]) ⟨rfl, rfl, rfl, trivial⟩ (kX6_lowestCrowded_L54 E hr hK4 v3 v2 μ9)
theorem kX6_lowestCrowded_L4 {p : Program} {l : Launch} {e : Env} {s : State} {m : MethodId} {args : Array Value} {below : List Frame} {meth : Method} {c : Code} {D : va_G} {cI cR : ClassId} {ad : Nat → Nat} {A0 : Nat → Prop} (E : EV p s m args meth c cX6_lowestCrowded 4 RX6 D cI cR ad shX NX A0) (hr : meth.sig.returnType = (some .int)) (n : Nat) : ∀ (v1 : Int32) (v2 : Int32) (μ : Mem), LL p l e (RM 3) s m args below meth c 4 D cI cR ad shX NX A0 (fun (r : Int32) μ' => KG below args s D cI cR ad shX NX A0 (some (.int r)) μ') (fX6_lowestCrowded_L4 n v1 v2 μ) 0 0 4 [some (.ref (ad 1)), some (.int v1), some (.int v2), none] [] μ := by
  induction n with
  | zero =>
    intros
    exact ll_none
  | succ n ih =>
    intro v1 v2 μ
    rw [fX6_lowestCrowded_L4]
    refine ll_iload_n E (pc := 4) dX6_lowestCrowded_4 rfl ?_
    refine ll_aload_n E (pc := 5) dX6_lowestCrowded_5 rfl ?_
    refine ll_getf E (pc := 6) (o9 := 1) (ci := 6) (k9 := 0) dX6_lowestCrowded_6 fl_X6_43 (Nat.le_of_ble_eq_true rfl) fx_1_0 ?_
    refine ll_icmp_ge E (pc := 9) (tgt := 60) dX6_lowestCrowded_9 rfl ?_ ?_
    · refine ll_iload_n E (pc := 60) dX6_lowestCrowded_60 rfl ?_
      exact ll_ireturn E (pc := 61) hr dX6_lowestCrowded_61
    · refine ll_aload_n E (pc := 12) dX6_lowestCrowded_12 rfl ?_
      refine ll_getfr E (pc := 13) (o9 := 1) (ci := 6) (k9 := 6) (q := 7) dX6_lowestCrowded_13 fl_X6_27 (Nat.le_of_ble_eq_true rfl) fx_1_6 ?_
      refine ll_iload_n E (pc := 16) dX6_lowestCrowded_16 rfl ?_
      refine ll_iald E (pc := 17) (a := 7) dX6_lowestCrowded_17 (px_7).1 (px_7).2 ?_
      intro r12
      refine ll_istore_n E (pc := 18) (lo' := [some (.ref (ad 1)), some (.int v1), some (.int v2), some (.int r12)]) dX6_lowestCrowded_18 (Nat.le_of_ble_eq_true rfl) rfl rfl ?_
      refine ll_iload_n E (pc := 19) dX6_lowestCrowded_19 rfl ?_
      refine ll_iconst E (pc := 20) dX6_lowestCrowded_20 kc_m1 ?_
      refine ll_icmp_eq E (pc := 21) (tgt := 54) dX6_lowestCrowded_21 rfl ?_ ?_
      · exact ll_lo (lo' := [some (.ref (ad 1)), some (.int v1), some (.int v2), none]) ⟨rfl, rfl, rfl, trivial⟩ (kX6_lowestCrowded_L54 E hr ih v1 v2 μ)
      · refine ll_iload_n E (pc := 24) dX6_lowestCrowded_24 rfl ?_
        refine ll_iconst E (pc := 25) dX6_lowestCrowded_25 kc_m1 ?_
        refine ll_icmp_eq E (pc := 26) (tgt := 34) dX6_lowestCrowded_26 rfl ?_ ?_
        · exact ll_lo (lo' := [some (.ref (ad 1)), some (.int v1), some (.int v2), some (.int r12)]) ⟨rfl, rfl, rfl, rfl, trivial⟩ (kX6_lowestCrowded_L34 E hr ih v1 v2 r12 μ)
        · refine ll_iload_n E (pc := 29) dX6_lowestCrowded_29 rfl ?_
          refine ll_iload_n E (pc := 30) dX6_lowestCrowded_30 rfl ?_
          refine ll_icmp_ge E (pc := 31) (tgt := 54) dX6_lowestCrowded_31 rfl ?_ ?_
          · exact ll_lo (lo' := [some (.ref (ad 1)), some (.int v1), some (.int v2), none]) ⟨rfl, rfl, rfl, trivial⟩ (kX6_lowestCrowded_L54 E hr ih v1 v2 μ)
          · exact ll_lo (lo' := [some (.ref (ad 1)), some (.int v1), some (.int v2), some (.int r12)]) ⟨rfl, rfl, rfl, rfl, trivial⟩ (kX6_lowestCrowded_L34 E hr ih v1 v2 r12 μ)
theorem ctX6_lowestCrowded {l : Launch} {D : va_G} {cI cR : ClassId} {ad : Nat → Nat} {μ : Mem} {r : Int32} {μ' : Mem} (hf : fX6_lowestCrowded μ = some (r, μ')) : CT l yX6_lowestCrowded cX6_lowestCrowded 4 (some .int) 3 D cI cR ad shX NX [.ref (ad 1)] μ (some (.int r)) μ' :=
  ct_of (own := RX6) (ov := fun r => some (.int r)) (by decide +kernel) rfl (Nat.le_of_ble_eq_true rfl) (fun p e s m below meth c A0 E hr => by
    refine ll_lo (lo' := [some (.ref (ad 1)), none, none, none]) ⟨rfl, trivial⟩ ?_
    rw [fX6_lowestCrowded]
    refine ll_iconst E (pc := 0) dX6_lowestCrowded_0 kc_m1 ?_
    refine ll_istore_n E (pc := 1) (lo' := [some (.ref (ad 1)), some (.int (-1 : Int32)), none, none]) dX6_lowestCrowded_1 (Nat.le_of_ble_eq_true rfl) rfl rfl ?_
    refine ll_iconst E (pc := 2) dX6_lowestCrowded_2 kc_0 ?_
    refine ll_istore_n E (pc := 3) (lo' := [some (.ref (ad 1)), some (.int (-1 : Int32)), some (.int (0 : Int32)), none]) dX6_lowestCrowded_3 (Nat.le_of_ble_eq_true rfl) rfl rfl ?_
    exact ll_lo (lo' := [some (.ref (ad 1)), some (.int (-1 : Int32)), some (.int (0 : Int32)), none]) ⟨rfl, rfl, rfl, trivial⟩ (kX6_lowestCrowded_L4 E hr fu (-1 : Int32) (0 : Int32) μ)) hf
theorem dX6_unitBeat_0 : decode cX6_unitBeat 0 = .ok (.iconst 1, 1) := by decide +kernel
theorem dX6_unitBeat_1 : decode cX6_unitBeat 1 = .ok (.istore_n 1, 1) := by decide +kernel
theorem dX6_unitBeat_2 : decode cX6_unitBeat 2 = .ok (.iconst 0, 1) := by decide +kernel
theorem dX6_unitBeat_3 : decode cX6_unitBeat 3 = .ok (.istore_n 2, 1) := by decide +kernel
theorem dX6_unitBeat_4 : decode cX6_unitBeat 4 = .ok (.iload_n 2, 1) := by decide +kernel
theorem dX6_unitBeat_5 : decode cX6_unitBeat 5 = .ok (.iconst 3, 1) := by decide +kernel
theorem dX6_unitBeat_6 : decode cX6_unitBeat 6 = .ok (.if_icmp .ge 81, 3) := by decide +kernel
theorem dX6_unitBeat_9 : decode cX6_unitBeat 9 = .ok (.iload_n 2, 1) := by decide +kernel
theorem dX6_unitBeat_10 : decode cX6_unitBeat 10 = .ok (.ifCond .ne 7, 3) := by decide +kernel
theorem dX6_unitBeat_13 : decode cX6_unitBeat 13 = .ok (.iconst 1, 1) := by decide +kernel
theorem dX6_unitBeat_14 : decode cX6_unitBeat 14 = .ok (.goto 4, 3) := by decide +kernel
theorem dX6_unitBeat_17 : decode cX6_unitBeat 17 = .ok (.iconst 0, 1) := by decide +kernel
theorem dX6_unitBeat_18 : decode cX6_unitBeat 18 = .ok (.istore_n 3, 1) := by decide +kernel
theorem dX6_unitBeat_19 : decode cX6_unitBeat 19 = .ok (.iconst 0, 1) := by decide +kernel
theorem dX6_unitBeat_20 : decode cX6_unitBeat 20 = .ok (.istore 4, 2) := by decide +kernel
theorem dX6_unitBeat_22 : decode cX6_unitBeat 22 = .ok (.iload 4, 2) := by decide +kernel
theorem dX6_unitBeat_24 : decode cX6_unitBeat 24 = .ok (.aload_n 0, 1) := by decide +kernel
theorem dX6_unitBeat_25 : decode cX6_unitBeat 25 = .ok (.getfield 43, 3) := by decide +kernel
theorem dX6_unitBeat_28 : decode cX6_unitBeat 28 = .ok (.if_icmp .ge 27, 3) := by decide +kernel
theorem dX6_unitBeat_31 : decode cX6_unitBeat 31 = .ok (.iload_n 3, 1) := by decide +kernel
theorem dX6_unitBeat_32 : decode cX6_unitBeat 32 = .ok (.aload_n 0, 1) := by decide +kernel
theorem dX6_unitBeat_33 : decode cX6_unitBeat 33 = .ok (.iload 4, 2) := by decide +kernel
theorem dX6_unitBeat_35 : decode cX6_unitBeat 35 = .ok (.invokevirtual 67, 3) := by decide +kernel
theorem dX6_unitBeat_38 : decode cX6_unitBeat 38 = .ok (.iload_n 2, 1) := by decide +kernel
theorem dX6_unitBeat_39 : decode cX6_unitBeat 39 = .ok (.if_icmp .ne 7, 3) := by decide +kernel
theorem dX6_unitBeat_42 : decode cX6_unitBeat 42 = .ok (.iconst 1, 1) := by decide +kernel
theorem dX6_unitBeat_43 : decode cX6_unitBeat 43 = .ok (.goto 4, 3) := by decide +kernel
theorem dX6_unitBeat_46 : decode cX6_unitBeat 46 = .ok (.iconst 0, 1) := by decide +kernel
theorem dX6_unitBeat_47 : decode cX6_unitBeat 47 = .ok (.iadd, 1) := by decide +kernel
theorem dX6_unitBeat_48 : decode cX6_unitBeat 48 = .ok (.istore_n 3, 1) := by decide +kernel
theorem dX6_unitBeat_49 : decode cX6_unitBeat 49 = .ok (.iinc 4 1, 3) := by decide +kernel
theorem dX6_unitBeat_52 : decode cX6_unitBeat 52 = .ok (.goto (-30), 3) := by decide +kernel
theorem dX6_unitBeat_55 : decode cX6_unitBeat 55 = .ok (.iconst 1, 1) := by decide +kernel
theorem dX6_unitBeat_56 : decode cX6_unitBeat 56 = .ok (.aload_n 0, 1) := by decide +kernel
theorem dX6_unitBeat_57 : decode cX6_unitBeat 57 = .ok (.getfield 33, 3) := by decide +kernel
theorem dX6_unitBeat_60 : decode cX6_unitBeat 60 = .ok (.iload_n 2, 1) := by decide +kernel
theorem dX6_unitBeat_61 : decode cX6_unitBeat 61 = .ok (.iaload, 1) := by decide +kernel
theorem dX6_unitBeat_62 : decode cX6_unitBeat 62 = .ok (.invokestatic 74, 3) := by decide +kernel
theorem dX6_unitBeat_65 : decode cX6_unitBeat 65 = .ok (.istore 4, 2) := by decide +kernel
theorem dX6_unitBeat_67 : decode cX6_unitBeat 67 = .ok (.iload_n 1, 1) := by decide +kernel
theorem dX6_unitBeat_68 : decode cX6_unitBeat 68 = .ok (.iload_n 3, 1) := by decide +kernel
theorem dX6_unitBeat_69 : decode cX6_unitBeat 69 = .ok (.iload 4, 2) := by decide +kernel
theorem dX6_unitBeat_71 : decode cX6_unitBeat 71 = .ok (.iadd, 1) := by decide +kernel
theorem dX6_unitBeat_72 : decode cX6_unitBeat 72 = .ok (.iconst 1, 1) := by decide +kernel
theorem dX6_unitBeat_73 : decode cX6_unitBeat 73 = .ok (.isub, 1) := by decide +kernel
theorem dX6_unitBeat_74 : decode cX6_unitBeat 74 = .ok (.iload 4, 2) := by decide +kernel
theorem dX6_unitBeat_76 : decode cX6_unitBeat 76 = .ok (.idiv, 1) := by decide +kernel
theorem dX6_unitBeat_77 : decode cX6_unitBeat 77 = .ok (.invokestatic 74, 3) := by decide +kernel
theorem dX6_unitBeat_80 : decode cX6_unitBeat 80 = .ok (.istore_n 1, 1) := by decide +kernel
theorem dX6_unitBeat_81 : decode cX6_unitBeat 81 = .ok (.iinc 2 1, 3) := by decide +kernel
theorem dX6_unitBeat_84 : decode cX6_unitBeat 84 = .ok (.goto (-80), 3) := by decide +kernel
theorem dX6_unitBeat_87 : decode cX6_unitBeat 87 = .ok (.iload_n 1, 1) := by decide +kernel
theorem dX6_unitBeat_88 : decode cX6_unitBeat 88 = .ok (.ireturn, 1) := by decide +kernel
def fX6_unitBeat_L47 (K22 : Int32 → Int32 → Int32 → Int32 → Mem → Option (Int32 × Mem)) (v1 : Int32) (v2 : Int32) (v4 : Int32) (s0 : Int32) (s1 : Int32) (μ : Mem) : Option (Int32 × Mem) :=
  K22 v1 v2 (s1 + s0) (v4 + (1 : Int32)) μ
def fX6_unitBeat_L22 (K4 : Int32 → Int32 → Mem → Option (Int32 × Mem)) : Nat → Int32 → Int32 → Int32 → Int32 → Mem → Option (Int32 × Mem)
  | 0, _, _, _, _, _ => none
  | n + 1, v1, v2, v3, v4, μ =>   if (μ 1 0) ≤ v4 then
  (ld 3 (μ 9) v2).bind fun r5 =>
  (dv ((v3 + (jmax (1 : Int32) r5)) - (1 : Int32)) (jmax (1 : Int32) r5)).bind fun r6 =>
  K4 (jmax v1 r6) (v2 + (1 : Int32)) μ
  else
  bd (fX6_unitOf μ v4) fun r8 μ7 =>
  if r8 = v2 then
  fX6_unitBeat_L47 (fX6_unitBeat_L22 K4 n) v1 v2 v4 (1 : Int32) v3 μ7
  else
  fX6_unitBeat_L47 (fX6_unitBeat_L22 K4 n) v1 v2 v4 (0 : Int32) v3 μ7
def fX6_unitBeat_L18 (K4 : Int32 → Int32 → Mem → Option (Int32 × Mem)) (v1 : Int32) (v2 : Int32) (s0 : Int32) (μ : Mem) : Option (Int32 × Mem) :=
  fX6_unitBeat_L22 K4 fu v1 v2 s0 (0 : Int32) μ
def fX6_unitBeat_L4 : Nat → Int32 → Int32 → Mem → Option (Int32 × Mem)
  | 0, _, _, _ => none
  | n + 1, v1, v2, μ =>   if (3 : Int32) ≤ v2 then
  some (v1, μ)
  else
  if v2 = 0 then
  fX6_unitBeat_L18 (fX6_unitBeat_L4 n) v1 v2 (1 : Int32) μ
  else
  fX6_unitBeat_L18 (fX6_unitBeat_L4 n) v1 v2 (0 : Int32) μ
def fX6_unitBeat (μ : Mem) : Option (Int32 × Mem) :=
  fX6_unitBeat_L4 fu (1 : Int32) (0 : Int32) μ
theorem kX6_unitBeat_L47 {p : Program} {l : Launch} {e : Env} {s : State} {m : MethodId} {args : Array Value} {below : List Frame} {meth : Method} {c : Code} {D : va_G} {cI cR : ClassId} {ad : Nat → Nat} {A0 : Nat → Prop} (E : EV p s m args meth c cX6_unitBeat 5 RX6 D cI cR ad shX NX A0) (hr : meth.sig.returnType = (some .int)) {K22 : Int32 → Int32 → Int32 → Int32 → Mem → Option (Int32 × Mem)} (hK22 : ∀ (v1 : Int32) (v2 : Int32) (v3 : Int32) (v4 : Int32) (μ : Mem), LL p l e (RM 2) s m args below meth c 5 D cI cR ad shX NX A0 (fun (r : Int32) μ' => KG below args s D cI cR ad shX NX A0 (some (.int r)) μ') (K22 v1 v2 v3 v4 μ) 0 0 22 [some (.ref (ad 1)), some (.int v1), some (.int v2), some (.int v3), some (.int v4)] [] μ) (v1 : Int32) (v2 : Int32) (v4 : Int32) (s0 : Int32) (s1 : Int32) (μ : Mem) : LL p l e (RM 2) s m args below meth c 5 D cI cR ad shX NX A0 (fun (r : Int32) μ' => KG below args s D cI cR ad shX NX A0 (some (.int r)) μ') (fX6_unitBeat_L47 K22 v1 v2 v4 s0 s1 μ) 0 0 47 [some (.ref (ad 1)), some (.int v1), some (.int v2), none, some (.int v4)] [.int s0, .int s1] μ := by
  rw [fX6_unitBeat_L47]
  refine ll_iadd E (pc := 47) dX6_unitBeat_47 ?_
  refine ll_istore_n E (pc := 48) (lo' := [some (.ref (ad 1)), some (.int v1), some (.int v2), some (.int (s1 + s0)), some (.int v4)]) dX6_unitBeat_48 (Nat.le_of_ble_eq_true rfl) rfl rfl ?_
  refine ll_iinc E (pc := 49) (lo' := [some (.ref (ad 1)), some (.int v1), some (.int v2), some (.int (s1 + s0)), some (.int (v4 + (1 : Int32)))]) dX6_unitBeat_49 rfl kc_1 (Nat.le_of_ble_eq_true rfl) rfl rfl ?_
  refine ll_goto E (pc := 52) (tgt := 22) dX6_unitBeat_52 rfl ?_
  exact ll_lo (lo' := [some (.ref (ad 1)), some (.int v1), some (.int v2), some (.int (s1 + s0)), some (.int (v4 + (1 : Int32)))]) ⟨rfl, rfl, rfl, rfl, rfl, trivial⟩ (hK22 v1 v2 (s1 + s0) (v4 + (1 : Int32)) μ)
theorem kX6_unitBeat_L22 {p : Program} {l : Launch} {e : Env} {s : State} {m : MethodId} {args : Array Value} {below : List Frame} {meth : Method} {c : Code} {D : va_G} {cI cR : ClassId} {ad : Nat → Nat} {A0 : Nat → Prop} (E : EV p s m args meth c cX6_unitBeat 5 RX6 D cI cR ad shX NX A0) (hr : meth.sig.returnType = (some .int)) {K4 : Int32 → Int32 → Mem → Option (Int32 × Mem)} (hK4 : ∀ (v1 : Int32) (v2 : Int32) (μ : Mem), LL p l e (RM 2) s m args below meth c 5 D cI cR ad shX NX A0 (fun (r : Int32) μ' => KG below args s D cI cR ad shX NX A0 (some (.int r)) μ') (K4 v1 v2 μ) 0 0 4 [some (.ref (ad 1)), some (.int v1), some (.int v2), none, none] [] μ) (n : Nat) : ∀ (v1 : Int32) (v2 : Int32) (v3 : Int32) (v4 : Int32) (μ : Mem), LL p l e (RM 2) s m args below meth c 5 D cI cR ad shX NX A0 (fun (r : Int32) μ' => KG below args s D cI cR ad shX NX A0 (some (.int r)) μ') (fX6_unitBeat_L22 K4 n v1 v2 v3 v4 μ) 0 0 22 [some (.ref (ad 1)), some (.int v1), some (.int v2), some (.int v3), some (.int v4)] [] μ := by
  induction n with
  | zero =>
    intros
    exact ll_none
  | succ n ih =>
    intro v1 v2 v3 v4 μ
    rw [fX6_unitBeat_L22]
    refine ll_iload E (pc := 22) dX6_unitBeat_22 rfl ?_
    refine ll_aload_n E (pc := 24) dX6_unitBeat_24 rfl ?_
    refine ll_getf E (pc := 25) (o9 := 1) (ci := 6) (k9 := 0) dX6_unitBeat_25 fl_X6_43 (Nat.le_of_ble_eq_true rfl) fx_1_0 ?_
    refine ll_icmp_ge E (pc := 28) (tgt := 55) dX6_unitBeat_28 rfl ?_ ?_
    · refine ll_iconst E (pc := 55) dX6_unitBeat_55 kc_1 ?_
      refine ll_aload_n E (pc := 56) dX6_unitBeat_56 rfl ?_
      refine ll_getfr E (pc := 57) (o9 := 1) (ci := 6) (k9 := 8) (q := 9) dX6_unitBeat_57 fl_X6_33 (Nat.le_of_ble_eq_true rfl) fx_1_8 ?_
      refine ll_iload_n E (pc := 60) dX6_unitBeat_60 rfl ?_
      refine ll_iald E (pc := 61) (a := 9) dX6_unitBeat_61 (px_9).1 (px_9).2 ?_
      intro r5
      refine ll_max E (pc := 62) dX6_unitBeat_62 mw_X6_74 mw_max1 mw_math mw_max2 (Nat.le_of_ble_eq_true rfl) ⟨(Nat.le_of_ble_eq_true rfl), (Nat.le_of_ble_eq_true rfl)⟩ ⟨(Nat.le_of_ble_eq_true rfl), (Nat.le_of_ble_eq_true rfl)⟩ ?_
      refine ll_istore E (pc := 65) (lo' := [some (.ref (ad 1)), some (.int v1), some (.int v2), some (.int v3), some (.int (jmax (1 : Int32) r5))]) dX6_unitBeat_65 (Nat.le_of_ble_eq_true rfl) rfl rfl ?_
      refine ll_iload_n E (pc := 67) dX6_unitBeat_67 rfl ?_
      refine ll_iload_n E (pc := 68) dX6_unitBeat_68 rfl ?_
      refine ll_iload E (pc := 69) dX6_unitBeat_69 rfl ?_
      refine ll_iadd E (pc := 71) dX6_unitBeat_71 ?_
      refine ll_iconst E (pc := 72) dX6_unitBeat_72 kc_1 ?_
      refine ll_isub E (pc := 73) dX6_unitBeat_73 ?_
      refine ll_iload E (pc := 74) dX6_unitBeat_74 rfl ?_
      refine ll_idiv E (pc := 76) dX6_unitBeat_76 ?_
      intro r6
      refine ll_max E (pc := 77) dX6_unitBeat_77 mw_X6_74 mw_max1 mw_math mw_max2 (Nat.le_of_ble_eq_true rfl) ⟨(Nat.le_of_ble_eq_true rfl), (Nat.le_of_ble_eq_true rfl)⟩ ⟨(Nat.le_of_ble_eq_true rfl), (Nat.le_of_ble_eq_true rfl)⟩ ?_
      refine ll_istore_n E (pc := 80) (lo' := [some (.ref (ad 1)), some (.int (jmax v1 r6)), some (.int v2), some (.int v3), some (.int (jmax (1 : Int32) r5))]) dX6_unitBeat_80 (Nat.le_of_ble_eq_true rfl) rfl rfl ?_
      refine ll_iinc E (pc := 81) (lo' := [some (.ref (ad 1)), some (.int (jmax v1 r6)), some (.int (v2 + (1 : Int32))), some (.int v3), some (.int (jmax (1 : Int32) r5))]) dX6_unitBeat_81 rfl kc_1 (Nat.le_of_ble_eq_true rfl) rfl rfl ?_
      refine ll_goto E (pc := 84) (tgt := 4) dX6_unitBeat_84 rfl ?_
      exact ll_lo (lo' := [some (.ref (ad 1)), some (.int (jmax v1 r6)), some (.int (v2 + (1 : Int32))), none, none]) ⟨rfl, rfl, rfl, trivial⟩ (hK4 (jmax v1 r6) (v2 + (1 : Int32)) μ)
    · refine ll_iload_n E (pc := 31) dX6_unitBeat_31 rfl ?_
      refine ll_aload_n E (pc := 32) dX6_unitBeat_32 rfl ?_
      refine ll_iload E (pc := 33) dX6_unitBeat_33 rfl ?_
      refine ll_callVi E (pc := 35) (d := 1) (ci := 6) (o9 := 1) [.int v4] [.int v3] dX6_unitBeat_35 cv_X6_67 (fun h => ctX6_unitOf h) (Nat.le_of_ble_eq_true rfl) sx_1 ci_6 rfl rfl (Nat.le_of_ble_eq_true rfl) ⟨(Nat.le_of_ble_eq_true rfl), (Nat.le_of_ble_eq_true rfl)⟩ ⟨(Nat.le_of_ble_eq_true rfl), (Nat.le_of_ble_eq_true rfl)⟩ ?_
      intro r8 μ7
      refine ll_iload_n E (pc := 38) dX6_unitBeat_38 rfl ?_
      refine ll_icmp_ne E (pc := 39) (tgt := 46) dX6_unitBeat_39 rfl ?_ ?_
      · refine ll_iconst E (pc := 46) dX6_unitBeat_46 kc_0 ?_
        exact ll_lo (lo' := [some (.ref (ad 1)), some (.int v1), some (.int v2), none, some (.int v4)]) ⟨rfl, rfl, rfl, rfl, trivial⟩ (kX6_unitBeat_L47 E hr ih v1 v2 v4 (0 : Int32) v3 μ7)
      · refine ll_iconst E (pc := 42) dX6_unitBeat_42 kc_1 ?_
        refine ll_goto E (pc := 43) (tgt := 47) dX6_unitBeat_43 rfl ?_
        exact ll_lo (lo' := [some (.ref (ad 1)), some (.int v1), some (.int v2), none, some (.int v4)]) ⟨rfl, rfl, rfl, rfl, trivial⟩ (kX6_unitBeat_L47 E hr ih v1 v2 v4 (1 : Int32) v3 μ7)
theorem kX6_unitBeat_L18 {p : Program} {l : Launch} {e : Env} {s : State} {m : MethodId} {args : Array Value} {below : List Frame} {meth : Method} {c : Code} {D : va_G} {cI cR : ClassId} {ad : Nat → Nat} {A0 : Nat → Prop} (E : EV p s m args meth c cX6_unitBeat 5 RX6 D cI cR ad shX NX A0) (hr : meth.sig.returnType = (some .int)) {K4 : Int32 → Int32 → Mem → Option (Int32 × Mem)} (hK4 : ∀ (v1 : Int32) (v2 : Int32) (μ : Mem), LL p l e (RM 2) s m args below meth c 5 D cI cR ad shX NX A0 (fun (r : Int32) μ' => KG below args s D cI cR ad shX NX A0 (some (.int r)) μ') (K4 v1 v2 μ) 0 0 4 [some (.ref (ad 1)), some (.int v1), some (.int v2), none, none] [] μ) (v1 : Int32) (v2 : Int32) (s0 : Int32) (μ : Mem) : LL p l e (RM 2) s m args below meth c 5 D cI cR ad shX NX A0 (fun (r : Int32) μ' => KG below args s D cI cR ad shX NX A0 (some (.int r)) μ') (fX6_unitBeat_L18 K4 v1 v2 s0 μ) 0 0 18 [some (.ref (ad 1)), some (.int v1), some (.int v2), none, none] [.int s0] μ := by
  rw [fX6_unitBeat_L18]
  refine ll_istore_n E (pc := 18) (lo' := [some (.ref (ad 1)), some (.int v1), some (.int v2), some (.int s0), none]) dX6_unitBeat_18 (Nat.le_of_ble_eq_true rfl) rfl rfl ?_
  refine ll_iconst E (pc := 19) dX6_unitBeat_19 kc_0 ?_
  refine ll_istore E (pc := 20) (lo' := [some (.ref (ad 1)), some (.int v1), some (.int v2), some (.int s0), some (.int (0 : Int32))]) dX6_unitBeat_20 (Nat.le_of_ble_eq_true rfl) rfl rfl ?_
  exact ll_lo (lo' := [some (.ref (ad 1)), some (.int v1), some (.int v2), some (.int s0), some (.int (0 : Int32))]) ⟨rfl, rfl, rfl, rfl, rfl, trivial⟩ (kX6_unitBeat_L22 E hr hK4 fu v1 v2 s0 (0 : Int32) μ)
theorem kX6_unitBeat_L4 {p : Program} {l : Launch} {e : Env} {s : State} {m : MethodId} {args : Array Value} {below : List Frame} {meth : Method} {c : Code} {D : va_G} {cI cR : ClassId} {ad : Nat → Nat} {A0 : Nat → Prop} (E : EV p s m args meth c cX6_unitBeat 5 RX6 D cI cR ad shX NX A0) (hr : meth.sig.returnType = (some .int)) (n : Nat) : ∀ (v1 : Int32) (v2 : Int32) (μ : Mem), LL p l e (RM 2) s m args below meth c 5 D cI cR ad shX NX A0 (fun (r : Int32) μ' => KG below args s D cI cR ad shX NX A0 (some (.int r)) μ') (fX6_unitBeat_L4 n v1 v2 μ) 0 0 4 [some (.ref (ad 1)), some (.int v1), some (.int v2), none, none] [] μ := by
  induction n with
  | zero =>
    intros
    exact ll_none
  | succ n ih =>
    intro v1 v2 μ
    rw [fX6_unitBeat_L4]
    refine ll_iload_n E (pc := 4) dX6_unitBeat_4 rfl ?_
    refine ll_iconst E (pc := 5) dX6_unitBeat_5 kc_3 ?_
    refine ll_icmp_ge E (pc := 6) (tgt := 87) dX6_unitBeat_6 rfl ?_ ?_
    · refine ll_iload_n E (pc := 87) dX6_unitBeat_87 rfl ?_
      exact ll_ireturn E (pc := 88) hr dX6_unitBeat_88
    · refine ll_iload_n E (pc := 9) dX6_unitBeat_9 rfl ?_
      refine ll_if_ne E (pc := 10) (tgt := 17) dX6_unitBeat_10 rfl ?_ ?_
      · refine ll_iconst E (pc := 17) dX6_unitBeat_17 kc_0 ?_
        exact ll_lo (lo' := [some (.ref (ad 1)), some (.int v1), some (.int v2), none, none]) ⟨rfl, rfl, rfl, trivial⟩ (kX6_unitBeat_L18 E hr ih v1 v2 (0 : Int32) μ)
      · refine ll_iconst E (pc := 13) dX6_unitBeat_13 kc_1 ?_
        refine ll_goto E (pc := 14) (tgt := 18) dX6_unitBeat_14 rfl ?_
        exact ll_lo (lo' := [some (.ref (ad 1)), some (.int v1), some (.int v2), none, none]) ⟨rfl, rfl, rfl, trivial⟩ (kX6_unitBeat_L18 E hr ih v1 v2 (1 : Int32) μ)
theorem ctX6_unitBeat {l : Launch} {D : va_G} {cI cR : ClassId} {ad : Nat → Nat} {μ : Mem} {r : Int32} {μ' : Mem} (hf : fX6_unitBeat μ = some (r, μ')) : CT l yX6_unitBeat cX6_unitBeat 5 (some .int) 2 D cI cR ad shX NX [.ref (ad 1)] μ (some (.int r)) μ' :=
  ct_of (own := RX6) (ov := fun r => some (.int r)) (by decide +kernel) rfl (Nat.le_of_ble_eq_true rfl) (fun p e s m below meth c A0 E hr => by
    refine ll_lo (lo' := [some (.ref (ad 1)), none, none, none, none]) ⟨rfl, trivial⟩ ?_
    rw [fX6_unitBeat]
    refine ll_iconst E (pc := 0) dX6_unitBeat_0 kc_1 ?_
    refine ll_istore_n E (pc := 1) (lo' := [some (.ref (ad 1)), some (.int (1 : Int32)), none, none, none]) dX6_unitBeat_1 (Nat.le_of_ble_eq_true rfl) rfl rfl ?_
    refine ll_iconst E (pc := 2) dX6_unitBeat_2 kc_0 ?_
    refine ll_istore_n E (pc := 3) (lo' := [some (.ref (ad 1)), some (.int (1 : Int32)), some (.int (0 : Int32)), none, none]) dX6_unitBeat_3 (Nat.le_of_ble_eq_true rfl) rfl rfl ?_
    exact ll_lo (lo' := [some (.ref (ad 1)), some (.int (1 : Int32)), some (.int (0 : Int32)), none, none]) ⟨rfl, rfl, rfl, trivial⟩ (kX6_unitBeat_L4 E hr fu (1 : Int32) (0 : Int32) μ)) hf
