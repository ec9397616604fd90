def fL_part (μ : Mem) (a0 : Int32) (a1 : Int32) : Option (Int32 × Mem) :=
  (rmd (a0 &&& (2147483647 : Int32)) a1).bind fun r2 =>
  some (r2, μ)
theorem ctL_part {l : Launch} {D : va_G} {cI cR : ClassId} {ad : Nat → Nat} {μ : Mem} {a0 : Int32} {a1 : Int32} {r : Int32} {μ' : Mem} (hf : fL_part μ a0 a1 = some (r, μ')) : CT l yL_part cL_part 2 (some .int) 0 D cI cR ad shX NX [.int a0, .int a1] μ (some (.int r)) μ' :=
  ct_of (own := RL) (ov := fun r => some (.int r)) (by decide +kernel) rfl (Nat.le_of_ble_eq_true rfl) (fun p e s m below meth c A0 E hr => by
    refine ll_lo (lo' := [some (.int a0), some (.int a1)]) ⟨rfl, rfl, trivial⟩ ?_
    rw [fL_part]
    refine ll_iload_n E (pc := 0) dL_part_0 rfl ?_
    refine ll_ldc E (pc := 1) dL_part_1 kw_L_7 ?_
    refine ll_iand E (pc := 3) dL_part_3 ?_
    refine ll_iload_n E (pc := 4) dL_part_4 rfl ?_
    refine ll_irem E (pc := 5) dL_part_5 ?_
    intro r2
    exact ll_ireturn E (pc := 6) hr dL_part_6) hf
def fL_far (μ : Mem) (a0 : Int32) (a1 : Int32) (a2 : Int32) : Option (Int32 × Mem) :=
  if a0 = 0 then
  some ((a1 - (1 : Int32)), μ)
  else
  if a0 = (1 : Int32) then
  some ((a2 + (1 : Int32)), μ)
  else
  if a0 = (2 : Int32) then
  some ((-2147483648 : Int32), μ)
  else
  some ((2147483647 : Int32), μ)
theorem ctL_far {l : Launch} {D : va_G} {cI cR : ClassId} {ad : Nat → Nat} {μ : Mem} {a0 : Int32} {a1 : Int32} {a2 : Int32} {r : Int32} {μ' : Mem} (hf : fL_far μ a0 a1 a2 = some (r, μ')) : CT l yL_far cL_far 3 (some .int) 0 D cI cR ad shX NX [.int a0, .int a1, .int a2] μ (some (.int r)) μ' :=
  ct_of (own := RL) (ov := fun r => some (.int r)) (by decide +kernel) rfl (Nat.le_of_ble_eq_true rfl) (fun p e s m below meth c A0 E hr => by
    refine ll_lo (lo' := [some (.int a0), some (.int a1), some (.int a2)]) ⟨rfl, rfl, rfl, trivial⟩ ?_
    rw [fL_far]
    refine ll_iload_n E (pc := 0) dL_far_0 rfl ?_
    refine ll_if_ne E (pc := 1) (tgt := 10) dL_far_1 rfl ?_ ?_
    · refine ll_iload_n E (pc := 10) dL_far_10 rfl ?_
      refine ll_iconst E (pc := 11) dL_far_11 kc_1 ?_
      refine ll_icmp_ne E (pc := 12) (tgt := 21) dL_far_12 rfl ?_ ?_
      · refine ll_iload_n E (pc := 21) dL_far_21 rfl ?_
        refine ll_iconst E (pc := 22) dL_far_22 kc_2 ?_
        refine ll_icmp_ne E (pc := 23) (tgt := 31) dL_far_23 rfl ?_ ?_
        · refine ll_ldc E (pc := 31) dL_far_31 kw_L_7 ?_
          exact ll_ireturn E (pc := 33) hr dL_far_33
        · refine ll_ldc E (pc := 26) dL_far_26 kw_L_164 ?_
          refine ll_goto E (pc := 28) (tgt := 33) dL_far_28 rfl ?_
          exact ll_ireturn E (pc := 33) hr dL_far_33
      · refine ll_iload_n E (pc := 15) dL_far_15 rfl ?_
        refine ll_iconst E (pc := 16) dL_far_16 kc_1 ?_
        refine ll_iadd E (pc := 17) dL_far_17 ?_
        refine ll_goto E (pc := 18) (tgt := 33) dL_far_18 rfl ?_
        exact ll_ireturn E (pc := 33) hr dL_far_33
    · refine ll_iload_n E (pc := 4) dL_far_4 rfl ?_
      refine ll_iconst E (pc := 5) dL_far_5 kc_1 ?_
      refine ll_isub E (pc := 6) dL_far_6 ?_
      refine ll_goto E (pc := 7) (tgt := 33) dL_far_7 rfl ?_
      exact ll_ireturn E (pc := 33) hr dL_far_33) hf
def fL_act (μ : Mem) (a1 : Int32) (a2 : Int32) (a3 : Int32) (a4 : Int32) (a5 : Int32) : Option ((Int32 ⊕ Nat) × Mem) :=
  if a1 = 0 then
  bx (fX8_insert μ a2 a3 (a4 &&& (15 : Int32)) ((a4 >>> ((4 : Int32) &&& 31)) &&& (15 : Int32)) (a4 >>> ((8 : Int32) &&& 31)) a5) fun r48 μ47 =>
  some (.inl r48, μ47)
  else
  if a1 = (1 : Int32) then
  bx (fX8_remove μ a2) fun r46 μ45 =>
  some (.inl r46, μ45)
  else
  if a1 = (2 : Int32) then
  bx (fX8_exchange μ a2 a3) fun r44 μ43 =>
  some (.inl r44, μ43)
  else
  if a1 = (3 : Int32) then
  bx (fX8_setSlots μ a2 a3) fun r42 μ41 =>
  some (.inl r42, μ41)
  else
  if a1 = (4 : Int32) then
  bx (fX8_setLatency μ a2 a3) fun r40 μ39 =>
  some (.inl r40, μ39)
  else
  if a1 = (5 : Int32) then
  bx (fX8_setDelay μ a2) fun r38 μ37 =>
  some (.inl r38, μ37)
  else
  if a1 = (6 : Int32) then
  bx (fX8_lay μ a2 a3) fun r36 μ35 =>
  some (.inl r36, μ35)
  else
  if a1 = (7 : Int32) then
  bx (fX8_takeOut μ a2) fun r34 μ33 =>
  some (.inl r34, μ33)
  else
  if a1 = (8 : Int32) then
  bx (fX8_append μ a2) fun r32 μ31 =>
  some (.inl r32, μ31)
  else
  if a1 = (9 : Int32) then
  bx (fX8_addAll μ) fun r30 μ29 =>
  some (.inl r30, μ29)
  else
  if a1 = (10 : Int32) then
  bx (fX8_undo μ) fun r28 μ27 =>
  some (.inl r28, μ27)
  else
  bx (fX8_goBack μ) fun r26 μ25 =>
  some (.inl r26, μ25)
theorem cxL_act {l : Launch} {D : va_G} {cI cR : ClassId} {ad : Nat → Nat} {μ : Mem} {a1 : Int32} {a2 : Int32} {a3 : Int32} {a4 : Int32} {a5 : Int32} (hl9 : l.stackTraces = false) {r : Int32 ⊕ Nat} {μ' : Mem} (hf : fL_act μ a1 a2 a3 a4 a5 = some (r, μ')) : CX l yL_act cL_act 6 (some .int) 9 2 D cI cR ad shX NX [.ref (ad 0), .int a1, .int a2, .int a3, .int a4, .int a5] μ (r.elim (fun r => .inl (some (.int r))) .inr) μ' :=
  cx_of (own := RL) (ov := fun (r : Int32 ⊕ Nat) => (r.elim (fun r => .inl (some (.int r))) .inr)) hl9 (by decide +kernel) rfl (Nat.le_of_ble_eq_true rfl) (fun p e s m below meth c A0 E X hr => by
    refine ll_lo (lo' := [some (.ref (ad 0)), some (.int a1), some (.int a2), some (.int a3), some (.int a4), some (.int a5)]) ⟨rfl, rfl, rfl, rfl, rfl, rfl, trivial⟩ ?_
    rw [fL_act]
    refine ll_iload_n E (pc := 0) dL_act_0 rfl ?_
    refine ll_if_ne E (pc := 1) (tgt := 32) dL_act_1 rfl ?_ ?_
    · refine ll_iload_n E (pc := 32) dL_act_32 rfl ?_
      refine ll_iconst E (pc := 33) dL_act_33 kc_1 ?_
      refine ll_icmp_ne E (pc := 34) (tgt := 45) dL_act_34 rfl ?_ ?_
      · refine ll_iload_n E (pc := 45) dL_act_45 rfl ?_
        refine ll_iconst E (pc := 46) dL_act_46 kc_2 ?_
        refine ll_icmp_ne E (pc := 47) (tgt := 59) dL_act_47 rfl ?_ ?_
        · refine ll_iload_n E (pc := 59) dL_act_59 rfl ?_
          refine ll_iconst E (pc := 60) dL_act_60 kc_3 ?_
          refine ll_icmp_ne E (pc := 61) (tgt := 73) dL_act_61 rfl ?_ ?_
          · refine ll_iload_n E (pc := 73) dL_act_73 rfl ?_
            refine ll_iconst E (pc := 74) dL_act_74 kc_4 ?_
            refine ll_icmp_ne E (pc := 75) (tgt := 87) dL_act_75 rfl ?_ ?_
            · refine ll_iload_n E (pc := 87) dL_act_87 rfl ?_
              refine ll_iconst E (pc := 88) dL_act_88 kc_5 ?_
              refine ll_icmp_ne E (pc := 89) (tgt := 100) dL_act_89 rfl ?_ ?_
              · refine ll_iload_n E (pc := 100) dL_act_100 rfl ?_
                refine ll_bipush E (pc := 101) dL_act_101 kb_6 ?_
                refine ll_icmp_ne E (pc := 103) (tgt := 115) dL_act_103 rfl ?_ ?_
                · refine ll_iload_n E (pc := 115) dL_act_115 rfl ?_
                  refine ll_bipush E (pc := 116) dL_act_116 kb_7 ?_
                  refine ll_icmp_ne E (pc := 118) (tgt := 129) dL_act_118 rfl ?_ ?_
                  · refine ll_iload_n E (pc := 129) dL_act_129 rfl ?_
                    refine ll_bipush E (pc := 130) dL_act_130 kb_8 ?_
                    refine ll_icmp_ne E (pc := 132) (tgt := 143) dL_act_132 rfl ?_ ?_
                    · refine ll_iload_n E (pc := 143) dL_act_143 rfl ?_
                      refine ll_bipush E (pc := 144) dL_act_144 kb_9 ?_
                      refine ll_icmp_ne E (pc := 146) (tgt := 156) dL_act_146 rfl ?_ ?_
                      · refine ll_iload_n E (pc := 156) dL_act_156 rfl ?_
                        refine ll_bipush E (pc := 157) dL_act_157 kb_10 ?_
                        refine ll_icmp_ne E (pc := 159) (tgt := 169) dL_act_159 rfl ?_ ?_
                        · refine ll_aload_n E (pc := 169) dL_act_169 rfl ?_
                          refine ll_xcallVi E X (pc := 170) (d := 7) (mc1 := 1) (mc := 2) (ci := 8) (o9 := 0) [] [] dL_act_170 cv_L_67 (fun h => cxX8_goBack X.1 h) (Nat.le_of_ble_eq_true rfl) sx_0 ci_8 rfl rfl (Nat.le_of_ble_eq_true rfl) ⟨(Nat.le_of_ble_eq_true rfl), (Nat.le_of_ble_eq_true rfl)⟩ ⟨(Nat.le_of_ble_eq_true rfl), (Nat.le_of_ble_eq_true rfl)⟩ ⟨(Nat.le_of_ble_eq_true rfl), (Nat.le_of_ble_eq_true rfl)⟩ ?_
                          intro r26 μ25
                          exact ll_xireturn E (pc := 173) hr dL_act_173 ⟨(Nat.le_of_ble_eq_true rfl), (Nat.le_of_ble_eq_true rfl)⟩
                        · refine ll_aload_n E (pc := 162) dL_act_162 rfl ?_
                          refine ll_xcallVi E X (pc := 163) (d := 7) (mc1 := 1) (mc := 2) (ci := 8) (o9 := 0) [] [] dL_act_163 cv_L_64 (fun h => cxX8_undo X.1 h) (Nat.le_of_ble_eq_true rfl) sx_0 ci_8 rfl rfl (Nat.le_of_ble_eq_true rfl) ⟨(Nat.le_of_ble_eq_true rfl), (Nat.le_of_ble_eq_true rfl)⟩ ⟨(Nat.le_of_ble_eq_true rfl), (Nat.le_of_ble_eq_true rfl)⟩ ⟨(Nat.le_of_ble_eq_true rfl), (Nat.le_of_ble_eq_true rfl)⟩ ?_
                          intro r28 μ27
                          refine ll_goto E (pc := 166) (tgt := 173) dL_act_166 rfl ?_
                          exact ll_xireturn E (pc := 173) hr dL_act_173 ⟨(Nat.le_of_ble_eq_true rfl), (Nat.le_of_ble_eq_true rfl)⟩
                      · refine ll_aload_n E (pc := 149) dL_act_149 rfl ?_
                        refine ll_xcallVi E X (pc := 150) (d := 7) (mc1 := 1) (mc := 2) (ci := 8) (o9 := 0) [] [] dL_act_150 cv_L_60 (fun h => cxX8_addAll X.1 h) (Nat.le_of_ble_eq_true rfl) sx_0 ci_8 rfl rfl (Nat.le_of_ble_eq_true rfl) ⟨(Nat.le_of_ble_eq_true rfl), (Nat.le_of_ble_eq_true rfl)⟩ ⟨(Nat.le_of_ble_eq_true rfl), (Nat.le_of_ble_eq_true rfl)⟩ ⟨(Nat.le_of_ble_eq_true rfl), (Nat.le_of_ble_eq_true rfl)⟩ ?_
                        intro r30 μ29
                        refine ll_goto E (pc := 153) (tgt := 173) dL_act_153 rfl ?_
                        exact ll_xireturn E (pc := 173) hr dL_act_173 ⟨(Nat.le_of_ble_eq_true rfl), (Nat.le_of_ble_eq_true rfl)⟩
                    · refine ll_aload_n E (pc := 135) dL_act_135 rfl ?_
                      refine ll_iload_n E (pc := 136) dL_act_136 rfl ?_
                      refine ll_xcallVi E X (pc := 137) (d := 7) (mc1 := 1) (mc := 2) (ci := 8) (o9 := 0) [.int a2] [] dL_act_137 cv_L_57 (fun h => cxX8_append X.1 h) (Nat.le_of_ble_eq_true rfl) sx_0 ci_8 rfl rfl (Nat.le_of_ble_eq_true rfl) ⟨(Nat.le_of_ble_eq_true rfl), (Nat.le_of_ble_eq_true rfl)⟩ ⟨(Nat.le_of_ble_eq_true rfl), (Nat.le_of_ble_eq_true rfl)⟩ ⟨(Nat.le_of_ble_eq_true rfl), (Nat.le_of_ble_eq_true rfl)⟩ ?_
                      intro r32 μ31
                      refine ll_goto E (pc := 140) (tgt := 173) dL_act_140 rfl ?_
                      exact ll_xireturn E (pc := 173) hr dL_act_173 ⟨(Nat.le_of_ble_eq_true rfl), (Nat.le_of_ble_eq_true rfl)⟩
                  · refine ll_aload_n E (pc := 121) dL_act_121 rfl ?_
                    refine ll_iload_n E (pc := 122) dL_act_122 rfl ?_
                    refine ll_xcallVi E X (pc := 123) (d := 8) (mc1 := 2) (mc := 2) (ci := 8) (o9 := 0) [.int a2] [] dL_act_123 cv_L_54 (fun h => cxX8_takeOut X.1 h) (Nat.le_of_ble_eq_true rfl) sx_0 ci_8 rfl rfl (Nat.le_of_ble_eq_true rfl) ⟨(Nat.le_of_ble_eq_true rfl), (Nat.le_of_ble_eq_true rfl)⟩ ⟨(Nat.le_of_ble_eq_true rfl), (Nat.le_of_ble_eq_true rfl)⟩ ⟨(Nat.le_of_ble_eq_true rfl), (Nat.le_of_ble_eq_true rfl)⟩ ?_
                    intro r34 μ33
                    refine ll_goto E (pc := 126) (tgt := 173) dL_act_126 rfl ?_
                    exact ll_xireturn E (pc := 173) hr dL_act_173 ⟨(Nat.le_of_ble_eq_true rfl), (Nat.le_of_ble_eq_true rfl)⟩
                · refine ll_aload_n E (pc := 106) dL_act_106 rfl ?_
                  refine ll_iload_n E (pc := 107) dL_act_107 rfl ?_
                  refine ll_iload_n E (pc := 108) dL_act_108 rfl ?_
                  refine ll_xcallVi E X (pc := 109) (d := 8) (mc1 := 2) (mc := 2) (ci := 8) (o9 := 0) [.int a2, .int a3] [] dL_act_109 cv_L_51 (fun h => cxX8_lay X.1 h) (Nat.le_of_ble_eq_true rfl) sx_0 ci_8 rfl rfl (Nat.le_of_ble_eq_true rfl) ⟨(Nat.le_of_ble_eq_true rfl), (Nat.le_of_ble_eq_true rfl)⟩ ⟨(Nat.le_of_ble_eq_true rfl), (Nat.le_of_ble_eq_true rfl)⟩ ⟨(Nat.le_of_ble_eq_true rfl), (Nat.le_of_ble_eq_true rfl)⟩ ?_
                  intro r36 μ35
                  refine ll_goto E (pc := 112) (tgt := 173) dL_act_112 rfl ?_
                  exact ll_xireturn E (pc := 173) hr dL_act_173 ⟨(Nat.le_of_ble_eq_true rfl), (Nat.le_of_ble_eq_true rfl)⟩
              · refine ll_aload_n E (pc := 92) dL_act_92 rfl ?_
                refine ll_iload_n E (pc := 93) dL_act_93 rfl ?_
                refine ll_xcallVi E X (pc := 94) (d := 7) (mc1 := 1) (mc := 2) (ci := 8) (o9 := 0) [.int a2] [] dL_act_94 cv_L_48 (fun h => cxX8_setDelay X.1 h) (Nat.le_of_ble_eq_true rfl) sx_0 ci_8 rfl rfl (Nat.le_of_ble_eq_true rfl) ⟨(Nat.le_of_ble_eq_true rfl), (Nat.le_of_ble_eq_true rfl)⟩ ⟨(Nat.le_of_ble_eq_true rfl), (Nat.le_of_ble_eq_true rfl)⟩ ⟨(Nat.le_of_ble_eq_true rfl), (Nat.le_of_ble_eq_true rfl)⟩ ?_
                intro r38 μ37
                refine ll_goto E (pc := 97) (tgt := 173) dL_act_97 rfl ?_
                exact ll_xireturn E (pc := 173) hr dL_act_173 ⟨(Nat.le_of_ble_eq_true rfl), (Nat.le_of_ble_eq_true rfl)⟩
            · refine ll_aload_n E (pc := 78) dL_act_78 rfl ?_
              refine ll_iload_n E (pc := 79) dL_act_79 rfl ?_
              refine ll_iload_n E (pc := 80) dL_act_80 rfl ?_
              refine ll_xcallVi E X (pc := 81) (d := 8) (mc1 := 2) (mc := 2) (ci := 8) (o9 := 0) [.int a2, .int a3] [] dL_act_81 cv_L_45 (fun h => cxX8_setLatency X.1 h) (Nat.le_of_ble_eq_true rfl) sx_0 ci_8 rfl rfl (Nat.le_of_ble_eq_true rfl) ⟨(Nat.le_of_ble_eq_true rfl), (Nat.le_of_ble_eq_true rfl)⟩ ⟨(Nat.le_of_ble_eq_true rfl), (Nat.le_of_ble_eq_true rfl)⟩ ⟨(Nat.le_of_ble_eq_true rfl), (Nat.le_of_ble_eq_true rfl)⟩ ?_
              intro r40 μ39
              refine ll_goto E (pc := 84) (tgt := 173) dL_act_84 rfl ?_
              exact ll_xireturn E (pc := 173) hr dL_act_173 ⟨(Nat.le_of_ble_eq_true rfl), (Nat.le_of_ble_eq_true rfl)⟩
          · refine ll_aload_n E (pc := 64) dL_act_64 rfl ?_
            refine ll_iload_n E (pc := 65) dL_act_65 rfl ?_
            refine ll_iload_n E (pc := 66) dL_act_66 rfl ?_
            refine ll_xcallVi E X (pc := 67) (d := 8) (mc1 := 2) (mc := 2) (ci := 8) (o9 := 0) [.int a2, .int a3] [] dL_act_67 cv_L_42 (fun h => cxX8_setSlots X.1 h) (Nat.le_of_ble_eq_true rfl) sx_0 ci_8 rfl rfl (Nat.le_of_ble_eq_true rfl) ⟨(Nat.le_of_ble_eq_true rfl), (Nat.le_of_ble_eq_true rfl)⟩ ⟨(Nat.le_of_ble_eq_true rfl), (Nat.le_of_ble_eq_true rfl)⟩ ⟨(Nat.le_of_ble_eq_true rfl), (Nat.le_of_ble_eq_true rfl)⟩ ?_
            intro r42 μ41
            refine ll_goto E (pc := 70) (tgt := 173) dL_act_70 rfl ?_
            exact ll_xireturn E (pc := 173) hr dL_act_173 ⟨(Nat.le_of_ble_eq_true rfl), (Nat.le_of_ble_eq_true rfl)⟩
        · refine ll_aload_n E (pc := 50) dL_act_50 rfl ?_
          refine ll_iload_n E (pc := 51) dL_act_51 rfl ?_
          refine ll_iload_n E (pc := 52) dL_act_52 rfl ?_
          refine ll_xcallVi E X (pc := 53) (d := 8) (mc1 := 2) (mc := 2) (ci := 8) (o9 := 0) [.int a2, .int a3] [] dL_act_53 cv_L_38 (fun h => cxX8_exchange X.1 h) (Nat.le_of_ble_eq_true rfl) sx_0 ci_8 rfl rfl (Nat.le_of_ble_eq_true rfl) ⟨(Nat.le_of_ble_eq_true rfl), (Nat.le_of_ble_eq_true rfl)⟩ ⟨(Nat.le_of_ble_eq_true rfl), (Nat.le_of_ble_eq_true rfl)⟩ ⟨(Nat.le_of_ble_eq_true rfl), (Nat.le_of_ble_eq_true rfl)⟩ ?_
          intro r44 μ43
          refine ll_goto E (pc := 56) (tgt := 173) dL_act_56 rfl ?_
          exact ll_xireturn E (pc := 173) hr dL_act_173 ⟨(Nat.le_of_ble_eq_true rfl), (Nat.le_of_ble_eq_true rfl)⟩
      · refine ll_aload_n E (pc := 37) dL_act_37 rfl ?_
        refine ll_iload_n E (pc := 38) dL_act_38 rfl ?_
        refine ll_xcallVi E X (pc := 39) (d := 8) (mc1 := 1) (mc := 2) (ci := 8) (o9 := 0) [.int a2] [] dL_act_39 cv_L_34 (fun h => cxX8_remove X.1 h) (Nat.le_of_ble_eq_true rfl) sx_0 ci_8 rfl rfl (Nat.le_of_ble_eq_true rfl) ⟨(Nat.le_of_ble_eq_true rfl), (Nat.le_of_ble_eq_true rfl)⟩ ⟨(Nat.le_of_ble_eq_true rfl), (Nat.le_of_ble_eq_true rfl)⟩ ⟨(Nat.le_of_ble_eq_true rfl), (Nat.le_of_ble_eq_true rfl)⟩ ?_
        intro r46 μ45
        refine ll_goto E (pc := 42) (tgt := 173) dL_act_42 rfl ?_
        exact ll_xireturn E (pc := 173) hr dL_act_173 ⟨(Nat.le_of_ble_eq_true rfl), (Nat.le_of_ble_eq_true rfl)⟩
    · refine ll_aload_n E (pc := 4) dL_act_4 rfl ?_
      refine ll_iload_n E (pc := 5) dL_act_5 rfl ?_
      refine ll_iload_n E (pc := 6) dL_act_6 rfl ?_
      refine ll_iload E (pc := 7) dL_act_7 rfl ?_
      refine ll_bipush E (pc := 9) dL_act_9 kb_15 ?_
      refine ll_iand E (pc := 11) dL_act_11 ?_
      refine ll_iload E (pc := 12) dL_act_12 rfl ?_
      refine ll_iconst E (pc := 14) dL_act_14 kc_4 ?_
      refine ll_ishr E (pc := 15) dL_act_15 ?_
      refine ll_bipush E (pc := 16) dL_act_16 kb_15 ?_
      refine ll_iand E (pc := 18) dL_act_18 ?_
      refine ll_iload E (pc := 19) dL_act_19 rfl ?_
      refine ll_bipush E (pc := 21) dL_act_21 kb_8 ?_
      refine ll_ishr E (pc := 23) dL_act_23 ?_
      refine ll_iload E (pc := 24) dL_act_24 rfl ?_
      refine ll_xcallVi E X (pc := 26) (d := 7) (mc1 := 1) (mc := 2) (ci := 8) (o9 := 0) [.int a2, .int a3, .int (a4 &&& (15 : Int32)), .int ((a4 >>> ((4 : Int32) &&& 31)) &&& (15 : Int32)), .int (a4 >>> ((8 : Int32) &&& 31)), .int a5] [] dL_act_26 cv_L_28 (fun h => cxX8_insert X.1 h) (Nat.le_of_ble_eq_true rfl) sx_0 ci_8 rfl rfl (Nat.le_of_ble_eq_true rfl) ⟨(Nat.le_of_ble_eq_true rfl), (Nat.le_of_ble_eq_true rfl)⟩ ⟨(Nat.le_of_ble_eq_true rfl), (Nat.le_of_ble_eq_true rfl)⟩ ⟨(Nat.le_of_ble_eq_true rfl), (Nat.le_of_ble_eq_true rfl)⟩ ?_
      intro r48 μ47
      refine ll_goto E (pc := 29) (tgt := 173) dL_act_29 rfl ?_
      exact ll_xireturn E (pc := 173) hr dL_act_173 ⟨(Nat.le_of_ble_eq_true rfl), (Nat.le_of_ble_eq_true rfl)⟩) hf
def fL_step (μ : Mem) (a1 : Int32) (a2 : Int32) (a3 : Int32) : Option ((Int32 ⊕ Nat) × Mem) :=
  if a1 = (12 : Int32) then
  bx (fX8_kindOf μ a2) fun r56 μ55 =>
  some (.inl r56, μ55)
  else
  if a1 = (13 : Int32) then
  bx (fX8_readBy μ a2) fun r54 μ53 =>
  some (.inl r54, μ53)
  else
  if a1 = (14 : Int32) then
  bx (fX8_writtenBy μ a2) fun r52 μ51 =>
  some (.inl r52, μ51)
  else
  if a1 = (15 : Int32) then
  bx (fX8_latencyOf μ a2) fun r50 μ49 =>
  some (.inl r50, μ49)
  else
  if a1 = (16 : Int32) then
  bx (fX8_heightOf μ a2) fun r48 μ47 =>
  some (.inl r48, μ47)
  else
  if a1 = (17 : Int32) then
  bx (fX8_earliestOf μ a2) fun r46 μ45 =>
  some (.inl r46, μ45)
  else
  if a1 = (18 : Int32) then
  bx (fX8_bundleOf μ a2) fun r44 μ43 =>
  some (.inl r44, μ43)
  else
  if a1 = (19 : Int32) then
  bx (fX8_loopBundleOf μ a2) fun r42 μ41 =>
  some (.inl r42, μ41)
  else
  if a1 = (20 : Int32) then
  bx (fX8_separation μ a2 a3) fun r40 μ39 =>
  some (.inl r40, μ39)
  else
  if a1 = (21 : Int32) then
  bx (fX8_carried μ a2 a3) fun r38 μ37 =>
  some (.inl r38, μ37)
  else
  if a1 = (22 : Int32) then
  bx (fX8_registerInOrder μ a2) fun r36 μ35 =>
  some (.inl r36, μ35)
  else
  if a1 = (23 : Int32) then
  bx (fX8_registerInBundles μ a2) fun r34 μ33 =>
  some (.inl r34, μ33)
  else
  if a1 = (24 : Int32) then
  bx (fX8_cellInOrder μ a2) fun r32 μ31 =>
  some (.inl r32, μ31)
  else
  bx (fX8_cellInBundles μ a2) fun r30 μ29 =>
  some (.inl r30, μ29)
theorem cxL_step {l : Launch} {D : va_G} {cI cR : ClassId} {ad : Nat → Nat} {μ : Mem} {a1 : Int32} {a2 : Int32} {a3 : Int32} (hl9 : l.stackTraces = false) {r : Int32 ⊕ Nat} {μ' : Mem} (hf : fL_step μ a1 a2 a3 = some (r, μ')) : CX l yL_step cL_step 4 (some .int) 9 2 D cI cR ad shX NX [.ref (ad 0), .int a1, .int a2, .int a3] μ (r.elim (fun r => .inl (some (.int r))) .inr) μ' :=
  cx_of (own := RL) (ov := fun (r : Int32 ⊕ Nat) => (r.elim (fun r => .inl (some (.int r))) .inr)) hl9 (by decide +kernel) rfl (Nat.le_of_ble_eq_true rfl) (fun p e s m below meth c A0 E X hr => by
    refine ll_lo (lo' := [some (.ref (ad 0)), some (.int a1), some (.int a2), some (.int a3)]) ⟨rfl, rfl, rfl, rfl, trivial⟩ ?_
    rw [fL_step]
    refine ll_iload_n E (pc := 0) dL_step_0 rfl ?_
    refine ll_bipush E (pc := 1) dL_step_1 kb_12 ?_
    refine ll_icmp_ne E (pc := 3) (tgt := 14) dL_step_3 rfl ?_ ?_
    · refine ll_iload_n E (pc := 14) dL_step_14 rfl ?_
      refine ll_bipush E (pc := 15) dL_step_15 kb_13 ?_
      refine ll_icmp_ne E (pc := 17) (tgt := 28) dL_step_17 rfl ?_ ?_
      · refine ll_iload_n E (pc := 28) dL_step_28 rfl ?_
        refine ll_bipush E (pc := 29) dL_step_29 kb_14 ?_
        refine ll_icmp_ne E (pc := 31) (tgt := 42) dL_step_31 rfl ?_ ?_
        · refine ll_iload_n E (pc := 42) dL_step_42 rfl ?_
          refine ll_bipush E (pc := 43) dL_step_43 kb_15 ?_
          refine ll_icmp_ne E (pc := 45) (tgt := 56) dL_step_45 rfl ?_ ?_
          · refine ll_iload_n E (pc := 56) dL_step_56 rfl ?_
            refine ll_bipush E (pc := 57) dL_step_57 kb_16 ?_
            refine ll_icmp_ne E (pc := 59) (tgt := 70) dL_step_59 rfl ?_ ?_
            · refine ll_iload_n E (pc := 70) dL_step_70 rfl ?_
              refine ll_bipush E (pc := 71) dL_step_71 kb_17 ?_
              refine ll_icmp_ne E (pc := 73) (tgt := 84) dL_step_73 rfl ?_ ?_
              · refine ll_iload_n E (pc := 84) dL_step_84 rfl ?_
                refine ll_bipush E (pc := 85) dL_step_85 kb_18 ?_
                refine ll_icmp_ne E (pc := 87) (tgt := 98) dL_step_87 rfl ?_ ?_
                · refine ll_iload_n E (pc := 98) dL_step_98 rfl ?_
                  refine ll_bipush E (pc := 99) dL_step_99 kb_19 ?_
                  refine ll_icmp_ne E (pc := 101) (tgt := 112) dL_step_101 rfl ?_ ?_
                  · refine ll_iload_n E (pc := 112) dL_step_112 rfl ?_
                    refine ll_bipush E (pc := 113) dL_step_113 kb_20 ?_
                    refine ll_icmp_ne E (pc := 115) (tgt := 127) dL_step_115 rfl ?_ ?_
                    · refine ll_iload_n E (pc := 127) dL_step_127 rfl ?_
                      refine ll_bipush E (pc := 128) dL_step_128 kb_21 ?_
                      refine ll_icmp_ne E (pc := 130) (tgt := 142) dL_step_130 rfl ?_ ?_
                      · refine ll_iload_n E (pc := 142) dL_step_142 rfl ?_
                        refine ll_bipush E (pc := 143) dL_step_143 kb_22 ?_
                        refine ll_icmp_ne E (pc := 145) (tgt := 156) dL_step_145 rfl ?_ ?_
                        · refine ll_iload_n E (pc := 156) dL_step_156 rfl ?_
                          refine ll_bipush E (pc := 157) dL_step_157 kb_23 ?_
                          refine ll_icmp_ne E (pc := 159) (tgt := 170) dL_step_159 rfl ?_ ?_
                          · refine ll_iload_n E (pc := 170) dL_step_170 rfl ?_
                            refine ll_bipush E (pc := 171) dL_step_171 kb_24 ?_
                            refine ll_icmp_ne E (pc := 173) (tgt := 184) dL_step_173 rfl ?_ ?_
                            · refine ll_aload_n E (pc := 184) dL_step_184 rfl ?_
                              refine ll_iload_n E (pc := 185) dL_step_185 rfl ?_
                              refine ll_xcallVi E X (pc := 186) (d := 8) (mc1 := 1) (mc := 2) (ci := 8) (o9 := 0) [.int a2] [] dL_step_186 cv_L_109 (fun h => cxX8_cellInBundles X.1 h) (Nat.le_of_ble_eq_true rfl) sx_0 ci_8 rfl rfl (Nat.le_of_ble_eq_true rfl) ⟨(Nat.le_of_ble_eq_true rfl), (Nat.le_of_ble_eq_true rfl)⟩ ⟨(Nat.le_of_ble_eq_true rfl), (Nat.le_of_ble_eq_true rfl)⟩ ⟨(Nat.le_of_ble_eq_true rfl), (Nat.le_of_ble_eq_true rfl)⟩ ?_
                              intro r30 μ29
                              exact ll_xireturn E (pc := 189) hr dL_step_189 ⟨(Nat.le_of_ble_eq_true rfl), (Nat.le_of_ble_eq_true rfl)⟩
                            · refine ll_aload_n E (pc := 176) dL_step_176 rfl ?_
                              refine ll_iload_n E (pc := 177) dL_step_177 rfl ?_
                              refine ll_xcallVi E X (pc := 178) (d := 8) (mc1 := 1) (mc := 2) (ci := 8) (o9 := 0) [.int a2] [] dL_step_178 cv_L_106 (fun h => cxX8_cellInOrder X.1 h) (Nat.le_of_ble_eq_true rfl) sx_0 ci_8 rfl rfl (Nat.le_of_ble_eq_true rfl) ⟨(Nat.le_of_ble_eq_true rfl), (Nat.le_of_ble_eq_true rfl)⟩ ⟨(Nat.le_of_ble_eq_true rfl), (Nat.le_of_ble_eq_true rfl)⟩ ⟨(Nat.le_of_ble_eq_true rfl), (Nat.le_of_ble_eq_true rfl)⟩ ?_
                              intro r32 μ31
                              refine ll_goto E (pc := 181) (tgt := 189) dL_step_181 rfl ?_
                              exact ll_xireturn E (pc := 189) hr dL_step_189 ⟨(Nat.le_of_ble_eq_true rfl), (Nat.le_of_ble_eq_true rfl)⟩
                          · refine ll_aload_n E (pc := 162) dL_step_162 rfl ?_
                            refine ll_iload_n E (pc := 163) dL_step_163 rfl ?_
                            refine ll_xcallVi E X (pc := 164) (d := 8) (mc1 := 1) (mc := 2) (ci := 8) (o9 := 0) [.int a2] [] dL_step_164 cv_L_103 (fun h => cxX8_registerInBundles X.1 h) (Nat.le_of_ble_eq_true rfl) sx_0 ci_8 rfl rfl (Nat.le_of_ble_eq_true rfl) ⟨(Nat.le_of_ble_eq_true rfl), (Nat.le_of_ble_eq_true rfl)⟩ ⟨(Nat.le_of_ble_eq_true rfl), (Nat.le_of_ble_eq_true rfl)⟩ ⟨(Nat.le_of_ble_eq_true rfl), (Nat.le_of_ble_eq_true rfl)⟩ ?_
                            intro r34 μ33
                            refine ll_goto E (pc := 167) (tgt := 189) dL_step_167 rfl ?_
                            exact ll_xireturn E (pc := 189) hr dL_step_189 ⟨(Nat.le_of_ble_eq_true rfl), (Nat.le_of_ble_eq_true rfl)⟩
                        · refine ll_aload_n E (pc := 148) dL_step_148 rfl ?_
                          refine ll_iload_n E (pc := 149) dL_step_149 rfl ?_
                          refine ll_xcallVi E X (pc := 150) (d := 8) (mc1 := 1) (mc := 2) (ci := 8) (o9 := 0) [.int a2] [] dL_step_150 cv_L_100 (fun h => cxX8_registerInOrder X.1 h) (Nat.le_of_ble_eq_true rfl) sx_0 ci_8 rfl rfl (Nat.le_of_ble_eq_true rfl) ⟨(Nat.le_of_ble_eq_true rfl), (Nat.le_of_ble_eq_true rfl)⟩ ⟨(Nat.le_of_ble_eq_true rfl), (Nat.le_of_ble_eq_true rfl)⟩ ⟨(Nat.le_of_ble_eq_true rfl), (Nat.le_of_ble_eq_true rfl)⟩ ?_
                          intro r36 μ35
                          refine ll_goto E (pc := 153) (tgt := 189) dL_step_153 rfl ?_
                          exact ll_xireturn E (pc := 189) hr dL_step_189 ⟨(Nat.le_of_ble_eq_true rfl), (Nat.le_of_ble_eq_true rfl)⟩
                      · refine ll_aload_n E (pc := 133) dL_step_133 rfl ?_
                        refine ll_iload_n E (pc := 134) dL_step_134 rfl ?_
                        refine ll_iload_n E (pc := 135) dL_step_135 rfl ?_
                        refine ll_xcallVi E X (pc := 136) (d := 8) (mc1 := 2) (mc := 2) (ci := 8) (o9 := 0) [.int a2, .int a3] [] dL_step_136 cv_L_97 (fun h => cxX8_carried X.1 h) (Nat.le_of_ble_eq_true rfl) sx_0 ci_8 rfl rfl (Nat.le_of_ble_eq_true rfl) ⟨(Nat.le_of_ble_eq_true rfl), (Nat.le_of_ble_eq_true rfl)⟩ ⟨(Nat.le_of_ble_eq_true rfl), (Nat.le_of_ble_eq_true rfl)⟩ ⟨(Nat.le_of_ble_eq_true rfl), (Nat.le_of_ble_eq_true rfl)⟩ ?_
                        intro r38 μ37
                        refine ll_goto E (pc := 139) (tgt := 189) dL_step_139 rfl ?_
                        exact ll_xireturn E (pc := 189) hr dL_step_189 ⟨(Nat.le_of_ble_eq_true rfl), (Nat.le_of_ble_eq_true rfl)⟩
                    · refine ll_aload_n E (pc := 118) dL_step_118 rfl ?_
                      refine ll_iload_n E (pc := 119) dL_step_119 rfl ?_
                      refine ll_iload_n E (pc := 120) dL_step_120 rfl ?_
                      refine ll_xcallVi E X (pc := 121) (d := 8) (mc1 := 2) (mc := 2) (ci := 8) (o9 := 0) [.int a2, .int a3] [] dL_step_121 cv_L_94 (fun h => cxX8_separation X.1 h) (Nat.le_of_ble_eq_true rfl) sx_0 ci_8 rfl rfl (Nat.le_of_ble_eq_true rfl) ⟨(Nat.le_of_ble_eq_true rfl), (Nat.le_of_ble_eq_true rfl)⟩ ⟨(Nat.le_of_ble_eq_true rfl), (Nat.le_of_ble_eq_true rfl)⟩ ⟨(Nat.le_of_ble_eq_true rfl), (Nat.le_of_ble_eq_true rfl)⟩ ?_
                      intro r40 μ39
                      refine ll_goto E (pc := 124) (tgt := 189) dL_step_124 rfl ?_
                      exact ll_xireturn E (pc := 189) hr dL_step_189 ⟨(Nat.le_of_ble_eq_true rfl), (Nat.le_of_ble_eq_true rfl)⟩
                  · refine ll_aload_n E (pc := 104) dL_step_104 rfl ?_
                    refine ll_iload_n E (pc := 105) dL_step_105 rfl ?_
                    refine ll_xcallVi E X (pc := 106) (d := 8) (mc1 := 1) (mc := 2) (ci := 8) (o9 := 0) [.int a2] [] dL_step_106 cv_L_91 (fun h => cxX8_loopBundleOf X.1 h) (Nat.le_of_ble_eq_true rfl) sx_0 ci_8 rfl rfl (Nat.le_of_ble_eq_true rfl) ⟨(Nat.le_of_ble_eq_true rfl), (Nat.le_of_ble_eq_true rfl)⟩ ⟨(Nat.le_of_ble_eq_true rfl), (Nat.le_of_ble_eq_true rfl)⟩ ⟨(Nat.le_of_ble_eq_true rfl), (Nat.le_of_ble_eq_true rfl)⟩ ?_
                    intro r42 μ41
                    refine ll_goto E (pc := 109) (tgt := 189) dL_step_109 rfl ?_
                    exact ll_xireturn E (pc := 189) hr dL_step_189 ⟨(Nat.le_of_ble_eq_true rfl), (Nat.le_of_ble_eq_true rfl)⟩
                · refine ll_aload_n E (pc := 90) dL_step_90 rfl ?_
                  refine ll_iload_n E (pc := 91) dL_step_91 rfl ?_
                  refine ll_xcallVi E X (pc := 92) (d := 8) (mc1 := 1) (mc := 2) (ci := 8) (o9 := 0) [.int a2] [] dL_step_92 cv_L_88 (fun h => cxX8_bundleOf X.1 h) (Nat.le_of_ble_eq_true rfl) sx_0 ci_8 rfl rfl (Nat.le_of_ble_eq_true rfl) ⟨(Nat.le_of_ble_eq_true rfl), (Nat.le_of_ble_eq_true rfl)⟩ ⟨(Nat.le_of_ble_eq_true rfl), (Nat.le_of_ble_eq_true rfl)⟩ ⟨(Nat.le_of_ble_eq_true rfl), (Nat.le_of_ble_eq_true rfl)⟩ ?_
                  intro r44 μ43
                  refine ll_goto E (pc := 95) (tgt := 189) dL_step_95 rfl ?_
                  exact ll_xireturn E (pc := 189) hr dL_step_189 ⟨(Nat.le_of_ble_eq_true rfl), (Nat.le_of_ble_eq_true rfl)⟩
              · refine ll_aload_n E (pc := 76) dL_step_76 rfl ?_
                refine ll_iload_n E (pc := 77) dL_step_77 rfl ?_
                refine ll_xcallVi E X (pc := 78) (d := 8) (mc1 := 1) (mc := 2) (ci := 8) (o9 := 0) [.int a2] [] dL_step_78 cv_L_85 (fun h => cxX8_earliestOf X.1 h) (Nat.le_of_ble_eq_true rfl) sx_0 ci_8 rfl rfl (Nat.le_of_ble_eq_true rfl) ⟨(Nat.le_of_ble_eq_true rfl), (Nat.le_of_ble_eq_true rfl)⟩ ⟨(Nat.le_of_ble_eq_true rfl), (Nat.le_of_ble_eq_true rfl)⟩ ⟨(Nat.le_of_ble_eq_true rfl), (Nat.le_of_ble_eq_true rfl)⟩ ?_
                intro r46 μ45
                refine ll_goto E (pc := 81) (tgt := 189) dL_step_81 rfl ?_
                exact ll_xireturn E (pc := 189) hr dL_step_189 ⟨(Nat.le_of_ble_eq_true rfl), (Nat.le_of_ble_eq_true rfl)⟩
            · refine ll_aload_n E (pc := 62) dL_step_62 rfl ?_
              refine ll_iload_n E (pc := 63) dL_step_63 rfl ?_
              refine ll_xcallVi E X (pc := 64) (d := 8) (mc1 := 1) (mc := 2) (ci := 8) (o9 := 0) [.int a2] [] dL_step_64 cv_L_82 (fun h => cxX8_heightOf X.1 h) (Nat.le_of_ble_eq_true rfl) sx_0 ci_8 rfl rfl (Nat.le_of_ble_eq_true rfl) ⟨(Nat.le_of_ble_eq_true rfl), (Nat.le_of_ble_eq_true rfl)⟩ ⟨(Nat.le_of_ble_eq_true rfl), (Nat.le_of_ble_eq_true rfl)⟩ ⟨(Nat.le_of_ble_eq_true rfl), (Nat.le_of_ble_eq_true rfl)⟩ ?_
              intro r48 μ47
              refine ll_goto E (pc := 67) (tgt := 189) dL_step_67 rfl ?_
              exact ll_xireturn E (pc := 189) hr dL_step_189 ⟨(Nat.le_of_ble_eq_true rfl), (Nat.le_of_ble_eq_true rfl)⟩
          · refine ll_aload_n E (pc := 48) dL_step_48 rfl ?_
            refine ll_iload_n E (pc := 49) dL_step_49 rfl ?_
            refine ll_xcallVi E X (pc := 50) (d := 8) (mc1 := 1) (mc := 2) (ci := 8) (o9 := 0) [.int a2] [] dL_step_50 cv_L_79 (fun h => cxX8_latencyOf X.1 h) (Nat.le_of_ble_eq_true rfl) sx_0 ci_8 rfl rfl (Nat.le_of_ble_eq_true rfl) ⟨(Nat.le_of_ble_eq_true rfl), (Nat.le_of_ble_eq_true rfl)⟩ ⟨(Nat.le_of_ble_eq_true rfl), (Nat.le_of_ble_eq_true rfl)⟩ ⟨(Nat.le_of_ble_eq_true rfl), (Nat.le_of_ble_eq_true rfl)⟩ ?_
            intro r50 μ49
            refine ll_goto E (pc := 53) (tgt := 189) dL_step_53 rfl ?_
            exact ll_xireturn E (pc := 189) hr dL_step_189 ⟨(Nat.le_of_ble_eq_true rfl), (Nat.le_of_ble_eq_true rfl)⟩
        · refine ll_aload_n E (pc := 34) dL_step_34 rfl ?_
          refine ll_iload_n E (pc := 35) dL_step_35 rfl ?_
          refine ll_xcallVi E X (pc := 36) (d := 8) (mc1 := 1) (mc := 2) (ci := 8) (o9 := 0) [.int a2] [] dL_step_36 cv_L_76 (fun h => cxX8_writtenBy X.1 h) (Nat.le_of_ble_eq_true rfl) sx_0 ci_8 rfl rfl (Nat.le_of_ble_eq_true rfl) ⟨(Nat.le_of_ble_eq_true rfl), (Nat.le_of_ble_eq_true rfl)⟩ ⟨(Nat.le_of_ble_eq_true rfl), (Nat.le_of_ble_eq_true rfl)⟩ ⟨(Nat.le_of_ble_eq_true rfl), (Nat.le_of_ble_eq_true rfl)⟩ ?_
          intro r52 μ51
          refine ll_goto E (pc := 39) (tgt := 189) dL_step_39 rfl ?_
          exact ll_xireturn E (pc := 189) hr dL_step_189 ⟨(Nat.le_of_ble_eq_true rfl), (Nat.le_of_ble_eq_true rfl)⟩
      · refine ll_aload_n E (pc := 20) dL_step_20 rfl ?_
        refine ll_iload_n E (pc := 21) dL_step_21 rfl ?_
        refine ll_xcallVi E X (pc := 22) (d := 8) (mc1 := 1) (mc := 2) (ci := 8) (o9 := 0) [.int a2] [] dL_step_22 cv_L_73 (fun h => cxX8_readBy X.1 h) (Nat.le_of_ble_eq_true rfl) sx_0 ci_8 rfl rfl (Nat.le_of_ble_eq_true rfl) ⟨(Nat.le_of_ble_eq_true rfl), (Nat.le_of_ble_eq_true rfl)⟩ ⟨(Nat.le_of_ble_eq_true rfl), (Nat.le_of_ble_eq_true rfl)⟩ ⟨(Nat.le_of_ble_eq_true rfl), (Nat.le_of_ble_eq_true rfl)⟩ ?_
        intro r54 μ53
        refine ll_goto E (pc := 25) (tgt := 189) dL_step_25 rfl ?_
        exact ll_xireturn E (pc := 189) hr dL_step_189 ⟨(Nat.le_of_ble_eq_true rfl), (Nat.le_of_ble_eq_true rfl)⟩
    · refine ll_aload_n E (pc := 6) dL_step_6 rfl ?_
      refine ll_iload_n E (pc := 7) dL_step_7 rfl ?_
      refine ll_xcallVi E X (pc := 8) (d := 8) (mc1 := 1) (mc := 2) (ci := 8) (o9 := 0) [.int a2] [] dL_step_8 cv_L_70 (fun h => cxX8_kindOf X.1 h) (Nat.le_of_ble_eq_true rfl) sx_0 ci_8 rfl rfl (Nat.le_of_ble_eq_true rfl) ⟨(Nat.le_of_ble_eq_true rfl), (Nat.le_of_ble_eq_true rfl)⟩ ⟨(Nat.le_of_ble_eq_true rfl), (Nat.le_of_ble_eq_true rfl)⟩ ⟨(Nat.le_of_ble_eq_true rfl), (Nat.le_of_ble_eq_true rfl)⟩ ?_
      intro r56 μ55
      refine ll_goto E (pc := 11) (tgt := 189) dL_step_11 rfl ?_
      exact ll_xireturn E (pc := 189) hr dL_step_189 ⟨(Nat.le_of_ble_eq_true rfl), (Nat.le_of_ble_eq_true rfl)⟩) hf
def fL_rest (μ : Mem) (a1 : Int32) (a2 : Int32) (a3 : Int32) : Option ((Int32 ⊕ Nat) × Mem) :=
  if a1 = (26 : Int32) then
  bx (fX8_registerAt μ a2 a3) fun r32 μ31 =>
  some (.inl r32, μ31)
  else
  if a1 = (27 : Int32) then
  bx (fX8_registerInLoop μ a2 a3) fun r30 μ29 =>
  some (.inl r30, μ29)
  else
  if a1 = (28 : Int32) then
  bx (fX8_registerInRounds μ a2 a3) fun r28 μ27 =>
  some (.inl r28, μ27)
  else
  if a1 = (29 : Int32) then
  bx (fX8_cellInLoop μ a2 a3) fun r26 μ25 =>
  some (.inl r26, μ25)
  else
  if a1 = (30 : Int32) then
  bx (fX8_stepsIn μ a2) fun r24 μ23 =>
  some (.inl r24, μ23)
  else
  if a1 = (31 : Int32) then
  bx (fX8_loopBundles μ a2) fun r22 μ21 =>
  some (.inl r22, μ21)
  else
  if a1 = (32 : Int32) then
  bx (fX8_setRegister μ a2 a3) fun r20 μ19 =>
  some (.inl r20, μ19)
  else
  bx (fX8_setCell μ a2 a3) fun r18 μ17 =>
  some (.inl r18, μ17)
theorem cxL_rest {l : Launch} {D : va_G} {cI cR : ClassId} {ad : Nat → Nat} {μ : Mem} {a1 : Int32} {a2 : Int32} {a3 : Int32} (hl9 : l.stackTraces = false) {r : Int32 ⊕ Nat} {μ' : Mem} (hf : fL_rest μ a1 a2 a3 = some (r, μ')) : CX l yL_rest cL_rest 4 (some .int) 9 2 D cI cR ad shX NX [.ref (ad 0), .int a1, .int a2, .int a3] μ (r.elim (fun r => .inl (some (.int r))) .inr) μ' :=
  cx_of (own := RL) (ov := fun (r : Int32 ⊕ Nat) => (r.elim (fun r => .inl (some (.int r))) .inr)) hl9 (by decide +kernel) rfl (Nat.le_of_ble_eq_true rfl) (fun p e s m below meth c A0 E X hr => by
    refine ll_lo (lo' := [some (.ref (ad 0)), some (.int a1), some (.int a2), some (.int a3)]) ⟨rfl, rfl, rfl, rfl, trivial⟩ ?_
    rw [fL_rest]
    refine ll_iload_n E (pc := 0) dL_rest_0 rfl ?_
    refine ll_bipush E (pc := 1) dL_rest_1 kb_26 ?_
    refine ll_icmp_ne E (pc := 3) (tgt := 15) dL_rest_3 rfl ?_ ?_
    · refine ll_iload_n E (pc := 15) dL_rest_15 rfl ?_
      refine ll_bipush E (pc := 16) dL_rest_16 kb_27 ?_
      refine ll_icmp_ne E (pc := 18) (tgt := 30) dL_rest_18 rfl ?_ ?_
      · refine ll_iload_n E (pc := 30) dL_rest_30 rfl ?_
        refine ll_bipush E (pc := 31) dL_rest_31 kb_28 ?_
        refine ll_icmp_ne E (pc := 33) (tgt := 45) dL_rest_33 rfl ?_ ?_
        · refine ll_iload_n E (pc := 45) dL_rest_45 rfl ?_
          refine ll_bipush E (pc := 46) dL_rest_46 kb_29 ?_
          refine ll_icmp_ne E (pc := 48) (tgt := 60) dL_rest_48 rfl ?_ ?_
          · refine ll_iload_n E (pc := 60) dL_rest_60 rfl ?_
            refine ll_bipush E (pc := 61) dL_rest_61 kb_30 ?_
            refine ll_icmp_ne E (pc := 63) (tgt := 74) dL_rest_63 rfl ?_ ?_
            · refine ll_iload_n E (pc := 74) dL_rest_74 rfl ?_
              refine ll_bipush E (pc := 75) dL_rest_75 kb_31 ?_
              refine ll_icmp_ne E (pc := 77) (tgt := 88) dL_rest_77 rfl ?_ ?_
              · refine ll_iload_n E (pc := 88) dL_rest_88 rfl ?_
                refine ll_bipush E (pc := 89) dL_rest_89 kb_32 ?_
                refine ll_icmp_ne E (pc := 91) (tgt := 103) dL_rest_91 rfl ?_ ?_
                · refine ll_aload_n E (pc := 103) dL_rest_103 rfl ?_
                  refine ll_iload_n E (pc := 104) dL_rest_104 rfl ?_
                  refine ll_iload_n E (pc := 105) dL_rest_105 rfl ?_
                  refine ll_xcallVi E X (pc := 106) (d := 8) (mc1 := 1) (mc := 2) (ci := 8) (o9 := 0) [.int a2, .int a3] [] dL_rest_106 cv_L_133 (fun h => cxX8_setCell X.1 h) (Nat.le_of_ble_eq_true rfl) sx_0 ci_8 rfl rfl (Nat.le_of_ble_eq_true rfl) ⟨(Nat.le_of_ble_eq_true rfl), (Nat.le_of_ble_eq_true rfl)⟩ ⟨(Nat.le_of_ble_eq_true rfl), (Nat.le_of_ble_eq_true rfl)⟩ ⟨(Nat.le_of_ble_eq_true rfl), (Nat.le_of_ble_eq_true rfl)⟩ ?_
                  intro r18 μ17
                  exact ll_xireturn E (pc := 109) hr dL_rest_109 ⟨(Nat.le_of_ble_eq_true rfl), (Nat.le_of_ble_eq_true rfl)⟩
                · refine ll_aload_n E (pc := 94) dL_rest_94 rfl ?_
                  refine ll_iload_n E (pc := 95) dL_rest_95 rfl ?_
                  refine ll_iload_n E (pc := 96) dL_rest_96 rfl ?_
                  refine ll_xcallVi E X (pc := 97) (d := 8) (mc1 := 1) (mc := 2) (ci := 8) (o9 := 0) [.int a2, .int a3] [] dL_rest_97 cv_L_130 (fun h => cxX8_setRegister X.1 h) (Nat.le_of_ble_eq_true rfl) sx_0 ci_8 rfl rfl (Nat.le_of_ble_eq_true rfl) ⟨(Nat.le_of_ble_eq_true rfl), (Nat.le_of_ble_eq_true rfl)⟩ ⟨(Nat.le_of_ble_eq_true rfl), (Nat.le_of_ble_eq_true rfl)⟩ ⟨(Nat.le_of_ble_eq_true rfl), (Nat.le_of_ble_eq_true rfl)⟩ ?_
                  intro r20 μ19
                  refine ll_goto E (pc := 100) (tgt := 109) dL_rest_100 rfl ?_
                  exact ll_xireturn E (pc := 109) hr dL_rest_109 ⟨(Nat.le_of_ble_eq_true rfl), (Nat.le_of_ble_eq_true rfl)⟩
              · refine ll_aload_n E (pc := 80) dL_rest_80 rfl ?_
                refine ll_iload_n E (pc := 81) dL_rest_81 rfl ?_
                refine ll_xcallVi E X (pc := 82) (d := 8) (mc1 := 1) (mc := 2) (ci := 8) (o9 := 0) [.int a2] [] dL_rest_82 cv_L_127 (fun h => cxX8_loopBundles X.1 h) (Nat.le_of_ble_eq_true rfl) sx_0 ci_8 rfl rfl (Nat.le_of_ble_eq_true rfl) ⟨(Nat.le_of_ble_eq_true rfl), (Nat.le_of_ble_eq_true rfl)⟩ ⟨(Nat.le_of_ble_eq_true rfl), (Nat.le_of_ble_eq_true rfl)⟩ ⟨(Nat.le_of_ble_eq_true rfl), (Nat.le_of_ble_eq_true rfl)⟩ ?_
                intro r22 μ21
                refine ll_goto E (pc := 85) (tgt := 109) dL_rest_85 rfl ?_
                exact ll_xireturn E (pc := 109) hr dL_rest_109 ⟨(Nat.le_of_ble_eq_true rfl), (Nat.le_of_ble_eq_true rfl)⟩
            · refine ll_aload_n E (pc := 66) dL_rest_66 rfl ?_
              refine ll_iload_n E (pc := 67) dL_rest_67 rfl ?_
              refine ll_xcallVi E X (pc := 68) (d := 8) (mc1 := 1) (mc := 2) (ci := 8) (o9 := 0) [.int a2] [] dL_rest_68 cv_L_124 (fun h => cxX8_stepsIn X.1 h) (Nat.le_of_ble_eq_true rfl) sx_0 ci_8 rfl rfl (Nat.le_of_ble_eq_true rfl) ⟨(Nat.le_of_ble_eq_true rfl), (Nat.le_of_ble_eq_true rfl)⟩ ⟨(Nat.le_of_ble_eq_true rfl), (Nat.le_of_ble_eq_true rfl)⟩ ⟨(Nat.le_of_ble_eq_true rfl), (Nat.le_of_ble_eq_true rfl)⟩ ?_
              intro r24 μ23
              refine ll_goto E (pc := 71) (tgt := 109) dL_rest_71 rfl ?_
              exact ll_xireturn E (pc := 109) hr dL_rest_109 ⟨(Nat.le_of_ble_eq_true rfl), (Nat.le_of_ble_eq_true rfl)⟩
          · refine ll_aload_n E (pc := 51) dL_rest_51 rfl ?_
            refine ll_iload_n E (pc := 52) dL_rest_52 rfl ?_
            refine ll_iload_n E (pc := 53) dL_rest_53 rfl ?_
            refine ll_xcallVi E X (pc := 54) (d := 8) (mc1 := 2) (mc := 2) (ci := 8) (o9 := 0) [.int a2, .int a3] [] dL_rest_54 cv_L_121 (fun h => cxX8_cellInLoop X.1 h) (Nat.le_of_ble_eq_true rfl) sx_0 ci_8 rfl rfl (Nat.le_of_ble_eq_true rfl) ⟨(Nat.le_of_ble_eq_true rfl), (Nat.le_of_ble_eq_true rfl)⟩ ⟨(Nat.le_of_ble_eq_true rfl), (Nat.le_of_ble_eq_true rfl)⟩ ⟨(Nat.le_of_ble_eq_true rfl), (Nat.le_of_ble_eq_true rfl)⟩ ?_
            intro r26 μ25
            refine ll_goto E (pc := 57) (tgt := 109) dL_rest_57 rfl ?_
            exact ll_xireturn E (pc := 109) hr dL_rest_109 ⟨(Nat.le_of_ble_eq_true rfl), (Nat.le_of_ble_eq_true rfl)⟩
        · refine ll_aload_n E (pc := 36) dL_rest_36 rfl ?_
          refine ll_iload_n E (pc := 37) dL_rest_37 rfl ?_
          refine ll_iload_n E (pc := 38) dL_rest_38 rfl ?_
          refine ll_xcallVi E X (pc := 39) (d := 8) (mc1 := 2) (mc := 2) (ci := 8) (o9 := 0) [.int a2, .int a3] [] dL_rest_39 cv_L_118 (fun h => cxX8_registerInRounds X.1 h) (Nat.le_of_ble_eq_true rfl) sx_0 ci_8 rfl rfl (Nat.le_of_ble_eq_true rfl) ⟨(Nat.le_of_ble_eq_true rfl), (Nat.le_of_ble_eq_true rfl)⟩ ⟨(Nat.le_of_ble_eq_true rfl), (Nat.le_of_ble_eq_true rfl)⟩ ⟨(Nat.le_of_ble_eq_true rfl), (Nat.le_of_ble_eq_true rfl)⟩ ?_
          intro r28 μ27
          refine ll_goto E (pc := 42) (tgt := 109) dL_rest_42 rfl ?_
          exact ll_xireturn E (pc := 109) hr dL_rest_109 ⟨(Nat.le_of_ble_eq_true rfl), (Nat.le_of_ble_eq_true rfl)⟩
      · refine ll_aload_n E (pc := 21) dL_rest_21 rfl ?_
        refine ll_iload_n E (pc := 22) dL_rest_22 rfl ?_
        refine ll_iload_n E (pc := 23) dL_rest_23 rfl ?_
        refine ll_xcallVi E X (pc := 24) (d := 8) (mc1 := 2) (mc := 2) (ci := 8) (o9 := 0) [.int a2, .int a3] [] dL_rest_24 cv_L_115 (fun h => cxX8_registerInLoop X.1 h) (Nat.le_of_ble_eq_true rfl) sx_0 ci_8 rfl rfl (Nat.le_of_ble_eq_true rfl) ⟨(Nat.le_of_ble_eq_true rfl), (Nat.le_of_ble_eq_true rfl)⟩ ⟨(Nat.le_of_ble_eq_true rfl), (Nat.le_of_ble_eq_true rfl)⟩ ⟨(Nat.le_of_ble_eq_true rfl), (Nat.le_of_ble_eq_true rfl)⟩ ?_
        intro r30 μ29
        refine ll_goto E (pc := 27) (tgt := 109) dL_rest_27 rfl ?_
        exact ll_xireturn E (pc := 109) hr dL_rest_109 ⟨(Nat.le_of_ble_eq_true rfl), (Nat.le_of_ble_eq_true rfl)⟩
    · refine ll_aload_n E (pc := 6) dL_rest_6 rfl ?_
      refine ll_iload_n E (pc := 7) dL_rest_7 rfl ?_
      refine ll_iload_n E (pc := 8) dL_rest_8 rfl ?_
      refine ll_xcallVi E X (pc := 9) (d := 8) (mc1 := 2) (mc := 2) (ci := 8) (o9 := 0) [.int a2, .int a3] [] dL_rest_9 cv_L_112 (fun h => cxX8_registerAt X.1 h) (Nat.le_of_ble_eq_true rfl) sx_0 ci_8 rfl rfl (Nat.le_of_ble_eq_true rfl) ⟨(Nat.le_of_ble_eq_true rfl), (Nat.le_of_ble_eq_true rfl)⟩ ⟨(Nat.le_of_ble_eq_true rfl), (Nat.le_of_ble_eq_true rfl)⟩ ⟨(Nat.le_of_ble_eq_true rfl), (Nat.le_of_ble_eq_true rfl)⟩ ?_
      intro r32 μ31
      refine ll_goto E (pc := 12) (tgt := 109) dL_rest_12 rfl ?_
      exact ll_xireturn E (pc := 109) hr dL_rest_109 ⟨(Nat.le_of_ble_eq_true rfl), (Nat.le_of_ble_eq_true rfl)⟩) hf
def cxk (k : Nat) : Int32 := if k = 1 then (-2011 : Int32) else if k = 2 then (-2012 : Int32) else (-2013 : Int32)
def fL_call (μ : Mem) (a1 : Int32) (a2 : Int32) (a3 : Int32) (a4 : Int32) (a5 : Int32) : Option (Int32 × Mem) :=
  if (12 : Int32) ≤ a1 then
  if (26 : Int32) ≤ a1 then
  bc (fL_rest μ a1 a2 a3) (fun r μ1 => some (r, μ1)) (fun k μ1 => some (cxk k, μ1))
  else
  bc (fL_step μ a1 a2 a3) (fun r μ1 => some (r, μ1)) (fun k μ1 => some (cxk k, μ1))
  else
  bc (fL_act μ a1 a2 a3 a4 a5) (fun r μ1 => some (r, μ1)) (fun k μ1 => some (cxk k, μ1))
theorem xcl : ∀ k, 1 ≤ k → k ≤ 3 → Cond.classLink RL (hci k) (xnm k) ∈ Z_W := fun k h1 h2 => by
  rcases (show k = 1 ∨ k = 2 ∨ k = 3 by omega) with rfl | rfl | rfl
  · exact (zw 560 (by decide +kernel) (by decide +kernel))
  · exact (zw 561 (by decide +kernel) (by decide +kernel))
  · exact (zw 562 (by decide +kernel) (by decide +kernel))
theorem cmL_call {l : Launch} {D : va_G} {cI cR : ClassId} {ad : Nat → Nat} {μ : Mem} {a1 : Int32} {a2 : Int32} {a3 : Int32} {a4 : Int32} {a5 : Int32} (hl9 : l.stackTraces = false) {r : Int32} {μ' : Mem} (hf : fL_call μ a1 a2 a3 a4 a5 = some (r, μ')) : CM l yL_call (.codeWith yL_call cL_call 7 (some .int) [(0, 43, 44, 22), (0, 43, 50, 24), (0, 43, 56, 26)]) 10 2 D cI cR ad shX NX [.ref (ad 0), .int a1, .int a2, .int a3, .int a4, .int a5] μ (some (.int r)) μ' :=
  cm_ofH (own := RL) (ov := fun (r : Int32) => (some (.int r))) hl9 (by decide +kernel) rfl (Nat.le_of_ble_eq_true rfl) (fun p e s m below meth c A0 E X htab hr => by
    refine ll_lo (lo' := [some (.ref (ad 0)), some (.int a1), some (.int a2), some (.int a3), some (.int a4), some (.int a5), none]) ⟨rfl, rfl, rfl, rfl, rfl, rfl, trivial⟩ ?_
    rw [fL_call]
    refine ll_iload_n E (pc := 0) dL_call_0 rfl ?_
    refine ll_bipush E (pc := 1) dL_call_1 kb_12 ?_
    refine ll_icmp_ge E (pc := 3) (tgt := 20) dL_call_3 rfl ?_ ?_
    · refine ll_iload_n E (pc := 20) dL_call_20 rfl ?_
      refine ll_bipush E (pc := 21) dL_call_21 kb_26 ?_
      refine ll_icmp_ge E (pc := 23) (tgt := 36) dL_call_23 rfl ?_ ?_
      · refine ll_aload_n E (pc := 36) dL_call_36 rfl ?_
        refine ll_iload_n E (pc := 37) dL_call_37 rfl ?_
        refine ll_iload_n E (pc := 38) dL_call_38 rfl ?_
        refine ll_iload_n E (pc := 39) dL_call_39 rfl ?_
        refine ll_ccallS E X xcl 44 50 56 43 htab (by decide) (pc := 40) (d := 9) (mc1 := 2) [.ref (ad 0), .int a1, .int a2, .int a3] [] dL_call_40 cv_L_19 (fun h => cxL_rest X.1 h) rfl rfl (Nat.le_of_ble_eq_true rfl) ⟨(Nat.le_of_ble_eq_true rfl), (Nat.le_of_ble_eq_true rfl)⟩ (mcd (by omega)) (fun μ1 q9 => ?_) (fun μ1 q9 => ?_) (fun k9 μ1 q9 g1 g2 => ?_) (fun r μ1 => ?_)
        · exact ll_lo (lo' := [some (.ref (ad 0)), some (.int a1), some (.int a2), some (.int a3), some (.int a4), some (.int a5), none]) ⟨rfl, rfl, rfl, rfl, rfl, rfl, trivial⟩ (ll_astore E (pc := 44) (lo' := [some (.ref (ad 0)), some (.int a1), some (.int a2), some (.int a3), some (.int a4), some (.int a5), some (.ref q9)]) dL_call_44 (Nat.le_of_ble_eq_true rfl) rfl rfl (ll_sipush E (pc := 46) dL_call_46 ks_m2011 (ll_mireturn E hr (fun _ h => h) dL_call_49 (by omega))))
        · exact ll_lo (lo' := [some (.ref (ad 0)), some (.int a1), some (.int a2), some (.int a3), some (.int a4), some (.int a5), none]) ⟨rfl, rfl, rfl, rfl, rfl, rfl, trivial⟩ (ll_astore E (pc := 50) (lo' := [some (.ref (ad 0)), some (.int a1), some (.int a2), some (.int a3), some (.int a4), some (.int a5), some (.ref q9)]) dL_call_50 (Nat.le_of_ble_eq_true rfl) rfl rfl (ll_sipush E (pc := 52) dL_call_52 ks_m2012 (ll_mireturn E hr (fun _ h => h) dL_call_55 (by omega))))
        · rw [show cxk k9 = (-2013 : Int32) from by unfold cxk; rw [if_neg g1, if_neg g2]]
          exact ll_lo (lo' := [some (.ref (ad 0)), some (.int a1), some (.int a2), some (.int a3), some (.int a4), some (.int a5), none]) ⟨rfl, rfl, rfl, rfl, rfl, rfl, trivial⟩ (ll_astore E (pc := 56) (lo' := [some (.ref (ad 0)), some (.int a1), some (.int a2), some (.int a3), some (.int a4), some (.int a5), some (.ref q9)]) dL_call_56 (Nat.le_of_ble_eq_true rfl) rfl rfl (ll_sipush E (pc := 58) dL_call_58 ks_m2013 (ll_mireturn E hr (fun _ h => h) dL_call_61 (by omega))))
        · exact ll_mireturn E hr (fun _ h => h) dL_call_43 (by omega)
      · refine ll_aload_n E (pc := 26) dL_call_26 rfl ?_
        refine ll_iload_n E (pc := 27) dL_call_27 rfl ?_
        refine ll_iload_n E (pc := 28) dL_call_28 rfl ?_
        refine ll_iload_n E (pc := 29) dL_call_29 rfl ?_
        refine ll_ccallS E X xcl 44 50 56 43 htab (by decide) (pc := 30) (d := 9) (mc1 := 2) [.ref (ad 0), .int a1, .int a2, .int a3] [] dL_call_30 cv_L_15 (fun h => cxL_step X.1 h) rfl rfl (Nat.le_of_ble_eq_true rfl) ⟨(Nat.le_of_ble_eq_true rfl), (Nat.le_of_ble_eq_true rfl)⟩ (mcd (by omega)) (fun μ1 q9 => ?_) (fun μ1 q9 => ?_) (fun k9 μ1 q9 g1 g2 => ?_) (fun r μ1 => ?_)
        · exact ll_lo (lo' := [some (.ref (ad 0)), some (.int a1), some (.int a2), some (.int a3), some (.int a4), some (.int a5), none]) ⟨rfl, rfl, rfl, rfl, rfl, rfl, trivial⟩ (ll_astore E (pc := 44) (lo' := [some (.ref (ad 0)), some (.int a1), some (.int a2), some (.int a3), some (.int a4), some (.int a5), some (.ref q9)]) dL_call_44 (Nat.le_of_ble_eq_true rfl) rfl rfl (ll_sipush E (pc := 46) dL_call_46 ks_m2011 (ll_mireturn E hr (fun _ h => h) dL_call_49 (by omega))))
        · exact ll_lo (lo' := [some (.ref (ad 0)), some (.int a1), some (.int a2), some (.int a3), some (.int a4), some (.int a5), none]) ⟨rfl, rfl, rfl, rfl, rfl, rfl, trivial⟩ (ll_astore E (pc := 50) (lo' := [some (.ref (ad 0)), some (.int a1), some (.int a2), some (.int a3), some (.int a4), some (.int a5), some (.ref q9)]) dL_call_50 (Nat.le_of_ble_eq_true rfl) rfl rfl (ll_sipush E (pc := 52) dL_call_52 ks_m2012 (ll_mireturn E hr (fun _ h => h) dL_call_55 (by omega))))
        · rw [show cxk k9 = (-2013 : Int32) from by unfold cxk; rw [if_neg g1, if_neg g2]]
          exact ll_lo (lo' := [some (.ref (ad 0)), some (.int a1), some (.int a2), some (.int a3), some (.int a4), some (.int a5), none]) ⟨rfl, rfl, rfl, rfl, rfl, rfl, trivial⟩ (ll_astore E (pc := 56) (lo' := [some (.ref (ad 0)), some (.int a1), some (.int a2), some (.int a3), some (.int a4), some (.int a5), some (.ref q9)]) dL_call_56 (Nat.le_of_ble_eq_true rfl) rfl rfl (ll_sipush E (pc := 58) dL_call_58 ks_m2013 (ll_mireturn E hr (fun _ h => h) dL_call_61 (by omega))))
        · exact ll_goto E (pc := 33) (tgt := 43) dL_call_33 rfl (ll_mireturn E hr (fun _ h => h) dL_call_43 (by omega))
    · refine ll_aload_n E (pc := 6) dL_call_6 rfl ?_
      refine ll_iload_n E (pc := 7) dL_call_7 rfl ?_
      refine ll_iload_n E (pc := 8) dL_call_8 rfl ?_
      refine ll_iload_n E (pc := 9) dL_call_9 rfl ?_
      refine ll_iload E (pc := 10) dL_call_10 rfl ?_
      refine ll_iload E (pc := 12) dL_call_12 rfl ?_
      refine ll_ccallS E X xcl 44 50 56 43 htab (by decide) (pc := 14) (d := 9) (mc1 := 2) [.ref (ad 0), .int a1, .int a2, .int a3, .int a4, .int a5] [] dL_call_14 cv_L_9 (fun h => cxL_act X.1 h) rfl rfl (Nat.le_of_ble_eq_true rfl) ⟨(Nat.le_of_ble_eq_true rfl), (Nat.le_of_ble_eq_true rfl)⟩ (mcd (by omega)) (fun μ1 q9 => ?_) (fun μ1 q9 => ?_) (fun k9 μ1 q9 g1 g2 => ?_) (fun r μ1 => ?_)
      · exact ll_lo (lo' := [some (.ref (ad 0)), some (.int a1), some (.int a2), some (.int a3), some (.int a4), some (.int a5), none]) ⟨rfl, rfl, rfl, rfl, rfl, rfl, trivial⟩ (ll_astore E (pc := 44) (lo' := [some (.ref (ad 0)), some (.int a1), some (.int a2), some (.int a3), some (.int a4), some (.int a5), some (.ref q9)]) dL_call_44 (Nat.le_of_ble_eq_true rfl) rfl rfl (ll_sipush E (pc := 46) dL_call_46 ks_m2011 (ll_mireturn E hr (fun _ h => h) dL_call_49 (by omega))))
      · exact ll_lo (lo' := [some (.ref (ad 0)), some (.int a1), some (.int a2), some (.int a3), some (.int a4), some (.int a5), none]) ⟨rfl, rfl, rfl, rfl, rfl, rfl, trivial⟩ (ll_astore E (pc := 50) (lo' := [some (.ref (ad 0)), some (.int a1), some (.int a2), some (.int a3), some (.int a4), some (.int a5), some (.ref q9)]) dL_call_50 (Nat.le_of_ble_eq_true rfl) rfl rfl (ll_sipush E (pc := 52) dL_call_52 ks_m2012 (ll_mireturn E hr (fun _ h => h) dL_call_55 (by omega))))
      · rw [show cxk k9 = (-2013 : Int32) from by unfold cxk; rw [if_neg g1, if_neg g2]]
        exact ll_lo (lo' := [some (.ref (ad 0)), some (.int a1), some (.int a2), some (.int a3), some (.int a4), some (.int a5), none]) ⟨rfl, rfl, rfl, rfl, rfl, rfl, trivial⟩ (ll_astore E (pc := 56) (lo' := [some (.ref (ad 0)), some (.int a1), some (.int a2), some (.int a3), some (.int a4), some (.int a5), some (.ref q9)]) dL_call_56 (Nat.le_of_ble_eq_true rfl) rfl rfl (ll_sipush E (pc := 58) dL_call_58 ks_m2013 (ll_mireturn E hr (fun _ h => h) dL_call_61 (by omega))))
      · exact ll_goto E (pc := 17) (tgt := 43) dL_call_17 rfl (ll_mireturn E hr (fun _ h => h) dL_call_43 (by omega))) hf
