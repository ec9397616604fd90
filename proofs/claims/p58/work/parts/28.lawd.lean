def fL_isFar_L137  (μ : Mem) : Option (Int32 × Mem) :=
  bz (fX8_setRegister μ (1 : Int32) (-2147483648 : Int32)) fun r36 μ35 =>
  if r36 = (2147483640 : Int32) then
  bz (fX8_exchange μ35 (0 : Int32) (1 : Int32)) fun r38 μ37 =>
  if r38 = (-99 : Int32) then
  bz (fX8_remove μ37 (1 : Int32)) fun r40 μ39 =>
  if r40 = (1 : Int32) then
  bz (fX8_registerInOrder μ39 (0 : Int32)) fun r42 μ41 =>
  if r42 = 0 then
  some ((1 : Int32), μ41)
  else
  some ((0 : Int32), μ41)
  else
  some ((0 : Int32), μ39)
  else
  some ((0 : Int32), μ37)
  else
  some ((0 : Int32), μ35)
def fL_isFar_L106  (μ : Mem) : Option (Int32 × Mem) :=
  bd (fX8_pack μ) fun r44 μ43 =>
  if r44 = (2 : Int32) then
  bz (fX8_bundleOf μ43 (0 : Int32)) fun r46 μ45 =>
  if r46 = (1 : Int32) then
  bd (fX8_whyWrong μ45) fun r48 μ47 =>
  if r48 = 0 then
  bd (fX8_doesAgree μ47) fun r50 μ49 =>
  if r50 = 0 then
  some ((0 : Int32), μ49)
  else
  fL_isFar_L137 μ49
  else
  some ((0 : Int32), μ47)
  else
  some ((0 : Int32), μ45)
  else
  some ((0 : Int32), μ43)
def fL_isFar_L59  (μ : Mem) : Option (Int32 × Mem) :=
  bz (fX8_separation μ (0 : Int32) (1 : Int32)) fun r52 μ51 =>
  if r52 = (-99 : Int32) then
  bz (fX8_registerInOrder μ51 (0 : Int32)) fun r54 μ53 =>
  if r54 = 0 then
  bz (fX8_setCell μ53 (4 : Int32) (3 : Int32)) fun r56 μ55 =>
  if r56 = 0 then
  bz (fX8_registerInOrder μ55 (0 : Int32)) fun r58 μ57 =>
  if r58 = (3 : Int32) then
  bz (fX8_cellInOrder μ57 (0 : Int32)) fun r60 μ59 =>
  if r60 = (7 : Int32) then
  fL_isFar_L106 μ59
  else
  some ((0 : Int32), μ59)
  else
  some ((0 : Int32), μ57)
  else
  some ((0 : Int32), μ55)
  else
  some ((0 : Int32), μ53)
  else
  some ((0 : Int32), μ51)
def fL_isFar (μ : Mem) : Option (Int32 × Mem) :=
  bz (fX8_setRegister μ0X (1 : Int32) (2147483640 : Int32)) fun r62 μ61 =>
  if r62 = 0 then
  bz (fX8_setRegister μ61 (2 : Int32) (7 : Int32)) fun r64 μ63 =>
  if r64 = 0 then
  bz (fX8_insert μ63 (0 : Int32) (6 : Int32) (0 : Int32) (1 : Int32) (2 : Int32) (0 : Int32)) fun r66 μ65 =>
  if r66 = (1 : Int32) then
  bz (fX8_insert μ65 (1 : Int32) (5 : Int32) (0 : Int32) (1 : Int32) (0 : Int32) (16 : Int32)) fun r68 μ67 =>
  if r68 = (2 : Int32) then
  fL_isFar_L59 μ67
  else
  some ((0 : Int32), μ67)
  else
  some ((0 : Int32), μ65)
  else
  some ((0 : Int32), μ63)
  else
  some ((0 : Int32), μ61)
set_option maxRecDepth 20000 in
theorem kL_isFar_L137 {p : Program} {l : Launch} {e : Env} {s : State} {m : MethodId} {args : Array Value} {below : List Frame} {meth : Method} {c : Code} {D : va_G} {cI cR : ClassId} {ad : Nat → Nat} {A0 : Nat → Prop} (E : EV p s m args meth c cL_isFar 1 RL D cI cR ad shX NX A0) (X : EM9 l s A0) (hr : meth.sig.returnType = (some .boolean))  (μ : Mem) (cl : Nat) (hc0 : cl + (5) ≤ 776) : LL p l e (RX 9 776) s m args below meth c 1 D cI cR ad shX NX A0 (fun (r : Int32) μ' => KM below args s D cI cR (fun _ => 0) shX 0 A0 776 (some (.int r)) μ') (fL_isFar_L137 μ) cl (6 * cl) 137 [some (.ref (ad 0))] [] μ := by
  rw [fL_isFar_L137]
  refine ll_aload_n E (pc := 137) dL_isFar_137 rfl ?_
  refine ll_iconst E (pc := 138) dL_isFar_138 kc_1 ?_
  refine ll_ldc E (pc := 139) dL_isFar_139 kw_L_164 ?_
  refine ll_ycallVi E X (pc := 141) (d := 8) (mc1 := 1) (ci := 8) (o9 := 0) [.int (1 : Int32), .int (-2147483648 : Int32)] [] dL_isFar_141 cv_L_130 (fun h => cxX8_setRegister X.1 h) (Nat.le_of_ble_eq_true rfl) sx_0 ci_8 rfl rfl (Nat.le_of_ble_eq_true rfl) ⟨(Nat.le_of_ble_eq_true rfl), (Nat.le_of_ble_eq_true rfl)⟩ (mcd (by omega)) ?_
  intro r36 μ35
  refine ll_ldcw E (pc := 144) dL_isFar_144 kw_L_261 ?_
  refine ll_icmp_ne E (pc := 147) (tgt := 182) dL_isFar_147 rfl ?_ ?_
  · refine ll_iconst E (pc := 182) dL_isFar_182 kc_0 ?_
    exact ll_mzreturn E hr (fun _ _ => wp0) rfl dL_isFar_183 (by omega)
  · refine ll_aload_n E (pc := 150) dL_isFar_150 rfl ?_
    refine ll_iconst E (pc := 151) dL_isFar_151 kc_0 ?_
    refine ll_iconst E (pc := 152) dL_isFar_152 kc_1 ?_
    refine ll_ycallVi E X (pc := 153) (d := 8) (mc1 := 2) (ci := 8) (o9 := 0) [.int (0 : Int32), .int (1 : Int32)] [] dL_isFar_153 cv_L_38 (fun h => cxX8_exchange X.1 h) (Nat.le_of_ble_eq_true rfl) sx_0 ci_8 rfl rfl (Nat.le_of_ble_eq_true rfl) ⟨(Nat.le_of_ble_eq_true rfl), (Nat.le_of_ble_eq_true rfl)⟩ (mcd (by omega)) ?_
    intro r38 μ37
    refine ll_bipush E (pc := 156) dL_isFar_156 kb_m99 ?_
    refine ll_icmp_ne E (pc := 158) (tgt := 182) dL_isFar_158 rfl ?_ ?_
    · refine ll_iconst E (pc := 182) dL_isFar_182 kc_0 ?_
      exact ll_mzreturn E hr (fun _ _ => wp0) rfl dL_isFar_183 (by omega)
    · refine ll_aload_n E (pc := 161) dL_isFar_161 rfl ?_
      refine ll_iconst E (pc := 162) dL_isFar_162 kc_1 ?_
      refine ll_ycallVi E X (pc := 163) (d := 8) (mc1 := 1) (ci := 8) (o9 := 0) [.int (1 : Int32)] [] dL_isFar_163 cv_L_34 (fun h => cxX8_remove X.1 h) (Nat.le_of_ble_eq_true rfl) sx_0 ci_8 rfl rfl (Nat.le_of_ble_eq_true rfl) ⟨(Nat.le_of_ble_eq_true rfl), (Nat.le_of_ble_eq_true rfl)⟩ (mcd (by omega)) ?_
      intro r40 μ39
      refine ll_iconst E (pc := 166) dL_isFar_166 kc_1 ?_
      refine ll_icmp_ne E (pc := 167) (tgt := 182) dL_isFar_167 rfl ?_ ?_
      · refine ll_iconst E (pc := 182) dL_isFar_182 kc_0 ?_
        exact ll_mzreturn E hr (fun _ _ => wp0) rfl dL_isFar_183 (by omega)
      · refine ll_aload_n E (pc := 170) dL_isFar_170 rfl ?_
        refine ll_iconst E (pc := 171) dL_isFar_171 kc_0 ?_
        refine ll_ycallVi E X (pc := 172) (d := 8) (mc1 := 1) (ci := 8) (o9 := 0) [.int (0 : Int32)] [] dL_isFar_172 cv_L_100 (fun h => cxX8_registerInOrder X.1 h) (Nat.le_of_ble_eq_true rfl) sx_0 ci_8 rfl rfl (Nat.le_of_ble_eq_true rfl) ⟨(Nat.le_of_ble_eq_true rfl), (Nat.le_of_ble_eq_true rfl)⟩ (mcd (by omega)) ?_
        intro r42 μ41
        refine ll_if_ne E (pc := 175) (tgt := 182) dL_isFar_175 rfl ?_ ?_
        · refine ll_iconst E (pc := 182) dL_isFar_182 kc_0 ?_
          exact ll_mzreturn E hr (fun _ _ => wp0) rfl dL_isFar_183 (by omega)
        · refine ll_iconst E (pc := 178) dL_isFar_178 kc_1 ?_
          refine ll_goto E (pc := 179) (tgt := 183) dL_isFar_179 rfl ?_
          exact ll_mzreturn E hr (fun _ _ => wp0) rfl dL_isFar_183 (by omega)
set_option maxRecDepth 20000 in
theorem kL_isFar_L106 {p : Program} {l : Launch} {e : Env} {s : State} {m : MethodId} {args : Array Value} {below : List Frame} {meth : Method} {c : Code} {D : va_G} {cI cR : ClassId} {ad : Nat → Nat} {A0 : Nat → Prop} (E : EV p s m args meth c cL_isFar 1 RL D cI cR ad shX NX A0) (X : EM9 l s A0) (hr : meth.sig.returnType = (some .boolean))  (μ : Mem) (cl : Nat) (hc0 : cl + (6) ≤ 776) : LL p l e (RX 9 776) s m args below meth c 1 D cI cR ad shX NX A0 (fun (r : Int32) μ' => KM below args s D cI cR (fun _ => 0) shX 0 A0 776 (some (.int r)) μ') (fL_isFar_L106 μ) cl (6 * cl) 106 [some (.ref (ad 0))] [] μ := by
  rw [fL_isFar_L106]
  refine ll_aload_n E (pc := 106) dL_isFar_106 rfl ?_
  refine ll_callVi E (pc := 107) (d := 5) (ci := 8) (o9 := 0) [] [] dL_isFar_107 cv_L_180 (fun h => ctX8_pack h) (Nat.le_of_ble_eq_true rfl) sx_0 ci_8 rfl rfl (Nat.le_of_ble_eq_true rfl) ⟨(Nat.le_of_ble_eq_true rfl), (Nat.le_of_ble_eq_true rfl)⟩ (mcc (by omega)) ?_
  intro r44 μ43
  refine ll_iconst E (pc := 110) dL_isFar_110 kc_2 ?_
  refine ll_icmp_ne E (pc := 111) (tgt := 182) dL_isFar_111 rfl ?_ ?_
  · refine ll_iconst E (pc := 182) dL_isFar_182 kc_0 ?_
    exact ll_mzreturn E hr (fun _ _ => wp0) rfl dL_isFar_183 (by omega)
  · refine ll_aload_n E (pc := 114) dL_isFar_114 rfl ?_
    refine ll_iconst E (pc := 115) dL_isFar_115 kc_0 ?_
    refine ll_ycallVi E X (pc := 116) (d := 8) (mc1 := 1) (ci := 8) (o9 := 0) [.int (0 : Int32)] [] dL_isFar_116 cv_L_88 (fun h => cxX8_bundleOf X.1 h) (Nat.le_of_ble_eq_true rfl) sx_0 ci_8 rfl rfl (Nat.le_of_ble_eq_true rfl) ⟨(Nat.le_of_ble_eq_true rfl), (Nat.le_of_ble_eq_true rfl)⟩ (mcd (by omega)) ?_
    intro r46 μ45
    refine ll_iconst E (pc := 119) dL_isFar_119 kc_1 ?_
    refine ll_icmp_ne E (pc := 120) (tgt := 182) dL_isFar_120 rfl ?_ ?_
    · refine ll_iconst E (pc := 182) dL_isFar_182 kc_0 ?_
      exact ll_mzreturn E hr (fun _ _ => wp0) rfl dL_isFar_183 (by omega)
    · refine ll_aload_n E (pc := 123) dL_isFar_123 rfl ?_
      refine ll_callVi E (pc := 124) (d := 5) (ci := 8) (o9 := 0) [] [] dL_isFar_124 cv_L_146 (fun h => ctX8_whyWrong h) (Nat.le_of_ble_eq_true rfl) sx_0 ci_8 rfl rfl (Nat.le_of_ble_eq_true rfl) ⟨(Nat.le_of_ble_eq_true rfl), (Nat.le_of_ble_eq_true rfl)⟩ (mcc (by omega)) ?_
      intro r48 μ47
      refine ll_if_ne E (pc := 127) (tgt := 182) dL_isFar_127 rfl ?_ ?_
      · refine ll_iconst E (pc := 182) dL_isFar_182 kc_0 ?_
        exact ll_mzreturn E hr (fun _ _ => wp0) rfl dL_isFar_183 (by omega)
      · refine ll_aload_n E (pc := 130) dL_isFar_130 rfl ?_
        refine ll_callVi E (pc := 131) (d := 6) (ci := 8) (o9 := 0) [] [] dL_isFar_131 cv_L_187 (fun h => ctX8_doesAgree h) (Nat.le_of_ble_eq_true rfl) sx_0 ci_8 rfl rfl (Nat.le_of_ble_eq_true rfl) ⟨(Nat.le_of_ble_eq_true rfl), (Nat.le_of_ble_eq_true rfl)⟩ (mcc (by omega)) ?_
        intro r50 μ49
        refine ll_if_eq E (pc := 134) (tgt := 182) dL_isFar_134 rfl ?_ ?_
        · refine ll_iconst E (pc := 182) dL_isFar_182 kc_0 ?_
          exact ll_mzreturn E hr (fun _ _ => wp0) rfl dL_isFar_183 (by omega)
        · exact ll_lo (lo' := [some (.ref (ad 0))]) ⟨rfl, trivial⟩ (kL_isFar_L137 E X hr μ49 _ (by omega))
set_option maxRecDepth 20000 in
theorem kL_isFar_L59 {p : Program} {l : Launch} {e : Env} {s : State} {m : MethodId} {args : Array Value} {below : List Frame} {meth : Method} {c : Code} {D : va_G} {cI cR : ClassId} {ad : Nat → Nat} {A0 : Nat → Prop} (E : EV p s m args meth c cL_isFar 1 RL D cI cR ad shX NX A0) (X : EM9 l s A0) (hr : meth.sig.returnType = (some .boolean))  (μ : Mem) (cl : Nat) (hc0 : cl + (12) ≤ 776) : LL p l e (RX 9 776) s m args below meth c 1 D cI cR ad shX NX A0 (fun (r : Int32) μ' => KM below args s D cI cR (fun _ => 0) shX 0 A0 776 (some (.int r)) μ') (fL_isFar_L59 μ) cl (6 * cl) 59 [some (.ref (ad 0))] [] μ := by
  rw [fL_isFar_L59]
  refine ll_aload_n E (pc := 59) dL_isFar_59 rfl ?_
  refine ll_iconst E (pc := 60) dL_isFar_60 kc_0 ?_
  refine ll_iconst E (pc := 61) dL_isFar_61 kc_1 ?_
  refine ll_ycallVi E X (pc := 62) (d := 8) (mc1 := 2) (ci := 8) (o9 := 0) [.int (0 : Int32), .int (1 : Int32)] [] dL_isFar_62 cv_L_94 (fun h => cxX8_separation X.1 h) (Nat.le_of_ble_eq_true rfl) sx_0 ci_8 rfl rfl (Nat.le_of_ble_eq_true rfl) ⟨(Nat.le_of_ble_eq_true rfl), (Nat.le_of_ble_eq_true rfl)⟩ (mcd (by omega)) ?_
  intro r52 μ51
  refine ll_bipush E (pc := 65) dL_isFar_65 kb_m99 ?_
  refine ll_icmp_ne E (pc := 67) (tgt := 182) dL_isFar_67 rfl ?_ ?_
  · refine ll_iconst E (pc := 182) dL_isFar_182 kc_0 ?_
    exact ll_mzreturn E hr (fun _ _ => wp0) rfl dL_isFar_183 (by omega)
  · refine ll_aload_n E (pc := 70) dL_isFar_70 rfl ?_
    refine ll_iconst E (pc := 71) dL_isFar_71 kc_0 ?_
    refine ll_ycallVi E X (pc := 72) (d := 8) (mc1 := 1) (ci := 8) (o9 := 0) [.int (0 : Int32)] [] dL_isFar_72 cv_L_100 (fun h => cxX8_registerInOrder X.1 h) (Nat.le_of_ble_eq_true rfl) sx_0 ci_8 rfl rfl (Nat.le_of_ble_eq_true rfl) ⟨(Nat.le_of_ble_eq_true rfl), (Nat.le_of_ble_eq_true rfl)⟩ (mcd (by omega)) ?_
    intro r54 μ53
    refine ll_if_ne E (pc := 75) (tgt := 182) dL_isFar_75 rfl ?_ ?_
    · refine ll_iconst E (pc := 182) dL_isFar_182 kc_0 ?_
      exact ll_mzreturn E hr (fun _ _ => wp0) rfl dL_isFar_183 (by omega)
    · refine ll_aload_n E (pc := 78) dL_isFar_78 rfl ?_
      refine ll_iconst E (pc := 79) dL_isFar_79 kc_4 ?_
      refine ll_iconst E (pc := 80) dL_isFar_80 kc_3 ?_
      refine ll_ycallVi E X (pc := 81) (d := 8) (mc1 := 1) (ci := 8) (o9 := 0) [.int (4 : Int32), .int (3 : Int32)] [] dL_isFar_81 cv_L_133 (fun h => cxX8_setCell X.1 h) (Nat.le_of_ble_eq_true rfl) sx_0 ci_8 rfl rfl (Nat.le_of_ble_eq_true rfl) ⟨(Nat.le_of_ble_eq_true rfl), (Nat.le_of_ble_eq_true rfl)⟩ (mcd (by omega)) ?_
      intro r56 μ55
      refine ll_if_ne E (pc := 84) (tgt := 182) dL_isFar_84 rfl ?_ ?_
      · refine ll_iconst E (pc := 182) dL_isFar_182 kc_0 ?_
        exact ll_mzreturn E hr (fun _ _ => wp0) rfl dL_isFar_183 (by omega)
      · refine ll_aload_n E (pc := 87) dL_isFar_87 rfl ?_
        refine ll_iconst E (pc := 88) dL_isFar_88 kc_0 ?_
        refine ll_ycallVi E X (pc := 89) (d := 8) (mc1 := 1) (ci := 8) (o9 := 0) [.int (0 : Int32)] [] dL_isFar_89 cv_L_100 (fun h => cxX8_registerInOrder X.1 h) (Nat.le_of_ble_eq_true rfl) sx_0 ci_8 rfl rfl (Nat.le_of_ble_eq_true rfl) ⟨(Nat.le_of_ble_eq_true rfl), (Nat.le_of_ble_eq_true rfl)⟩ (mcd (by omega)) ?_
        intro r58 μ57
        refine ll_iconst E (pc := 92) dL_isFar_92 kc_3 ?_
        refine ll_icmp_ne E (pc := 93) (tgt := 182) dL_isFar_93 rfl ?_ ?_
        · refine ll_iconst E (pc := 182) dL_isFar_182 kc_0 ?_
          exact ll_mzreturn E hr (fun _ _ => wp0) rfl dL_isFar_183 (by omega)
        · refine ll_aload_n E (pc := 96) dL_isFar_96 rfl ?_
          refine ll_iconst E (pc := 97) dL_isFar_97 kc_0 ?_
          refine ll_ycallVi E X (pc := 98) (d := 8) (mc1 := 1) (ci := 8) (o9 := 0) [.int (0 : Int32)] [] dL_isFar_98 cv_L_106 (fun h => cxX8_cellInOrder X.1 h) (Nat.le_of_ble_eq_true rfl) sx_0 ci_8 rfl rfl (Nat.le_of_ble_eq_true rfl) ⟨(Nat.le_of_ble_eq_true rfl), (Nat.le_of_ble_eq_true rfl)⟩ (mcd (by omega)) ?_
          intro r60 μ59
          refine ll_bipush E (pc := 101) dL_isFar_101 kb_7 ?_
          refine ll_icmp_ne E (pc := 103) (tgt := 182) dL_isFar_103 rfl ?_ ?_
          · refine ll_iconst E (pc := 182) dL_isFar_182 kc_0 ?_
            exact ll_mzreturn E hr (fun _ _ => wp0) rfl dL_isFar_183 (by omega)
          · exact ll_lo (lo' := [some (.ref (ad 0))]) ⟨rfl, trivial⟩ (kL_isFar_L106 E X hr μ59 _ (by omega))
set_option maxRecDepth 20000 in
theorem cmL_isFar {l : Launch} {D : va_G} {cI cR : ClassId} {μ : Mem} (hl9 : l.stackTraces = false) {r : Int32} {μ' : Mem} (hf : fL_isFar μ = some (r, μ')) : CM l yL_isFar (.code yL_isFar cL_isFar 1 (some .boolean)) 9 776 D cI cR (fun _ => 0) shX 0 [] μ (some (.int r)) μ' :=
  cm_of (own := RL) (ov := fun (r : Int32) => (some (.int r))) hl9 (by decide +kernel) rfl (Nat.le_of_ble_eq_true rfl) (fun p e s m below meth c A0 E X hr => by
    refine ll_lo (lo' := [none]) trivial ?_
    rw [fL_isFar]
    refine ll_newX E (pc := 0) wn_29 wn_1 wn_2 wn_c179 wn_3 wn_4 dL_isFar_0 dL_isFar_3 dL_isFar_4 (Nat.le_of_ble_eq_true rfl) ⟨(Nat.le_of_ble_eq_true rfl), (Nat.le_of_ble_eq_true rfl)⟩ (mcd (by omega)) (fun ad E => ?_)
    refine ll_astore_n E (pc := 7) (lo' := [some (.ref (ad 0))]) dL_isFar_7 (Nat.le_of_ble_eq_true rfl) rfl rfl ?_
    refine ll_aload_n E (pc := 8) dL_isFar_8 rfl ?_
    refine ll_iconst E (pc := 9) dL_isFar_9 kc_1 ?_
    refine ll_ldcw E (pc := 10) dL_isFar_10 kw_L_261 ?_
    refine ll_ycallVi E X (pc := 13) (d := 8) (mc1 := 1) (ci := 8) (o9 := 0) [.int (1 : Int32), .int (2147483640 : Int32)] [] dL_isFar_13 cv_L_130 (fun h => cxX8_setRegister X.1 h) (Nat.le_of_ble_eq_true rfl) sx_0 ci_8 rfl rfl (Nat.le_of_ble_eq_true rfl) ⟨(Nat.le_of_ble_eq_true rfl), (Nat.le_of_ble_eq_true rfl)⟩ (mcd (by omega)) ?_
    intro r62 μ61
    refine ll_if_ne E (pc := 16) (tgt := 182) dL_isFar_16 rfl ?_ ?_
    · refine ll_iconst E (pc := 182) dL_isFar_182 kc_0 ?_
      exact ll_mzreturn E hr (fun _ _ => wp0) rfl dL_isFar_183 (by omega)
    · refine ll_aload_n E (pc := 19) dL_isFar_19 rfl ?_
      refine ll_iconst E (pc := 20) dL_isFar_20 kc_2 ?_
      refine ll_bipush E (pc := 21) dL_isFar_21 kb_7 ?_
      refine ll_ycallVi E X (pc := 23) (d := 8) (mc1 := 1) (ci := 8) (o9 := 0) [.int (2 : Int32), .int (7 : Int32)] [] dL_isFar_23 cv_L_130 (fun h => cxX8_setRegister X.1 h) (Nat.le_of_ble_eq_true rfl) sx_0 ci_8 rfl rfl (Nat.le_of_ble_eq_true rfl) ⟨(Nat.le_of_ble_eq_true rfl), (Nat.le_of_ble_eq_true rfl)⟩ (mcd (by omega)) ?_
      intro r64 μ63
      refine ll_if_ne E (pc := 26) (tgt := 182) dL_isFar_26 rfl ?_ ?_
      · refine ll_iconst E (pc := 182) dL_isFar_182 kc_0 ?_
        exact ll_mzreturn E hr (fun _ _ => wp0) rfl dL_isFar_183 (by omega)
      · refine ll_aload_n E (pc := 29) dL_isFar_29 rfl ?_
        refine ll_iconst E (pc := 30) dL_isFar_30 kc_0 ?_
        refine ll_bipush E (pc := 31) dL_isFar_31 kb_6 ?_
        refine ll_iconst E (pc := 33) dL_isFar_33 kc_0 ?_
        refine ll_iconst E (pc := 34) dL_isFar_34 kc_1 ?_
        refine ll_iconst E (pc := 35) dL_isFar_35 kc_2 ?_
        refine ll_iconst E (pc := 36) dL_isFar_36 kc_0 ?_
        refine ll_ycallVi E X (pc := 37) (d := 7) (mc1 := 1) (ci := 8) (o9 := 0) [.int (0 : Int32), .int (6 : Int32), .int (0 : Int32), .int (1 : Int32), .int (2 : Int32), .int (0 : Int32)] [] dL_isFar_37 cv_L_28 (fun h => cxX8_insert X.1 h) (Nat.le_of_ble_eq_true rfl) sx_0 ci_8 rfl rfl (Nat.le_of_ble_eq_true rfl) ⟨(Nat.le_of_ble_eq_true rfl), (Nat.le_of_ble_eq_true rfl)⟩ (mcd (by omega)) ?_
        intro r66 μ65
        refine ll_iconst E (pc := 40) dL_isFar_40 kc_1 ?_
        refine ll_icmp_ne E (pc := 41) (tgt := 182) dL_isFar_41 rfl ?_ ?_
        · refine ll_iconst E (pc := 182) dL_isFar_182 kc_0 ?_
          exact ll_mzreturn E hr (fun _ _ => wp0) rfl dL_isFar_183 (by omega)
        · refine ll_aload_n E (pc := 44) dL_isFar_44 rfl ?_
          refine ll_iconst E (pc := 45) dL_isFar_45 kc_1 ?_
          refine ll_iconst E (pc := 46) dL_isFar_46 kc_5 ?_
          refine ll_iconst E (pc := 47) dL_isFar_47 kc_0 ?_
          refine ll_iconst E (pc := 48) dL_isFar_48 kc_1 ?_
          refine ll_iconst E (pc := 49) dL_isFar_49 kc_0 ?_
          refine ll_bipush E (pc := 50) dL_isFar_50 kb_16 ?_
          refine ll_ycallVi E X (pc := 52) (d := 7) (mc1 := 1) (ci := 8) (o9 := 0) [.int (1 : Int32), .int (5 : Int32), .int (0 : Int32), .int (1 : Int32), .int (0 : Int32), .int (16 : Int32)] [] dL_isFar_52 cv_L_28 (fun h => cxX8_insert X.1 h) (Nat.le_of_ble_eq_true rfl) sx_0 ci_8 rfl rfl (Nat.le_of_ble_eq_true rfl) ⟨(Nat.le_of_ble_eq_true rfl), (Nat.le_of_ble_eq_true rfl)⟩ (mcd (by omega)) ?_
          intro r68 μ67
          refine ll_iconst E (pc := 55) dL_isFar_55 kc_2 ?_
          refine ll_icmp_ne E (pc := 56) (tgt := 182) dL_isFar_56 rfl ?_ ?_
          · refine ll_iconst E (pc := 182) dL_isFar_182 kc_0 ?_
            exact ll_mzreturn E hr (fun _ _ => wp0) rfl dL_isFar_183 (by omega)
          · exact ll_lo (lo' := [some (.ref (ad 0))]) ⟨rfl, trivial⟩ (kL_isFar_L59 E X hr μ67 _ (by omega))) hf
def fL_cells_L450  (μ : Mem) : Option (Int32 × Mem) :=
  bz (fX8_registerInBundles μ (10 : Int32)) fun r96 μ95 =>
  if r96 = (-2147483642 : Int32) then
  bz (fX8_registerInBundles μ95 (5 : Int32)) fun r98 μ97 =>
  if r98 = (-56 : Int32) then
  bz (fX8_bundleOf μ97 (6 : Int32)) fun r100 μ99 =>
  if r100 = (2 : Int32) then
  bz (fX8_bundleOf μ99 (4 : Int32)) fun r102 μ101 =>
  if r102 = (1 : Int32) then
  bd (fX8_doesAgree μ101) fun r104 μ103 =>
  if r104 = 0 then
  some ((0 : Int32), μ103)
  else
  bd (fL_isFar μ103) fun r106 _ =>
  if r106 = 0 then
  some ((0 : Int32), μ103)
  else
  some ((1 : Int32), μ103)
  else
  some ((0 : Int32), μ101)
  else
  some ((0 : Int32), μ99)
  else
  some ((0 : Int32), μ97)
  else
  some ((0 : Int32), μ95)
def fL_cells_L361  (μ : Mem) : Option (Int32 × Mem) :=
  bz (fX8_registerInOrder μ (2 : Int32)) fun r108 μ107 =>
  if r108 = (-16 : Int32) then
  bz (fX8_registerInOrder μ107 (3 : Int32)) fun r110 μ109 =>
  if r110 = (-63 : Int32) then
  bz (fX8_registerInOrder μ109 (4 : Int32)) fun r112 μ111 =>
  if r112 = (7 : Int32) then
  bz (fX8_registerInOrder μ111 (5 : Int32)) fun r114 μ113 =>
  if r114 = (-56 : Int32) then
  bz (fX8_setRegister μ113 (11 : Int32) (2147483647 : Int32)) fun r116 μ115 =>
  if r116 = 0 then
  bz (fX8_insert μ115 (6 : Int32) (1 : Int32) (10 : Int32) (11 : Int32) (1 : Int32) (0 : Int32)) fun r118 μ117 =>
  if r118 = (7 : Int32) then
  bz (fX8_registerInOrder μ117 (10 : Int32)) fun r120 μ119 =>
  if r120 = (-2147483642 : Int32) then
  bd (fX8_pack μ119) fun r122 μ121 =>
  if r122 = (5 : Int32) then
  fL_cells_L450 μ121
  else
  some ((0 : Int32), μ121)
  else
  some ((0 : Int32), μ119)
  else
  some ((0 : Int32), μ117)
  else
  some ((0 : Int32), μ115)
  else
  some ((0 : Int32), μ113)
  else
  some ((0 : Int32), μ111)
  else
  some ((0 : Int32), μ109)
  else
  some ((0 : Int32), μ107)
def fL_cells_L304  (μ : Mem) : Option (Int32 × Mem) :=
  bd (fL_types μ0X (7006806319091039543 : Int64)) fun r124 μ123 =>
  if r124 = 0 then
  some ((0 : Int32), μ123)
  else
  bd (fL_types μ123 (4279331558514637668 : Int64)) fun r126 μ125 =>
  if r126 = 0 then
  some ((0 : Int32), μ125)
  else
  bd (fL_types μ125 (4422862910446189921 : Int64)) fun r128 μ127 =>
  if r128 = 0 then
  some ((0 : Int32), μ127)
  else
  bd (fL_types μ127 (6801063697585613668 : Int64)) fun r130 μ129 =>
  if r130 = 0 then
  some ((0 : Int32), μ129)
  else
  bz (fX8_addAll μ129) fun r132 μ131 =>
  if r132 = (6 : Int32) then
  fL_cells_L361 μ131
  else
  some ((0 : Int32), μ131)
def fL_cells_L250  (μ : Mem) : Option (Int32 × Mem) :=
  bd (fX8_doesAgree μ) fun r134 μ133 =>
  if r134 = 0 then
  some ((0 : Int32), μ133)
  else
  bz (fX8_setCell μ133 (8 : Int32) (5 : Int32)) fun r136 μ135 =>
  if r136 = 0 then
  bz (fX8_registerInOrder μ135 (1 : Int32)) fun r138 μ137 =>
  if r138 = (5 : Int32) then
  bz (fX8_cellInOrder μ137 (6 : Int32)) fun r140 μ139 =>
  if r140 = (40 : Int32) then
  bz (fX8_cellInOrder μ139 (1 : Int32)) fun r142 μ141 =>
  if r142 = 0 then
  bd (fX8_doesAgree μ141) fun r144 μ143 =>
  if r144 = 0 then
  some ((0 : Int32), μ143)
  else
  fL_cells_L304 μ143
  else
  some ((0 : Int32), μ141)
  else
  some ((0 : Int32), μ139)
  else
  some ((0 : Int32), μ137)
  else
  some ((0 : Int32), μ135)
def fL_cells_L195  (μ : Mem) : Option (Int32 × Mem) :=
  bz (fX8_cellInOrder μ (9 : Int32)) fun r146 μ145 =>
  if r146 = (40 : Int32) then
  bz (fX8_registerInOrder μ145 (3 : Int32)) fun r148 μ147 =>
  if r148 = 0 then
  bz (fX8_registerInOrder μ147 (4 : Int32)) fun r150 μ149 =>
  if r150 = (40 : Int32) then
  bz (fX8_registerInOrder μ149 (1 : Int32)) fun r152 μ151 =>
  if r152 = 0 then
  bz (fX8_cellInOrder μ151 (1 : Int32)) fun r154 μ153 =>
  if r154 = (40 : Int32) then
  bd (fX8_pack μ153) fun r156 μ155 =>
  if r156 < (1 : Int32) then
  some ((0 : Int32), μ155)
  else
  fL_cells_L250 μ155
  else
  some ((0 : Int32), μ153)
  else
  some ((0 : Int32), μ151)
  else
  some ((0 : Int32), μ149)
  else
  some ((0 : Int32), μ147)
  else
  some ((0 : Int32), μ145)
def fL_cells_L112  (μ : Mem) : Option (Int32 × Mem) :=
  bz (fX8_separation μ (0 : Int32) (1 : Int32)) fun r158 μ157 =>
  if r158 = (-99 : Int32) then
  bz (fX8_separation μ157 (0 : Int32) (2 : Int32)) fun r160 μ159 =>
  if r160 = (1 : Int32) then
  bz (fX8_separation μ159 (0 : Int32) (3 : Int32)) fun r162 μ161 =>
  if r162 = (-1 : Int32) then
  bz (fX8_separation μ161 (3 : Int32) (4 : Int32)) fun r164 μ163 =>
  if r164 = (2 : Int32) then
  bz (fX8_separation μ163 (1 : Int32) (4 : Int32)) fun r166 μ165 =>
  if r166 = 0 then
  bz (fX8_separation μ165 (1 : Int32) (2 : Int32)) fun r168 μ167 =>
  if r168 = (-99 : Int32) then
  bz (fX8_separation μ167 (1 : Int32) (3 : Int32)) fun r170 μ169 =>
  if r170 = (-1 : Int32) then
  bz (fX8_separation μ169 (0 : Int32) (4 : Int32)) fun r172 μ171 =>
  if r172 = (1 : Int32) then
  fL_cells_L195 μ171
  else
  some ((0 : Int32), μ171)
  else
  some ((0 : Int32), μ169)
  else
  some ((0 : Int32), μ167)
  else
  some ((0 : Int32), μ165)
  else
  some ((0 : Int32), μ163)
  else
  some ((0 : Int32), μ161)
  else
  some ((0 : Int32), μ159)
  else
  some ((0 : Int32), μ157)
def fL_cells (μ : Mem) : Option (Int32 × Mem) :=
  bz (fX8_setRegister μ0X (1 : Int32) (-3 : Int32)) fun r174 μ173 =>
  if r174 = 0 then
  bz (fX8_setRegister μ173 (2 : Int32) (40 : Int32)) fun r176 μ175 =>
  if r176 = 0 then
  bz (fX8_setCell μ175 (9 : Int32) (8 : Int32)) fun r178 μ177 =>
  if r178 = 0 then
  bz (fX8_insert μ177 (0 : Int32) (6 : Int32) (0 : Int32) (1 : Int32) (2 : Int32) (0 : Int32)) fun r180 μ179 =>
  if r180 = (1 : Int32) then
  bz (fX8_insert μ179 (1 : Int32) (5 : Int32) (3 : Int32) (1 : Int32) (0 : Int32) (1 : Int32)) fun r182 μ181 =>
  if r182 = (2 : Int32) then
  bz (fX8_insert μ181 (2 : Int32) (5 : Int32) (4 : Int32) (1 : Int32) (0 : Int32) (12 : Int32)) fun r184 μ183 =>
  if r184 = (3 : Int32) then
  bz (fX8_insert μ183 (3 : Int32) (5 : Int32) (1 : Int32) (1 : Int32) (0 : Int32) (-1 : Int32)) fun r186 μ185 =>
  if r186 = (4 : Int32) then
  bz (fX8_insert μ185 (4 : Int32) (6 : Int32) (0 : Int32) (1 : Int32) (4 : Int32) (1 : Int32)) fun r188 μ187 =>
  if r188 = (5 : Int32) then
  fL_cells_L112 μ187
  else
  some ((0 : Int32), μ187)
  else
  some ((0 : Int32), μ185)
  else
  some ((0 : Int32), μ183)
  else
  some ((0 : Int32), μ181)
  else
  some ((0 : Int32), μ179)
  else
  some ((0 : Int32), μ177)
  else
  some ((0 : Int32), μ175)
  else
  some ((0 : Int32), μ173)
set_option maxRecDepth 20000 in
theorem kL_cells_L450 {p : Program} {l : Launch} {e : Env} {s : State} {m : MethodId} {args : Array Value} {below : List Frame} {meth : Method} {c : Code} {D : va_G} {cI cR : ClassId} {ad : Nat → Nat} {A0 : Nat → Prop} (E : EV p s m args meth c cL_cells 2 RL D cI cR ad shX NX A0) (X : EM9 l s A0) (hr : meth.sig.returnType = (some .boolean))  (μ : Mem) (cl : Nat) (hc0 : cl + (780) ≤ 2385) : LL p l e (RX 10 2385) s m args below meth c 2 D cI cR ad shX NX A0 (fun (r : Int32) μ' => KM below args s D cI cR (fun _ => 0) shX 0 A0 2385 (some (.int r)) μ') (fL_cells_L450 μ) cl (6 * cl) 450 [none, some (.ref (ad 0))] [] μ := by
  rw [fL_cells_L450]
  refine ll_aload_n E (pc := 450) dL_cells_450 rfl ?_
  refine ll_bipush E (pc := 451) dL_cells_451 kb_10 ?_
  refine ll_ycallVi E X (pc := 453) (d := 8) (mc1 := 1) (ci := 8) (o9 := 0) [.int (10 : Int32)] [] dL_cells_453 cv_L_103 (fun h => cxX8_registerInBundles X.1 h) (Nat.le_of_ble_eq_true rfl) sx_0 ci_8 rfl rfl (Nat.le_of_ble_eq_true rfl) ⟨(Nat.le_of_ble_eq_true rfl), (Nat.le_of_ble_eq_true rfl)⟩ (mcd (by omega)) ?_
  intro r96 μ95
  refine ll_ldcw E (pc := 456) dL_cells_456 kw_L_257 ?_
  refine ll_icmp_ne E (pc := 459) (tgt := 508) dL_cells_459 rfl ?_ ?_
  · refine ll_iconst E (pc := 508) dL_cells_508 kc_0 ?_
    exact ll_mzreturn E hr (fun _ _ => wp0) rfl dL_cells_509 (by omega)
  · refine ll_aload_n E (pc := 462) dL_cells_462 rfl ?_
    refine ll_iconst E (pc := 463) dL_cells_463 kc_5 ?_
    refine ll_ycallVi E X (pc := 464) (d := 8) (mc1 := 1) (ci := 8) (o9 := 0) [.int (5 : Int32)] [] dL_cells_464 cv_L_103 (fun h => cxX8_registerInBundles X.1 h) (Nat.le_of_ble_eq_true rfl) sx_0 ci_8 rfl rfl (Nat.le_of_ble_eq_true rfl) ⟨(Nat.le_of_ble_eq_true rfl), (Nat.le_of_ble_eq_true rfl)⟩ (mcd (by omega)) ?_
    intro r98 μ97
    refine ll_bipush E (pc := 467) dL_cells_467 kb_m56 ?_
    refine ll_icmp_ne E (pc := 469) (tgt := 508) dL_cells_469 rfl ?_ ?_
    · refine ll_iconst E (pc := 508) dL_cells_508 kc_0 ?_
      exact ll_mzreturn E hr (fun _ _ => wp0) rfl dL_cells_509 (by omega)
    · refine ll_aload_n E (pc := 472) dL_cells_472 rfl ?_
      refine ll_bipush E (pc := 473) dL_cells_473 kb_6 ?_
      refine ll_ycallVi E X (pc := 475) (d := 8) (mc1 := 1) (ci := 8) (o9 := 0) [.int (6 : Int32)] [] dL_cells_475 cv_L_88 (fun h => cxX8_bundleOf X.1 h) (Nat.le_of_ble_eq_true rfl) sx_0 ci_8 rfl rfl (Nat.le_of_ble_eq_true rfl) ⟨(Nat.le_of_ble_eq_true rfl), (Nat.le_of_ble_eq_true rfl)⟩ (mcd (by omega)) ?_
      intro r100 μ99
      refine ll_iconst E (pc := 478) dL_cells_478 kc_2 ?_
      refine ll_icmp_ne E (pc := 479) (tgt := 508) dL_cells_479 rfl ?_ ?_
      · refine ll_iconst E (pc := 508) dL_cells_508 kc_0 ?_
        exact ll_mzreturn E hr (fun _ _ => wp0) rfl dL_cells_509 (by omega)
      · refine ll_aload_n E (pc := 482) dL_cells_482 rfl ?_
        refine ll_iconst E (pc := 483) dL_cells_483 kc_4 ?_
        refine ll_ycallVi E X (pc := 484) (d := 8) (mc1 := 1) (ci := 8) (o9 := 0) [.int (4 : Int32)] [] dL_cells_484 cv_L_88 (fun h => cxX8_bundleOf X.1 h) (Nat.le_of_ble_eq_true rfl) sx_0 ci_8 rfl rfl (Nat.le_of_ble_eq_true rfl) ⟨(Nat.le_of_ble_eq_true rfl), (Nat.le_of_ble_eq_true rfl)⟩ (mcd (by omega)) ?_
        intro r102 μ101
        refine ll_iconst E (pc := 487) dL_cells_487 kc_1 ?_
        refine ll_icmp_ne E (pc := 488) (tgt := 508) dL_cells_488 rfl ?_ ?_
        · refine ll_iconst E (pc := 508) dL_cells_508 kc_0 ?_
          exact ll_mzreturn E hr (fun _ _ => wp0) rfl dL_cells_509 (by omega)
        · refine ll_aload_n E (pc := 491) dL_cells_491 rfl ?_
          refine ll_callVi E (pc := 492) (d := 6) (ci := 8) (o9 := 0) [] [] dL_cells_492 cv_L_187 (fun h => ctX8_doesAgree h) (Nat.le_of_ble_eq_true rfl) sx_0 ci_8 rfl rfl (Nat.le_of_ble_eq_true rfl) ⟨(Nat.le_of_ble_eq_true rfl), (Nat.le_of_ble_eq_true rfl)⟩ (mcc (by omega)) ?_
          intro r104 μ103
          refine ll_if_eq E (pc := 495) (tgt := 508) dL_cells_495 rfl ?_ ?_
          · refine ll_iconst E (pc := 508) dL_cells_508 kc_0 ?_
            exact ll_mzreturn E hr (fun _ _ => wp0) rfl dL_cells_509 (by omega)
          · refine ll_mcall0 E X (pc := 498) (d := 9) (μd := μ103) [] dL_cells_498 cv_L_258 (fun h => cmL_isFar X.1 h) rfl (Nat.le_of_ble_eq_true rfl) ⟨(Nat.le_of_ble_eq_true rfl), (Nat.le_of_ble_eq_true rfl)⟩ (mcd (by omega)) (fun r106 => ?_)
            refine ll_if_eq E (pc := 501) (tgt := 508) dL_cells_501 rfl ?_ ?_
            · refine ll_iconst E (pc := 508) dL_cells_508 kc_0 ?_
              exact ll_mzreturn E hr (fun _ _ => wp0) rfl dL_cells_509 (by omega)
            · refine ll_iconst E (pc := 504) dL_cells_504 kc_1 ?_
              refine ll_goto E (pc := 505) (tgt := 509) dL_cells_505 rfl ?_
              exact ll_mzreturn E hr (fun _ _ => wp0) rfl dL_cells_509 (by omega)
set_option maxRecDepth 20000 in
theorem kL_cells_L361 {p : Program} {l : Launch} {e : Env} {s : State} {m : MethodId} {args : Array Value} {below : List Frame} {meth : Method} {c : Code} {D : va_G} {cI cR : ClassId} {ad : Nat → Nat} {A0 : Nat → Prop} (E : EV p s m args meth c cL_cells 2 RL D cI cR ad shX NX A0) (X : EM9 l s A0) (hr : meth.sig.returnType = (some .boolean))  (μ : Mem) (cl : Nat) (hc0 : cl + (787) ≤ 2385) : LL p l e (RX 10 2385) s m args below meth c 2 D cI cR ad shX NX A0 (fun (r : Int32) μ' => KM below args s D cI cR (fun _ => 0) shX 0 A0 2385 (some (.int r)) μ') (fL_cells_L361 μ) cl (6 * cl) 361 [none, some (.ref (ad 0))] [] μ := by
  rw [fL_cells_L361]
  refine ll_aload_n E (pc := 361) dL_cells_361 rfl ?_
  refine ll_iconst E (pc := 362) dL_cells_362 kc_2 ?_
  refine ll_ycallVi E X (pc := 363) (d := 8) (mc1 := 1) (ci := 8) (o9 := 0) [.int (2 : Int32)] [] dL_cells_363 cv_L_100 (fun h => cxX8_registerInOrder X.1 h) (Nat.le_of_ble_eq_true rfl) sx_0 ci_8 rfl rfl (Nat.le_of_ble_eq_true rfl) ⟨(Nat.le_of_ble_eq_true rfl), (Nat.le_of_ble_eq_true rfl)⟩ (mcd (by omega)) ?_
  intro r108 μ107
  refine ll_bipush E (pc := 366) dL_cells_366 kb_m16 ?_
  refine ll_icmp_ne E (pc := 368) (tgt := 508) dL_cells_368 rfl ?_ ?_
  · refine ll_iconst E (pc := 508) dL_cells_508 kc_0 ?_
    exact ll_mzreturn E hr (fun _ _ => wp0) rfl dL_cells_509 (by omega)
  · refine ll_aload_n E (pc := 371) dL_cells_371 rfl ?_
    refine ll_iconst E (pc := 372) dL_cells_372 kc_3 ?_
    refine ll_ycallVi E X (pc := 373) (d := 8) (mc1 := 1) (ci := 8) (o9 := 0) [.int (3 : Int32)] [] dL_cells_373 cv_L_100 (fun h => cxX8_registerInOrder X.1 h) (Nat.le_of_ble_eq_true rfl) sx_0 ci_8 rfl rfl (Nat.le_of_ble_eq_true rfl) ⟨(Nat.le_of_ble_eq_true rfl), (Nat.le_of_ble_eq_true rfl)⟩ (mcd (by omega)) ?_
    intro r110 μ109
    refine ll_bipush E (pc := 376) dL_cells_376 kb_m63 ?_
    refine ll_icmp_ne E (pc := 378) (tgt := 508) dL_cells_378 rfl ?_ ?_
    · refine ll_iconst E (pc := 508) dL_cells_508 kc_0 ?_
      exact ll_mzreturn E hr (fun _ _ => wp0) rfl dL_cells_509 (by omega)
    · refine ll_aload_n E (pc := 381) dL_cells_381 rfl ?_
      refine ll_iconst E (pc := 382) dL_cells_382 kc_4 ?_
      refine ll_ycallVi E X (pc := 383) (d := 8) (mc1 := 1) (ci := 8) (o9 := 0) [.int (4 : Int32)] [] dL_cells_383 cv_L_100 (fun h => cxX8_registerInOrder X.1 h) (Nat.le_of_ble_eq_true rfl) sx_0 ci_8 rfl rfl (Nat.le_of_ble_eq_true rfl) ⟨(Nat.le_of_ble_eq_true rfl), (Nat.le_of_ble_eq_true rfl)⟩ (mcd (by omega)) ?_
      intro r112 μ111
      refine ll_bipush E (pc := 386) dL_cells_386 kb_7 ?_
      refine ll_icmp_ne E (pc := 388) (tgt := 508) dL_cells_388 rfl ?_ ?_
      · refine ll_iconst E (pc := 508) dL_cells_508 kc_0 ?_
        exact ll_mzreturn E hr (fun _ _ => wp0) rfl dL_cells_509 (by omega)
      · refine ll_aload_n E (pc := 391) dL_cells_391 rfl ?_
        refine ll_iconst E (pc := 392) dL_cells_392 kc_5 ?_
        refine ll_ycallVi E X (pc := 393) (d := 8) (mc1 := 1) (ci := 8) (o9 := 0) [.int (5 : Int32)] [] dL_cells_393 cv_L_100 (fun h => cxX8_registerInOrder X.1 h) (Nat.le_of_ble_eq_true rfl) sx_0 ci_8 rfl rfl (Nat.le_of_ble_eq_true rfl) ⟨(Nat.le_of_ble_eq_true rfl), (Nat.le_of_ble_eq_true rfl)⟩ (mcd (by omega)) ?_
        intro r114 μ113
        refine ll_bipush E (pc := 396) dL_cells_396 kb_m56 ?_
        refine ll_icmp_ne E (pc := 398) (tgt := 508) dL_cells_398 rfl ?_ ?_
        · refine ll_iconst E (pc := 508) dL_cells_508 kc_0 ?_
          exact ll_mzreturn E hr (fun _ _ => wp0) rfl dL_cells_509 (by omega)
        · refine ll_aload_n E (pc := 401) dL_cells_401 rfl ?_
          refine ll_bipush E (pc := 402) dL_cells_402 kb_11 ?_
          refine ll_ldc E (pc := 404) dL_cells_404 kw_L_7 ?_
          refine ll_ycallVi E X (pc := 406) (d := 8) (mc1 := 1) (ci := 8) (o9 := 0) [.int (11 : Int32), .int (2147483647 : Int32)] [] dL_cells_406 cv_L_130 (fun h => cxX8_setRegister X.1 h) (Nat.le_of_ble_eq_true rfl) sx_0 ci_8 rfl rfl (Nat.le_of_ble_eq_true rfl) ⟨(Nat.le_of_ble_eq_true rfl), (Nat.le_of_ble_eq_true rfl)⟩ (mcd (by omega)) ?_
          intro r116 μ115
          refine ll_if_ne E (pc := 409) (tgt := 508) dL_cells_409 rfl ?_ ?_
          · refine ll_iconst E (pc := 508) dL_cells_508 kc_0 ?_
            exact ll_mzreturn E hr (fun _ _ => wp0) rfl dL_cells_509 (by omega)
          · refine ll_aload_n E (pc := 412) dL_cells_412 rfl ?_
            refine ll_bipush E (pc := 413) dL_cells_413 kb_6 ?_
            refine ll_iconst E (pc := 415) dL_cells_415 kc_1 ?_
            refine ll_bipush E (pc := 416) dL_cells_416 kb_10 ?_
            refine ll_bipush E (pc := 418) dL_cells_418 kb_11 ?_
            refine ll_iconst E (pc := 420) dL_cells_420 kc_1 ?_
            refine ll_iconst E (pc := 421) dL_cells_421 kc_0 ?_
            refine ll_ycallVi E X (pc := 422) (d := 7) (mc1 := 1) (ci := 8) (o9 := 0) [.int (6 : Int32), .int (1 : Int32), .int (10 : Int32), .int (11 : Int32), .int (1 : Int32), .int (0 : Int32)] [] dL_cells_422 cv_L_28 (fun h => cxX8_insert X.1 h) (Nat.le_of_ble_eq_true rfl) sx_0 ci_8 rfl rfl (Nat.le_of_ble_eq_true rfl) ⟨(Nat.le_of_ble_eq_true rfl), (Nat.le_of_ble_eq_true rfl)⟩ (mcd (by omega)) ?_
            intro r118 μ117
            refine ll_bipush E (pc := 425) dL_cells_425 kb_7 ?_
            refine ll_icmp_ne E (pc := 427) (tgt := 508) dL_cells_427 rfl ?_ ?_
            · refine ll_iconst E (pc := 508) dL_cells_508 kc_0 ?_
              exact ll_mzreturn E hr (fun _ _ => wp0) rfl dL_cells_509 (by omega)
            · refine ll_aload_n E (pc := 430) dL_cells_430 rfl ?_
              refine ll_bipush E (pc := 431) dL_cells_431 kb_10 ?_
              refine ll_ycallVi E X (pc := 433) (d := 8) (mc1 := 1) (ci := 8) (o9 := 0) [.int (10 : Int32)] [] dL_cells_433 cv_L_100 (fun h => cxX8_registerInOrder X.1 h) (Nat.le_of_ble_eq_true rfl) sx_0 ci_8 rfl rfl (Nat.le_of_ble_eq_true rfl) ⟨(Nat.le_of_ble_eq_true rfl), (Nat.le_of_ble_eq_true rfl)⟩ (mcd (by omega)) ?_
              intro r120 μ119
              refine ll_ldcw E (pc := 436) dL_cells_436 kw_L_257 ?_
              refine ll_icmp_ne E (pc := 439) (tgt := 508) dL_cells_439 rfl ?_ ?_
              · refine ll_iconst E (pc := 508) dL_cells_508 kc_0 ?_
                exact ll_mzreturn E hr (fun _ _ => wp0) rfl dL_cells_509 (by omega)
              · refine ll_aload_n E (pc := 442) dL_cells_442 rfl ?_
                refine ll_callVi E (pc := 443) (d := 5) (ci := 8) (o9 := 0) [] [] dL_cells_443 cv_L_180 (fun h => ctX8_pack h) (Nat.le_of_ble_eq_true rfl) sx_0 ci_8 rfl rfl (Nat.le_of_ble_eq_true rfl) ⟨(Nat.le_of_ble_eq_true rfl), (Nat.le_of_ble_eq_true rfl)⟩ (mcc (by omega)) ?_
                intro r122 μ121
                refine ll_iconst E (pc := 446) dL_cells_446 kc_5 ?_
                refine ll_icmp_ne E (pc := 447) (tgt := 508) dL_cells_447 rfl ?_ ?_
                · refine ll_iconst E (pc := 508) dL_cells_508 kc_0 ?_
                  exact ll_mzreturn E hr (fun _ _ => wp0) rfl dL_cells_509 (by omega)
                · exact ll_lo (lo' := [none, some (.ref (ad 0))]) ⟨rfl, trivial⟩ (kL_cells_L450 E X hr μ121 _ (by omega))
set_option maxRecDepth 20000 in
theorem kL_cells_L304 {p : Program} {l : Launch} {e : Env} {s : State} {m : MethodId} {args : Array Value} {below : List Frame} {meth : Method} {c : Code} {D : va_G} {cI cR : ClassId} {ad : Nat → Nat} {A0 : Nat → Prop} (E : EV p s m args meth c cL_cells 2 RL D cI cR ad shX NX A0) (X : EM9 l s A0) (hr : meth.sig.returnType = (some .boolean))  (μ : Mem) (cl : Nat) (hc0 : cl + (1592) ≤ 2385) : LL p l e (RX 10 2385) s m args below meth c 2 D cI cR ad shX NX A0 (fun (r : Int32) μ' => KM below args s D cI cR (fun _ => 0) shX 0 A0 2385 (some (.int r)) μ') (fL_cells_L304 μ) cl (6 * cl) 304 [none, none] [] μ := by
  rw [fL_cells_L304]
  refine ll_newX E (pc := 304) wn_29 wn_1 wn_2 wn_c179 wn_3 wn_4 dL_cells_304 dL_cells_307 dL_cells_308 (Nat.le_of_ble_eq_true rfl) ⟨(Nat.le_of_ble_eq_true rfl), (Nat.le_of_ble_eq_true rfl)⟩ (mcd (by omega)) (fun ad E => ?_)
  refine ll_astore_n E (pc := 311) (lo' := [none, some (.ref (ad 0))]) dL_cells_311 (Nat.le_of_ble_eq_true rfl) rfl rfl ?_
  refine ll_aload_n E (pc := 312) dL_cells_312 rfl ?_
  refine ll_ldc2 E (pc := 313) dL_cells_313 kw_L_249 ?_
  refine ll_mcallSi E X (pc := 316) (d := 8) [.ref (ad 0), .long (7006806319091039543 : Int64)] [] dL_cells_316 cv_L_209 (fun h => cmL_types X.1 h) rfl rfl (Nat.le_of_ble_eq_true rfl) ⟨(Nat.le_of_ble_eq_true rfl), (Nat.le_of_ble_eq_true rfl)⟩ (mcd (by omega)) ?_
  intro r124 μ123
  refine ll_if_eq E (pc := 319) (tgt := 508) dL_cells_319 rfl ?_ ?_
  · refine ll_iconst E (pc := 508) dL_cells_508 kc_0 ?_
    exact ll_mzreturn E hr (fun _ _ => wp0) rfl dL_cells_509 (by omega)
  · refine ll_aload_n E (pc := 322) dL_cells_322 rfl ?_
    refine ll_ldc2 E (pc := 323) dL_cells_323 kw_L_251 ?_
    refine ll_mcallSi E X (pc := 326) (d := 8) [.ref (ad 0), .long (4279331558514637668 : Int64)] [] dL_cells_326 cv_L_209 (fun h => cmL_types X.1 h) rfl rfl (Nat.le_of_ble_eq_true rfl) ⟨(Nat.le_of_ble_eq_true rfl), (Nat.le_of_ble_eq_true rfl)⟩ (mcd (by omega)) ?_
    intro r126 μ125
    refine ll_if_eq E (pc := 329) (tgt := 508) dL_cells_329 rfl ?_ ?_
    · refine ll_iconst E (pc := 508) dL_cells_508 kc_0 ?_
      exact ll_mzreturn E hr (fun _ _ => wp0) rfl dL_cells_509 (by omega)
    · refine ll_aload_n E (pc := 332) dL_cells_332 rfl ?_
      refine ll_ldc2 E (pc := 333) dL_cells_333 kw_L_253 ?_
      refine ll_mcallSi E X (pc := 336) (d := 8) [.ref (ad 0), .long (4422862910446189921 : Int64)] [] dL_cells_336 cv_L_209 (fun h => cmL_types X.1 h) rfl rfl (Nat.le_of_ble_eq_true rfl) ⟨(Nat.le_of_ble_eq_true rfl), (Nat.le_of_ble_eq_true rfl)⟩ (mcd (by omega)) ?_
      intro r128 μ127
      refine ll_if_eq E (pc := 339) (tgt := 508) dL_cells_339 rfl ?_ ?_
      · refine ll_iconst E (pc := 508) dL_cells_508 kc_0 ?_
        exact ll_mzreturn E hr (fun _ _ => wp0) rfl dL_cells_509 (by omega)
      · refine ll_aload_n E (pc := 342) dL_cells_342 rfl ?_
        refine ll_ldc2 E (pc := 343) dL_cells_343 kw_L_255 ?_
        refine ll_mcallSi E X (pc := 346) (d := 8) [.ref (ad 0), .long (6801063697585613668 : Int64)] [] dL_cells_346 cv_L_209 (fun h => cmL_types X.1 h) rfl rfl (Nat.le_of_ble_eq_true rfl) ⟨(Nat.le_of_ble_eq_true rfl), (Nat.le_of_ble_eq_true rfl)⟩ (mcd (by omega)) ?_
        intro r130 μ129
        refine ll_if_eq E (pc := 349) (tgt := 508) dL_cells_349 rfl ?_ ?_
        · refine ll_iconst E (pc := 508) dL_cells_508 kc_0 ?_
          exact ll_mzreturn E hr (fun _ _ => wp0) rfl dL_cells_509 (by omega)
        · refine ll_aload_n E (pc := 352) dL_cells_352 rfl ?_
          refine ll_ycallVi E X (pc := 353) (d := 7) (mc1 := 1) (ci := 8) (o9 := 0) [] [] dL_cells_353 cv_L_60 (fun h => cxX8_addAll X.1 h) (Nat.le_of_ble_eq_true rfl) sx_0 ci_8 rfl rfl (Nat.le_of_ble_eq_true rfl) ⟨(Nat.le_of_ble_eq_true rfl), (Nat.le_of_ble_eq_true rfl)⟩ (mcd (by omega)) ?_
          intro r132 μ131
          refine ll_bipush E (pc := 356) dL_cells_356 kb_6 ?_
          refine ll_icmp_ne E (pc := 358) (tgt := 508) dL_cells_358 rfl ?_ ?_
          · refine ll_iconst E (pc := 508) dL_cells_508 kc_0 ?_
            exact ll_mzreturn E hr (fun _ _ => wp0) rfl dL_cells_509 (by omega)
          · exact ll_lo (lo' := [none, some (.ref (ad 0))]) ⟨rfl, trivial⟩ (kL_cells_L361 E X hr μ131 _ (by omega))
set_option maxRecDepth 20000 in
theorem kL_cells_L250 {p : Program} {l : Launch} {e : Env} {s : State} {m : MethodId} {args : Array Value} {below : List Frame} {meth : Method} {c : Code} {D : va_G} {cI cR : ClassId} {ad : Nat → Nat} {A0 : Nat → Prop} (E : EV p s m args meth c cL_cells 2 RL D cI cR ad shX NX A0) (X : EM9 l s A0) (hr : meth.sig.returnType = (some .boolean))  (μ : Mem) (cl : Nat) (hc0 : cl + (1596) ≤ 2385) : LL p l e (RX 10 2385) s m args below meth c 2 D cI cR ad shX NX A0 (fun (r : Int32) μ' => KM below args s D cI cR (fun _ => 0) shX 0 A0 2385 (some (.int r)) μ') (fL_cells_L250 μ) cl (6 * cl) 250 [some (.ref (ad 0)), none] [] μ := by
  rw [fL_cells_L250]
  refine ll_aload_n E (pc := 250) dL_cells_250 rfl ?_
  refine ll_callVi E (pc := 251) (d := 6) (ci := 8) (o9 := 0) [] [] dL_cells_251 cv_L_187 (fun h => ctX8_doesAgree h) (Nat.le_of_ble_eq_true rfl) sx_0 ci_8 rfl rfl (Nat.le_of_ble_eq_true rfl) ⟨(Nat.le_of_ble_eq_true rfl), (Nat.le_of_ble_eq_true rfl)⟩ (mcc (by omega)) ?_
  intro r134 μ133
  refine ll_if_eq E (pc := 254) (tgt := 302) dL_cells_254 rfl ?_ ?_
  · refine ll_iconst E (pc := 302) dL_cells_302 kc_0 ?_
    exact ll_mzreturn E hr (fun _ _ => wp0) rfl dL_cells_303 (by omega)
  · refine ll_aload_n E (pc := 257) dL_cells_257 rfl ?_
    refine ll_bipush E (pc := 258) dL_cells_258 kb_8 ?_
    refine ll_iconst E (pc := 260) dL_cells_260 kc_5 ?_
    refine ll_ycallVi E X (pc := 261) (d := 8) (mc1 := 1) (ci := 8) (o9 := 0) [.int (8 : Int32), .int (5 : Int32)] [] dL_cells_261 cv_L_133 (fun h => cxX8_setCell X.1 h) (Nat.le_of_ble_eq_true rfl) sx_0 ci_8 rfl rfl (Nat.le_of_ble_eq_true rfl) ⟨(Nat.le_of_ble_eq_true rfl), (Nat.le_of_ble_eq_true rfl)⟩ (mcd (by omega)) ?_
    intro r136 μ135
    refine ll_if_ne E (pc := 264) (tgt := 302) dL_cells_264 rfl ?_ ?_
    · refine ll_iconst E (pc := 302) dL_cells_302 kc_0 ?_
      exact ll_mzreturn E hr (fun _ _ => wp0) rfl dL_cells_303 (by omega)
    · refine ll_aload_n E (pc := 267) dL_cells_267 rfl ?_
      refine ll_iconst E (pc := 268) dL_cells_268 kc_1 ?_
      refine ll_ycallVi E X (pc := 269) (d := 8) (mc1 := 1) (ci := 8) (o9 := 0) [.int (1 : Int32)] [] dL_cells_269 cv_L_100 (fun h => cxX8_registerInOrder X.1 h) (Nat.le_of_ble_eq_true rfl) sx_0 ci_8 rfl rfl (Nat.le_of_ble_eq_true rfl) ⟨(Nat.le_of_ble_eq_true rfl), (Nat.le_of_ble_eq_true rfl)⟩ (mcd (by omega)) ?_
      intro r138 μ137
      refine ll_iconst E (pc := 272) dL_cells_272 kc_5 ?_
      refine ll_icmp_ne E (pc := 273) (tgt := 302) dL_cells_273 rfl ?_ ?_
      · refine ll_iconst E (pc := 302) dL_cells_302 kc_0 ?_
        exact ll_mzreturn E hr (fun _ _ => wp0) rfl dL_cells_303 (by omega)
      · refine ll_aload_n E (pc := 276) dL_cells_276 rfl ?_
        refine ll_bipush E (pc := 277) dL_cells_277 kb_6 ?_
        refine ll_ycallVi E X (pc := 279) (d := 8) (mc1 := 1) (ci := 8) (o9 := 0) [.int (6 : Int32)] [] dL_cells_279 cv_L_106 (fun h => cxX8_cellInOrder X.1 h) (Nat.le_of_ble_eq_true rfl) sx_0 ci_8 rfl rfl (Nat.le_of_ble_eq_true rfl) ⟨(Nat.le_of_ble_eq_true rfl), (Nat.le_of_ble_eq_true rfl)⟩ (mcd (by omega)) ?_
        intro r140 μ139
        refine ll_bipush E (pc := 282) dL_cells_282 kb_40 ?_
        refine ll_icmp_ne E (pc := 284) (tgt := 302) dL_cells_284 rfl ?_ ?_
        · refine ll_iconst E (pc := 302) dL_cells_302 kc_0 ?_
          exact ll_mzreturn E hr (fun _ _ => wp0) rfl dL_cells_303 (by omega)
        · refine ll_aload_n E (pc := 287) dL_cells_287 rfl ?_
          refine ll_iconst E (pc := 288) dL_cells_288 kc_1 ?_
          refine ll_ycallVi E X (pc := 289) (d := 8) (mc1 := 1) (ci := 8) (o9 := 0) [.int (1 : Int32)] [] dL_cells_289 cv_L_106 (fun h => cxX8_cellInOrder X.1 h) (Nat.le_of_ble_eq_true rfl) sx_0 ci_8 rfl rfl (Nat.le_of_ble_eq_true rfl) ⟨(Nat.le_of_ble_eq_true rfl), (Nat.le_of_ble_eq_true rfl)⟩ (mcd (by omega)) ?_
          intro r142 μ141
          refine ll_if_ne E (pc := 292) (tgt := 302) dL_cells_292 rfl ?_ ?_
          · refine ll_iconst E (pc := 302) dL_cells_302 kc_0 ?_
            exact ll_mzreturn E hr (fun _ _ => wp0) rfl dL_cells_303 (by omega)
          · refine ll_aload_n E (pc := 295) dL_cells_295 rfl ?_
            refine ll_callVi E (pc := 296) (d := 6) (ci := 8) (o9 := 0) [] [] dL_cells_296 cv_L_187 (fun h => ctX8_doesAgree h) (Nat.le_of_ble_eq_true rfl) sx_0 ci_8 rfl rfl (Nat.le_of_ble_eq_true rfl) ⟨(Nat.le_of_ble_eq_true rfl), (Nat.le_of_ble_eq_true rfl)⟩ (mcc (by omega)) ?_
            intro r144 μ143
            refine ll_if_ne E (pc := 299) (tgt := 304) dL_cells_299 rfl ?_ ?_
            · exact ll_lo (lo' := [none, none]) trivial (kL_cells_L304 E X hr μ143 _ (by omega))
            · refine ll_iconst E (pc := 302) dL_cells_302 kc_0 ?_
              exact ll_mzreturn E hr (fun _ _ => wp0) rfl dL_cells_303 (by omega)
set_option maxRecDepth 20000 in
theorem kL_cells_L195 {p : Program} {l : Launch} {e : Env} {s : State} {m : MethodId} {args : Array Value} {below : List Frame} {meth : Method} {c : Code} {D : va_G} {cI cR : ClassId} {ad : Nat → Nat} {A0 : Nat → Prop} (E : EV p s m args meth c cL_cells 2 RL D cI cR ad shX NX A0) (X : EM9 l s A0) (hr : meth.sig.returnType = (some .boolean))  (μ : Mem) (cl : Nat) (hc0 : cl + (1601) ≤ 2385) : LL p l e (RX 10 2385) s m args below meth c 2 D cI cR ad shX NX A0 (fun (r : Int32) μ' => KM below args s D cI cR (fun _ => 0) shX 0 A0 2385 (some (.int r)) μ') (fL_cells_L195 μ) cl (6 * cl) 195 [some (.ref (ad 0)), none] [] μ := by
  rw [fL_cells_L195]
  refine ll_aload_n E (pc := 195) dL_cells_195 rfl ?_
  refine ll_bipush E (pc := 196) dL_cells_196 kb_9 ?_
  refine ll_ycallVi E X (pc := 198) (d := 8) (mc1 := 1) (ci := 8) (o9 := 0) [.int (9 : Int32)] [] dL_cells_198 cv_L_106 (fun h => cxX8_cellInOrder X.1 h) (Nat.le_of_ble_eq_true rfl) sx_0 ci_8 rfl rfl (Nat.le_of_ble_eq_true rfl) ⟨(Nat.le_of_ble_eq_true rfl), (Nat.le_of_ble_eq_true rfl)⟩ (mcd (by omega)) ?_
  intro r146 μ145
  refine ll_bipush E (pc := 201) dL_cells_201 kb_40 ?_
  refine ll_icmp_ne E (pc := 203) (tgt := 302) dL_cells_203 rfl ?_ ?_
  · refine ll_iconst E (pc := 302) dL_cells_302 kc_0 ?_
    exact ll_mzreturn E hr (fun _ _ => wp0) rfl dL_cells_303 (by omega)
  · refine ll_aload_n E (pc := 206) dL_cells_206 rfl ?_
    refine ll_iconst E (pc := 207) dL_cells_207 kc_3 ?_
    refine ll_ycallVi E X (pc := 208) (d := 8) (mc1 := 1) (ci := 8) (o9 := 0) [.int (3 : Int32)] [] dL_cells_208 cv_L_100 (fun h => cxX8_registerInOrder X.1 h) (Nat.le_of_ble_eq_true rfl) sx_0 ci_8 rfl rfl (Nat.le_of_ble_eq_true rfl) ⟨(Nat.le_of_ble_eq_true rfl), (Nat.le_of_ble_eq_true rfl)⟩ (mcd (by omega)) ?_
    intro r148 μ147
    refine ll_if_ne E (pc := 211) (tgt := 302) dL_cells_211 rfl ?_ ?_
    · refine ll_iconst E (pc := 302) dL_cells_302 kc_0 ?_
      exact ll_mzreturn E hr (fun _ _ => wp0) rfl dL_cells_303 (by omega)
    · refine ll_aload_n E (pc := 214) dL_cells_214 rfl ?_
      refine ll_iconst E (pc := 215) dL_cells_215 kc_4 ?_
      refine ll_ycallVi E X (pc := 216) (d := 8) (mc1 := 1) (ci := 8) (o9 := 0) [.int (4 : Int32)] [] dL_cells_216 cv_L_100 (fun h => cxX8_registerInOrder X.1 h) (Nat.le_of_ble_eq_true rfl) sx_0 ci_8 rfl rfl (Nat.le_of_ble_eq_true rfl) ⟨(Nat.le_of_ble_eq_true rfl), (Nat.le_of_ble_eq_true rfl)⟩ (mcd (by omega)) ?_
      intro r150 μ149
      refine ll_bipush E (pc := 219) dL_cells_219 kb_40 ?_
      refine ll_icmp_ne E (pc := 221) (tgt := 302) dL_cells_221 rfl ?_ ?_
      · refine ll_iconst E (pc := 302) dL_cells_302 kc_0 ?_
        exact ll_mzreturn E hr (fun _ _ => wp0) rfl dL_cells_303 (by omega)
      · refine ll_aload_n E (pc := 224) dL_cells_224 rfl ?_
        refine ll_iconst E (pc := 225) dL_cells_225 kc_1 ?_
        refine ll_ycallVi E X (pc := 226) (d := 8) (mc1 := 1) (ci := 8) (o9 := 0) [.int (1 : Int32)] [] dL_cells_226 cv_L_100 (fun h => cxX8_registerInOrder X.1 h) (Nat.le_of_ble_eq_true rfl) sx_0 ci_8 rfl rfl (Nat.le_of_ble_eq_true rfl) ⟨(Nat.le_of_ble_eq_true rfl), (Nat.le_of_ble_eq_true rfl)⟩ (mcd (by omega)) ?_
        intro r152 μ151
        refine ll_if_ne E (pc := 229) (tgt := 302) dL_cells_229 rfl ?_ ?_
        · refine ll_iconst E (pc := 302) dL_cells_302 kc_0 ?_
          exact ll_mzreturn E hr (fun _ _ => wp0) rfl dL_cells_303 (by omega)
        · refine ll_aload_n E (pc := 232) dL_cells_232 rfl ?_
          refine ll_iconst E (pc := 233) dL_cells_233 kc_1 ?_
          refine ll_ycallVi E X (pc := 234) (d := 8) (mc1 := 1) (ci := 8) (o9 := 0) [.int (1 : Int32)] [] dL_cells_234 cv_L_106 (fun h => cxX8_cellInOrder X.1 h) (Nat.le_of_ble_eq_true rfl) sx_0 ci_8 rfl rfl (Nat.le_of_ble_eq_true rfl) ⟨(Nat.le_of_ble_eq_true rfl), (Nat.le_of_ble_eq_true rfl)⟩ (mcd (by omega)) ?_
          intro r154 μ153
          refine ll_bipush E (pc := 237) dL_cells_237 kb_40 ?_
          refine ll_icmp_ne E (pc := 239) (tgt := 302) dL_cells_239 rfl ?_ ?_
          · refine ll_iconst E (pc := 302) dL_cells_302 kc_0 ?_
            exact ll_mzreturn E hr (fun _ _ => wp0) rfl dL_cells_303 (by omega)
          · refine ll_aload_n E (pc := 242) dL_cells_242 rfl ?_
            refine ll_callVi E (pc := 243) (d := 5) (ci := 8) (o9 := 0) [] [] dL_cells_243 cv_L_180 (fun h => ctX8_pack h) (Nat.le_of_ble_eq_true rfl) sx_0 ci_8 rfl rfl (Nat.le_of_ble_eq_true rfl) ⟨(Nat.le_of_ble_eq_true rfl), (Nat.le_of_ble_eq_true rfl)⟩ (mcc (by omega)) ?_
            intro r156 μ155
            refine ll_iconst E (pc := 246) dL_cells_246 kc_1 ?_
            refine ll_icmp_lt E (pc := 247) (tgt := 302) dL_cells_247 rfl ?_ ?_
            · refine ll_iconst E (pc := 302) dL_cells_302 kc_0 ?_
              exact ll_mzreturn E hr (fun _ _ => wp0) rfl dL_cells_303 (by omega)
            · exact ll_lo (lo' := [some (.ref (ad 0)), none]) ⟨rfl, trivial⟩ (kL_cells_L250 E X hr μ155 _ (by omega))
set_option maxRecDepth 20000 in
theorem kL_cells_L112 {p : Program} {l : Launch} {e : Env} {s : State} {m : MethodId} {args : Array Value} {below : List Frame} {meth : Method} {c : Code} {D : va_G} {cI cR : ClassId} {ad : Nat → Nat} {A0 : Nat → Prop} (E : EV p s m args meth c cL_cells 2 RL D cI cR ad shX NX A0) (X : EM9 l s A0) (hr : meth.sig.returnType = (some .boolean))  (μ : Mem) (cl : Nat) (hc0 : cl + (1617) ≤ 2385) : LL p l e (RX 10 2385) s m args below meth c 2 D cI cR ad shX NX A0 (fun (r : Int32) μ' => KM below args s D cI cR (fun _ => 0) shX 0 A0 2385 (some (.int r)) μ') (fL_cells_L112 μ) cl (6 * cl) 112 [some (.ref (ad 0)), none] [] μ := by
  rw [fL_cells_L112]
  refine ll_aload_n E (pc := 112) dL_cells_112 rfl ?_
  refine ll_iconst E (pc := 113) dL_cells_113 kc_0 ?_
  refine ll_iconst E (pc := 114) dL_cells_114 kc_1 ?_
  refine ll_ycallVi E X (pc := 115) (d := 8) (mc1 := 2) (ci := 8) (o9 := 0) [.int (0 : Int32), .int (1 : Int32)] [] dL_cells_115 cv_L_94 (fun h => cxX8_separation X.1 h) (Nat.le_of_ble_eq_true rfl) sx_0 ci_8 rfl rfl (Nat.le_of_ble_eq_true rfl) ⟨(Nat.le_of_ble_eq_true rfl), (Nat.le_of_ble_eq_true rfl)⟩ (mcd (by omega)) ?_
  intro r158 μ157
  refine ll_bipush E (pc := 118) dL_cells_118 kb_m99 ?_
  refine ll_icmp_ne E (pc := 120) (tgt := 193) dL_cells_120 rfl ?_ ?_
  · refine ll_iconst E (pc := 193) dL_cells_193 kc_0 ?_
    exact ll_mzreturn E hr (fun _ _ => wp0) rfl dL_cells_194 (by omega)
  · refine ll_aload_n E (pc := 123) dL_cells_123 rfl ?_
    refine ll_iconst E (pc := 124) dL_cells_124 kc_0 ?_
    refine ll_iconst E (pc := 125) dL_cells_125 kc_2 ?_
    refine ll_ycallVi E X (pc := 126) (d := 8) (mc1 := 2) (ci := 8) (o9 := 0) [.int (0 : Int32), .int (2 : Int32)] [] dL_cells_126 cv_L_94 (fun h => cxX8_separation X.1 h) (Nat.le_of_ble_eq_true rfl) sx_0 ci_8 rfl rfl (Nat.le_of_ble_eq_true rfl) ⟨(Nat.le_of_ble_eq_true rfl), (Nat.le_of_ble_eq_true rfl)⟩ (mcd (by omega)) ?_
    intro r160 μ159
    refine ll_iconst E (pc := 129) dL_cells_129 kc_1 ?_
    refine ll_icmp_ne E (pc := 130) (tgt := 193) dL_cells_130 rfl ?_ ?_
    · refine ll_iconst E (pc := 193) dL_cells_193 kc_0 ?_
      exact ll_mzreturn E hr (fun _ _ => wp0) rfl dL_cells_194 (by omega)
    · refine ll_aload_n E (pc := 133) dL_cells_133 rfl ?_
      refine ll_iconst E (pc := 134) dL_cells_134 kc_0 ?_
      refine ll_iconst E (pc := 135) dL_cells_135 kc_3 ?_
      refine ll_ycallVi E X (pc := 136) (d := 8) (mc1 := 2) (ci := 8) (o9 := 0) [.int (0 : Int32), .int (3 : Int32)] [] dL_cells_136 cv_L_94 (fun h => cxX8_separation X.1 h) (Nat.le_of_ble_eq_true rfl) sx_0 ci_8 rfl rfl (Nat.le_of_ble_eq_true rfl) ⟨(Nat.le_of_ble_eq_true rfl), (Nat.le_of_ble_eq_true rfl)⟩ (mcd (by omega)) ?_
      intro r162 μ161
      refine ll_iconst E (pc := 139) dL_cells_139 kc_m1 ?_
      refine ll_icmp_ne E (pc := 140) (tgt := 193) dL_cells_140 rfl ?_ ?_
      · refine ll_iconst E (pc := 193) dL_cells_193 kc_0 ?_
        exact ll_mzreturn E hr (fun _ _ => wp0) rfl dL_cells_194 (by omega)
      · refine ll_aload_n E (pc := 143) dL_cells_143 rfl ?_
        refine ll_iconst E (pc := 144) dL_cells_144 kc_3 ?_
        refine ll_iconst E (pc := 145) dL_cells_145 kc_4 ?_
        refine ll_ycallVi E X (pc := 146) (d := 8) (mc1 := 2) (ci := 8) (o9 := 0) [.int (3 : Int32), .int (4 : Int32)] [] dL_cells_146 cv_L_94 (fun h => cxX8_separation X.1 h) (Nat.le_of_ble_eq_true rfl) sx_0 ci_8 rfl rfl (Nat.le_of_ble_eq_true rfl) ⟨(Nat.le_of_ble_eq_true rfl), (Nat.le_of_ble_eq_true rfl)⟩ (mcd (by omega)) ?_
        intro r164 μ163
        refine ll_iconst E (pc := 149) dL_cells_149 kc_2 ?_
        refine ll_icmp_ne E (pc := 150) (tgt := 193) dL_cells_150 rfl ?_ ?_
        · refine ll_iconst E (pc := 193) dL_cells_193 kc_0 ?_
          exact ll_mzreturn E hr (fun _ _ => wp0) rfl dL_cells_194 (by omega)
        · refine ll_aload_n E (pc := 153) dL_cells_153 rfl ?_
          refine ll_iconst E (pc := 154) dL_cells_154 kc_1 ?_
          refine ll_iconst E (pc := 155) dL_cells_155 kc_4 ?_
          refine ll_ycallVi E X (pc := 156) (d := 8) (mc1 := 2) (ci := 8) (o9 := 0) [.int (1 : Int32), .int (4 : Int32)] [] dL_cells_156 cv_L_94 (fun h => cxX8_separation X.1 h) (Nat.le_of_ble_eq_true rfl) sx_0 ci_8 rfl rfl (Nat.le_of_ble_eq_true rfl) ⟨(Nat.le_of_ble_eq_true rfl), (Nat.le_of_ble_eq_true rfl)⟩ (mcd (by omega)) ?_
          intro r166 μ165
          refine ll_if_ne E (pc := 159) (tgt := 193) dL_cells_159 rfl ?_ ?_
          · refine ll_iconst E (pc := 193) dL_cells_193 kc_0 ?_
            exact ll_mzreturn E hr (fun _ _ => wp0) rfl dL_cells_194 (by omega)
          · refine ll_aload_n E (pc := 162) dL_cells_162 rfl ?_
            refine ll_iconst E (pc := 163) dL_cells_163 kc_1 ?_
            refine ll_iconst E (pc := 164) dL_cells_164 kc_2 ?_
            refine ll_ycallVi E X (pc := 165) (d := 8) (mc1 := 2) (ci := 8) (o9 := 0) [.int (1 : Int32), .int (2 : Int32)] [] dL_cells_165 cv_L_94 (fun h => cxX8_separation X.1 h) (Nat.le_of_ble_eq_true rfl) sx_0 ci_8 rfl rfl (Nat.le_of_ble_eq_true rfl) ⟨(Nat.le_of_ble_eq_true rfl), (Nat.le_of_ble_eq_true rfl)⟩ (mcd (by omega)) ?_
            intro r168 μ167
            refine ll_bipush E (pc := 168) dL_cells_168 kb_m99 ?_
            refine ll_icmp_ne E (pc := 170) (tgt := 193) dL_cells_170 rfl ?_ ?_
            · refine ll_iconst E (pc := 193) dL_cells_193 kc_0 ?_
              exact ll_mzreturn E hr (fun _ _ => wp0) rfl dL_cells_194 (by omega)
            · refine ll_aload_n E (pc := 173) dL_cells_173 rfl ?_
              refine ll_iconst E (pc := 174) dL_cells_174 kc_1 ?_
              refine ll_iconst E (pc := 175) dL_cells_175 kc_3 ?_
              refine ll_ycallVi E X (pc := 176) (d := 8) (mc1 := 2) (ci := 8) (o9 := 0) [.int (1 : Int32), .int (3 : Int32)] [] dL_cells_176 cv_L_94 (fun h => cxX8_separation X.1 h) (Nat.le_of_ble_eq_true rfl) sx_0 ci_8 rfl rfl (Nat.le_of_ble_eq_true rfl) ⟨(Nat.le_of_ble_eq_true rfl), (Nat.le_of_ble_eq_true rfl)⟩ (mcd (by omega)) ?_
              intro r170 μ169
              refine ll_iconst E (pc := 179) dL_cells_179 kc_m1 ?_
              refine ll_icmp_ne E (pc := 180) (tgt := 193) dL_cells_180 rfl ?_ ?_
              · refine ll_iconst E (pc := 193) dL_cells_193 kc_0 ?_
                exact ll_mzreturn E hr (fun _ _ => wp0) rfl dL_cells_194 (by omega)
              · refine ll_aload_n E (pc := 183) dL_cells_183 rfl ?_
                refine ll_iconst E (pc := 184) dL_cells_184 kc_0 ?_
                refine ll_iconst E (pc := 185) dL_cells_185 kc_4 ?_
                refine ll_ycallVi E X (pc := 186) (d := 8) (mc1 := 2) (ci := 8) (o9 := 0) [.int (0 : Int32), .int (4 : Int32)] [] dL_cells_186 cv_L_94 (fun h => cxX8_separation X.1 h) (Nat.le_of_ble_eq_true rfl) sx_0 ci_8 rfl rfl (Nat.le_of_ble_eq_true rfl) ⟨(Nat.le_of_ble_eq_true rfl), (Nat.le_of_ble_eq_true rfl)⟩ (mcd (by omega)) ?_
                intro r172 μ171
                refine ll_iconst E (pc := 189) dL_cells_189 kc_1 ?_
                refine ll_icmp_eq E (pc := 190) (tgt := 195) dL_cells_190 rfl ?_ ?_
                · exact ll_lo (lo' := [some (.ref (ad 0)), none]) ⟨rfl, trivial⟩ (kL_cells_L195 E X hr μ171 _ (by omega))
                · refine ll_iconst E (pc := 193) dL_cells_193 kc_0 ?_
                  exact ll_mzreturn E hr (fun _ _ => wp0) rfl dL_cells_194 (by omega)
set_option maxRecDepth 20000 in
theorem cmL_cells {l : Launch} {D : va_G} {cI cR : ClassId} {μ : Mem} (hl9 : l.stackTraces = false) {r : Int32} {μ' : Mem} (hf : fL_cells μ = some (r, μ')) : CM l yL_cells (.code yL_cells cL_cells 2 (some .boolean)) 10 2385 D cI cR (fun _ => 0) shX 0 [] μ (some (.int r)) μ' :=
  cm_of (own := RL) (ov := fun (r : Int32) => (some (.int r))) hl9 (by decide +kernel) rfl (Nat.le_of_ble_eq_true rfl) (fun p e s m below meth c A0 E X hr => by
    refine ll_lo (lo' := [none, none]) trivial ?_
    rw [fL_cells]
    refine ll_newX E (pc := 0) wn_29 wn_1 wn_2 wn_c179 wn_3 wn_4 dL_cells_0 dL_cells_3 dL_cells_4 (Nat.le_of_ble_eq_true rfl) ⟨(Nat.le_of_ble_eq_true rfl), (Nat.le_of_ble_eq_true rfl)⟩ (mcd (by omega)) (fun ad E => ?_)
    refine ll_astore_n E (pc := 7) (lo' := [some (.ref (ad 0)), none]) dL_cells_7 (Nat.le_of_ble_eq_true rfl) rfl rfl ?_
    refine ll_aload_n E (pc := 8) dL_cells_8 rfl ?_
    refine ll_iconst E (pc := 9) dL_cells_9 kc_1 ?_
    refine ll_bipush E (pc := 10) dL_cells_10 kb_m3 ?_
    refine ll_ycallVi E X (pc := 12) (d := 8) (mc1 := 1) (ci := 8) (o9 := 0) [.int (1 : Int32), .int (-3 : Int32)] [] dL_cells_12 cv_L_130 (fun h => cxX8_setRegister X.1 h) (Nat.le_of_ble_eq_true rfl) sx_0 ci_8 rfl rfl (Nat.le_of_ble_eq_true rfl) ⟨(Nat.le_of_ble_eq_true rfl), (Nat.le_of_ble_eq_true rfl)⟩ (mcd (by omega)) ?_
    intro r174 μ173
    refine ll_if_ne E (pc := 15) (tgt := 193) dL_cells_15 rfl ?_ ?_
    · refine ll_iconst E (pc := 193) dL_cells_193 kc_0 ?_
      exact ll_mzreturn E hr (fun _ _ => wp0) rfl dL_cells_194 (by omega)
    · refine ll_aload_n E (pc := 18) dL_cells_18 rfl ?_
      refine ll_iconst E (pc := 19) dL_cells_19 kc_2 ?_
      refine ll_bipush E (pc := 20) dL_cells_20 kb_40 ?_
      refine ll_ycallVi E X (pc := 22) (d := 8) (mc1 := 1) (ci := 8) (o9 := 0) [.int (2 : Int32), .int (40 : Int32)] [] dL_cells_22 cv_L_130 (fun h => cxX8_setRegister X.1 h) (Nat.le_of_ble_eq_true rfl) sx_0 ci_8 rfl rfl (Nat.le_of_ble_eq_true rfl) ⟨(Nat.le_of_ble_eq_true rfl), (Nat.le_of_ble_eq_true rfl)⟩ (mcd (by omega)) ?_
      intro r176 μ175
      refine ll_if_ne E (pc := 25) (tgt := 193) dL_cells_25 rfl ?_ ?_
      · refine ll_iconst E (pc := 193) dL_cells_193 kc_0 ?_
        exact ll_mzreturn E hr (fun _ _ => wp0) rfl dL_cells_194 (by omega)
      · refine ll_aload_n E (pc := 28) dL_cells_28 rfl ?_
        refine ll_bipush E (pc := 29) dL_cells_29 kb_9 ?_
        refine ll_bipush E (pc := 31) dL_cells_31 kb_8 ?_
        refine ll_ycallVi E X (pc := 33) (d := 8) (mc1 := 1) (ci := 8) (o9 := 0) [.int (9 : Int32), .int (8 : Int32)] [] dL_cells_33 cv_L_133 (fun h => cxX8_setCell X.1 h) (Nat.le_of_ble_eq_true rfl) sx_0 ci_8 rfl rfl (Nat.le_of_ble_eq_true rfl) ⟨(Nat.le_of_ble_eq_true rfl), (Nat.le_of_ble_eq_true rfl)⟩ (mcd (by omega)) ?_
        intro r178 μ177
        refine ll_if_ne E (pc := 36) (tgt := 193) dL_cells_36 rfl ?_ ?_
        · refine ll_iconst E (pc := 193) dL_cells_193 kc_0 ?_
          exact ll_mzreturn E hr (fun _ _ => wp0) rfl dL_cells_194 (by omega)
        · refine ll_aload_n E (pc := 39) dL_cells_39 rfl ?_
          refine ll_iconst E (pc := 40) dL_cells_40 kc_0 ?_
          refine ll_bipush E (pc := 41) dL_cells_41 kb_6 ?_
          refine ll_iconst E (pc := 43) dL_cells_43 kc_0 ?_
          refine ll_iconst E (pc := 44) dL_cells_44 kc_1 ?_
          refine ll_iconst E (pc := 45) dL_cells_45 kc_2 ?_
          refine ll_iconst E (pc := 46) dL_cells_46 kc_0 ?_
          refine ll_ycallVi E X (pc := 47) (d := 7) (mc1 := 1) (ci := 8) (o9 := 0) [.int (0 : Int32), .int (6 : Int32), .int (0 : Int32), .int (1 : Int32), .int (2 : Int32), .int (0 : Int32)] [] dL_cells_47 cv_L_28 (fun h => cxX8_insert X.1 h) (Nat.le_of_ble_eq_true rfl) sx_0 ci_8 rfl rfl (Nat.le_of_ble_eq_true rfl) ⟨(Nat.le_of_ble_eq_true rfl), (Nat.le_of_ble_eq_true rfl)⟩ (mcd (by omega)) ?_
          intro r180 μ179
          refine ll_iconst E (pc := 50) dL_cells_50 kc_1 ?_
          refine ll_icmp_ne E (pc := 51) (tgt := 193) dL_cells_51 rfl ?_ ?_
          · refine ll_iconst E (pc := 193) dL_cells_193 kc_0 ?_
            exact ll_mzreturn E hr (fun _ _ => wp0) rfl dL_cells_194 (by omega)
          · refine ll_aload_n E (pc := 54) dL_cells_54 rfl ?_
            refine ll_iconst E (pc := 55) dL_cells_55 kc_1 ?_
            refine ll_iconst E (pc := 56) dL_cells_56 kc_5 ?_
            refine ll_iconst E (pc := 57) dL_cells_57 kc_3 ?_
            refine ll_iconst E (pc := 58) dL_cells_58 kc_1 ?_
            refine ll_iconst E (pc := 59) dL_cells_59 kc_0 ?_
            refine ll_iconst E (pc := 60) dL_cells_60 kc_1 ?_
            refine ll_ycallVi E X (pc := 61) (d := 7) (mc1 := 1) (ci := 8) (o9 := 0) [.int (1 : Int32), .int (5 : Int32), .int (3 : Int32), .int (1 : Int32), .int (0 : Int32), .int (1 : Int32)] [] dL_cells_61 cv_L_28 (fun h => cxX8_insert X.1 h) (Nat.le_of_ble_eq_true rfl) sx_0 ci_8 rfl rfl (Nat.le_of_ble_eq_true rfl) ⟨(Nat.le_of_ble_eq_true rfl), (Nat.le_of_ble_eq_true rfl)⟩ (mcd (by omega)) ?_
            intro r182 μ181
            refine ll_iconst E (pc := 64) dL_cells_64 kc_2 ?_
            refine ll_icmp_ne E (pc := 65) (tgt := 193) dL_cells_65 rfl ?_ ?_
            · refine ll_iconst E (pc := 193) dL_cells_193 kc_0 ?_
              exact ll_mzreturn E hr (fun _ _ => wp0) rfl dL_cells_194 (by omega)
            · refine ll_aload_n E (pc := 68) dL_cells_68 rfl ?_
              refine ll_iconst E (pc := 69) dL_cells_69 kc_2 ?_
              refine ll_iconst E (pc := 70) dL_cells_70 kc_5 ?_
              refine ll_iconst E (pc := 71) dL_cells_71 kc_4 ?_
              refine ll_iconst E (pc := 72) dL_cells_72 kc_1 ?_
              refine ll_iconst E (pc := 73) dL_cells_73 kc_0 ?_
              refine ll_bipush E (pc := 74) dL_cells_74 kb_12 ?_
              refine ll_ycallVi E X (pc := 76) (d := 7) (mc1 := 1) (ci := 8) (o9 := 0) [.int (2 : Int32), .int (5 : Int32), .int (4 : Int32), .int (1 : Int32), .int (0 : Int32), .int (12 : Int32)] [] dL_cells_76 cv_L_28 (fun h => cxX8_insert X.1 h) (Nat.le_of_ble_eq_true rfl) sx_0 ci_8 rfl rfl (Nat.le_of_ble_eq_true rfl) ⟨(Nat.le_of_ble_eq_true rfl), (Nat.le_of_ble_eq_true rfl)⟩ (mcd (by omega)) ?_
              intro r184 μ183
              refine ll_iconst E (pc := 79) dL_cells_79 kc_3 ?_
              refine ll_icmp_ne E (pc := 80) (tgt := 193) dL_cells_80 rfl ?_ ?_
              · refine ll_iconst E (pc := 193) dL_cells_193 kc_0 ?_
                exact ll_mzreturn E hr (fun _ _ => wp0) rfl dL_cells_194 (by omega)
              · refine ll_aload_n E (pc := 83) dL_cells_83 rfl ?_
                refine ll_iconst E (pc := 84) dL_cells_84 kc_3 ?_
                refine ll_iconst E (pc := 85) dL_cells_85 kc_5 ?_
                refine ll_iconst E (pc := 86) dL_cells_86 kc_1 ?_
                refine ll_iconst E (pc := 87) dL_cells_87 kc_1 ?_
                refine ll_iconst E (pc := 88) dL_cells_88 kc_0 ?_
                refine ll_iconst E (pc := 89) dL_cells_89 kc_m1 ?_
                refine ll_ycallVi E X (pc := 90) (d := 7) (mc1 := 1) (ci := 8) (o9 := 0) [.int (3 : Int32), .int (5 : Int32), .int (1 : Int32), .int (1 : Int32), .int (0 : Int32), .int (-1 : Int32)] [] dL_cells_90 cv_L_28 (fun h => cxX8_insert X.1 h) (Nat.le_of_ble_eq_true rfl) sx_0 ci_8 rfl rfl (Nat.le_of_ble_eq_true rfl) ⟨(Nat.le_of_ble_eq_true rfl), (Nat.le_of_ble_eq_true rfl)⟩ (mcd (by omega)) ?_
                intro r186 μ185
                refine ll_iconst E (pc := 93) dL_cells_93 kc_4 ?_
                refine ll_icmp_ne E (pc := 94) (tgt := 193) dL_cells_94 rfl ?_ ?_
                · refine ll_iconst E (pc := 193) dL_cells_193 kc_0 ?_
                  exact ll_mzreturn E hr (fun _ _ => wp0) rfl dL_cells_194 (by omega)
                · refine ll_aload_n E (pc := 97) dL_cells_97 rfl ?_
                  refine ll_iconst E (pc := 98) dL_cells_98 kc_4 ?_
                  refine ll_bipush E (pc := 99) dL_cells_99 kb_6 ?_
                  refine ll_iconst E (pc := 101) dL_cells_101 kc_0 ?_
                  refine ll_iconst E (pc := 102) dL_cells_102 kc_1 ?_
                  refine ll_iconst E (pc := 103) dL_cells_103 kc_4 ?_
                  refine ll_iconst E (pc := 104) dL_cells_104 kc_1 ?_
                  refine ll_ycallVi E X (pc := 105) (d := 7) (mc1 := 1) (ci := 8) (o9 := 0) [.int (4 : Int32), .int (6 : Int32), .int (0 : Int32), .int (1 : Int32), .int (4 : Int32), .int (1 : Int32)] [] dL_cells_105 cv_L_28 (fun h => cxX8_insert X.1 h) (Nat.le_of_ble_eq_true rfl) sx_0 ci_8 rfl rfl (Nat.le_of_ble_eq_true rfl) ⟨(Nat.le_of_ble_eq_true rfl), (Nat.le_of_ble_eq_true rfl)⟩ (mcd (by omega)) ?_
                  intro r188 μ187
                  refine ll_iconst E (pc := 108) dL_cells_108 kc_5 ?_
                  refine ll_icmp_ne E (pc := 109) (tgt := 193) dL_cells_109 rfl ?_ ?_
                  · refine ll_iconst E (pc := 193) dL_cells_193 kc_0 ?_
                    exact ll_mzreturn E hr (fun _ _ => wp0) rfl dL_cells_194 (by omega)
                  · exact ll_lo (lo' := [some (.ref (ad 0)), none]) ⟨rfl, trivial⟩ (kL_cells_L112 E X hr μ187 _ (by omega))) hf
def fL_loops_L465  (μ : Mem) : Option (Int32 × Mem) :=
  bz (fX8_remove μ (0 : Int32)) fun r108 μ107 =>
  if r108 = (1 : Int32) then
  bz (fX8_kindOf μ107 (0 : Int32)) fun r110 μ109 =>
  if r110 = (3 : Int32) then
  bz (fX8_registerInRounds μ109 (9 : Int32) (2 : Int32)) fun r112 μ111 =>
  if r112 = 0 then
  bz (fX8_registerInRounds μ111 (0 : Int32) (2 : Int32)) fun r114 μ113 =>
  if r114 = (1 : Int32) then
  some ((1 : Int32), μ113)
  else
  some ((0 : Int32), μ113)
  else
  some ((0 : Int32), μ111)
  else
  some ((0 : Int32), μ109)
  else
  some ((0 : Int32), μ107)
def fL_loops_L383  (μ : Mem) : Option (Int32 × Mem) :=
  bz (fX8_loopBundles μ (4 : Int32)) fun r116 μ115 =>
  if r116 = (11 : Int32) then
  bz (fX8_setLatency μ115 (1 : Int32) (1 : Int32)) fun r118 μ117 =>
  if r118 = (3 : Int32) then
  bd (fX8_beatByCircles μ117) fun r120 μ119 =>
  if r120 = (1 : Int32) then
  bd (fX8_beat μ119) fun r122 μ121 =>
  if r122 = (1 : Int32) then
  bd (fX8_overlap μ121) fun r124 μ123 =>
  if r124 = (2 : Int32) then
  bz (fX8_loopBundleOf μ123 (0 : Int32)) fun r126 μ125 =>
  if r126 = 0 then
  bz (fX8_loopBundleOf μ125 (1 : Int32)) fun r128 μ127 =>
  if r128 = (1 : Int32) then
  bz (fX8_registerInLoop μ127 (4 : Int32) (2 : Int32)) fun r130 μ129 =>
  if r130 = (1944 : Int32) then
  bd (fL_refused μ129) fun r132 μ131 =>
  if r132 = 0 then
  some ((0 : Int32), μ131)
  else
  fL_loops_L465 μ131
  else
  some ((0 : Int32), μ129)
  else
  some ((0 : Int32), μ127)
  else
  some ((0 : Int32), μ125)
  else
  some ((0 : Int32), μ123)
  else
  some ((0 : Int32), μ121)
  else
  some ((0 : Int32), μ119)
  else
  some ((0 : Int32), μ117)
  else
  some ((0 : Int32), μ115)
def fL_loops_L255  (μ : Mem) : Option (Int32 × Mem) :=
  bz (fX8_setSlots μ (0 : Int32) (2 : Int32)) fun r134 μ133 =>
  if r134 = (1 : Int32) then
  bz (fX8_setDelay μ133 (0 : Int32)) fun r136 μ135 =>
  if r136 = (3 : Int32) then
  bz (fX8_insert μ135 (1 : Int32) (3 : Int32) (2 : Int32) (2 : Int32) (0 : Int32) (0 : Int32)) fun r138 μ137 =>
  if r138 = (2 : Int32) then
  bz (fX8_setRegister μ137 (2 : Int32) (1 : Int32)) fun r140 μ139 =>
  if r140 = 0 then
  bz (fX8_carried μ139 (1 : Int32) (1 : Int32)) fun r142 μ141 =>
  if r142 = (3 : Int32) then
  bz (fX8_separation μ141 (0 : Int32) (1 : Int32)) fun r144 μ143 =>
  if r144 = (1 : Int32) then
  bz (fX8_carried μ143 (1 : Int32) (0 : Int32)) fun r146 μ145 =>
  if r146 = 0 then
  bd (fX8_beatByCircles μ145) fun r148 μ147 =>
  if r148 = (3 : Int32) then
  bd (fX8_beatByRounds μ147) fun r150 μ149 =>
  if r150 = (3 : Int32) then
  bd (fX8_beat μ149) fun r152 μ151 =>
  if r152 = (3 : Int32) then
  bz (fX8_loopBundleOf μ151 (1 : Int32)) fun r154 μ153 =>
  if r154 = (1 : Int32) then
  bz (fX8_registerInRounds μ153 (4 : Int32) (2 : Int32)) fun r156 μ155 =>
  if r156 = (1944 : Int32) then
  bz (fX8_registerInLoop μ155 (4 : Int32) (2 : Int32)) fun r158 μ157 =>
  if r158 = (1944 : Int32) then
  fL_loops_L383 μ157
  else
  some ((0 : Int32), μ157)
  else
  some ((0 : Int32), μ155)
  else
  some ((0 : Int32), μ153)
  else
  some ((0 : Int32), μ151)
  else
  some ((0 : Int32), μ149)
  else
  some ((0 : Int32), μ147)
  else
  some ((0 : Int32), μ145)
  else
  some ((0 : Int32), μ143)
  else
  some ((0 : Int32), μ141)
  else
  some ((0 : Int32), μ139)
  else
  some ((0 : Int32), μ137)
  else
  some ((0 : Int32), μ135)
  else
  some ((0 : Int32), μ133)
def fL_loops_L179  (μ : Mem) : Option (Int32 × Mem) :=
  bz (fX8_setSlots μ (0 : Int32) (1 : Int32)) fun r160 μ159 =>
  if r160 = (2 : Int32) then
  bd (fX8_beatByUnits μ159) fun r162 μ161 =>
  if r162 = (2 : Int32) then
  bd (fX8_beat μ161) fun r164 μ163 =>
  if r164 = (2 : Int32) then
  bd (fX8_jumpBundle μ163) fun r166 μ165 =>
  if r166 = (1 : Int32) then
  bz (fX8_loopBundleOf μ165 (0 : Int32)) fun r168 μ167 =>
  if r168 = 0 then
  bz (fX8_setDelay μ167 (3 : Int32)) fun r170 μ169 =>
  if r170 = 0 then
  bd (fX8_beat μ169) fun r172 μ171 =>
  if r172 = (4 : Int32) then
  bd (fX8_jumpBundle μ171) fun r174 μ173 =>
  if r174 = 0 then
  bz (fX8_loopBundleOf μ173 (0 : Int32)) fun r176 μ175 =>
  if r176 = (1 : Int32) then
  fL_loops_L255 μ175
  else
  some ((0 : Int32), μ175)
  else
  some ((0 : Int32), μ173)
  else
  some ((0 : Int32), μ171)
  else
  some ((0 : Int32), μ169)
  else
  some ((0 : Int32), μ167)
  else
  some ((0 : Int32), μ165)
  else
  some ((0 : Int32), μ163)
  else
  some ((0 : Int32), μ161)
  else
  some ((0 : Int32), μ159)
def fL_loops_L115  (μ : Mem) : Option (Int32 × Mem) :=
  bz (fX8_setDelay μ (0 : Int32)) fun r178 μ177 =>
  if r178 = (1 : Int32) then
  bd (fX8_beat μ177) fun r180 μ179 =>
  if r180 = (1 : Int32) then
  bd (fX8_jumpBundle μ179) fun r182 μ181 =>
  if r182 = 0 then
  bd (fX8_overlap μ181) fun r184 μ183 =>
  if r184 = (1 : Int32) then
  bz (fX8_loopBundles μ183 (5 : Int32)) fun r186 μ185 =>
  if r186 = (5 : Int32) then
  bz (fX8_registerInLoop μ185 (5 : Int32) (0 : Int32)) fun r188 μ187 =>
  if r188 = (15 : Int32) then
  bz (fX8_registerInLoop μ187 (20 : Int32) (0 : Int32)) fun r190 μ189 =>
  if r190 = (60 : Int32) then
  fL_loops_L179 μ189
  else
  some ((0 : Int32), μ189)
  else
  some ((0 : Int32), μ187)
  else
  some ((0 : Int32), μ185)
  else
  some ((0 : Int32), μ183)
  else
  some ((0 : Int32), μ181)
  else
  some ((0 : Int32), μ179)
  else
  some ((0 : Int32), μ177)
def fL_loops (μ : Mem) : Option (Int32 × Mem) :=
  bz (fX8_setRegister μ0X (1 : Int32) (3 : Int32)) fun r192 μ191 =>
  if r192 = 0 then
  bz (fX8_insert μ191 (0 : Int32) (1 : Int32) (0 : Int32) (0 : Int32) (1 : Int32) (0 : Int32)) fun r194 μ193 =>
  if r194 = (1 : Int32) then
  bz (fX8_carried μ193 (0 : Int32) (0 : Int32)) fun r196 μ195 =>
  if r196 = (1 : Int32) then
  bz (fX8_separation μ195 (0 : Int32) (0 : Int32)) fun r198 μ197 =>
  if r198 = (-99 : Int32) then
  bd (fX8_beatByUnits μ197) fun r200 μ199 =>
  if r200 = (1 : Int32) then
  bd (fX8_beatByCircles μ199) fun r202 μ201 =>
  if r202 = (1 : Int32) then
  bd (fX8_beat μ201) fun r204 μ203 =>
  if r204 = (2 : Int32) then
  bd (fX8_jumpBundle μ203) fun r206 μ205 =>
  if r206 = 0 then
  bz (fX8_loopBundles μ205 (5 : Int32)) fun r208 μ207 =>
  if r208 = (9 : Int32) then
  bz (fX8_registerInLoop μ207 (5 : Int32) (0 : Int32)) fun r210 μ209 =>
  if r210 = (15 : Int32) then
  bz (fX8_registerInRounds μ209 (5 : Int32) (0 : Int32)) fun r212 μ211 =>
  if r212 = (15 : Int32) then
  fL_loops_L115 μ211
  else
  some ((0 : Int32), μ211)
  else
  some ((0 : Int32), μ209)
  else
  some ((0 : Int32), μ207)
  else
  some ((0 : Int32), μ205)
  else
  some ((0 : Int32), μ203)
  else
  some ((0 : Int32), μ201)
  else
  some ((0 : Int32), μ199)
  else
  some ((0 : Int32), μ197)
  else
  some ((0 : Int32), μ195)
  else
  some ((0 : Int32), μ193)
  else
  some ((0 : Int32), μ191)
set_option maxRecDepth 20000 in
theorem kL_loops_L465 {p : Program} {l : Launch} {e : Env} {s : State} {m : MethodId} {args : Array Value} {below : List Frame} {meth : Method} {c : Code} {D : va_G} {cI cR : ClassId} {ad : Nat → Nat} {A0 : Nat → Prop} (E : EV p s m args meth c cL_loops 1 RL D cI cR ad shX NX A0) (X : EM9 l s A0) (hr : meth.sig.returnType = (some .boolean))  (μ : Mem) (cl : Nat) (hc0 : cl + (6) ≤ 1581) : LL p l e (RX 13 1581) s m args below meth c 1 D cI cR ad shX NX A0 (fun (r : Int32) μ' => KM below args s D cI cR (fun _ => 0) shX 0 A0 1581 (some (.int r)) μ') (fL_loops_L465 μ) cl (6 * cl) 465 [some (.ref (ad 0))] [] μ := by
  rw [fL_loops_L465]
  refine ll_aload_n E (pc := 465) dL_loops_465 rfl ?_
  refine ll_iconst E (pc := 466) dL_loops_466 kc_0 ?_
  refine ll_ycallVi E X (pc := 467) (d := 8) (mc1 := 1) (ci := 8) (o9 := 0) [.int (0 : Int32)] [] dL_loops_467 cv_L_34 (fun h => cxX8_remove X.1 h) (Nat.le_of_ble_eq_true rfl) sx_0 ci_8 rfl rfl (Nat.le_of_ble_eq_true rfl) ⟨(Nat.le_of_ble_eq_true rfl), (Nat.le_of_ble_eq_true rfl)⟩ (mcd (by omega)) ?_
  intro r108 μ107
  refine ll_iconst E (pc := 470) dL_loops_470 kc_1 ?_
  refine ll_icmp_ne E (pc := 471) (tgt := 507) dL_loops_471 rfl ?_ ?_
  · refine ll_iconst E (pc := 507) dL_loops_507 kc_0 ?_
    exact ll_mzreturn E hr (fun _ _ => wp0) rfl dL_loops_508 (by omega)
  · refine ll_aload_n E (pc := 474) dL_loops_474 rfl ?_
    refine ll_iconst E (pc := 475) dL_loops_475 kc_0 ?_
    refine ll_ycallVi E X (pc := 476) (d := 8) (mc1 := 1) (ci := 8) (o9 := 0) [.int (0 : Int32)] [] dL_loops_476 cv_L_70 (fun h => cxX8_kindOf X.1 h) (Nat.le_of_ble_eq_true rfl) sx_0 ci_8 rfl rfl (Nat.le_of_ble_eq_true rfl) ⟨(Nat.le_of_ble_eq_true rfl), (Nat.le_of_ble_eq_true rfl)⟩ (mcd (by omega)) ?_
    intro r110 μ109
    refine ll_iconst E (pc := 479) dL_loops_479 kc_3 ?_
    refine ll_icmp_ne E (pc := 480) (tgt := 507) dL_loops_480 rfl ?_ ?_
    · refine ll_iconst E (pc := 507) dL_loops_507 kc_0 ?_
      exact ll_mzreturn E hr (fun _ _ => wp0) rfl dL_loops_508 (by omega)
    · refine ll_aload_n E (pc := 483) dL_loops_483 rfl ?_
      refine ll_bipush E (pc := 484) dL_loops_484 kb_9 ?_
      refine ll_iconst E (pc := 486) dL_loops_486 kc_2 ?_
      refine ll_ycallVi E X (pc := 487) (d := 8) (mc1 := 2) (ci := 8) (o9 := 0) [.int (9 : Int32), .int (2 : Int32)] [] dL_loops_487 cv_L_118 (fun h => cxX8_registerInRounds X.1 h) (Nat.le_of_ble_eq_true rfl) sx_0 ci_8 rfl rfl (Nat.le_of_ble_eq_true rfl) ⟨(Nat.le_of_ble_eq_true rfl), (Nat.le_of_ble_eq_true rfl)⟩ (mcd (by omega)) ?_
      intro r112 μ111
      refine ll_if_ne E (pc := 490) (tgt := 507) dL_loops_490 rfl ?_ ?_
      · refine ll_iconst E (pc := 507) dL_loops_507 kc_0 ?_
        exact ll_mzreturn E hr (fun _ _ => wp0) rfl dL_loops_508 (by omega)
      · refine ll_aload_n E (pc := 493) dL_loops_493 rfl ?_
        refine ll_iconst E (pc := 494) dL_loops_494 kc_0 ?_
        refine ll_iconst E (pc := 495) dL_loops_495 kc_2 ?_
        refine ll_ycallVi E X (pc := 496) (d := 8) (mc1 := 2) (ci := 8) (o9 := 0) [.int (0 : Int32), .int (2 : Int32)] [] dL_loops_496 cv_L_118 (fun h => cxX8_registerInRounds X.1 h) (Nat.le_of_ble_eq_true rfl) sx_0 ci_8 rfl rfl (Nat.le_of_ble_eq_true rfl) ⟨(Nat.le_of_ble_eq_true rfl), (Nat.le_of_ble_eq_true rfl)⟩ (mcd (by omega)) ?_
        intro r114 μ113
        refine ll_iconst E (pc := 499) dL_loops_499 kc_1 ?_
        refine ll_icmp_ne E (pc := 500) (tgt := 507) dL_loops_500 rfl ?_ ?_
        · refine ll_iconst E (pc := 507) dL_loops_507 kc_0 ?_
          exact ll_mzreturn E hr (fun _ _ => wp0) rfl dL_loops_508 (by omega)
        · refine ll_iconst E (pc := 503) dL_loops_503 kc_1 ?_
          refine ll_goto E (pc := 504) (tgt := 508) dL_loops_504 rfl ?_
          exact ll_mzreturn E hr (fun _ _ => wp0) rfl dL_loops_508 (by omega)
set_option maxRecDepth 20000 in
theorem kL_loops_L383 {p : Program} {l : Launch} {e : Env} {s : State} {m : MethodId} {args : Array Value} {below : List Frame} {meth : Method} {c : Code} {D : va_G} {cI cR : ClassId} {ad : Nat → Nat} {A0 : Nat → Prop} (E : EV p s m args meth c cL_loops 1 RL D cI cR ad shX NX A0) (X : EM9 l s A0) (hr : meth.sig.returnType = (some .boolean))  (μ : Mem) (cl : Nat) (hc0 : cl + (783) ≤ 1581) : LL p l e (RX 13 1581) s m args below meth c 1 D cI cR ad shX NX A0 (fun (r : Int32) μ' => KM below args s D cI cR (fun _ => 0) shX 0 A0 1581 (some (.int r)) μ') (fL_loops_L383 μ) cl (6 * cl) 383 [some (.ref (ad 0))] [] μ := by
  rw [fL_loops_L383]
  refine ll_aload_n E (pc := 383) dL_loops_383 rfl ?_
  refine ll_iconst E (pc := 384) dL_loops_384 kc_4 ?_
  refine ll_ycallVi E X (pc := 385) (d := 8) (mc1 := 1) (ci := 8) (o9 := 0) [.int (4 : Int32)] [] dL_loops_385 cv_L_127 (fun h => cxX8_loopBundles X.1 h) (Nat.le_of_ble_eq_true rfl) sx_0 ci_8 rfl rfl (Nat.le_of_ble_eq_true rfl) ⟨(Nat.le_of_ble_eq_true rfl), (Nat.le_of_ble_eq_true rfl)⟩ (mcd (by omega)) ?_
  intro r116 μ115
  refine ll_bipush E (pc := 388) dL_loops_388 kb_11 ?_
  refine ll_icmp_ne E (pc := 390) (tgt := 463) dL_loops_390 rfl ?_ ?_
  · refine ll_iconst E (pc := 463) dL_loops_463 kc_0 ?_
    exact ll_mzreturn E hr (fun _ _ => wp0) rfl dL_loops_464 (by omega)
  · refine ll_aload_n E (pc := 393) dL_loops_393 rfl ?_
    refine ll_iconst E (pc := 394) dL_loops_394 kc_1 ?_
    refine ll_iconst E (pc := 395) dL_loops_395 kc_1 ?_
    refine ll_ycallVi E X (pc := 396) (d := 8) (mc1 := 2) (ci := 8) (o9 := 0) [.int (1 : Int32), .int (1 : Int32)] [] dL_loops_396 cv_L_45 (fun h => cxX8_setLatency X.1 h) (Nat.le_of_ble_eq_true rfl) sx_0 ci_8 rfl rfl (Nat.le_of_ble_eq_true rfl) ⟨(Nat.le_of_ble_eq_true rfl), (Nat.le_of_ble_eq_true rfl)⟩ (mcd (by omega)) ?_
    intro r118 μ117
    refine ll_iconst E (pc := 399) dL_loops_399 kc_3 ?_
    refine ll_icmp_ne E (pc := 400) (tgt := 463) dL_loops_400 rfl ?_ ?_
    · refine ll_iconst E (pc := 463) dL_loops_463 kc_0 ?_
      exact ll_mzreturn E hr (fun _ _ => wp0) rfl dL_loops_464 (by omega)
    · refine ll_aload_n E (pc := 403) dL_loops_403 rfl ?_
      refine ll_callVi E (pc := 404) (d := 6) (ci := 8) (o9 := 0) [] [] dL_loops_404 cv_L_191 (fun h => ctX8_beatByCircles h) (Nat.le_of_ble_eq_true rfl) sx_0 ci_8 rfl rfl (Nat.le_of_ble_eq_true rfl) ⟨(Nat.le_of_ble_eq_true rfl), (Nat.le_of_ble_eq_true rfl)⟩ (mcc (by omega)) ?_
      intro r120 μ119
      refine ll_iconst E (pc := 407) dL_loops_407 kc_1 ?_
      refine ll_icmp_ne E (pc := 408) (tgt := 463) dL_loops_408 rfl ?_ ?_
      · refine ll_iconst E (pc := 463) dL_loops_463 kc_0 ?_
        exact ll_mzreturn E hr (fun _ _ => wp0) rfl dL_loops_464 (by omega)
      · refine ll_aload_n E (pc := 411) dL_loops_411 rfl ?_
        refine ll_callVi E (pc := 412) (d := 6) (ci := 8) (o9 := 0) [] [] dL_loops_412 cv_L_194 (fun h => ctX8_beat h) (Nat.le_of_ble_eq_true rfl) sx_0 ci_8 rfl rfl (Nat.le_of_ble_eq_true rfl) ⟨(Nat.le_of_ble_eq_true rfl), (Nat.le_of_ble_eq_true rfl)⟩ (mcc (by omega)) ?_
        intro r122 μ121
        refine ll_iconst E (pc := 415) dL_loops_415 kc_1 ?_
        refine ll_icmp_ne E (pc := 416) (tgt := 463) dL_loops_416 rfl ?_ ?_
        · refine ll_iconst E (pc := 463) dL_loops_463 kc_0 ?_
          exact ll_mzreturn E hr (fun _ _ => wp0) rfl dL_loops_464 (by omega)
        · refine ll_aload_n E (pc := 419) dL_loops_419 rfl ?_
          refine ll_callVi E (pc := 420) (d := 6) (ci := 8) (o9 := 0) [] [] dL_loops_420 cv_L_197 (fun h => ctX8_overlap h) (Nat.le_of_ble_eq_true rfl) sx_0 ci_8 rfl rfl (Nat.le_of_ble_eq_true rfl) ⟨(Nat.le_of_ble_eq_true rfl), (Nat.le_of_ble_eq_true rfl)⟩ (mcc (by omega)) ?_
          intro r124 μ123
          refine ll_iconst E (pc := 423) dL_loops_423 kc_2 ?_
          refine ll_icmp_ne E (pc := 424) (tgt := 463) dL_loops_424 rfl ?_ ?_
          · refine ll_iconst E (pc := 463) dL_loops_463 kc_0 ?_
            exact ll_mzreturn E hr (fun _ _ => wp0) rfl dL_loops_464 (by omega)
          · refine ll_aload_n E (pc := 427) dL_loops_427 rfl ?_
            refine ll_iconst E (pc := 428) dL_loops_428 kc_0 ?_
            refine ll_ycallVi E X (pc := 429) (d := 8) (mc1 := 1) (ci := 8) (o9 := 0) [.int (0 : Int32)] [] dL_loops_429 cv_L_91 (fun h => cxX8_loopBundleOf X.1 h) (Nat.le_of_ble_eq_true rfl) sx_0 ci_8 rfl rfl (Nat.le_of_ble_eq_true rfl) ⟨(Nat.le_of_ble_eq_true rfl), (Nat.le_of_ble_eq_true rfl)⟩ (mcd (by omega)) ?_
            intro r126 μ125
            refine ll_if_ne E (pc := 432) (tgt := 463) dL_loops_432 rfl ?_ ?_
            · refine ll_iconst E (pc := 463) dL_loops_463 kc_0 ?_
              exact ll_mzreturn E hr (fun _ _ => wp0) rfl dL_loops_464 (by omega)
            · refine ll_aload_n E (pc := 435) dL_loops_435 rfl ?_
              refine ll_iconst E (pc := 436) dL_loops_436 kc_1 ?_
              refine ll_ycallVi E X (pc := 437) (d := 8) (mc1 := 1) (ci := 8) (o9 := 0) [.int (1 : Int32)] [] dL_loops_437 cv_L_91 (fun h => cxX8_loopBundleOf X.1 h) (Nat.le_of_ble_eq_true rfl) sx_0 ci_8 rfl rfl (Nat.le_of_ble_eq_true rfl) ⟨(Nat.le_of_ble_eq_true rfl), (Nat.le_of_ble_eq_true rfl)⟩ (mcd (by omega)) ?_
              intro r128 μ127
              refine ll_iconst E (pc := 440) dL_loops_440 kc_1 ?_
              refine ll_icmp_ne E (pc := 441) (tgt := 463) dL_loops_441 rfl ?_ ?_
              · refine ll_iconst E (pc := 463) dL_loops_463 kc_0 ?_
                exact ll_mzreturn E hr (fun _ _ => wp0) rfl dL_loops_464 (by omega)
              · refine ll_aload_n E (pc := 444) dL_loops_444 rfl ?_
                refine ll_iconst E (pc := 445) dL_loops_445 kc_4 ?_
                refine ll_iconst E (pc := 446) dL_loops_446 kc_2 ?_
                refine ll_ycallVi E X (pc := 447) (d := 8) (mc1 := 2) (ci := 8) (o9 := 0) [.int (4 : Int32), .int (2 : Int32)] [] dL_loops_447 cv_L_115 (fun h => cxX8_registerInLoop X.1 h) (Nat.le_of_ble_eq_true rfl) sx_0 ci_8 rfl rfl (Nat.le_of_ble_eq_true rfl) ⟨(Nat.le_of_ble_eq_true rfl), (Nat.le_of_ble_eq_true rfl)⟩ (mcd (by omega)) ?_
                intro r130 μ129
                refine ll_sipush E (pc := 450) dL_loops_450 ks_1944 ?_
                refine ll_icmp_ne E (pc := 453) (tgt := 463) dL_loops_453 rfl ?_ ?_
                · refine ll_iconst E (pc := 463) dL_loops_463 kc_0 ?_
                  exact ll_mzreturn E hr (fun _ _ => wp0) rfl dL_loops_464 (by omega)
                · refine ll_aload_n E (pc := 456) dL_loops_456 rfl ?_
                  refine ll_mcallSi E X (pc := 457) (d := 12) [.ref (ad 0)] [] dL_loops_457 cv_L_203 (fun h => cmL_refused X.1 h) rfl rfl (Nat.le_of_ble_eq_true rfl) ⟨(Nat.le_of_ble_eq_true rfl), (Nat.le_of_ble_eq_true rfl)⟩ (mcd (by omega)) ?_
                  intro r132 μ131
                  refine ll_if_ne E (pc := 460) (tgt := 465) dL_loops_460 rfl ?_ ?_
                  · exact ll_lo (lo' := [some (.ref (ad 0))]) ⟨rfl, trivial⟩ (kL_loops_L465 E X hr μ131 _ (by omega))
                  · refine ll_iconst E (pc := 463) dL_loops_463 kc_0 ?_
                    exact ll_mzreturn E hr (fun _ _ => wp0) rfl dL_loops_464 (by omega)
set_option maxRecDepth 20000 in
theorem kL_loops_L255 {p : Program} {l : Launch} {e : Env} {s : State} {m : MethodId} {args : Array Value} {below : List Frame} {meth : Method} {c : Code} {D : va_G} {cI cR : ClassId} {ad : Nat → Nat} {A0 : Nat → Prop} (E : EV p s m args meth c cL_loops 1 RL D cI cR ad shX NX A0) (X : EM9 l s A0) (hr : meth.sig.returnType = (some .boolean))  (μ : Mem) (cl : Nat) (hc0 : cl + (799) ≤ 1581) : LL p l e (RX 13 1581) s m args below meth c 1 D cI cR ad shX NX A0 (fun (r : Int32) μ' => KM below args s D cI cR (fun _ => 0) shX 0 A0 1581 (some (.int r)) μ') (fL_loops_L255 μ) cl (6 * cl) 255 [some (.ref (ad 0))] [] μ := by
  rw [fL_loops_L255]
  refine ll_aload_n E (pc := 255) dL_loops_255 rfl ?_
  refine ll_iconst E (pc := 256) dL_loops_256 kc_0 ?_
  refine ll_iconst E (pc := 257) dL_loops_257 kc_2 ?_
  refine ll_ycallVi E X (pc := 258) (d := 8) (mc1 := 2) (ci := 8) (o9 := 0) [.int (0 : Int32), .int (2 : Int32)] [] dL_loops_258 cv_L_42 (fun h => cxX8_setSlots X.1 h) (Nat.le_of_ble_eq_true rfl) sx_0 ci_8 rfl rfl (Nat.le_of_ble_eq_true rfl) ⟨(Nat.le_of_ble_eq_true rfl), (Nat.le_of_ble_eq_true rfl)⟩ (mcd (by omega)) ?_
  intro r134 μ133
  refine ll_iconst E (pc := 261) dL_loops_261 kc_1 ?_
  refine ll_icmp_ne E (pc := 262) (tgt := 463) dL_loops_262 rfl ?_ ?_
  · refine ll_iconst E (pc := 463) dL_loops_463 kc_0 ?_
    exact ll_mzreturn E hr (fun _ _ => wp0) rfl dL_loops_464 (by omega)
  · refine ll_aload_n E (pc := 265) dL_loops_265 rfl ?_
    refine ll_iconst E (pc := 266) dL_loops_266 kc_0 ?_
    refine ll_ycallVi E X (pc := 267) (d := 7) (mc1 := 1) (ci := 8) (o9 := 0) [.int (0 : Int32)] [] dL_loops_267 cv_L_48 (fun h => cxX8_setDelay X.1 h) (Nat.le_of_ble_eq_true rfl) sx_0 ci_8 rfl rfl (Nat.le_of_ble_eq_true rfl) ⟨(Nat.le_of_ble_eq_true rfl), (Nat.le_of_ble_eq_true rfl)⟩ (mcd (by omega)) ?_
    intro r136 μ135
    refine ll_iconst E (pc := 270) dL_loops_270 kc_3 ?_
    refine ll_icmp_ne E (pc := 271) (tgt := 463) dL_loops_271 rfl ?_ ?_
    · refine ll_iconst E (pc := 463) dL_loops_463 kc_0 ?_
      exact ll_mzreturn E hr (fun _ _ => wp0) rfl dL_loops_464 (by omega)
    · refine ll_aload_n E (pc := 274) dL_loops_274 rfl ?_
      refine ll_iconst E (pc := 275) dL_loops_275 kc_1 ?_
      refine ll_iconst E (pc := 276) dL_loops_276 kc_3 ?_
      refine ll_iconst E (pc := 277) dL_loops_277 kc_2 ?_
      refine ll_iconst E (pc := 278) dL_loops_278 kc_2 ?_
      refine ll_iconst E (pc := 279) dL_loops_279 kc_0 ?_
      refine ll_iconst E (pc := 280) dL_loops_280 kc_0 ?_
      refine ll_ycallVi E X (pc := 281) (d := 7) (mc1 := 1) (ci := 8) (o9 := 0) [.int (1 : Int32), .int (3 : Int32), .int (2 : Int32), .int (2 : Int32), .int (0 : Int32), .int (0 : Int32)] [] dL_loops_281 cv_L_28 (fun h => cxX8_insert X.1 h) (Nat.le_of_ble_eq_true rfl) sx_0 ci_8 rfl rfl (Nat.le_of_ble_eq_true rfl) ⟨(Nat.le_of_ble_eq_true rfl), (Nat.le_of_ble_eq_true rfl)⟩ (mcd (by omega)) ?_
      intro r138 μ137
      refine ll_iconst E (pc := 284) dL_loops_284 kc_2 ?_
      refine ll_icmp_ne E (pc := 285) (tgt := 463) dL_loops_285 rfl ?_ ?_
      · refine ll_iconst E (pc := 463) dL_loops_463 kc_0 ?_
        exact ll_mzreturn E hr (fun _ _ => wp0) rfl dL_loops_464 (by omega)
      · refine ll_aload_n E (pc := 288) dL_loops_288 rfl ?_
        refine ll_iconst E (pc := 289) dL_loops_289 kc_2 ?_
        refine ll_iconst E (pc := 290) dL_loops_290 kc_1 ?_
        refine ll_ycallVi E X (pc := 291) (d := 8) (mc1 := 1) (ci := 8) (o9 := 0) [.int (2 : Int32), .int (1 : Int32)] [] dL_loops_291 cv_L_130 (fun h => cxX8_setRegister X.1 h) (Nat.le_of_ble_eq_true rfl) sx_0 ci_8 rfl rfl (Nat.le_of_ble_eq_true rfl) ⟨(Nat.le_of_ble_eq_true rfl), (Nat.le_of_ble_eq_true rfl)⟩ (mcd (by omega)) ?_
        intro r140 μ139
        refine ll_if_ne E (pc := 294) (tgt := 463) dL_loops_294 rfl ?_ ?_
        · refine ll_iconst E (pc := 463) dL_loops_463 kc_0 ?_
          exact ll_mzreturn E hr (fun _ _ => wp0) rfl dL_loops_464 (by omega)
        · refine ll_aload_n E (pc := 297) dL_loops_297 rfl ?_
          refine ll_iconst E (pc := 298) dL_loops_298 kc_1 ?_
          refine ll_iconst E (pc := 299) dL_loops_299 kc_1 ?_
          refine ll_ycallVi E X (pc := 300) (d := 8) (mc1 := 2) (ci := 8) (o9 := 0) [.int (1 : Int32), .int (1 : Int32)] [] dL_loops_300 cv_L_97 (fun h => cxX8_carried X.1 h) (Nat.le_of_ble_eq_true rfl) sx_0 ci_8 rfl rfl (Nat.le_of_ble_eq_true rfl) ⟨(Nat.le_of_ble_eq_true rfl), (Nat.le_of_ble_eq_true rfl)⟩ (mcd (by omega)) ?_
          intro r142 μ141
          refine ll_iconst E (pc := 303) dL_loops_303 kc_3 ?_
          refine ll_icmp_ne E (pc := 304) (tgt := 463) dL_loops_304 rfl ?_ ?_
          · refine ll_iconst E (pc := 463) dL_loops_463 kc_0 ?_
            exact ll_mzreturn E hr (fun _ _ => wp0) rfl dL_loops_464 (by omega)
          · refine ll_aload_n E (pc := 307) dL_loops_307 rfl ?_
            refine ll_iconst E (pc := 308) dL_loops_308 kc_0 ?_
            refine ll_iconst E (pc := 309) dL_loops_309 kc_1 ?_
            refine ll_ycallVi E X (pc := 310) (d := 8) (mc1 := 2) (ci := 8) (o9 := 0) [.int (0 : Int32), .int (1 : Int32)] [] dL_loops_310 cv_L_94 (fun h => cxX8_separation X.1 h) (Nat.le_of_ble_eq_true rfl) sx_0 ci_8 rfl rfl (Nat.le_of_ble_eq_true rfl) ⟨(Nat.le_of_ble_eq_true rfl), (Nat.le_of_ble_eq_true rfl)⟩ (mcd (by omega)) ?_
            intro r144 μ143
            refine ll_iconst E (pc := 313) dL_loops_313 kc_1 ?_
            refine ll_icmp_ne E (pc := 314) (tgt := 463) dL_loops_314 rfl ?_ ?_
            · refine ll_iconst E (pc := 463) dL_loops_463 kc_0 ?_
              exact ll_mzreturn E hr (fun _ _ => wp0) rfl dL_loops_464 (by omega)
            · refine ll_aload_n E (pc := 317) dL_loops_317 rfl ?_
              refine ll_iconst E (pc := 318) dL_loops_318 kc_1 ?_
              refine ll_iconst E (pc := 319) dL_loops_319 kc_0 ?_
              refine ll_ycallVi E X (pc := 320) (d := 8) (mc1 := 2) (ci := 8) (o9 := 0) [.int (1 : Int32), .int (0 : Int32)] [] dL_loops_320 cv_L_97 (fun h => cxX8_carried X.1 h) (Nat.le_of_ble_eq_true rfl) sx_0 ci_8 rfl rfl (Nat.le_of_ble_eq_true rfl) ⟨(Nat.le_of_ble_eq_true rfl), (Nat.le_of_ble_eq_true rfl)⟩ (mcd (by omega)) ?_
              intro r146 μ145
              refine ll_if_ne E (pc := 323) (tgt := 463) dL_loops_323 rfl ?_ ?_
              · refine ll_iconst E (pc := 463) dL_loops_463 kc_0 ?_
                exact ll_mzreturn E hr (fun _ _ => wp0) rfl dL_loops_464 (by omega)
              · refine ll_aload_n E (pc := 326) dL_loops_326 rfl ?_
                refine ll_callVi E (pc := 327) (d := 6) (ci := 8) (o9 := 0) [] [] dL_loops_327 cv_L_191 (fun h => ctX8_beatByCircles h) (Nat.le_of_ble_eq_true rfl) sx_0 ci_8 rfl rfl (Nat.le_of_ble_eq_true rfl) ⟨(Nat.le_of_ble_eq_true rfl), (Nat.le_of_ble_eq_true rfl)⟩ (mcc (by omega)) ?_
                intro r148 μ147
                refine ll_iconst E (pc := 330) dL_loops_330 kc_3 ?_
                refine ll_icmp_ne E (pc := 331) (tgt := 463) dL_loops_331 rfl ?_ ?_
                · refine ll_iconst E (pc := 463) dL_loops_463 kc_0 ?_
                  exact ll_mzreturn E hr (fun _ _ => wp0) rfl dL_loops_464 (by omega)
                · refine ll_aload_n E (pc := 334) dL_loops_334 rfl ?_
                  refine ll_callVi E (pc := 335) (d := 5) (ci := 8) (o9 := 0) [] [] dL_loops_335 cv_L_234 (fun h => ctX8_beatByRounds h) (Nat.le_of_ble_eq_true rfl) sx_0 ci_8 rfl rfl (Nat.le_of_ble_eq_true rfl) ⟨(Nat.le_of_ble_eq_true rfl), (Nat.le_of_ble_eq_true rfl)⟩ (mcc (by omega)) ?_
                  intro r150 μ149
                  refine ll_iconst E (pc := 338) dL_loops_338 kc_3 ?_
                  refine ll_icmp_ne E (pc := 339) (tgt := 463) dL_loops_339 rfl ?_ ?_
                  · refine ll_iconst E (pc := 463) dL_loops_463 kc_0 ?_
                    exact ll_mzreturn E hr (fun _ _ => wp0) rfl dL_loops_464 (by omega)
                  · refine ll_aload_n E (pc := 342) dL_loops_342 rfl ?_
                    refine ll_callVi E (pc := 343) (d := 6) (ci := 8) (o9 := 0) [] [] dL_loops_343 cv_L_194 (fun h => ctX8_beat h) (Nat.le_of_ble_eq_true rfl) sx_0 ci_8 rfl rfl (Nat.le_of_ble_eq_true rfl) ⟨(Nat.le_of_ble_eq_true rfl), (Nat.le_of_ble_eq_true rfl)⟩ (mcc (by omega)) ?_
                    intro r152 μ151
                    refine ll_iconst E (pc := 346) dL_loops_346 kc_3 ?_
                    refine ll_icmp_ne E (pc := 347) (tgt := 463) dL_loops_347 rfl ?_ ?_
                    · refine ll_iconst E (pc := 463) dL_loops_463 kc_0 ?_
                      exact ll_mzreturn E hr (fun _ _ => wp0) rfl dL_loops_464 (by omega)
                    · refine ll_aload_n E (pc := 350) dL_loops_350 rfl ?_
                      refine ll_iconst E (pc := 351) dL_loops_351 kc_1 ?_
                      refine ll_ycallVi E X (pc := 352) (d := 8) (mc1 := 1) (ci := 8) (o9 := 0) [.int (1 : Int32)] [] dL_loops_352 cv_L_91 (fun h => cxX8_loopBundleOf X.1 h) (Nat.le_of_ble_eq_true rfl) sx_0 ci_8 rfl rfl (Nat.le_of_ble_eq_true rfl) ⟨(Nat.le_of_ble_eq_true rfl), (Nat.le_of_ble_eq_true rfl)⟩ (mcd (by omega)) ?_
                      intro r154 μ153
                      refine ll_iconst E (pc := 355) dL_loops_355 kc_1 ?_
                      refine ll_icmp_ne E (pc := 356) (tgt := 463) dL_loops_356 rfl ?_ ?_
                      · refine ll_iconst E (pc := 463) dL_loops_463 kc_0 ?_
                        exact ll_mzreturn E hr (fun _ _ => wp0) rfl dL_loops_464 (by omega)
                      · refine ll_aload_n E (pc := 359) dL_loops_359 rfl ?_
                        refine ll_iconst E (pc := 360) dL_loops_360 kc_4 ?_
                        refine ll_iconst E (pc := 361) dL_loops_361 kc_2 ?_
                        refine ll_ycallVi E X (pc := 362) (d := 8) (mc1 := 2) (ci := 8) (o9 := 0) [.int (4 : Int32), .int (2 : Int32)] [] dL_loops_362 cv_L_118 (fun h => cxX8_registerInRounds X.1 h) (Nat.le_of_ble_eq_true rfl) sx_0 ci_8 rfl rfl (Nat.le_of_ble_eq_true rfl) ⟨(Nat.le_of_ble_eq_true rfl), (Nat.le_of_ble_eq_true rfl)⟩ (mcd (by omega)) ?_
                        intro r156 μ155
                        refine ll_sipush E (pc := 365) dL_loops_365 ks_1944 ?_
                        refine ll_icmp_ne E (pc := 368) (tgt := 463) dL_loops_368 rfl ?_ ?_
                        · refine ll_iconst E (pc := 463) dL_loops_463 kc_0 ?_
                          exact ll_mzreturn E hr (fun _ _ => wp0) rfl dL_loops_464 (by omega)
                        · refine ll_aload_n E (pc := 371) dL_loops_371 rfl ?_
                          refine ll_iconst E (pc := 372) dL_loops_372 kc_4 ?_
                          refine ll_iconst E (pc := 373) dL_loops_373 kc_2 ?_
                          refine ll_ycallVi E X (pc := 374) (d := 8) (mc1 := 2) (ci := 8) (o9 := 0) [.int (4 : Int32), .int (2 : Int32)] [] dL_loops_374 cv_L_115 (fun h => cxX8_registerInLoop X.1 h) (Nat.le_of_ble_eq_true rfl) sx_0 ci_8 rfl rfl (Nat.le_of_ble_eq_true rfl) ⟨(Nat.le_of_ble_eq_true rfl), (Nat.le_of_ble_eq_true rfl)⟩ (mcd (by omega)) ?_
                          intro r158 μ157
                          refine ll_sipush E (pc := 377) dL_loops_377 ks_1944 ?_
                          refine ll_icmp_ne E (pc := 380) (tgt := 463) dL_loops_380 rfl ?_ ?_
                          · refine ll_iconst E (pc := 463) dL_loops_463 kc_0 ?_
                            exact ll_mzreturn E hr (fun _ _ => wp0) rfl dL_loops_464 (by omega)
                          · exact ll_lo (lo' := [some (.ref (ad 0))]) ⟨rfl, trivial⟩ (kL_loops_L383 E X hr μ157 _ (by omega))
set_option maxRecDepth 20000 in
theorem kL_loops_L179 {p : Program} {l : Launch} {e : Env} {s : State} {m : MethodId} {args : Array Value} {below : List Frame} {meth : Method} {c : Code} {D : va_G} {cI cR : ClassId} {ad : Nat → Nat} {A0 : Nat → Prop} (E : EV p s m args meth c cL_loops 1 RL D cI cR ad shX NX A0) (X : EM9 l s A0) (hr : meth.sig.returnType = (some .boolean))  (μ : Mem) (cl : Nat) (hc0 : cl + (804) ≤ 1581) : LL p l e (RX 13 1581) s m args below meth c 1 D cI cR ad shX NX A0 (fun (r : Int32) μ' => KM below args s D cI cR (fun _ => 0) shX 0 A0 1581 (some (.int r)) μ') (fL_loops_L179 μ) cl (6 * cl) 179 [some (.ref (ad 0))] [] μ := by
  rw [fL_loops_L179]
  refine ll_aload_n E (pc := 179) dL_loops_179 rfl ?_
  refine ll_iconst E (pc := 180) dL_loops_180 kc_0 ?_
  refine ll_iconst E (pc := 181) dL_loops_181 kc_1 ?_
  refine ll_ycallVi E X (pc := 182) (d := 8) (mc1 := 2) (ci := 8) (o9 := 0) [.int (0 : Int32), .int (1 : Int32)] [] dL_loops_182 cv_L_42 (fun h => cxX8_setSlots X.1 h) (Nat.le_of_ble_eq_true rfl) sx_0 ci_8 rfl rfl (Nat.le_of_ble_eq_true rfl) ⟨(Nat.le_of_ble_eq_true rfl), (Nat.le_of_ble_eq_true rfl)⟩ (mcd (by omega)) ?_
  intro r160 μ159
  refine ll_iconst E (pc := 185) dL_loops_185 kc_2 ?_
  refine ll_icmp_ne E (pc := 186) (tgt := 253) dL_loops_186 rfl ?_ ?_
  · refine ll_iconst E (pc := 253) dL_loops_253 kc_0 ?_
    exact ll_mzreturn E hr (fun _ _ => wp0) rfl dL_loops_254 (by omega)
  · refine ll_aload_n E (pc := 189) dL_loops_189 rfl ?_
    refine ll_callVi E (pc := 190) (d := 3) (ci := 8) (o9 := 0) [] [] dL_loops_190 cv_L_155 (fun h => ctX8_beatByUnits h) (Nat.le_of_ble_eq_true rfl) sx_0 ci_8 rfl rfl (Nat.le_of_ble_eq_true rfl) ⟨(Nat.le_of_ble_eq_true rfl), (Nat.le_of_ble_eq_true rfl)⟩ (mcc (by omega)) ?_
    intro r162 μ161
    refine ll_iconst E (pc := 193) dL_loops_193 kc_2 ?_
    refine ll_icmp_ne E (pc := 194) (tgt := 253) dL_loops_194 rfl ?_ ?_
    · refine ll_iconst E (pc := 253) dL_loops_253 kc_0 ?_
      exact ll_mzreturn E hr (fun _ _ => wp0) rfl dL_loops_254 (by omega)
    · refine ll_aload_n E (pc := 197) dL_loops_197 rfl ?_
      refine ll_callVi E (pc := 198) (d := 6) (ci := 8) (o9 := 0) [] [] dL_loops_198 cv_L_194 (fun h => ctX8_beat h) (Nat.le_of_ble_eq_true rfl) sx_0 ci_8 rfl rfl (Nat.le_of_ble_eq_true rfl) ⟨(Nat.le_of_ble_eq_true rfl), (Nat.le_of_ble_eq_true rfl)⟩ (mcc (by omega)) ?_
      intro r164 μ163
      refine ll_iconst E (pc := 201) dL_loops_201 kc_2 ?_
      refine ll_icmp_ne E (pc := 202) (tgt := 253) dL_loops_202 rfl ?_ ?_
      · refine ll_iconst E (pc := 253) dL_loops_253 kc_0 ?_
        exact ll_mzreturn E hr (fun _ _ => wp0) rfl dL_loops_254 (by omega)
      · refine ll_aload_n E (pc := 205) dL_loops_205 rfl ?_
        refine ll_callVi E (pc := 206) (d := 6) (ci := 8) (o9 := 0) [] [] dL_loops_206 cv_L_158 (fun h => ctX8_jumpBundle h) (Nat.le_of_ble_eq_true rfl) sx_0 ci_8 rfl rfl (Nat.le_of_ble_eq_true rfl) ⟨(Nat.le_of_ble_eq_true rfl), (Nat.le_of_ble_eq_true rfl)⟩ (mcc (by omega)) ?_
        intro r166 μ165
        refine ll_iconst E (pc := 209) dL_loops_209 kc_1 ?_
        refine ll_icmp_ne E (pc := 210) (tgt := 253) dL_loops_210 rfl ?_ ?_
        · refine ll_iconst E (pc := 253) dL_loops_253 kc_0 ?_
          exact ll_mzreturn E hr (fun _ _ => wp0) rfl dL_loops_254 (by omega)
        · refine ll_aload_n E (pc := 213) dL_loops_213 rfl ?_
          refine ll_iconst E (pc := 214) dL_loops_214 kc_0 ?_
          refine ll_ycallVi E X (pc := 215) (d := 8) (mc1 := 1) (ci := 8) (o9 := 0) [.int (0 : Int32)] [] dL_loops_215 cv_L_91 (fun h => cxX8_loopBundleOf X.1 h) (Nat.le_of_ble_eq_true rfl) sx_0 ci_8 rfl rfl (Nat.le_of_ble_eq_true rfl) ⟨(Nat.le_of_ble_eq_true rfl), (Nat.le_of_ble_eq_true rfl)⟩ (mcd (by omega)) ?_
          intro r168 μ167
          refine ll_if_ne E (pc := 218) (tgt := 253) dL_loops_218 rfl ?_ ?_
          · refine ll_iconst E (pc := 253) dL_loops_253 kc_0 ?_
            exact ll_mzreturn E hr (fun _ _ => wp0) rfl dL_loops_254 (by omega)
          · refine ll_aload_n E (pc := 221) dL_loops_221 rfl ?_
            refine ll_iconst E (pc := 222) dL_loops_222 kc_3 ?_
            refine ll_ycallVi E X (pc := 223) (d := 7) (mc1 := 1) (ci := 8) (o9 := 0) [.int (3 : Int32)] [] dL_loops_223 cv_L_48 (fun h => cxX8_setDelay X.1 h) (Nat.le_of_ble_eq_true rfl) sx_0 ci_8 rfl rfl (Nat.le_of_ble_eq_true rfl) ⟨(Nat.le_of_ble_eq_true rfl), (Nat.le_of_ble_eq_true rfl)⟩ (mcd (by omega)) ?_
            intro r170 μ169
            refine ll_if_ne E (pc := 226) (tgt := 253) dL_loops_226 rfl ?_ ?_
            · refine ll_iconst E (pc := 253) dL_loops_253 kc_0 ?_
              exact ll_mzreturn E hr (fun _ _ => wp0) rfl dL_loops_254 (by omega)
            · refine ll_aload_n E (pc := 229) dL_loops_229 rfl ?_
              refine ll_callVi E (pc := 230) (d := 6) (ci := 8) (o9 := 0) [] [] dL_loops_230 cv_L_194 (fun h => ctX8_beat h) (Nat.le_of_ble_eq_true rfl) sx_0 ci_8 rfl rfl (Nat.le_of_ble_eq_true rfl) ⟨(Nat.le_of_ble_eq_true rfl), (Nat.le_of_ble_eq_true rfl)⟩ (mcc (by omega)) ?_
              intro r172 μ171
              refine ll_iconst E (pc := 233) dL_loops_233 kc_4 ?_
              refine ll_icmp_ne E (pc := 234) (tgt := 253) dL_loops_234 rfl ?_ ?_
              · refine ll_iconst E (pc := 253) dL_loops_253 kc_0 ?_
                exact ll_mzreturn E hr (fun _ _ => wp0) rfl dL_loops_254 (by omega)
              · refine ll_aload_n E (pc := 237) dL_loops_237 rfl ?_
                refine ll_callVi E (pc := 238) (d := 6) (ci := 8) (o9 := 0) [] [] dL_loops_238 cv_L_158 (fun h => ctX8_jumpBundle h) (Nat.le_of_ble_eq_true rfl) sx_0 ci_8 rfl rfl (Nat.le_of_ble_eq_true rfl) ⟨(Nat.le_of_ble_eq_true rfl), (Nat.le_of_ble_eq_true rfl)⟩ (mcc (by omega)) ?_
                intro r174 μ173
                refine ll_if_ne E (pc := 241) (tgt := 253) dL_loops_241 rfl ?_ ?_
                · refine ll_iconst E (pc := 253) dL_loops_253 kc_0 ?_
                  exact ll_mzreturn E hr (fun _ _ => wp0) rfl dL_loops_254 (by omega)
                · refine ll_aload_n E (pc := 244) dL_loops_244 rfl ?_
                  refine ll_iconst E (pc := 245) dL_loops_245 kc_0 ?_
                  refine ll_ycallVi E X (pc := 246) (d := 8) (mc1 := 1) (ci := 8) (o9 := 0) [.int (0 : Int32)] [] dL_loops_246 cv_L_91 (fun h => cxX8_loopBundleOf X.1 h) (Nat.le_of_ble_eq_true rfl) sx_0 ci_8 rfl rfl (Nat.le_of_ble_eq_true rfl) ⟨(Nat.le_of_ble_eq_true rfl), (Nat.le_of_ble_eq_true rfl)⟩ (mcd (by omega)) ?_
                  intro r176 μ175
                  refine ll_iconst E (pc := 249) dL_loops_249 kc_1 ?_
                  refine ll_icmp_eq E (pc := 250) (tgt := 255) dL_loops_250 rfl ?_ ?_
                  · exact ll_lo (lo' := [some (.ref (ad 0))]) ⟨rfl, trivial⟩ (kL_loops_L255 E X hr μ175 _ (by omega))
                  · refine ll_iconst E (pc := 253) dL_loops_253 kc_0 ?_
                    exact ll_mzreturn E hr (fun _ _ => wp0) rfl dL_loops_254 (by omega)
set_option maxRecDepth 20000 in
theorem kL_loops_L115 {p : Program} {l : Launch} {e : Env} {s : State} {m : MethodId} {args : Array Value} {below : List Frame} {meth : Method} {c : Code} {D : va_G} {cI cR : ClassId} {ad : Nat → Nat} {A0 : Nat → Prop} (E : EV p s m args meth c cL_loops 1 RL D cI cR ad shX NX A0) (X : EM9 l s A0) (hr : meth.sig.returnType = (some .boolean))  (μ : Mem) (cl : Nat) (hc0 : cl + (810) ≤ 1581) : LL p l e (RX 13 1581) s m args below meth c 1 D cI cR ad shX NX A0 (fun (r : Int32) μ' => KM below args s D cI cR (fun _ => 0) shX 0 A0 1581 (some (.int r)) μ') (fL_loops_L115 μ) cl (6 * cl) 115 [some (.ref (ad 0))] [] μ := by
  rw [fL_loops_L115]
  refine ll_aload_n E (pc := 115) dL_loops_115 rfl ?_
  refine ll_iconst E (pc := 116) dL_loops_116 kc_0 ?_
  refine ll_ycallVi E X (pc := 117) (d := 7) (mc1 := 1) (ci := 8) (o9 := 0) [.int (0 : Int32)] [] dL_loops_117 cv_L_48 (fun h => cxX8_setDelay X.1 h) (Nat.le_of_ble_eq_true rfl) sx_0 ci_8 rfl rfl (Nat.le_of_ble_eq_true rfl) ⟨(Nat.le_of_ble_eq_true rfl), (Nat.le_of_ble_eq_true rfl)⟩ (mcd (by omega)) ?_
  intro r178 μ177
  refine ll_iconst E (pc := 120) dL_loops_120 kc_1 ?_
  refine ll_icmp_ne E (pc := 121) (tgt := 253) dL_loops_121 rfl ?_ ?_
  · refine ll_iconst E (pc := 253) dL_loops_253 kc_0 ?_
    exact ll_mzreturn E hr (fun _ _ => wp0) rfl dL_loops_254 (by omega)
  · refine ll_aload_n E (pc := 124) dL_loops_124 rfl ?_
    refine ll_callVi E (pc := 125) (d := 6) (ci := 8) (o9 := 0) [] [] dL_loops_125 cv_L_194 (fun h => ctX8_beat h) (Nat.le_of_ble_eq_true rfl) sx_0 ci_8 rfl rfl (Nat.le_of_ble_eq_true rfl) ⟨(Nat.le_of_ble_eq_true rfl), (Nat.le_of_ble_eq_true rfl)⟩ (mcc (by omega)) ?_
    intro r180 μ179
    refine ll_iconst E (pc := 128) dL_loops_128 kc_1 ?_
    refine ll_icmp_ne E (pc := 129) (tgt := 253) dL_loops_129 rfl ?_ ?_
    · refine ll_iconst E (pc := 253) dL_loops_253 kc_0 ?_
      exact ll_mzreturn E hr (fun _ _ => wp0) rfl dL_loops_254 (by omega)
    · refine ll_aload_n E (pc := 132) dL_loops_132 rfl ?_
      refine ll_callVi E (pc := 133) (d := 6) (ci := 8) (o9 := 0) [] [] dL_loops_133 cv_L_158 (fun h => ctX8_jumpBundle h) (Nat.le_of_ble_eq_true rfl) sx_0 ci_8 rfl rfl (Nat.le_of_ble_eq_true rfl) ⟨(Nat.le_of_ble_eq_true rfl), (Nat.le_of_ble_eq_true rfl)⟩ (mcc (by omega)) ?_
      intro r182 μ181
      refine ll_if_ne E (pc := 136) (tgt := 253) dL_loops_136 rfl ?_ ?_
      · refine ll_iconst E (pc := 253) dL_loops_253 kc_0 ?_
        exact ll_mzreturn E hr (fun _ _ => wp0) rfl dL_loops_254 (by omega)
      · refine ll_aload_n E (pc := 139) dL_loops_139 rfl ?_
        refine ll_callVi E (pc := 140) (d := 6) (ci := 8) (o9 := 0) [] [] dL_loops_140 cv_L_197 (fun h => ctX8_overlap h) (Nat.le_of_ble_eq_true rfl) sx_0 ci_8 rfl rfl (Nat.le_of_ble_eq_true rfl) ⟨(Nat.le_of_ble_eq_true rfl), (Nat.le_of_ble_eq_true rfl)⟩ (mcc (by omega)) ?_
        intro r184 μ183
        refine ll_iconst E (pc := 143) dL_loops_143 kc_1 ?_
        refine ll_icmp_ne E (pc := 144) (tgt := 253) dL_loops_144 rfl ?_ ?_
        · refine ll_iconst E (pc := 253) dL_loops_253 kc_0 ?_
          exact ll_mzreturn E hr (fun _ _ => wp0) rfl dL_loops_254 (by omega)
        · refine ll_aload_n E (pc := 147) dL_loops_147 rfl ?_
          refine ll_iconst E (pc := 148) dL_loops_148 kc_5 ?_
          refine ll_ycallVi E X (pc := 149) (d := 8) (mc1 := 1) (ci := 8) (o9 := 0) [.int (5 : Int32)] [] dL_loops_149 cv_L_127 (fun h => cxX8_loopBundles X.1 h) (Nat.le_of_ble_eq_true rfl) sx_0 ci_8 rfl rfl (Nat.le_of_ble_eq_true rfl) ⟨(Nat.le_of_ble_eq_true rfl), (Nat.le_of_ble_eq_true rfl)⟩ (mcd (by omega)) ?_
          intro r186 μ185
          refine ll_iconst E (pc := 152) dL_loops_152 kc_5 ?_
          refine ll_icmp_ne E (pc := 153) (tgt := 253) dL_loops_153 rfl ?_ ?_
          · refine ll_iconst E (pc := 253) dL_loops_253 kc_0 ?_
            exact ll_mzreturn E hr (fun _ _ => wp0) rfl dL_loops_254 (by omega)
          · refine ll_aload_n E (pc := 156) dL_loops_156 rfl ?_
            refine ll_iconst E (pc := 157) dL_loops_157 kc_5 ?_
            refine ll_iconst E (pc := 158) dL_loops_158 kc_0 ?_
            refine ll_ycallVi E X (pc := 159) (d := 8) (mc1 := 2) (ci := 8) (o9 := 0) [.int (5 : Int32), .int (0 : Int32)] [] dL_loops_159 cv_L_115 (fun h => cxX8_registerInLoop X.1 h) (Nat.le_of_ble_eq_true rfl) sx_0 ci_8 rfl rfl (Nat.le_of_ble_eq_true rfl) ⟨(Nat.le_of_ble_eq_true rfl), (Nat.le_of_ble_eq_true rfl)⟩ (mcd (by omega)) ?_
            intro r188 μ187
            refine ll_bipush E (pc := 162) dL_loops_162 kb_15 ?_
            refine ll_icmp_ne E (pc := 164) (tgt := 253) dL_loops_164 rfl ?_ ?_
            · refine ll_iconst E (pc := 253) dL_loops_253 kc_0 ?_
              exact ll_mzreturn E hr (fun _ _ => wp0) rfl dL_loops_254 (by omega)
            · refine ll_aload_n E (pc := 167) dL_loops_167 rfl ?_
              refine ll_bipush E (pc := 168) dL_loops_168 kb_20 ?_
              refine ll_iconst E (pc := 170) dL_loops_170 kc_0 ?_
              refine ll_ycallVi E X (pc := 171) (d := 8) (mc1 := 2) (ci := 8) (o9 := 0) [.int (20 : Int32), .int (0 : Int32)] [] dL_loops_171 cv_L_115 (fun h => cxX8_registerInLoop X.1 h) (Nat.le_of_ble_eq_true rfl) sx_0 ci_8 rfl rfl (Nat.le_of_ble_eq_true rfl) ⟨(Nat.le_of_ble_eq_true rfl), (Nat.le_of_ble_eq_true rfl)⟩ (mcd (by omega)) ?_
              intro r190 μ189
              refine ll_bipush E (pc := 174) dL_loops_174 kb_60 ?_
              refine ll_icmp_ne E (pc := 176) (tgt := 253) dL_loops_176 rfl ?_ ?_
              · refine ll_iconst E (pc := 253) dL_loops_253 kc_0 ?_
                exact ll_mzreturn E hr (fun _ _ => wp0) rfl dL_loops_254 (by omega)
              · exact ll_lo (lo' := [some (.ref (ad 0))]) ⟨rfl, trivial⟩ (kL_loops_L179 E X hr μ189 _ (by omega))
set_option maxRecDepth 20000 in
theorem cmL_loops {l : Launch} {D : va_G} {cI cR : ClassId} {μ : Mem} (hl9 : l.stackTraces = false) {r : Int32} {μ' : Mem} (hf : fL_loops μ = some (r, μ')) : CM l yL_loops (.code yL_loops cL_loops 1 (some .boolean)) 13 1581 D cI cR (fun _ => 0) shX 0 [] μ (some (.int r)) μ' :=
  cm_of (own := RL) (ov := fun (r : Int32) => (some (.int r))) hl9 (by decide +kernel) rfl (Nat.le_of_ble_eq_true rfl) (fun p e s m below meth c A0 E X hr => by
    refine ll_lo (lo' := [none]) trivial ?_
    rw [fL_loops]
    refine ll_newX E (pc := 0) wn_29 wn_1 wn_2 wn_c179 wn_3 wn_4 dL_loops_0 dL_loops_3 dL_loops_4 (Nat.le_of_ble_eq_true rfl) ⟨(Nat.le_of_ble_eq_true rfl), (Nat.le_of_ble_eq_true rfl)⟩ (mcd (by omega)) (fun ad E => ?_)
    refine ll_astore_n E (pc := 7) (lo' := [some (.ref (ad 0))]) dL_loops_7 (Nat.le_of_ble_eq_true rfl) rfl rfl ?_
    refine ll_aload_n E (pc := 8) dL_loops_8 rfl ?_
    refine ll_iconst E (pc := 9) dL_loops_9 kc_1 ?_
    refine ll_iconst E (pc := 10) dL_loops_10 kc_3 ?_
    refine ll_ycallVi E X (pc := 11) (d := 8) (mc1 := 1) (ci := 8) (o9 := 0) [.int (1 : Int32), .int (3 : Int32)] [] dL_loops_11 cv_L_130 (fun h => cxX8_setRegister X.1 h) (Nat.le_of_ble_eq_true rfl) sx_0 ci_8 rfl rfl (Nat.le_of_ble_eq_true rfl) ⟨(Nat.le_of_ble_eq_true rfl), (Nat.le_of_ble_eq_true rfl)⟩ (mcd (by omega)) ?_
    intro r192 μ191
    refine ll_if_ne E (pc := 14) (tgt := 253) dL_loops_14 rfl ?_ ?_
    · refine ll_iconst E (pc := 253) dL_loops_253 kc_0 ?_
      exact ll_mzreturn E hr (fun _ _ => wp0) rfl dL_loops_254 (by omega)
    · refine ll_aload_n E (pc := 17) dL_loops_17 rfl ?_
      refine ll_iconst E (pc := 18) dL_loops_18 kc_0 ?_
      refine ll_iconst E (pc := 19) dL_loops_19 kc_1 ?_
      refine ll_iconst E (pc := 20) dL_loops_20 kc_0 ?_
      refine ll_iconst E (pc := 21) dL_loops_21 kc_0 ?_
      refine ll_iconst E (pc := 22) dL_loops_22 kc_1 ?_
      refine ll_iconst E (pc := 23) dL_loops_23 kc_0 ?_
      refine ll_ycallVi E X (pc := 24) (d := 7) (mc1 := 1) (ci := 8) (o9 := 0) [.int (0 : Int32), .int (1 : Int32), .int (0 : Int32), .int (0 : Int32), .int (1 : Int32), .int (0 : Int32)] [] dL_loops_24 cv_L_28 (fun h => cxX8_insert X.1 h) (Nat.le_of_ble_eq_true rfl) sx_0 ci_8 rfl rfl (Nat.le_of_ble_eq_true rfl) ⟨(Nat.le_of_ble_eq_true rfl), (Nat.le_of_ble_eq_true rfl)⟩ (mcd (by omega)) ?_
      intro r194 μ193
      refine ll_iconst E (pc := 27) dL_loops_27 kc_1 ?_
      refine ll_icmp_ne E (pc := 28) (tgt := 253) dL_loops_28 rfl ?_ ?_
      · refine ll_iconst E (pc := 253) dL_loops_253 kc_0 ?_
        exact ll_mzreturn E hr (fun _ _ => wp0) rfl dL_loops_254 (by omega)
      · refine ll_aload_n E (pc := 31) dL_loops_31 rfl ?_
        refine ll_iconst E (pc := 32) dL_loops_32 kc_0 ?_
        refine ll_iconst E (pc := 33) dL_loops_33 kc_0 ?_
        refine ll_ycallVi E X (pc := 34) (d := 8) (mc1 := 2) (ci := 8) (o9 := 0) [.int (0 : Int32), .int (0 : Int32)] [] dL_loops_34 cv_L_97 (fun h => cxX8_carried X.1 h) (Nat.le_of_ble_eq_true rfl) sx_0 ci_8 rfl rfl (Nat.le_of_ble_eq_true rfl) ⟨(Nat.le_of_ble_eq_true rfl), (Nat.le_of_ble_eq_true rfl)⟩ (mcd (by omega)) ?_
        intro r196 μ195
        refine ll_iconst E (pc := 37) dL_loops_37 kc_1 ?_
        refine ll_icmp_ne E (pc := 38) (tgt := 253) dL_loops_38 rfl ?_ ?_
        · refine ll_iconst E (pc := 253) dL_loops_253 kc_0 ?_
          exact ll_mzreturn E hr (fun _ _ => wp0) rfl dL_loops_254 (by omega)
        · refine ll_aload_n E (pc := 41) dL_loops_41 rfl ?_
          refine ll_iconst E (pc := 42) dL_loops_42 kc_0 ?_
          refine ll_iconst E (pc := 43) dL_loops_43 kc_0 ?_
          refine ll_ycallVi E X (pc := 44) (d := 8) (mc1 := 2) (ci := 8) (o9 := 0) [.int (0 : Int32), .int (0 : Int32)] [] dL_loops_44 cv_L_94 (fun h => cxX8_separation X.1 h) (Nat.le_of_ble_eq_true rfl) sx_0 ci_8 rfl rfl (Nat.le_of_ble_eq_true rfl) ⟨(Nat.le_of_ble_eq_true rfl), (Nat.le_of_ble_eq_true rfl)⟩ (mcd (by omega)) ?_
          intro r198 μ197
          refine ll_bipush E (pc := 47) dL_loops_47 kb_m99 ?_
          refine ll_icmp_ne E (pc := 49) (tgt := 253) dL_loops_49 rfl ?_ ?_
          · refine ll_iconst E (pc := 253) dL_loops_253 kc_0 ?_
            exact ll_mzreturn E hr (fun _ _ => wp0) rfl dL_loops_254 (by omega)
          · refine ll_aload_n E (pc := 52) dL_loops_52 rfl ?_
            refine ll_callVi E (pc := 53) (d := 3) (ci := 8) (o9 := 0) [] [] dL_loops_53 cv_L_155 (fun h => ctX8_beatByUnits h) (Nat.le_of_ble_eq_true rfl) sx_0 ci_8 rfl rfl (Nat.le_of_ble_eq_true rfl) ⟨(Nat.le_of_ble_eq_true rfl), (Nat.le_of_ble_eq_true rfl)⟩ (mcc (by omega)) ?_
            intro r200 μ199
            refine ll_iconst E (pc := 56) dL_loops_56 kc_1 ?_
            refine ll_icmp_ne E (pc := 57) (tgt := 253) dL_loops_57 rfl ?_ ?_
            · refine ll_iconst E (pc := 253) dL_loops_253 kc_0 ?_
              exact ll_mzreturn E hr (fun _ _ => wp0) rfl dL_loops_254 (by omega)
            · refine ll_aload_n E (pc := 60) dL_loops_60 rfl ?_
              refine ll_callVi E (pc := 61) (d := 6) (ci := 8) (o9 := 0) [] [] dL_loops_61 cv_L_191 (fun h => ctX8_beatByCircles h) (Nat.le_of_ble_eq_true rfl) sx_0 ci_8 rfl rfl (Nat.le_of_ble_eq_true rfl) ⟨(Nat.le_of_ble_eq_true rfl), (Nat.le_of_ble_eq_true rfl)⟩ (mcc (by omega)) ?_
              intro r202 μ201
              refine ll_iconst E (pc := 64) dL_loops_64 kc_1 ?_
              refine ll_icmp_ne E (pc := 65) (tgt := 253) dL_loops_65 rfl ?_ ?_
              · refine ll_iconst E (pc := 253) dL_loops_253 kc_0 ?_
                exact ll_mzreturn E hr (fun _ _ => wp0) rfl dL_loops_254 (by omega)
              · refine ll_aload_n E (pc := 68) dL_loops_68 rfl ?_
                refine ll_callVi E (pc := 69) (d := 6) (ci := 8) (o9 := 0) [] [] dL_loops_69 cv_L_194 (fun h => ctX8_beat h) (Nat.le_of_ble_eq_true rfl) sx_0 ci_8 rfl rfl (Nat.le_of_ble_eq_true rfl) ⟨(Nat.le_of_ble_eq_true rfl), (Nat.le_of_ble_eq_true rfl)⟩ (mcc (by omega)) ?_
                intro r204 μ203
                refine ll_iconst E (pc := 72) dL_loops_72 kc_2 ?_
                refine ll_icmp_ne E (pc := 73) (tgt := 253) dL_loops_73 rfl ?_ ?_
                · refine ll_iconst E (pc := 253) dL_loops_253 kc_0 ?_
                  exact ll_mzreturn E hr (fun _ _ => wp0) rfl dL_loops_254 (by omega)
                · refine ll_aload_n E (pc := 76) dL_loops_76 rfl ?_
                  refine ll_callVi E (pc := 77) (d := 6) (ci := 8) (o9 := 0) [] [] dL_loops_77 cv_L_158 (fun h => ctX8_jumpBundle h) (Nat.le_of_ble_eq_true rfl) sx_0 ci_8 rfl rfl (Nat.le_of_ble_eq_true rfl) ⟨(Nat.le_of_ble_eq_true rfl), (Nat.le_of_ble_eq_true rfl)⟩ (mcc (by omega)) ?_
                  intro r206 μ205
                  refine ll_if_ne E (pc := 80) (tgt := 253) dL_loops_80 rfl ?_ ?_
                  · refine ll_iconst E (pc := 253) dL_loops_253 kc_0 ?_
                    exact ll_mzreturn E hr (fun _ _ => wp0) rfl dL_loops_254 (by omega)
                  · refine ll_aload_n E (pc := 83) dL_loops_83 rfl ?_
                    refine ll_iconst E (pc := 84) dL_loops_84 kc_5 ?_
                    refine ll_ycallVi E X (pc := 85) (d := 8) (mc1 := 1) (ci := 8) (o9 := 0) [.int (5 : Int32)] [] dL_loops_85 cv_L_127 (fun h => cxX8_loopBundles X.1 h) (Nat.le_of_ble_eq_true rfl) sx_0 ci_8 rfl rfl (Nat.le_of_ble_eq_true rfl) ⟨(Nat.le_of_ble_eq_true rfl), (Nat.le_of_ble_eq_true rfl)⟩ (mcd (by omega)) ?_
                    intro r208 μ207
                    refine ll_bipush E (pc := 88) dL_loops_88 kb_9 ?_
                    refine ll_icmp_ne E (pc := 90) (tgt := 253) dL_loops_90 rfl ?_ ?_
                    · refine ll_iconst E (pc := 253) dL_loops_253 kc_0 ?_
                      exact ll_mzreturn E hr (fun _ _ => wp0) rfl dL_loops_254 (by omega)
                    · refine ll_aload_n E (pc := 93) dL_loops_93 rfl ?_
                      refine ll_iconst E (pc := 94) dL_loops_94 kc_5 ?_
                      refine ll_iconst E (pc := 95) dL_loops_95 kc_0 ?_
                      refine ll_ycallVi E X (pc := 96) (d := 8) (mc1 := 2) (ci := 8) (o9 := 0) [.int (5 : Int32), .int (0 : Int32)] [] dL_loops_96 cv_L_115 (fun h => cxX8_registerInLoop X.1 h) (Nat.le_of_ble_eq_true rfl) sx_0 ci_8 rfl rfl (Nat.le_of_ble_eq_true rfl) ⟨(Nat.le_of_ble_eq_true rfl), (Nat.le_of_ble_eq_true rfl)⟩ (mcd (by omega)) ?_
                      intro r210 μ209
                      refine ll_bipush E (pc := 99) dL_loops_99 kb_15 ?_
                      refine ll_icmp_ne E (pc := 101) (tgt := 253) dL_loops_101 rfl ?_ ?_
                      · refine ll_iconst E (pc := 253) dL_loops_253 kc_0 ?_
                        exact ll_mzreturn E hr (fun _ _ => wp0) rfl dL_loops_254 (by omega)
                      · refine ll_aload_n E (pc := 104) dL_loops_104 rfl ?_
                        refine ll_iconst E (pc := 105) dL_loops_105 kc_5 ?_
                        refine ll_iconst E (pc := 106) dL_loops_106 kc_0 ?_
                        refine ll_ycallVi E X (pc := 107) (d := 8) (mc1 := 2) (ci := 8) (o9 := 0) [.int (5 : Int32), .int (0 : Int32)] [] dL_loops_107 cv_L_118 (fun h => cxX8_registerInRounds X.1 h) (Nat.le_of_ble_eq_true rfl) sx_0 ci_8 rfl rfl (Nat.le_of_ble_eq_true rfl) ⟨(Nat.le_of_ble_eq_true rfl), (Nat.le_of_ble_eq_true rfl)⟩ (mcd (by omega)) ?_
                        intro r212 μ211
                        refine ll_bipush E (pc := 110) dL_loops_110 kb_15 ?_
                        refine ll_icmp_ne E (pc := 112) (tgt := 253) dL_loops_112 rfl ?_ ?_
                        · refine ll_iconst E (pc := 253) dL_loops_253 kc_0 ?_
                          exact ll_mzreturn E hr (fun _ _ => wp0) rfl dL_loops_254 (by omega)
                        · exact ll_lo (lo' := [some (.ref (ad 0))]) ⟨rfl, trivial⟩ (kL_loops_L115 E X hr μ211 _ (by omega))) hf
def fL_limits_L165  (μ : Mem) : Option (Int32 × Mem) :=
  bz (fX8_remove μ (19 : Int32)) fun r43 μ42 =>
  if r43 = (19 : Int32) then
  bz (fX8_remove μ42 (0 : Int32)) fun r45 μ44 =>
  if r45 = (18 : Int32) then
  bz (fX8_registerInOrder μ44 (0 : Int32)) fun r47 μ46 =>
  if r47 = (12 : Int32) then
  bz (fX8_undo μ46) fun r49 μ48 =>
  if r49 = (4 : Int32) then
  bz (fX8_undo μ48) fun r51 μ50 =>
  if r51 = (3 : Int32) then
  bd (fX8_steps μ50) fun r53 μ52 =>
  if r53 = (20 : Int32) then
  bd (fL_refused μ52) fun r55 μ54 =>
  if r55 = 0 then
  some ((0 : Int32), μ54)
  else
  some ((1 : Int32), μ54)
  else
  some ((0 : Int32), μ52)
  else
  some ((0 : Int32), μ50)
  else
  some ((0 : Int32), μ48)
  else
  some ((0 : Int32), μ46)
  else
  some ((0 : Int32), μ44)
  else
  some ((0 : Int32), μ42)
def fL_limits_L93  (μ : Mem) : Option (Int32 × Mem) :=
  bd (fX8_wouldPack μ) fun r57 μ56 =>
  if r57 = (10 : Int32) then
  bd (fX8_pack μ56) fun r59 μ58 =>
  if r59 = (10 : Int32) then
  bz (fX8_registerInOrder μ58 (0 : Int32)) fun r61 μ60 =>
  if r61 = 0 then
  bz (fX8_registerInOrder μ60 (7 : Int32)) fun r63 μ62 =>
  if r63 = (7 : Int32) then
  bz (fX8_registerInOrder μ62 (8 : Int32)) fun r65 μ64 =>
  if r65 = (8 : Int32) then
  bz (fX8_registerInBundles μ64 (0 : Int32)) fun r67 μ66 =>
  if r67 = 0 then
  bd (fX8_doesAgree μ66) fun r69 μ68 =>
  if r69 = 0 then
  some ((0 : Int32), μ68)
  else
  bd (fX8_beatByUnits μ68) fun r71 μ70 =>
  if r71 = (11 : Int32) then
  fL_limits_L165 μ70
  else
  some ((0 : Int32), μ70)
  else
  some ((0 : Int32), μ66)
  else
  some ((0 : Int32), μ64)
  else
  some ((0 : Int32), μ62)
  else
  some ((0 : Int32), μ60)
  else
  some ((0 : Int32), μ58)
  else
  some ((0 : Int32), μ56)
def fL_limits_L10 : Nat → Int32 → Mem → Option (Int32 × Mem)
  | 0, _, _ => none
  | n + 1, v1, μ =>   if (20 : Int32) ≤ v1 then
  bd (fL_call μ (0 : Int32) (20 : Int32) (0 : Int32) (0 : Int32) (0 : Int32)) fun r73 μ72 =>
  if r73 = (-2013 : Int32) then
  bd (fL_types μ72 (6372657 : Int64)) fun r75 μ74 =>
  if r75 = 0 then
  some ((0 : Int32), μ74)
  else
  bd (fL_call μ74 (9 : Int32) (0 : Int32) (0 : Int32) (0 : Int32) (0 : Int32)) fun r77 μ76 =>
  if r77 = (-2013 : Int32) then
  bd (fX8_clearBuffer μ76) fun r79 μ78 =>
  if r79 = (3 : Int32) then
  fL_limits_L93 μ78
  else
  some ((0 : Int32), μ78)
  else
  some ((0 : Int32), μ76)
  else
  some ((0 : Int32), μ72)
  else
  (rmd v1 (12 : Int32)).bind fun r80 =>
  bz (fX8_insert μ (0 : Int32) (0 : Int32) r80 (0 : Int32) (0 : Int32) v1) fun r82 μ81 =>
  if r82 = (v1 + (1 : Int32)) then
  fL_limits_L10 n (v1 + (1 : Int32)) μ81
  else
  some ((0 : Int32), μ81)
def fL_limits (μ : Mem) : Option (Int32 × Mem) :=
  fL_limits_L10 22 (0 : Int32) μ0X
set_option maxRecDepth 20000 in
theorem kL_limits_L165 {p : Program} {l : Launch} {e : Env} {s : State} {m : MethodId} {args : Array Value} {below : List Frame} {meth : Method} {c : Code} {D : va_G} {cI cR : ClassId} {ad : Nat → Nat} {A0 : Nat → Prop} (E : EV p s m args meth c cL_limits 2 RL D cI cR ad shX NX A0) (X : EM9 l s A0) (hr : meth.sig.returnType = (some .boolean))  (μ : Mem) (cl : Nat) (hc0 : cl + (775) ≤ 1576) : LL p l e (RX 13 1576) s m args below meth c 2 D cI cR ad shX NX A0 (fun (r : Int32) μ' => KM below args s D cI cR (fun _ => 0) shX 0 A0 1576 (some (.int r)) μ') (fL_limits_L165 μ) cl (6 * cl) 165 [some (.ref (ad 0)), none] [] μ := by
  rw [fL_limits_L165]
  refine ll_aload_n E (pc := 165) dL_limits_165 rfl ?_
  refine ll_bipush E (pc := 166) dL_limits_166 kb_19 ?_
  refine ll_ycallVi E X (pc := 168) (d := 8) (mc1 := 1) (ci := 8) (o9 := 0) [.int (19 : Int32)] [] dL_limits_168 cv_L_34 (fun h => cxX8_remove X.1 h) (Nat.le_of_ble_eq_true rfl) sx_0 ci_8 rfl rfl (Nat.le_of_ble_eq_true rfl) ⟨(Nat.le_of_ble_eq_true rfl), (Nat.le_of_ble_eq_true rfl)⟩ (mcd (by omega)) ?_
  intro r43 μ42
  refine ll_bipush E (pc := 171) dL_limits_171 kb_19 ?_
  refine ll_icmp_ne E (pc := 173) (tgt := 186) dL_limits_173 rfl ?_ ?_
  · refine ll_iconst E (pc := 186) dL_limits_186 kc_0 ?_
    exact ll_mzreturn E hr (fun _ _ => wp0) rfl dL_limits_187 (by omega)
  · refine ll_aload_n E (pc := 176) dL_limits_176 rfl ?_
    refine ll_iconst E (pc := 177) dL_limits_177 kc_0 ?_
    refine ll_ycallVi E X (pc := 178) (d := 8) (mc1 := 1) (ci := 8) (o9 := 0) [.int (0 : Int32)] [] dL_limits_178 cv_L_34 (fun h => cxX8_remove X.1 h) (Nat.le_of_ble_eq_true rfl) sx_0 ci_8 rfl rfl (Nat.le_of_ble_eq_true rfl) ⟨(Nat.le_of_ble_eq_true rfl), (Nat.le_of_ble_eq_true rfl)⟩ (mcd (by omega)) ?_
    intro r45 μ44
    refine ll_bipush E (pc := 181) dL_limits_181 kb_18 ?_
    refine ll_icmp_eq E (pc := 183) (tgt := 188) dL_limits_183 rfl ?_ ?_
    · refine ll_aload_n E (pc := 188) dL_limits_188 rfl ?_
      refine ll_iconst E (pc := 189) dL_limits_189 kc_0 ?_
      refine ll_ycallVi E X (pc := 190) (d := 8) (mc1 := 1) (ci := 8) (o9 := 0) [.int (0 : Int32)] [] dL_limits_190 cv_L_100 (fun h => cxX8_registerInOrder X.1 h) (Nat.le_of_ble_eq_true rfl) sx_0 ci_8 rfl rfl (Nat.le_of_ble_eq_true rfl) ⟨(Nat.le_of_ble_eq_true rfl), (Nat.le_of_ble_eq_true rfl)⟩ (mcd (by omega)) ?_
      intro r47 μ46
      refine ll_bipush E (pc := 193) dL_limits_193 kb_12 ?_
      refine ll_icmp_ne E (pc := 195) (tgt := 234) dL_limits_195 rfl ?_ ?_
      · refine ll_iconst E (pc := 234) dL_limits_234 kc_0 ?_
        exact ll_mzreturn E hr (fun _ _ => wp0) rfl dL_limits_235 (by omega)
      · refine ll_aload_n E (pc := 198) dL_limits_198 rfl ?_
        refine ll_ycallVi E X (pc := 199) (d := 7) (mc1 := 1) (ci := 8) (o9 := 0) [] [] dL_limits_199 cv_L_64 (fun h => cxX8_undo X.1 h) (Nat.le_of_ble_eq_true rfl) sx_0 ci_8 rfl rfl (Nat.le_of_ble_eq_true rfl) ⟨(Nat.le_of_ble_eq_true rfl), (Nat.le_of_ble_eq_true rfl)⟩ (mcd (by omega)) ?_
        intro r49 μ48
        refine ll_iconst E (pc := 202) dL_limits_202 kc_4 ?_
        refine ll_icmp_ne E (pc := 203) (tgt := 234) dL_limits_203 rfl ?_ ?_
        · refine ll_iconst E (pc := 234) dL_limits_234 kc_0 ?_
          exact ll_mzreturn E hr (fun _ _ => wp0) rfl dL_limits_235 (by omega)
        · refine ll_aload_n E (pc := 206) dL_limits_206 rfl ?_
          refine ll_ycallVi E X (pc := 207) (d := 7) (mc1 := 1) (ci := 8) (o9 := 0) [] [] dL_limits_207 cv_L_64 (fun h => cxX8_undo X.1 h) (Nat.le_of_ble_eq_true rfl) sx_0 ci_8 rfl rfl (Nat.le_of_ble_eq_true rfl) ⟨(Nat.le_of_ble_eq_true rfl), (Nat.le_of_ble_eq_true rfl)⟩ (mcd (by omega)) ?_
          intro r51 μ50
          refine ll_iconst E (pc := 210) dL_limits_210 kc_3 ?_
          refine ll_icmp_ne E (pc := 211) (tgt := 234) dL_limits_211 rfl ?_ ?_
          · refine ll_iconst E (pc := 234) dL_limits_234 kc_0 ?_
            exact ll_mzreturn E hr (fun _ _ => wp0) rfl dL_limits_235 (by omega)
          · refine ll_aload_n E (pc := 214) dL_limits_214 rfl ?_
            refine ll_callVi E (pc := 215) (d := 0) (ci := 8) (o9 := 0) [] [] dL_limits_215 cv_L_140 (fun h => ctX8_steps h) (Nat.le_of_ble_eq_true rfl) sx_0 ci_8 rfl rfl (Nat.le_of_ble_eq_true rfl) ⟨(Nat.le_of_ble_eq_true rfl), (Nat.le_of_ble_eq_true rfl)⟩ (mcc (by omega)) ?_
            intro r53 μ52
            refine ll_bipush E (pc := 218) dL_limits_218 kb_20 ?_
            refine ll_icmp_ne E (pc := 220) (tgt := 234) dL_limits_220 rfl ?_ ?_
            · refine ll_iconst E (pc := 234) dL_limits_234 kc_0 ?_
              exact ll_mzreturn E hr (fun _ _ => wp0) rfl dL_limits_235 (by omega)
            · refine ll_aload_n E (pc := 223) dL_limits_223 rfl ?_
              refine ll_mcallSi E X (pc := 224) (d := 12) [.ref (ad 0)] [] dL_limits_224 cv_L_203 (fun h => cmL_refused X.1 h) rfl rfl (Nat.le_of_ble_eq_true rfl) ⟨(Nat.le_of_ble_eq_true rfl), (Nat.le_of_ble_eq_true rfl)⟩ (mcd (by omega)) ?_
              intro r55 μ54
              refine ll_if_eq E (pc := 227) (tgt := 234) dL_limits_227 rfl ?_ ?_
              · refine ll_iconst E (pc := 234) dL_limits_234 kc_0 ?_
                exact ll_mzreturn E hr (fun _ _ => wp0) rfl dL_limits_235 (by omega)
              · refine ll_iconst E (pc := 230) dL_limits_230 kc_1 ?_
                refine ll_goto E (pc := 231) (tgt := 235) dL_limits_231 rfl ?_
                exact ll_mzreturn E hr (fun _ _ => wp0) rfl dL_limits_235 (by omega)
    · refine ll_iconst E (pc := 186) dL_limits_186 kc_0 ?_
      exact ll_mzreturn E hr (fun _ _ => wp0) rfl dL_limits_187 (by omega)
set_option maxRecDepth 20000 in
theorem kL_limits_L93 {p : Program} {l : Launch} {e : Env} {s : State} {m : MethodId} {args : Array Value} {below : List Frame} {meth : Method} {c : Code} {D : va_G} {cI cR : ClassId} {ad : Nat → Nat} {A0 : Nat → Prop} (E : EV p s m args meth c cL_limits 2 RL D cI cR ad shX NX A0) (X : EM9 l s A0) (hr : meth.sig.returnType = (some .boolean))  (μ : Mem) (cl : Nat) (hc0 : cl + (779) ≤ 1576) : LL p l e (RX 13 1576) s m args below meth c 2 D cI cR ad shX NX A0 (fun (r : Int32) μ' => KM below args s D cI cR (fun _ => 0) shX 0 A0 1576 (some (.int r)) μ') (fL_limits_L93 μ) cl (6 * cl) 93 [some (.ref (ad 0)), none] [] μ := by
  rw [fL_limits_L93]
  refine ll_aload_n E (pc := 93) dL_limits_93 rfl ?_
  refine ll_callVi E (pc := 94) (d := 5) (ci := 8) (o9 := 0) [] [] dL_limits_94 cv_L_152 (fun h => ctX8_wouldPack h) (Nat.le_of_ble_eq_true rfl) sx_0 ci_8 rfl rfl (Nat.le_of_ble_eq_true rfl) ⟨(Nat.le_of_ble_eq_true rfl), (Nat.le_of_ble_eq_true rfl)⟩ (mcc (by omega)) ?_
  intro r57 μ56
  refine ll_bipush E (pc := 97) dL_limits_97 kb_10 ?_
  refine ll_icmp_ne E (pc := 99) (tgt := 186) dL_limits_99 rfl ?_ ?_
  · refine ll_iconst E (pc := 186) dL_limits_186 kc_0 ?_
    exact ll_mzreturn E hr (fun _ _ => wp0) rfl dL_limits_187 (by omega)
  · refine ll_aload_n E (pc := 102) dL_limits_102 rfl ?_
    refine ll_callVi E (pc := 103) (d := 5) (ci := 8) (o9 := 0) [] [] dL_limits_103 cv_L_180 (fun h => ctX8_pack h) (Nat.le_of_ble_eq_true rfl) sx_0 ci_8 rfl rfl (Nat.le_of_ble_eq_true rfl) ⟨(Nat.le_of_ble_eq_true rfl), (Nat.le_of_ble_eq_true rfl)⟩ (mcc (by omega)) ?_
    intro r59 μ58
    refine ll_bipush E (pc := 106) dL_limits_106 kb_10 ?_
    refine ll_icmp_ne E (pc := 108) (tgt := 186) dL_limits_108 rfl ?_ ?_
    · refine ll_iconst E (pc := 186) dL_limits_186 kc_0 ?_
      exact ll_mzreturn E hr (fun _ _ => wp0) rfl dL_limits_187 (by omega)
    · refine ll_aload_n E (pc := 111) dL_limits_111 rfl ?_
      refine ll_iconst E (pc := 112) dL_limits_112 kc_0 ?_
      refine ll_ycallVi E X (pc := 113) (d := 8) (mc1 := 1) (ci := 8) (o9 := 0) [.int (0 : Int32)] [] dL_limits_113 cv_L_100 (fun h => cxX8_registerInOrder X.1 h) (Nat.le_of_ble_eq_true rfl) sx_0 ci_8 rfl rfl (Nat.le_of_ble_eq_true rfl) ⟨(Nat.le_of_ble_eq_true rfl), (Nat.le_of_ble_eq_true rfl)⟩ (mcd (by omega)) ?_
      intro r61 μ60
      refine ll_if_ne E (pc := 116) (tgt := 186) dL_limits_116 rfl ?_ ?_
      · refine ll_iconst E (pc := 186) dL_limits_186 kc_0 ?_
        exact ll_mzreturn E hr (fun _ _ => wp0) rfl dL_limits_187 (by omega)
      · refine ll_aload_n E (pc := 119) dL_limits_119 rfl ?_
        refine ll_bipush E (pc := 120) dL_limits_120 kb_7 ?_
        refine ll_ycallVi E X (pc := 122) (d := 8) (mc1 := 1) (ci := 8) (o9 := 0) [.int (7 : Int32)] [] dL_limits_122 cv_L_100 (fun h => cxX8_registerInOrder X.1 h) (Nat.le_of_ble_eq_true rfl) sx_0 ci_8 rfl rfl (Nat.le_of_ble_eq_true rfl) ⟨(Nat.le_of_ble_eq_true rfl), (Nat.le_of_ble_eq_true rfl)⟩ (mcd (by omega)) ?_
        intro r63 μ62
        refine ll_bipush E (pc := 125) dL_limits_125 kb_7 ?_
        refine ll_icmp_ne E (pc := 127) (tgt := 186) dL_limits_127 rfl ?_ ?_
        · refine ll_iconst E (pc := 186) dL_limits_186 kc_0 ?_
          exact ll_mzreturn E hr (fun _ _ => wp0) rfl dL_limits_187 (by omega)
        · refine ll_aload_n E (pc := 130) dL_limits_130 rfl ?_
          refine ll_bipush E (pc := 131) dL_limits_131 kb_8 ?_
          refine ll_ycallVi E X (pc := 133) (d := 8) (mc1 := 1) (ci := 8) (o9 := 0) [.int (8 : Int32)] [] dL_limits_133 cv_L_100 (fun h => cxX8_registerInOrder X.1 h) (Nat.le_of_ble_eq_true rfl) sx_0 ci_8 rfl rfl (Nat.le_of_ble_eq_true rfl) ⟨(Nat.le_of_ble_eq_true rfl), (Nat.le_of_ble_eq_true rfl)⟩ (mcd (by omega)) ?_
          intro r65 μ64
          refine ll_bipush E (pc := 136) dL_limits_136 kb_8 ?_
          refine ll_icmp_ne E (pc := 138) (tgt := 186) dL_limits_138 rfl ?_ ?_
          · refine ll_iconst E (pc := 186) dL_limits_186 kc_0 ?_
            exact ll_mzreturn E hr (fun _ _ => wp0) rfl dL_limits_187 (by omega)
          · refine ll_aload_n E (pc := 141) dL_limits_141 rfl ?_
            refine ll_iconst E (pc := 142) dL_limits_142 kc_0 ?_
            refine ll_ycallVi E X (pc := 143) (d := 8) (mc1 := 1) (ci := 8) (o9 := 0) [.int (0 : Int32)] [] dL_limits_143 cv_L_103 (fun h => cxX8_registerInBundles X.1 h) (Nat.le_of_ble_eq_true rfl) sx_0 ci_8 rfl rfl (Nat.le_of_ble_eq_true rfl) ⟨(Nat.le_of_ble_eq_true rfl), (Nat.le_of_ble_eq_true rfl)⟩ (mcd (by omega)) ?_
            intro r67 μ66
            refine ll_if_ne E (pc := 146) (tgt := 186) dL_limits_146 rfl ?_ ?_
            · refine ll_iconst E (pc := 186) dL_limits_186 kc_0 ?_
              exact ll_mzreturn E hr (fun _ _ => wp0) rfl dL_limits_187 (by omega)
            · refine ll_aload_n E (pc := 149) dL_limits_149 rfl ?_
              refine ll_callVi E (pc := 150) (d := 6) (ci := 8) (o9 := 0) [] [] dL_limits_150 cv_L_187 (fun h => ctX8_doesAgree h) (Nat.le_of_ble_eq_true rfl) sx_0 ci_8 rfl rfl (Nat.le_of_ble_eq_true rfl) ⟨(Nat.le_of_ble_eq_true rfl), (Nat.le_of_ble_eq_true rfl)⟩ (mcc (by omega)) ?_
              intro r69 μ68
              refine ll_if_eq E (pc := 153) (tgt := 186) dL_limits_153 rfl ?_ ?_
              · refine ll_iconst E (pc := 186) dL_limits_186 kc_0 ?_
                exact ll_mzreturn E hr (fun _ _ => wp0) rfl dL_limits_187 (by omega)
              · refine ll_aload_n E (pc := 156) dL_limits_156 rfl ?_
                refine ll_callVi E (pc := 157) (d := 3) (ci := 8) (o9 := 0) [] [] dL_limits_157 cv_L_155 (fun h => ctX8_beatByUnits h) (Nat.le_of_ble_eq_true rfl) sx_0 ci_8 rfl rfl (Nat.le_of_ble_eq_true rfl) ⟨(Nat.le_of_ble_eq_true rfl), (Nat.le_of_ble_eq_true rfl)⟩ (mcc (by omega)) ?_
                intro r71 μ70
                refine ll_bipush E (pc := 160) dL_limits_160 kb_11 ?_
                refine ll_icmp_ne E (pc := 162) (tgt := 186) dL_limits_162 rfl ?_ ?_
                · refine ll_iconst E (pc := 186) dL_limits_186 kc_0 ?_
                  exact ll_mzreturn E hr (fun _ _ => wp0) rfl dL_limits_187 (by omega)
                · exact ll_lo (lo' := [some (.ref (ad 0)), none]) ⟨rfl, trivial⟩ (kL_limits_L165 E X hr μ70 _ (by omega))
set_option maxRecDepth 20000 in
theorem kL_limits_L10 {p : Program} {l : Launch} {e : Env} {s : State} {m : MethodId} {args : Array Value} {below : List Frame} {meth : Method} {c : Code} {D : va_G} {cI cR : ClassId} {ad : Nat → Nat} {A0 : Nat → Prop} (E : EV p s m args meth c cL_limits 2 RL D cI cR ad shX NX A0) (X : EM9 l s A0) (hr : meth.sig.returnType = (some .boolean)) (n : Nat) : ∀ (v1 : Int32) (μ : Mem) (cl : Nat), cl + (1 * n + 794) ≤ 1576 → LL p l e (RX 13 1576) s m args below meth c 2 D cI cR ad shX NX A0 (fun (r : Int32) μ' => KM below args s D cI cR (fun _ => 0) shX 0 A0 1576 (some (.int r)) μ') (fL_limits_L10 n v1 μ) cl (6 * cl) 10 [some (.ref (ad 0)), some (.int v1)] [] μ := by
  induction n with
  | zero =>
    intros
    exact ll_none
  | succ n ih =>
    intro v1 μ cl hc0
    rw [fL_limits_L10]
    refine ll_iload_n E (pc := 10) dL_limits_10 rfl ?_
    refine ll_bipush E (pc := 11) dL_limits_11 kb_20 ?_
    refine ll_icmp_ge E (pc := 13) (tgt := 43) dL_limits_13 rfl ?_ ?_
    · refine ll_aload_n E (pc := 43) dL_limits_43 rfl ?_
      refine ll_iconst E (pc := 44) dL_limits_44 kc_0 ?_
      refine ll_bipush E (pc := 45) dL_limits_45 kb_20 ?_
      refine ll_iconst E (pc := 47) dL_limits_47 kc_0 ?_
      refine ll_iconst E (pc := 48) dL_limits_48 kc_0 ?_
      refine ll_iconst E (pc := 49) dL_limits_49 kc_0 ?_
      refine ll_mcallH E X (pc := 50) (d := 10) [.ref (ad 0), .int (0 : Int32), .int (20 : Int32), .int (0 : Int32), .int (0 : Int32), .int (0 : Int32)] [] dL_limits_50 cvH_L_161 (fun h => cmL_call X.1 h) rfl rfl (Nat.le_of_ble_eq_true rfl) ⟨(Nat.le_of_ble_eq_true rfl), (Nat.le_of_ble_eq_true rfl)⟩ (mcd (by omega)) ?_
      intro r73 μ72
      refine ll_sipush E (pc := 53) dL_limits_53 ks_m2013 ?_
      refine ll_icmp_ne E (pc := 56) (tgt := 186) dL_limits_56 rfl ?_ ?_
      · refine ll_iconst E (pc := 186) dL_limits_186 kc_0 ?_
        exact ll_mzreturn E hr (fun _ _ => wp0) rfl dL_limits_187 (by omega)
      · refine ll_aload_n E (pc := 59) dL_limits_59 rfl ?_
        refine ll_ldc2 E (pc := 60) dL_limits_60 kw_L_262 ?_
        refine ll_mcallSi E X (pc := 63) (d := 8) [.ref (ad 0), .long (6372657 : Int64)] [] dL_limits_63 cv_L_209 (fun h => cmL_types X.1 h) rfl rfl (Nat.le_of_ble_eq_true rfl) ⟨(Nat.le_of_ble_eq_true rfl), (Nat.le_of_ble_eq_true rfl)⟩ (mcd (by omega)) ?_
        intro r75 μ74
        refine ll_if_eq E (pc := 66) (tgt := 186) dL_limits_66 rfl ?_ ?_
        · refine ll_iconst E (pc := 186) dL_limits_186 kc_0 ?_
          exact ll_mzreturn E hr (fun _ _ => wp0) rfl dL_limits_187 (by omega)
        · refine ll_aload_n E (pc := 69) dL_limits_69 rfl ?_
          refine ll_bipush E (pc := 70) dL_limits_70 kb_9 ?_
          refine ll_iconst E (pc := 72) dL_limits_72 kc_0 ?_
          refine ll_iconst E (pc := 73) dL_limits_73 kc_0 ?_
          refine ll_iconst E (pc := 74) dL_limits_74 kc_0 ?_
          refine ll_iconst E (pc := 75) dL_limits_75 kc_0 ?_
          refine ll_mcallH E X (pc := 76) (d := 10) [.ref (ad 0), .int (9 : Int32), .int (0 : Int32), .int (0 : Int32), .int (0 : Int32), .int (0 : Int32)] [] dL_limits_76 cvH_L_161 (fun h => cmL_call X.1 h) rfl rfl (Nat.le_of_ble_eq_true rfl) ⟨(Nat.le_of_ble_eq_true rfl), (Nat.le_of_ble_eq_true rfl)⟩ (mcd (by omega)) ?_
          intro r77 μ76
          refine ll_sipush E (pc := 79) dL_limits_79 ks_m2013 ?_
          refine ll_icmp_ne E (pc := 82) (tgt := 186) dL_limits_82 rfl ?_ ?_
          · refine ll_iconst E (pc := 186) dL_limits_186 kc_0 ?_
            exact ll_mzreturn E hr (fun _ _ => wp0) rfl dL_limits_187 (by omega)
          · refine ll_aload_n E (pc := 85) dL_limits_85 rfl ?_
            refine ll_callVi E (pc := 86) (d := 0) (ci := 8) (o9 := 0) [] [] dL_limits_86 cv_L_219 (fun h => ctX8_clearBuffer h) (Nat.le_of_ble_eq_true rfl) sx_0 ci_8 rfl rfl (Nat.le_of_ble_eq_true rfl) ⟨(Nat.le_of_ble_eq_true rfl), (Nat.le_of_ble_eq_true rfl)⟩ (mcc (by omega)) ?_
            intro r79 μ78
            refine ll_iconst E (pc := 89) dL_limits_89 kc_3 ?_
            refine ll_icmp_ne E (pc := 90) (tgt := 186) dL_limits_90 rfl ?_ ?_
            · refine ll_iconst E (pc := 186) dL_limits_186 kc_0 ?_
              exact ll_mzreturn E hr (fun _ _ => wp0) rfl dL_limits_187 (by omega)
            · exact ll_lo (lo' := [some (.ref (ad 0)), none]) ⟨rfl, trivial⟩ (kL_limits_L93 E X hr μ78 _ (by omega))
    · refine ll_aload_n E (pc := 16) dL_limits_16 rfl ?_
      refine ll_iconst E (pc := 17) dL_limits_17 kc_0 ?_
      refine ll_iconst E (pc := 18) dL_limits_18 kc_0 ?_
      refine ll_iload_n E (pc := 19) dL_limits_19 rfl ?_
      refine ll_bipush E (pc := 20) dL_limits_20 kb_12 ?_
      refine ll_irem E (pc := 22) dL_limits_22 ?_
      intro r80
      refine ll_iconst E (pc := 23) dL_limits_23 kc_0 ?_
      refine ll_iconst E (pc := 24) dL_limits_24 kc_0 ?_
      refine ll_iload_n E (pc := 25) dL_limits_25 rfl ?_
      refine ll_ycallVi E X (pc := 26) (d := 7) (mc1 := 1) (ci := 8) (o9 := 0) [.int (0 : Int32), .int (0 : Int32), .int r80, .int (0 : Int32), .int (0 : Int32), .int v1] [] dL_limits_26 cv_L_28 (fun h => cxX8_insert X.1 h) (Nat.le_of_ble_eq_true rfl) sx_0 ci_8 rfl rfl (Nat.le_of_ble_eq_true rfl) ⟨(Nat.le_of_ble_eq_true rfl), (Nat.le_of_ble_eq_true rfl)⟩ (mcd (by omega)) ?_
      intro r82 μ81
      refine ll_iload_n E (pc := 29) dL_limits_29 rfl ?_
      refine ll_iconst E (pc := 30) dL_limits_30 kc_1 ?_
      refine ll_iadd E (pc := 31) dL_limits_31 ?_
      refine ll_icmp_eq E (pc := 32) (tgt := 37) dL_limits_32 rfl ?_ ?_
      · refine ll_iinc E (pc := 37) (lo' := [some (.ref (ad 0)), some (.int (v1 + (1 : Int32)))]) dL_limits_37 rfl kc_1 (Nat.le_of_ble_eq_true rfl) rfl rfl ?_
        refine ll_goto E (pc := 40) (tgt := 10) dL_limits_40 rfl ?_
        exact ll_lo (lo' := [some (.ref (ad 0)), some (.int (v1 + (1 : Int32)))]) ⟨rfl, rfl, trivial⟩ (ih (v1 + (1 : Int32)) μ81 _ (by omega))
      · refine ll_iconst E (pc := 35) dL_limits_35 kc_0 ?_
        exact ll_mzreturn E hr (fun _ _ => wp0) rfl dL_limits_36 (by omega)
set_option maxRecDepth 20000 in
theorem cmL_limits {l : Launch} {D : va_G} {cI cR : ClassId} {μ : Mem} (hl9 : l.stackTraces = false) {r : Int32} {μ' : Mem} (hf : fL_limits μ = some (r, μ')) : CM l yL_limits (.code yL_limits cL_limits 2 (some .boolean)) 13 1576 D cI cR (fun _ => 0) shX 0 [] μ (some (.int r)) μ' :=
  cm_of (own := RL) (ov := fun (r : Int32) => (some (.int r))) hl9 (by decide +kernel) rfl (Nat.le_of_ble_eq_true rfl) (fun p e s m below meth c A0 E X hr => by
    refine ll_lo (lo' := [none, none]) trivial ?_
    rw [fL_limits]
    refine ll_newX E (pc := 0) wn_29 wn_1 wn_2 wn_c179 wn_3 wn_4 dL_limits_0 dL_limits_3 dL_limits_4 (Nat.le_of_ble_eq_true rfl) ⟨(Nat.le_of_ble_eq_true rfl), (Nat.le_of_ble_eq_true rfl)⟩ (mcd (by omega)) (fun ad E => ?_)
    refine ll_astore_n E (pc := 7) (lo' := [some (.ref (ad 0)), none]) dL_limits_7 (Nat.le_of_ble_eq_true rfl) rfl rfl ?_
    refine ll_iconst E (pc := 8) dL_limits_8 kc_0 ?_
    refine ll_istore_n E (pc := 9) (lo' := [some (.ref (ad 0)), some (.int (0 : Int32))]) dL_limits_9 (Nat.le_of_ble_eq_true rfl) rfl rfl ?_
    exact ll_lo (lo' := [some (.ref (ad 0)), some (.int (0 : Int32))]) ⟨rfl, rfl, trivial⟩ (kL_limits_L10 E X hr 22 (0 : Int32) μ0X _ (by omega))) hf
def fL_texts_L389 (K345 : Int32 → Mem → Option (Int32 × Mem)) (v1 : Int32) (s0 : Int32) (μ : Mem) : Option (Int32 × Mem) :=
  bz (fX8_append μ s0) fun r73 μ72 =>
  if r73 = (v1 + (1 : Int32)) then
  bd (fX8_firstError μ72) fun r75 μ74 =>
  if r75 = (v1 + (1 : Int32)) then
  K345 (v1 + (1 : Int32)) μ74
  else
  some ((0 : Int32), μ74)
  else
  some ((0 : Int32), μ72)
def fL_texts_L345 : Nat → Int32 → Mem → Option (Int32 × Mem)
  | 0, _, _ => none
  | n + 1, v1, μ =>   if (60 : Int32) ≤ v1 then
  bd (fL_call μ (8 : Int32) (98 : Int32) (0 : Int32) (0 : Int32) (0 : Int32)) fun r77 μ76 =>
  if r77 = (-2013 : Int32) then
  bd (fL_call μ76 (9 : Int32) (0 : Int32) (0 : Int32) (0 : Int32) (0 : Int32)) fun r79 μ78 =>
  if r79 = (-2012 : Int32) then
  bd (fX8_clearBuffer μ78) fun r81 μ80 =>
  if r81 = (60 : Int32) then
  some ((1 : Int32), μ80)
  else
  some ((0 : Int32), μ80)
  else
  some ((0 : Int32), μ78)
  else
  some ((0 : Int32), μ76)
  else
  (rmd v1 (4 : Int32)).bind fun r82 =>
  if r82 = 0 then
  fL_texts_L389 (fL_texts_L345 n) v1 (98 : Int32) μ
  else
  (rmd v1 (4 : Int32)).bind fun r83 =>
  if r83 = (1 : Int32) then
  fL_texts_L389 (fL_texts_L345 n) v1 (61 : Int32) μ
  else
  (rmd v1 (4 : Int32)).bind fun r84 =>
  if r84 = (2 : Int32) then
  fL_texts_L389 (fL_texts_L345 n) v1 (51 : Int32) μ
  else
  fL_texts_L389 (fL_texts_L345 n) v1 (59 : Int32) μ
def fL_texts_L343  (μ : Mem) : Option (Int32 × Mem) :=
  fL_texts_L345 62 (0 : Int32) μ
def fL_texts_L256  (μ : Mem) : Option (Int32 × Mem) :=
  bd (fL_call μ (9 : Int32) (0 : Int32) (0 : Int32) (0 : Int32) (0 : Int32)) fun r86 μ85 =>
  if r86 = (-2012 : Int32) then
  bd (fX8_clearBuffer μ85) fun r88 μ87 =>
  if r88 = (3 : Int32) then
  bd (fL_types μ87 (7006806310501760313 : Int64)) fun r90 μ89 =>
  if r90 = 0 then
  some ((0 : Int32), μ89)
  else
  bz (fX8_addAll μ89) fun r92 μ91 =>
  if r92 = (2 : Int32) then
  bz (fX8_registerInOrder μ91 (0 : Int32)) fun r94 μ93 =>
  if r94 = (-7 : Int32) then
  bz (fX8_registerInOrder μ93 (11 : Int32)) fun r96 μ95 =>
  if r96 = (9 : Int32) then
  bd (fX8_savedStates μ95) fun r98 μ97 =>
  if r98 = (1 : Int32) then
  bz (fX8_undo μ97) fun r100 μ99 =>
  if r100 = 0 then
  bd (fX8_steps μ99) fun r102 μ101 =>
  if r102 = 0 then
  fL_texts_L343 μ101
  else
  some ((0 : Int32), μ101)
  else
  some ((0 : Int32), μ99)
  else
  some ((0 : Int32), μ97)
  else
  some ((0 : Int32), μ95)
  else
  some ((0 : Int32), μ93)
  else
  some ((0 : Int32), μ91)
  else
  some ((0 : Int32), μ87)
  else
  some ((0 : Int32), μ85)
def fL_texts_L132  (μ : Mem) : Option (Int32 × Mem) :=
  bd (fL_isError μ (25722160515202403 : Int64) (0 : Int64) (7 : Int32)) fun r104 μ103 =>
  if r104 = 0 then
  some ((0 : Int32), μ103)
  else
  bd (fL_isError μ103 (392489021533 : Int64) (0 : Int64) (5 : Int32)) fun r106 μ105 =>
  if r106 = 0 then
  some ((0 : Int32), μ105)
  else
  bd (fL_isError μ105 (7159089 : Int64) (0 : Int64) (0 : Int32)) fun r108 μ107 =>
  if r108 = 0 then
  some ((0 : Int32), μ107)
  else
  bd (fL_isError μ107 (1631400251 : Int64) (0 : Int64) (4 : Int32)) fun r110 μ109 =>
  if r110 = 0 then
  some ((0 : Int32), μ109)
  else
  bd (fL_isError μ109 (417638198577 : Int64) (0 : Int64) (3 : Int32)) fun r112 μ111 =>
  if r112 = 0 then
  some ((0 : Int32), μ111)
  else
  bd (fL_isError μ111 (0 : Int64) (0 : Int64) (0 : Int32)) fun r114 μ113 =>
  if r114 = 0 then
  some ((0 : Int32), μ113)
  else
  bd (fL_isError μ113 (7006806280436333921 : Int64) (24172 : Int64) (10 : Int32)) fun r116 μ115 =>
  if r116 = 0 then
  some ((0 : Int32), μ115)
  else
  bd (fL_isError μ115 (27370564584942436 : Int64) (0 : Int64) (5 : Int32)) fun r118 μ117 =>
  if r118 = 0 then
  some ((0 : Int32), μ117)
  else
  bd (fL_isError μ117 (392673571165 : Int64) (0 : Int64) (1 : Int32)) fun r120 μ119 =>
  if r120 = 0 then
  some ((0 : Int32), μ119)
  else
  bd (fL_isError μ119 (4275505 : Int64) (0 : Int64) (0 : Int32)) fun r122 μ121 =>
  if r122 = 0 then
  some ((0 : Int32), μ121)
  else
  fL_texts_L256 μ121
def fL_texts (μ : Mem) : Option (Int32 × Mem) :=
  bd (fL_isError μ0X (6372661 : Int64) (0 : Int64) (3 : Int32)) fun r124 μ123 =>
  if r124 = 0 then
  some ((0 : Int32), μ123)
  else
  bd (fL_isError μ123 (1631399989 : Int64) (0 : Int64) (3 : Int32)) fun r126 μ125 =>
  if r126 = 0 then
  some ((0 : Int32), μ125)
  else
  bd (fL_isError μ125 (417638461488 : Int64) (0 : Int64) (4 : Int32)) fun r128 μ127 =>
  if r128 = 0 then
  some ((0 : Int32), μ127)
  else
  bd (fL_isError μ127 (6372653 : Int64) (0 : Int64) (3 : Int32)) fun r130 μ129 =>
  if r130 = 0 then
  some ((0 : Int32), μ129)
  else
  bd (fL_isError μ129 (6372706 : Int64) (0 : Int64) (3 : Int32)) fun r132 μ131 =>
  if r132 = 0 then
  some ((0 : Int32), μ131)
  else
  bd (fL_isError μ131 (417641671523 : Int64) (0 : Int64) (5 : Int32)) fun r134 μ133 =>
  if r134 = 0 then
  some ((0 : Int32), μ133)
  else
  bd (fL_isError μ133 (417641672547 : Int64) (0 : Int64) (3 : Int32)) fun r136 μ135 =>
  if r136 = 0 then
  some ((0 : Int32), μ135)
  else
  bd (fL_isError μ135 (7006857072447926621 : Int64) (0 : Int64) (8 : Int32)) fun r138 μ137 =>
  if r138 = 0 then
  some ((0 : Int32), μ137)
  else
  bd (fL_isError μ137 (7006857072447926877 : Int64) (0 : Int64) (6 : Int32)) fun r140 μ139 =>
  if r140 = 0 then
  some ((0 : Int32), μ139)
  else
  bd (fL_isError μ139 (27370535439380829 : Int64) (0 : Int64) (4 : Int32)) fun r142 μ141 =>
  if r142 = 0 then
  some ((0 : Int32), μ141)
  else
  fL_texts_L132 μ141
set_option maxRecDepth 20000 in
theorem kL_texts_L389 {p : Program} {l : Launch} {e : Env} {s : State} {m : MethodId} {args : Array Value} {below : List Frame} {meth : Method} {c : Code} {D : va_G} {cI cR : ClassId} {ad : Nat → Nat} {A0 : Nat → Prop} (E : EV p s m args meth c cL_texts 2 RL D cI cR ad shX NX A0) (X : EM9 l s A0) (hr : meth.sig.returnType = (some .boolean)) {K345 : Int32 → Mem → Option (Int32 × Mem)} {X345 : Nat} (hK345 : ∀ (v1 : Int32) (μ : Mem) (cl : Nat), cl + X345 ≤ 1283 → LL p l e (RX 11 1283) s m args below meth c 2 D cI cR ad shX NX A0 (fun (r : Int32) μ' => KM below args s D cI cR (fun _ => 0) shX 0 A0 1283 (some (.int r)) μ') (K345 v1 μ) cl (6 * cl) 345 [some (.ref (ad 0)), some (.int v1)] [] μ) (v1 : Int32) (s0 : Int32) (μ : Mem) (cl : Nat) (hc0 : cl + (1 + X345) ≤ 1283) : LL p l e (RX 11 1283) s m args below meth c 2 D cI cR ad shX NX A0 (fun (r : Int32) μ' => KM below args s D cI cR (fun _ => 0) shX 0 A0 1283 (some (.int r)) μ') (fL_texts_L389 K345 v1 s0 μ) cl (6 * cl) 389 [some (.ref (ad 0)), some (.int v1)] [.int s0, .ref (ad 0)] μ := by
  rw [fL_texts_L389]
  refine ll_ycallVi E X (pc := 389) (d := 7) (mc1 := 1) (ci := 8) (o9 := 0) [.int s0] [] dL_texts_389 cv_L_57 (fun h => cxX8_append X.1 h) (Nat.le_of_ble_eq_true rfl) sx_0 ci_8 rfl rfl (Nat.le_of_ble_eq_true rfl) ⟨(Nat.le_of_ble_eq_true rfl), (Nat.le_of_ble_eq_true rfl)⟩ (mcd (by omega)) ?_
  intro r73 μ72
  refine ll_iload_n E (pc := 392) dL_texts_392 rfl ?_
  refine ll_iconst E (pc := 393) dL_texts_393 kc_1 ?_
  refine ll_iadd E (pc := 394) dL_texts_394 ?_
  refine ll_icmp_ne E (pc := 395) (tgt := 408) dL_texts_395 rfl ?_ ?_
  · refine ll_iconst E (pc := 408) dL_texts_408 kc_0 ?_
    exact ll_mzreturn E hr (fun _ _ => wp0) rfl dL_texts_409 (by omega)
  · refine ll_aload_n E (pc := 398) dL_texts_398 rfl ?_
    refine ll_callVi E (pc := 399) (d := 5) (ci := 8) (o9 := 0) [] [] dL_texts_399 cv_L_264 (fun h => ctX8_firstError h) (Nat.le_of_ble_eq_true rfl) sx_0 ci_8 rfl rfl (Nat.le_of_ble_eq_true rfl) ⟨(Nat.le_of_ble_eq_true rfl), (Nat.le_of_ble_eq_true rfl)⟩ (mcc (by omega)) ?_
    intro r75 μ74
    refine ll_iload_n E (pc := 402) dL_texts_402 rfl ?_
    refine ll_iconst E (pc := 403) dL_texts_403 kc_1 ?_
    refine ll_iadd E (pc := 404) dL_texts_404 ?_
    refine ll_icmp_eq E (pc := 405) (tgt := 410) dL_texts_405 rfl ?_ ?_
    · refine ll_iinc E (pc := 410) (lo' := [some (.ref (ad 0)), some (.int (v1 + (1 : Int32)))]) dL_texts_410 rfl kc_1 (Nat.le_of_ble_eq_true rfl) rfl rfl ?_
      refine ll_goto E (pc := 413) (tgt := 345) dL_texts_413 rfl ?_
      exact ll_lo (lo' := [some (.ref (ad 0)), some (.int (v1 + (1 : Int32)))]) ⟨rfl, rfl, trivial⟩ (hK345 (v1 + (1 : Int32)) μ74 _ (by omega))
    · refine ll_iconst E (pc := 408) dL_texts_408 kc_0 ?_
      exact ll_mzreturn E hr (fun _ _ => wp0) rfl dL_texts_409 (by omega)
set_option maxRecDepth 20000 in
theorem kL_texts_L345 {p : Program} {l : Launch} {e : Env} {s : State} {m : MethodId} {args : Array Value} {below : List Frame} {meth : Method} {c : Code} {D : va_G} {cI cR : ClassId} {ad : Nat → Nat} {A0 : Nat → Prop} (E : EV p s m args meth c cL_texts 2 RL D cI cR ad shX NX A0) (X : EM9 l s A0) (hr : meth.sig.returnType = (some .boolean)) (n : Nat) : ∀ (v1 : Int32) (μ : Mem) (cl : Nat), cl + (1 * n + 4) ≤ 1283 → LL p l e (RX 11 1283) s m args below meth c 2 D cI cR ad shX NX A0 (fun (r : Int32) μ' => KM below args s D cI cR (fun _ => 0) shX 0 A0 1283 (some (.int r)) μ') (fL_texts_L345 n v1 μ) cl (6 * cl) 345 [some (.ref (ad 0)), some (.int v1)] [] μ := by
  induction n with
  | zero =>
    intros
    exact ll_none
  | succ n ih =>
    intro v1 μ cl hc0
    rw [fL_texts_L345]
    refine ll_iload_n E (pc := 345) dL_texts_345 rfl ?_
    refine ll_bipush E (pc := 346) dL_texts_346 kb_60 ?_
    refine ll_icmp_ge E (pc := 348) (tgt := 416) dL_texts_348 rfl ?_ ?_
    · refine ll_aload_n E (pc := 416) dL_texts_416 rfl ?_
      refine ll_bipush E (pc := 417) dL_texts_417 kb_8 ?_
      refine ll_bipush E (pc := 419) dL_texts_419 kb_98 ?_
      refine ll_iconst E (pc := 421) dL_texts_421 kc_0 ?_
      refine ll_iconst E (pc := 422) dL_texts_422 kc_0 ?_
      refine ll_iconst E (pc := 423) dL_texts_423 kc_0 ?_
      refine ll_mcallH E X (pc := 424) (d := 10) [.ref (ad 0), .int (8 : Int32), .int (98 : Int32), .int (0 : Int32), .int (0 : Int32), .int (0 : Int32)] [] dL_texts_424 cvH_L_161 (fun h => cmL_call X.1 h) rfl rfl (Nat.le_of_ble_eq_true rfl) ⟨(Nat.le_of_ble_eq_true rfl), (Nat.le_of_ble_eq_true rfl)⟩ (mcd (by omega)) ?_
      intro r77 μ76
      refine ll_sipush E (pc := 427) dL_texts_427 ks_m2013 ?_
      refine ll_icmp_ne E (pc := 430) (tgt := 462) dL_texts_430 rfl ?_ ?_
      · refine ll_iconst E (pc := 462) dL_texts_462 kc_0 ?_
        exact ll_mzreturn E hr (fun _ _ => wp0) rfl dL_texts_463 (by omega)
      · refine ll_aload_n E (pc := 433) dL_texts_433 rfl ?_
        refine ll_bipush E (pc := 434) dL_texts_434 kb_9 ?_
        refine ll_iconst E (pc := 436) dL_texts_436 kc_0 ?_
        refine ll_iconst E (pc := 437) dL_texts_437 kc_0 ?_
        refine ll_iconst E (pc := 438) dL_texts_438 kc_0 ?_
        refine ll_iconst E (pc := 439) dL_texts_439 kc_0 ?_
        refine ll_mcallH E X (pc := 440) (d := 10) [.ref (ad 0), .int (9 : Int32), .int (0 : Int32), .int (0 : Int32), .int (0 : Int32), .int (0 : Int32)] [] dL_texts_440 cvH_L_161 (fun h => cmL_call X.1 h) rfl rfl (Nat.le_of_ble_eq_true rfl) ⟨(Nat.le_of_ble_eq_true rfl), (Nat.le_of_ble_eq_true rfl)⟩ (mcd (by omega)) ?_
        intro r79 μ78
        refine ll_sipush E (pc := 443) dL_texts_443 ks_m2012 ?_
        refine ll_icmp_ne E (pc := 446) (tgt := 462) dL_texts_446 rfl ?_ ?_
        · refine ll_iconst E (pc := 462) dL_texts_462 kc_0 ?_
          exact ll_mzreturn E hr (fun _ _ => wp0) rfl dL_texts_463 (by omega)
        · refine ll_aload_n E (pc := 449) dL_texts_449 rfl ?_
          refine ll_callVi E (pc := 450) (d := 0) (ci := 8) (o9 := 0) [] [] dL_texts_450 cv_L_219 (fun h => ctX8_clearBuffer h) (Nat.le_of_ble_eq_true rfl) sx_0 ci_8 rfl rfl (Nat.le_of_ble_eq_true rfl) ⟨(Nat.le_of_ble_eq_true rfl), (Nat.le_of_ble_eq_true rfl)⟩ (mcc (by omega)) ?_
          intro r81 μ80
          refine ll_bipush E (pc := 453) dL_texts_453 kb_60 ?_
          refine ll_icmp_ne E (pc := 455) (tgt := 462) dL_texts_455 rfl ?_ ?_
          · refine ll_iconst E (pc := 462) dL_texts_462 kc_0 ?_
            exact ll_mzreturn E hr (fun _ _ => wp0) rfl dL_texts_463 (by omega)
          · refine ll_iconst E (pc := 458) dL_texts_458 kc_1 ?_
            refine ll_goto E (pc := 459) (tgt := 463) dL_texts_459 rfl ?_
            exact ll_mzreturn E hr (fun _ _ => wp0) rfl dL_texts_463 (by omega)
    · refine ll_aload_n E (pc := 351) dL_texts_351 rfl ?_
      refine ll_iload_n E (pc := 352) dL_texts_352 rfl ?_
      refine ll_iconst E (pc := 353) dL_texts_353 kc_4 ?_
      refine ll_irem E (pc := 354) dL_texts_354 ?_
      intro r82
      refine ll_if_ne E (pc := 355) (tgt := 363) dL_texts_355 rfl ?_ ?_
      · refine ll_iload_n E (pc := 363) dL_texts_363 rfl ?_
        refine ll_iconst E (pc := 364) dL_texts_364 kc_4 ?_
        refine ll_irem E (pc := 365) dL_texts_365 ?_
        intro r83
        refine ll_iconst E (pc := 366) dL_texts_366 kc_1 ?_
        refine ll_icmp_ne E (pc := 367) (tgt := 375) dL_texts_367 rfl ?_ ?_
        · refine ll_iload_n E (pc := 375) dL_texts_375 rfl ?_
          refine ll_iconst E (pc := 376) dL_texts_376 kc_4 ?_
          refine ll_irem E (pc := 377) dL_texts_377 ?_
          intro r84
          refine ll_iconst E (pc := 378) dL_texts_378 kc_2 ?_
          refine ll_icmp_ne E (pc := 379) (tgt := 387) dL_texts_379 rfl ?_ ?_
          · refine ll_bipush E (pc := 387) dL_texts_387 kb_59 ?_
            exact ll_lo (lo' := [some (.ref (ad 0)), some (.int v1)]) ⟨rfl, rfl, trivial⟩ (kL_texts_L389 E X hr (X345 := 1 * n + 4) (fun y0 ν c9 h9 => ih y0 ν c9 (by omega)) v1 (59 : Int32) μ _ (by omega))
          · refine ll_bipush E (pc := 382) dL_texts_382 kb_51 ?_
            refine ll_goto E (pc := 384) (tgt := 389) dL_texts_384 rfl ?_
            exact ll_lo (lo' := [some (.ref (ad 0)), some (.int v1)]) ⟨rfl, rfl, trivial⟩ (kL_texts_L389 E X hr (X345 := 1 * n + 4) (fun y0 ν c9 h9 => ih y0 ν c9 (by omega)) v1 (51 : Int32) μ _ (by omega))
        · refine ll_bipush E (pc := 370) dL_texts_370 kb_61 ?_
          refine ll_goto E (pc := 372) (tgt := 389) dL_texts_372 rfl ?_
          exact ll_lo (lo' := [some (.ref (ad 0)), some (.int v1)]) ⟨rfl, rfl, trivial⟩ (kL_texts_L389 E X hr (X345 := 1 * n + 4) (fun y0 ν c9 h9 => ih y0 ν c9 (by omega)) v1 (61 : Int32) μ _ (by omega))
      · refine ll_bipush E (pc := 358) dL_texts_358 kb_98 ?_
        refine ll_goto E (pc := 360) (tgt := 389) dL_texts_360 rfl ?_
        exact ll_lo (lo' := [some (.ref (ad 0)), some (.int v1)]) ⟨rfl, rfl, trivial⟩ (kL_texts_L389 E X hr (X345 := 1 * n + 4) (fun y0 ν c9 h9 => ih y0 ν c9 (by omega)) v1 (98 : Int32) μ _ (by omega))
set_option maxRecDepth 20000 in
theorem kL_texts_L343 {p : Program} {l : Launch} {e : Env} {s : State} {m : MethodId} {args : Array Value} {below : List Frame} {meth : Method} {c : Code} {D : va_G} {cI cR : ClassId} {ad : Nat → Nat} {A0 : Nat → Prop} (E : EV p s m args meth c cL_texts 2 RL D cI cR ad shX NX A0) (X : EM9 l s A0) (hr : meth.sig.returnType = (some .boolean))  (μ : Mem) (cl : Nat) (hc0 : cl + (66) ≤ 1283) : LL p l e (RX 11 1283) s m args below meth c 2 D cI cR ad shX NX A0 (fun (r : Int32) μ' => KM below args s D cI cR (fun _ => 0) shX 0 A0 1283 (some (.int r)) μ') (fL_texts_L343 μ) cl (6 * cl) 343 [some (.ref (ad 0)), none] [] μ := by
  rw [fL_texts_L343]
  refine ll_iconst E (pc := 343) dL_texts_343 kc_0 ?_
  refine ll_istore_n E (pc := 344) (lo' := [some (.ref (ad 0)), some (.int (0 : Int32))]) dL_texts_344 (Nat.le_of_ble_eq_true rfl) rfl rfl ?_
  exact ll_lo (lo' := [some (.ref (ad 0)), some (.int (0 : Int32))]) ⟨rfl, rfl, trivial⟩ (kL_texts_L345 E X hr 62 (0 : Int32) μ _ (by omega))
set_option maxRecDepth 20000 in
theorem kL_texts_L256 {p : Program} {l : Launch} {e : Env} {s : State} {m : MethodId} {args : Array Value} {below : List Frame} {meth : Method} {c : Code} {D : va_G} {cI cR : ClassId} {ad : Nat → Nat} {A0 : Nat → Prop} (E : EV p s m args meth c cL_texts 2 RL D cI cR ad shX NX A0) (X : EM9 l s A0) (hr : meth.sig.returnType = (some .boolean))  (μ : Mem) (cl : Nat) (hc0 : cl + (83) ≤ 1283) : LL p l e (RX 11 1283) s m args below meth c 2 D cI cR ad shX NX A0 (fun (r : Int32) μ' => KM below args s D cI cR (fun _ => 0) shX 0 A0 1283 (some (.int r)) μ') (fL_texts_L256 μ) cl (6 * cl) 256 [some (.ref (ad 0)), none] [] μ := by
  rw [fL_texts_L256]
  refine ll_aload_n E (pc := 256) dL_texts_256 rfl ?_
  refine ll_bipush E (pc := 257) dL_texts_257 kb_9 ?_
  refine ll_iconst E (pc := 259) dL_texts_259 kc_0 ?_
  refine ll_iconst E (pc := 260) dL_texts_260 kc_0 ?_
  refine ll_iconst E (pc := 261) dL_texts_261 kc_0 ?_
  refine ll_iconst E (pc := 262) dL_texts_262 kc_0 ?_
  refine ll_mcallH E X (pc := 263) (d := 10) [.ref (ad 0), .int (9 : Int32), .int (0 : Int32), .int (0 : Int32), .int (0 : Int32), .int (0 : Int32)] [] dL_texts_263 cvH_L_161 (fun h => cmL_call X.1 h) rfl rfl (Nat.le_of_ble_eq_true rfl) ⟨(Nat.le_of_ble_eq_true rfl), (Nat.le_of_ble_eq_true rfl)⟩ (mcd (by omega)) ?_
  intro r86 μ85
  refine ll_sipush E (pc := 266) dL_texts_266 ks_m2012 ?_
  refine ll_icmp_ne E (pc := 269) (tgt := 341) dL_texts_269 rfl ?_ ?_
  · refine ll_iconst E (pc := 341) dL_texts_341 kc_0 ?_
    exact ll_mzreturn E hr (fun _ _ => wp0) rfl dL_texts_342 (by omega)
  · refine ll_aload_n E (pc := 272) dL_texts_272 rfl ?_
    refine ll_callVi E (pc := 273) (d := 0) (ci := 8) (o9 := 0) [] [] dL_texts_273 cv_L_219 (fun h => ctX8_clearBuffer h) (Nat.le_of_ble_eq_true rfl) sx_0 ci_8 rfl rfl (Nat.le_of_ble_eq_true rfl) ⟨(Nat.le_of_ble_eq_true rfl), (Nat.le_of_ble_eq_true rfl)⟩ (mcc (by omega)) ?_
    intro r88 μ87
    refine ll_iconst E (pc := 276) dL_texts_276 kc_3 ?_
    refine ll_icmp_ne E (pc := 277) (tgt := 341) dL_texts_277 rfl ?_ ?_
    · refine ll_iconst E (pc := 341) dL_texts_341 kc_0 ?_
      exact ll_mzreturn E hr (fun _ _ => wp0) rfl dL_texts_342 (by omega)
    · refine ll_aload_n E (pc := 280) dL_texts_280 rfl ?_
      refine ll_ldc2 E (pc := 281) dL_texts_281 kw_L_311 ?_
      refine ll_mcallSi E X (pc := 284) (d := 8) [.ref (ad 0), .long (7006806310501760313 : Int64)] [] dL_texts_284 cv_L_209 (fun h => cmL_types X.1 h) rfl rfl (Nat.le_of_ble_eq_true rfl) ⟨(Nat.le_of_ble_eq_true rfl), (Nat.le_of_ble_eq_true rfl)⟩ (mcd (by omega)) ?_
      intro r90 μ89
      refine ll_if_eq E (pc := 287) (tgt := 341) dL_texts_287 rfl ?_ ?_
      · refine ll_iconst E (pc := 341) dL_texts_341 kc_0 ?_
        exact ll_mzreturn E hr (fun _ _ => wp0) rfl dL_texts_342 (by omega)
      · refine ll_aload_n E (pc := 290) dL_texts_290 rfl ?_
        refine ll_ycallVi E X (pc := 291) (d := 7) (mc1 := 1) (ci := 8) (o9 := 0) [] [] dL_texts_291 cv_L_60 (fun h => cxX8_addAll X.1 h) (Nat.le_of_ble_eq_true rfl) sx_0 ci_8 rfl rfl (Nat.le_of_ble_eq_true rfl) ⟨(Nat.le_of_ble_eq_true rfl), (Nat.le_of_ble_eq_true rfl)⟩ (mcd (by omega)) ?_
        intro r92 μ91
        refine ll_iconst E (pc := 294) dL_texts_294 kc_2 ?_
        refine ll_icmp_ne E (pc := 295) (tgt := 341) dL_texts_295 rfl ?_ ?_
        · refine ll_iconst E (pc := 341) dL_texts_341 kc_0 ?_
          exact ll_mzreturn E hr (fun _ _ => wp0) rfl dL_texts_342 (by omega)
        · refine ll_aload_n E (pc := 298) dL_texts_298 rfl ?_
          refine ll_iconst E (pc := 299) dL_texts_299 kc_0 ?_
          refine ll_ycallVi E X (pc := 300) (d := 8) (mc1 := 1) (ci := 8) (o9 := 0) [.int (0 : Int32)] [] dL_texts_300 cv_L_100 (fun h => cxX8_registerInOrder X.1 h) (Nat.le_of_ble_eq_true rfl) sx_0 ci_8 rfl rfl (Nat.le_of_ble_eq_true rfl) ⟨(Nat.le_of_ble_eq_true rfl), (Nat.le_of_ble_eq_true rfl)⟩ (mcd (by omega)) ?_
          intro r94 μ93
          refine ll_bipush E (pc := 303) dL_texts_303 kb_m7 ?_
          refine ll_icmp_ne E (pc := 305) (tgt := 341) dL_texts_305 rfl ?_ ?_
          · refine ll_iconst E (pc := 341) dL_texts_341 kc_0 ?_
            exact ll_mzreturn E hr (fun _ _ => wp0) rfl dL_texts_342 (by omega)
          · refine ll_aload_n E (pc := 308) dL_texts_308 rfl ?_
            refine ll_bipush E (pc := 309) dL_texts_309 kb_11 ?_
            refine ll_ycallVi E X (pc := 311) (d := 8) (mc1 := 1) (ci := 8) (o9 := 0) [.int (11 : Int32)] [] dL_texts_311 cv_L_100 (fun h => cxX8_registerInOrder X.1 h) (Nat.le_of_ble_eq_true rfl) sx_0 ci_8 rfl rfl (Nat.le_of_ble_eq_true rfl) ⟨(Nat.le_of_ble_eq_true rfl), (Nat.le_of_ble_eq_true rfl)⟩ (mcd (by omega)) ?_
            intro r96 μ95
            refine ll_bipush E (pc := 314) dL_texts_314 kb_9 ?_
            refine ll_icmp_ne E (pc := 316) (tgt := 341) dL_texts_316 rfl ?_ ?_
            · refine ll_iconst E (pc := 341) dL_texts_341 kc_0 ?_
              exact ll_mzreturn E hr (fun _ _ => wp0) rfl dL_texts_342 (by omega)
            · refine ll_aload_n E (pc := 319) dL_texts_319 rfl ?_
              refine ll_callVi E (pc := 320) (d := 0) (ci := 8) (o9 := 0) [] [] dL_texts_320 cv_L_237 (fun h => ctX8_savedStates h) (Nat.le_of_ble_eq_true rfl) sx_0 ci_8 rfl rfl (Nat.le_of_ble_eq_true rfl) ⟨(Nat.le_of_ble_eq_true rfl), (Nat.le_of_ble_eq_true rfl)⟩ (mcc (by omega)) ?_
              intro r98 μ97
              refine ll_iconst E (pc := 323) dL_texts_323 kc_1 ?_
              refine ll_icmp_ne E (pc := 324) (tgt := 341) dL_texts_324 rfl ?_ ?_
              · refine ll_iconst E (pc := 341) dL_texts_341 kc_0 ?_
                exact ll_mzreturn E hr (fun _ _ => wp0) rfl dL_texts_342 (by omega)
              · refine ll_aload_n E (pc := 327) dL_texts_327 rfl ?_
                refine ll_ycallVi E X (pc := 328) (d := 7) (mc1 := 1) (ci := 8) (o9 := 0) [] [] dL_texts_328 cv_L_64 (fun h => cxX8_undo X.1 h) (Nat.le_of_ble_eq_true rfl) sx_0 ci_8 rfl rfl (Nat.le_of_ble_eq_true rfl) ⟨(Nat.le_of_ble_eq_true rfl), (Nat.le_of_ble_eq_true rfl)⟩ (mcd (by omega)) ?_
                intro r100 μ99
                refine ll_if_ne E (pc := 331) (tgt := 341) dL_texts_331 rfl ?_ ?_
                · refine ll_iconst E (pc := 341) dL_texts_341 kc_0 ?_
                  exact ll_mzreturn E hr (fun _ _ => wp0) rfl dL_texts_342 (by omega)
                · refine ll_aload_n E (pc := 334) dL_texts_334 rfl ?_
                  refine ll_callVi E (pc := 335) (d := 0) (ci := 8) (o9 := 0) [] [] dL_texts_335 cv_L_140 (fun h => ctX8_steps h) (Nat.le_of_ble_eq_true rfl) sx_0 ci_8 rfl rfl (Nat.le_of_ble_eq_true rfl) ⟨(Nat.le_of_ble_eq_true rfl), (Nat.le_of_ble_eq_true rfl)⟩ (mcc (by omega)) ?_
                  intro r102 μ101
                  refine ll_if_eq E (pc := 338) (tgt := 343) dL_texts_338 rfl ?_ ?_
                  · exact ll_lo (lo' := [some (.ref (ad 0)), none]) ⟨rfl, trivial⟩ (kL_texts_L343 E X hr μ101 _ (by omega))
                  · refine ll_iconst E (pc := 341) dL_texts_341 kc_0 ?_
                    exact ll_mzreturn E hr (fun _ _ => wp0) rfl dL_texts_342 (by omega)
set_option maxRecDepth 20000 in
theorem kL_texts_L132 {p : Program} {l : Launch} {e : Env} {s : State} {m : MethodId} {args : Array Value} {below : List Frame} {meth : Method} {c : Code} {D : va_G} {cI cR : ClassId} {ad : Nat → Nat} {A0 : Nat → Prop} (E : EV p s m args meth c cL_texts 2 RL D cI cR ad shX NX A0) (X : EM9 l s A0) (hr : meth.sig.returnType = (some .boolean))  (μ : Mem) (cl : Nat) (hc0 : cl + (303) ≤ 1283) : LL p l e (RX 11 1283) s m args below meth c 2 D cI cR ad shX NX A0 (fun (r : Int32) μ' => KM below args s D cI cR (fun _ => 0) shX 0 A0 1283 (some (.int r)) μ') (fL_texts_L132 μ) cl (6 * cl) 132 [some (.ref (ad 0)), none] [] μ := by
  rw [fL_texts_L132]
  refine ll_aload_n E (pc := 132) dL_texts_132 rfl ?_
  refine ll_ldc2 E (pc := 133) dL_texts_133 kw_L_291 ?_
  refine ll_lconst E (pc := 136) (v := 0) dL_texts_136 rfl ?_
  refine ll_bipush E (pc := 137) dL_texts_137 kb_7 ?_
  refine ll_mcallSi E X (pc := 139) (d := 9) [.ref (ad 0), .long (25722160515202403 : Int64), .long (0 : Int64), .int (7 : Int32)] [] dL_texts_139 cv_L_269 (fun h => cmL_isError X.1 h) rfl rfl (Nat.le_of_ble_eq_true rfl) ⟨(Nat.le_of_ble_eq_true rfl), (Nat.le_of_ble_eq_true rfl)⟩ (mcd (by omega)) ?_
  intro r104 μ103
  refine ll_if_eq E (pc := 142) (tgt := 254) dL_texts_142 rfl ?_ ?_
  · refine ll_iconst E (pc := 254) dL_texts_254 kc_0 ?_
    exact ll_mzreturn E hr (fun _ _ => wp0) rfl dL_texts_255 (by omega)
  · refine ll_aload_n E (pc := 145) dL_texts_145 rfl ?_
    refine ll_ldc2 E (pc := 146) dL_texts_146 kw_L_293 ?_
    refine ll_lconst E (pc := 149) (v := 0) dL_texts_149 rfl ?_
    refine ll_iconst E (pc := 150) dL_texts_150 kc_5 ?_
    refine ll_mcallSi E X (pc := 151) (d := 9) [.ref (ad 0), .long (392489021533 : Int64), .long (0 : Int64), .int (5 : Int32)] [] dL_texts_151 cv_L_269 (fun h => cmL_isError X.1 h) rfl rfl (Nat.le_of_ble_eq_true rfl) ⟨(Nat.le_of_ble_eq_true rfl), (Nat.le_of_ble_eq_true rfl)⟩ (mcd (by omega)) ?_
    intro r106 μ105
    refine ll_if_eq E (pc := 154) (tgt := 254) dL_texts_154 rfl ?_ ?_
    · refine ll_iconst E (pc := 254) dL_texts_254 kc_0 ?_
      exact ll_mzreturn E hr (fun _ _ => wp0) rfl dL_texts_255 (by omega)
    · refine ll_aload_n E (pc := 157) dL_texts_157 rfl ?_
      refine ll_ldc2 E (pc := 158) dL_texts_158 kw_L_295 ?_
      refine ll_lconst E (pc := 161) (v := 0) dL_texts_161 rfl ?_
      refine ll_iconst E (pc := 162) dL_texts_162 kc_0 ?_
      refine ll_mcallSi E X (pc := 163) (d := 9) [.ref (ad 0), .long (7159089 : Int64), .long (0 : Int64), .int (0 : Int32)] [] dL_texts_163 cv_L_269 (fun h => cmL_isError X.1 h) rfl rfl (Nat.le_of_ble_eq_true rfl) ⟨(Nat.le_of_ble_eq_true rfl), (Nat.le_of_ble_eq_true rfl)⟩ (mcd (by omega)) ?_
      intro r108 μ107
      refine ll_if_eq E (pc := 166) (tgt := 254) dL_texts_166 rfl ?_ ?_
      · refine ll_iconst E (pc := 254) dL_texts_254 kc_0 ?_
        exact ll_mzreturn E hr (fun _ _ => wp0) rfl dL_texts_255 (by omega)
      · refine ll_aload_n E (pc := 169) dL_texts_169 rfl ?_
        refine ll_ldc2 E (pc := 170) dL_texts_170 kw_L_297 ?_
        refine ll_lconst E (pc := 173) (v := 0) dL_texts_173 rfl ?_
        refine ll_iconst E (pc := 174) dL_texts_174 kc_4 ?_
        refine ll_mcallSi E X (pc := 175) (d := 9) [.ref (ad 0), .long (1631400251 : Int64), .long (0 : Int64), .int (4 : Int32)] [] dL_texts_175 cv_L_269 (fun h => cmL_isError X.1 h) rfl rfl (Nat.le_of_ble_eq_true rfl) ⟨(Nat.le_of_ble_eq_true rfl), (Nat.le_of_ble_eq_true rfl)⟩ (mcd (by omega)) ?_
        intro r110 μ109
        refine ll_if_eq E (pc := 178) (tgt := 254) dL_texts_178 rfl ?_ ?_
        · refine ll_iconst E (pc := 254) dL_texts_254 kc_0 ?_
          exact ll_mzreturn E hr (fun _ _ => wp0) rfl dL_texts_255 (by omega)
        · refine ll_aload_n E (pc := 181) dL_texts_181 rfl ?_
          refine ll_ldc2 E (pc := 182) dL_texts_182 kw_L_299 ?_
          refine ll_lconst E (pc := 185) (v := 0) dL_texts_185 rfl ?_
          refine ll_iconst E (pc := 186) dL_texts_186 kc_3 ?_
          refine ll_mcallSi E X (pc := 187) (d := 9) [.ref (ad 0), .long (417638198577 : Int64), .long (0 : Int64), .int (3 : Int32)] [] dL_texts_187 cv_L_269 (fun h => cmL_isError X.1 h) rfl rfl (Nat.le_of_ble_eq_true rfl) ⟨(Nat.le_of_ble_eq_true rfl), (Nat.le_of_ble_eq_true rfl)⟩ (mcd (by omega)) ?_
          intro r112 μ111
          refine ll_if_eq E (pc := 190) (tgt := 254) dL_texts_190 rfl ?_ ?_
          · refine ll_iconst E (pc := 254) dL_texts_254 kc_0 ?_
            exact ll_mzreturn E hr (fun _ _ => wp0) rfl dL_texts_255 (by omega)
          · refine ll_aload_n E (pc := 193) dL_texts_193 rfl ?_
            refine ll_lconst E (pc := 194) (v := 0) dL_texts_194 rfl ?_
            refine ll_lconst E (pc := 195) (v := 0) dL_texts_195 rfl ?_
            refine ll_iconst E (pc := 196) dL_texts_196 kc_0 ?_
            refine ll_mcallSi E X (pc := 197) (d := 9) [.ref (ad 0), .long (0 : Int64), .long (0 : Int64), .int (0 : Int32)] [] dL_texts_197 cv_L_269 (fun h => cmL_isError X.1 h) rfl rfl (Nat.le_of_ble_eq_true rfl) ⟨(Nat.le_of_ble_eq_true rfl), (Nat.le_of_ble_eq_true rfl)⟩ (mcd (by omega)) ?_
            intro r114 μ113
            refine ll_if_eq E (pc := 200) (tgt := 254) dL_texts_200 rfl ?_ ?_
            · refine ll_iconst E (pc := 254) dL_texts_254 kc_0 ?_
              exact ll_mzreturn E hr (fun _ _ => wp0) rfl dL_texts_255 (by omega)
            · refine ll_aload_n E (pc := 203) dL_texts_203 rfl ?_
              refine ll_ldc2 E (pc := 204) dL_texts_204 kw_L_301 ?_
              refine ll_ldc2 E (pc := 207) dL_texts_207 kw_L_303 ?_
              refine ll_bipush E (pc := 210) dL_texts_210 kb_10 ?_
              refine ll_mcallSi E X (pc := 212) (d := 9) [.ref (ad 0), .long (7006806280436333921 : Int64), .long (24172 : Int64), .int (10 : Int32)] [] dL_texts_212 cv_L_269 (fun h => cmL_isError X.1 h) rfl rfl (Nat.le_of_ble_eq_true rfl) ⟨(Nat.le_of_ble_eq_true rfl), (Nat.le_of_ble_eq_true rfl)⟩ (mcd (by omega)) ?_
              intro r116 μ115
              refine ll_if_eq E (pc := 215) (tgt := 254) dL_texts_215 rfl ?_ ?_
              · refine ll_iconst E (pc := 254) dL_texts_254 kc_0 ?_
                exact ll_mzreturn E hr (fun _ _ => wp0) rfl dL_texts_255 (by omega)
              · refine ll_aload_n E (pc := 218) dL_texts_218 rfl ?_
                refine ll_ldc2 E (pc := 219) dL_texts_219 kw_L_305 ?_
                refine ll_lconst E (pc := 222) (v := 0) dL_texts_222 rfl ?_
                refine ll_iconst E (pc := 223) dL_texts_223 kc_5 ?_
                refine ll_mcallSi E X (pc := 224) (d := 9) [.ref (ad 0), .long (27370564584942436 : Int64), .long (0 : Int64), .int (5 : Int32)] [] dL_texts_224 cv_L_269 (fun h => cmL_isError X.1 h) rfl rfl (Nat.le_of_ble_eq_true rfl) ⟨(Nat.le_of_ble_eq_true rfl), (Nat.le_of_ble_eq_true rfl)⟩ (mcd (by omega)) ?_
                intro r118 μ117
                refine ll_if_eq E (pc := 227) (tgt := 254) dL_texts_227 rfl ?_ ?_
                · refine ll_iconst E (pc := 254) dL_texts_254 kc_0 ?_
                  exact ll_mzreturn E hr (fun _ _ => wp0) rfl dL_texts_255 (by omega)
                · refine ll_aload_n E (pc := 230) dL_texts_230 rfl ?_
                  refine ll_ldc2 E (pc := 231) dL_texts_231 kw_L_307 ?_
                  refine ll_lconst E (pc := 234) (v := 0) dL_texts_234 rfl ?_
                  refine ll_iconst E (pc := 235) dL_texts_235 kc_1 ?_
                  refine ll_mcallSi E X (pc := 236) (d := 9) [.ref (ad 0), .long (392673571165 : Int64), .long (0 : Int64), .int (1 : Int32)] [] dL_texts_236 cv_L_269 (fun h => cmL_isError X.1 h) rfl rfl (Nat.le_of_ble_eq_true rfl) ⟨(Nat.le_of_ble_eq_true rfl), (Nat.le_of_ble_eq_true rfl)⟩ (mcd (by omega)) ?_
                  intro r120 μ119
                  refine ll_if_eq E (pc := 239) (tgt := 254) dL_texts_239 rfl ?_ ?_
                  · refine ll_iconst E (pc := 254) dL_texts_254 kc_0 ?_
                    exact ll_mzreturn E hr (fun _ _ => wp0) rfl dL_texts_255 (by omega)
                  · refine ll_aload_n E (pc := 242) dL_texts_242 rfl ?_
                    refine ll_ldc2 E (pc := 243) dL_texts_243 kw_L_309 ?_
                    refine ll_lconst E (pc := 246) (v := 0) dL_texts_246 rfl ?_
                    refine ll_iconst E (pc := 247) dL_texts_247 kc_0 ?_
                    refine ll_mcallSi E X (pc := 248) (d := 9) [.ref (ad 0), .long (4275505 : Int64), .long (0 : Int64), .int (0 : Int32)] [] dL_texts_248 cv_L_269 (fun h => cmL_isError X.1 h) rfl rfl (Nat.le_of_ble_eq_true rfl) ⟨(Nat.le_of_ble_eq_true rfl), (Nat.le_of_ble_eq_true rfl)⟩ (mcd (by omega)) ?_
                    intro r122 μ121
                    refine ll_if_ne E (pc := 251) (tgt := 256) dL_texts_251 rfl ?_ ?_
                    · exact ll_lo (lo' := [some (.ref (ad 0)), none]) ⟨rfl, trivial⟩ (kL_texts_L256 E X hr μ121 _ (by omega))
                    · refine ll_iconst E (pc := 254) dL_texts_254 kc_0 ?_
                      exact ll_mzreturn E hr (fun _ _ => wp0) rfl dL_texts_255 (by omega)
set_option maxRecDepth 20000 in
theorem cmL_texts {l : Launch} {D : va_G} {cI cR : ClassId} {μ : Mem} (hl9 : l.stackTraces = false) {r : Int32} {μ' : Mem} (hf : fL_texts μ = some (r, μ')) : CM l yL_texts (.code yL_texts cL_texts 2 (some .boolean)) 11 1283 D cI cR (fun _ => 0) shX 0 [] μ (some (.int r)) μ' :=
  cm_of (own := RL) (ov := fun (r : Int32) => (some (.int r))) hl9 (by decide +kernel) rfl (Nat.le_of_ble_eq_true rfl) (fun p e s m below meth c A0 E X hr => by
    refine ll_lo (lo' := [none, none]) trivial ?_
    rw [fL_texts]
    refine ll_newX E (pc := 0) wn_29 wn_1 wn_2 wn_c179 wn_3 wn_4 dL_texts_0 dL_texts_3 dL_texts_4 (Nat.le_of_ble_eq_true rfl) ⟨(Nat.le_of_ble_eq_true rfl), (Nat.le_of_ble_eq_true rfl)⟩ (mcd (by omega)) (fun ad E => ?_)
    refine ll_astore_n E (pc := 7) (lo' := [some (.ref (ad 0)), none]) dL_texts_7 (Nat.le_of_ble_eq_true rfl) rfl rfl ?_
    refine ll_aload_n E (pc := 8) dL_texts_8 rfl ?_
    refine ll_ldc2 E (pc := 9) dL_texts_9 kw_L_267 ?_
    refine ll_lconst E (pc := 12) (v := 0) dL_texts_12 rfl ?_
    refine ll_iconst E (pc := 13) dL_texts_13 kc_3 ?_
    refine ll_mcallSi E X (pc := 14) (d := 9) [.ref (ad 0), .long (6372661 : Int64), .long (0 : Int64), .int (3 : Int32)] [] dL_texts_14 cv_L_269 (fun h => cmL_isError X.1 h) rfl rfl (Nat.le_of_ble_eq_true rfl) ⟨(Nat.le_of_ble_eq_true rfl), (Nat.le_of_ble_eq_true rfl)⟩ (mcd (by omega)) ?_
    intro r124 μ123
    refine ll_if_eq E (pc := 17) (tgt := 130) dL_texts_17 rfl ?_ ?_
    · refine ll_iconst E (pc := 130) dL_texts_130 kc_0 ?_
      exact ll_mzreturn E hr (fun _ _ => wp0) rfl dL_texts_131 (by omega)
    · refine ll_aload_n E (pc := 20) dL_texts_20 rfl ?_
      refine ll_ldc2 E (pc := 21) dL_texts_21 kw_L_273 ?_
      refine ll_lconst E (pc := 24) (v := 0) dL_texts_24 rfl ?_
      refine ll_iconst E (pc := 25) dL_texts_25 kc_3 ?_
      refine ll_mcallSi E X (pc := 26) (d := 9) [.ref (ad 0), .long (1631399989 : Int64), .long (0 : Int64), .int (3 : Int32)] [] dL_texts_26 cv_L_269 (fun h => cmL_isError X.1 h) rfl rfl (Nat.le_of_ble_eq_true rfl) ⟨(Nat.le_of_ble_eq_true rfl), (Nat.le_of_ble_eq_true rfl)⟩ (mcd (by omega)) ?_
      intro r126 μ125
      refine ll_if_eq E (pc := 29) (tgt := 130) dL_texts_29 rfl ?_ ?_
      · refine ll_iconst E (pc := 130) dL_texts_130 kc_0 ?_
        exact ll_mzreturn E hr (fun _ _ => wp0) rfl dL_texts_131 (by omega)
      · refine ll_aload_n E (pc := 32) dL_texts_32 rfl ?_
        refine ll_ldc2 E (pc := 33) dL_texts_33 kw_L_275 ?_
        refine ll_lconst E (pc := 36) (v := 0) dL_texts_36 rfl ?_
        refine ll_iconst E (pc := 37) dL_texts_37 kc_4 ?_
        refine ll_mcallSi E X (pc := 38) (d := 9) [.ref (ad 0), .long (417638461488 : Int64), .long (0 : Int64), .int (4 : Int32)] [] dL_texts_38 cv_L_269 (fun h => cmL_isError X.1 h) rfl rfl (Nat.le_of_ble_eq_true rfl) ⟨(Nat.le_of_ble_eq_true rfl), (Nat.le_of_ble_eq_true rfl)⟩ (mcd (by omega)) ?_
        intro r128 μ127
        refine ll_if_eq E (pc := 41) (tgt := 130) dL_texts_41 rfl ?_ ?_
        · refine ll_iconst E (pc := 130) dL_texts_130 kc_0 ?_
          exact ll_mzreturn E hr (fun _ _ => wp0) rfl dL_texts_131 (by omega)
        · refine ll_aload_n E (pc := 44) dL_texts_44 rfl ?_
          refine ll_ldc2 E (pc := 45) dL_texts_45 kw_L_277 ?_
          refine ll_lconst E (pc := 48) (v := 0) dL_texts_48 rfl ?_
          refine ll_iconst E (pc := 49) dL_texts_49 kc_3 ?_
          refine ll_mcallSi E X (pc := 50) (d := 9) [.ref (ad 0), .long (6372653 : Int64), .long (0 : Int64), .int (3 : Int32)] [] dL_texts_50 cv_L_269 (fun h => cmL_isError X.1 h) rfl rfl (Nat.le_of_ble_eq_true rfl) ⟨(Nat.le_of_ble_eq_true rfl), (Nat.le_of_ble_eq_true rfl)⟩ (mcd (by omega)) ?_
          intro r130 μ129
          refine ll_if_eq E (pc := 53) (tgt := 130) dL_texts_53 rfl ?_ ?_
          · refine ll_iconst E (pc := 130) dL_texts_130 kc_0 ?_
            exact ll_mzreturn E hr (fun _ _ => wp0) rfl dL_texts_131 (by omega)
          · refine ll_aload_n E (pc := 56) dL_texts_56 rfl ?_
            refine ll_ldc2 E (pc := 57) dL_texts_57 kw_L_279 ?_
            refine ll_lconst E (pc := 60) (v := 0) dL_texts_60 rfl ?_
            refine ll_iconst E (pc := 61) dL_texts_61 kc_3 ?_
            refine ll_mcallSi E X (pc := 62) (d := 9) [.ref (ad 0), .long (6372706 : Int64), .long (0 : Int64), .int (3 : Int32)] [] dL_texts_62 cv_L_269 (fun h => cmL_isError X.1 h) rfl rfl (Nat.le_of_ble_eq_true rfl) ⟨(Nat.le_of_ble_eq_true rfl), (Nat.le_of_ble_eq_true rfl)⟩ (mcd (by omega)) ?_
            intro r132 μ131
            refine ll_if_eq E (pc := 65) (tgt := 130) dL_texts_65 rfl ?_ ?_
            · refine ll_iconst E (pc := 130) dL_texts_130 kc_0 ?_
              exact ll_mzreturn E hr (fun _ _ => wp0) rfl dL_texts_131 (by omega)
            · refine ll_aload_n E (pc := 68) dL_texts_68 rfl ?_
              refine ll_ldc2 E (pc := 69) dL_texts_69 kw_L_281 ?_
              refine ll_lconst E (pc := 72) (v := 0) dL_texts_72 rfl ?_
              refine ll_iconst E (pc := 73) dL_texts_73 kc_5 ?_
              refine ll_mcallSi E X (pc := 74) (d := 9) [.ref (ad 0), .long (417641671523 : Int64), .long (0 : Int64), .int (5 : Int32)] [] dL_texts_74 cv_L_269 (fun h => cmL_isError X.1 h) rfl rfl (Nat.le_of_ble_eq_true rfl) ⟨(Nat.le_of_ble_eq_true rfl), (Nat.le_of_ble_eq_true rfl)⟩ (mcd (by omega)) ?_
              intro r134 μ133
              refine ll_if_eq E (pc := 77) (tgt := 130) dL_texts_77 rfl ?_ ?_
              · refine ll_iconst E (pc := 130) dL_texts_130 kc_0 ?_
                exact ll_mzreturn E hr (fun _ _ => wp0) rfl dL_texts_131 (by omega)
              · refine ll_aload_n E (pc := 80) dL_texts_80 rfl ?_
                refine ll_ldc2 E (pc := 81) dL_texts_81 kw_L_283 ?_
                refine ll_lconst E (pc := 84) (v := 0) dL_texts_84 rfl ?_
                refine ll_iconst E (pc := 85) dL_texts_85 kc_3 ?_
                refine ll_mcallSi E X (pc := 86) (d := 9) [.ref (ad 0), .long (417641672547 : Int64), .long (0 : Int64), .int (3 : Int32)] [] dL_texts_86 cv_L_269 (fun h => cmL_isError X.1 h) rfl rfl (Nat.le_of_ble_eq_true rfl) ⟨(Nat.le_of_ble_eq_true rfl), (Nat.le_of_ble_eq_true rfl)⟩ (mcd (by omega)) ?_
                intro r136 μ135
                refine ll_if_eq E (pc := 89) (tgt := 130) dL_texts_89 rfl ?_ ?_
                · refine ll_iconst E (pc := 130) dL_texts_130 kc_0 ?_
                  exact ll_mzreturn E hr (fun _ _ => wp0) rfl dL_texts_131 (by omega)
                · refine ll_aload_n E (pc := 92) dL_texts_92 rfl ?_
                  refine ll_ldc2 E (pc := 93) dL_texts_93 kw_L_285 ?_
                  refine ll_lconst E (pc := 96) (v := 0) dL_texts_96 rfl ?_
                  refine ll_bipush E (pc := 97) dL_texts_97 kb_8 ?_
                  refine ll_mcallSi E X (pc := 99) (d := 9) [.ref (ad 0), .long (7006857072447926621 : Int64), .long (0 : Int64), .int (8 : Int32)] [] dL_texts_99 cv_L_269 (fun h => cmL_isError X.1 h) rfl rfl (Nat.le_of_ble_eq_true rfl) ⟨(Nat.le_of_ble_eq_true rfl), (Nat.le_of_ble_eq_true rfl)⟩ (mcd (by omega)) ?_
                  intro r138 μ137
                  refine ll_if_eq E (pc := 102) (tgt := 130) dL_texts_102 rfl ?_ ?_
                  · refine ll_iconst E (pc := 130) dL_texts_130 kc_0 ?_
                    exact ll_mzreturn E hr (fun _ _ => wp0) rfl dL_texts_131 (by omega)
                  · refine ll_aload_n E (pc := 105) dL_texts_105 rfl ?_
                    refine ll_ldc2 E (pc := 106) dL_texts_106 kw_L_287 ?_
                    refine ll_lconst E (pc := 109) (v := 0) dL_texts_109 rfl ?_
                    refine ll_bipush E (pc := 110) dL_texts_110 kb_6 ?_
                    refine ll_mcallSi E X (pc := 112) (d := 9) [.ref (ad 0), .long (7006857072447926877 : Int64), .long (0 : Int64), .int (6 : Int32)] [] dL_texts_112 cv_L_269 (fun h => cmL_isError X.1 h) rfl rfl (Nat.le_of_ble_eq_true rfl) ⟨(Nat.le_of_ble_eq_true rfl), (Nat.le_of_ble_eq_true rfl)⟩ (mcd (by omega)) ?_
                    intro r140 μ139
                    refine ll_if_eq E (pc := 115) (tgt := 130) dL_texts_115 rfl ?_ ?_
                    · refine ll_iconst E (pc := 130) dL_texts_130 kc_0 ?_
                      exact ll_mzreturn E hr (fun _ _ => wp0) rfl dL_texts_131 (by omega)
                    · refine ll_aload_n E (pc := 118) dL_texts_118 rfl ?_
                      refine ll_ldc2 E (pc := 119) dL_texts_119 kw_L_289 ?_
                      refine ll_lconst E (pc := 122) (v := 0) dL_texts_122 rfl ?_
                      refine ll_iconst E (pc := 123) dL_texts_123 kc_4 ?_
                      refine ll_mcallSi E X (pc := 124) (d := 9) [.ref (ad 0), .long (27370535439380829 : Int64), .long (0 : Int64), .int (4 : Int32)] [] dL_texts_124 cv_L_269 (fun h => cmL_isError X.1 h) rfl rfl (Nat.le_of_ble_eq_true rfl) ⟨(Nat.le_of_ble_eq_true rfl), (Nat.le_of_ble_eq_true rfl)⟩ (mcd (by omega)) ?_
                      intro r142 μ141
                      refine ll_if_ne E (pc := 127) (tgt := 132) dL_texts_127 rfl ?_ ?_
                      · exact ll_lo (lo' := [some (.ref (ad 0)), none]) ⟨rfl, trivial⟩ (kL_texts_L132 E X hr μ141 _ (by omega))
                      · refine ll_iconst E (pc := 130) dL_texts_130 kc_0 ?_
                        exact ll_mzreturn E hr (fun _ _ => wp0) rfl dL_texts_131 (by omega)) hf
