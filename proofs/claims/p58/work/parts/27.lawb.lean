def fL_seen_L126 (K80 : Int64 → Int32 → Mem → Option (Int64 × Mem)) : Nat → Int64 → Int32 → Int32 → Mem → Option (Int64 × Mem)
  | 0, _, _, _, _ => none
  | n + 1, v1, v3, v4, μ =>   bd (fX8_steps μ) fun r32 μ31 =>
  if r32 ≤ v4 then
  K80 v1 (v3 + (1 : Int32)) μ31
  else
  bz (fX8_separation μ31 v3 v4) fun r34 μ33 =>
  bz (fX8_carried μ33 v3 v4) fun r36 μ35 =>
  fL_seen_L126 K80 n (((31 : Int64) * (((31 : Int64) * v1) + (Int32.toInt64 r34))) + (Int32.toInt64 r36)) v3 (v4 + (1 : Int32)) μ35
def fL_seen_L92 (K80 : Int64 → Int32 → Mem → Option (Int64 × Mem)) : Nat → Int64 → Int32 → Int32 → Mem → Option (Int64 × Mem)
  | 0, _, _, _, _ => none
  | n + 1, v1, v3, v4, μ =>   if (19 : Int32) ≤ v4 then
  fL_seen_L126 K80 22 v1 v3 (0 : Int32) μ
  else
  bd (fL_call μ v4 v3 (0 : Int32) (0 : Int32) (0 : Int32)) fun r38 μ37 =>
  fL_seen_L92 K80 n (((31 : Int64) * v1) + (Int32.toInt64 r38)) v3 (v4 + (1 : Int32)) μ37
def fL_seen_L177 : Nat → Int64 → Int32 → Mem → Option (Int64 × Mem)
  | 0, _, _, _ => none
  | n + 1, v1, v3, μ =>   if (12 : Int32) ≤ v3 then
  some (v1, μ)
  else
  bz (fX8_registerInOrder μ v3) fun r40 μ39 =>
  bz (fX8_cellInOrder μ39 v3) fun r42 μ41 =>
  bz (fX8_registerInBundles μ41 v3) fun r44 μ43 =>
  fL_seen_L177 n (((31 : Int64) * (((31 : Int64) * (((31 : Int64) * v1) + (Int32.toInt64 r40))) + (Int32.toInt64 r42))) + (Int32.toInt64 r44)) (v3 + (1 : Int32)) μ43
def fL_seen_L80 : Nat → Int64 → Int32 → Mem → Option (Int64 × Mem)
  | 0, _, _, _ => none
  | n + 1, v1, v3, μ =>   bd (fX8_steps μ) fun r46 μ45 =>
  if r46 ≤ v3 then
  fL_seen_L177 14 v1 (0 : Int32) μ45
  else
  fL_seen_L92 (fL_seen_L80 n) 9 v1 v3 (12 : Int32) μ45
def fL_seen (μ : Mem) : Option (Int64 × Mem) :=
  bd (fX8_steps μ) fun r48 μ47 =>
  bd (fX8_bundles μ47) fun r50 μ49 =>
  bd (fX8_whyWrong μ49) fun r52 μ51 =>
  bd (fX8_wrongAt μ51) fun r54 μ53 =>
  bd (fX8_wouldPack μ53) fun r56 μ55 =>
  bd (fX8_beatByUnits μ55) fun r58 μ57 =>
  bd (fX8_jumpBundle μ57) fun r60 μ59 =>
  fL_seen_L80 22 (((31 : Int64) * (((31 : Int64) * (((31 : Int64) * (((31 : Int64) * (((31 : Int64) * (((31 : Int64) * (((31 : Int64) * (3588 : Int64)) + (Int32.toInt64 r48))) + (Int32.toInt64 r50))) + (Int32.toInt64 r52))) + (Int32.toInt64 r54))) + (Int32.toInt64 r56))) + (Int32.toInt64 r58))) + (Int32.toInt64 r60)) (0 : Int32) μ59
theorem kL_seen_L126 {p : Program} {l : Launch} {e : Env} {s : State} {m : MethodId} {args : Array Value} {below : List Frame} {meth : Method} {c : Code} {D : va_G} {cI cR : ClassId} {ad : Nat → Nat} {A0 : Nat → Prop} (E : EV p s m args meth c cL_seen 5 RL D cI cR ad shX NX A0) (X : EM9 l s A0) (hr : meth.sig.returnType = (some .long)) {K80 : Int64 → Int32 → Mem → Option (Int64 × Mem)} {X80 : Nat} (hK80 : ∀ (v1 : Int64) (v3 : Int32) (μ : Mem) (cl : Nat), cl + X80 ≤ 2438 → LL p l e (RX 11 2438) s m args below meth c 5 D cI cR ad shX NX A0 (fun (r : Int64) μ' => KM below args s D cI cR ad shX NX A0 2438 (some (.long r)) μ') (K80 v1 v3 μ) cl (6 * cl) 80 [some (.ref (ad 0)), some (.long v1), none, some (.int v3), none] [] μ) (n : Nat) : ∀ (v1 : Int64) (v3 : Int32) (v4 : Int32) (μ : Mem) (cl : Nat), cl + (4 * n + 0 + X80) ≤ 2438 → LL p l e (RX 11 2438) s m args below meth c 5 D cI cR ad shX NX A0 (fun (r : Int64) μ' => KM below args s D cI cR ad shX NX A0 2438 (some (.long r)) μ') (fL_seen_L126 K80 n v1 v3 v4 μ) cl (6 * cl) 126 [some (.ref (ad 0)), some (.long v1), none, some (.int v3), some (.int v4)] [] μ := by
  induction n with
  | zero =>
    intros
    exact ll_none
  | succ n ih =>
    intro v1 v3 v4 μ cl hc0
    rw [fL_seen_L126]
    refine ll_iload E (pc := 126) dL_seen_126 rfl ?_
    refine ll_aload_n E (pc := 128) dL_seen_128 rfl ?_
    refine ll_callVi E (pc := 129) (d := 0) (ci := 8) (o9 := 0) [] [.int v4] dL_seen_129 cv_L_140 (fun h => ctX8_steps h) (Nat.le_of_ble_eq_true rfl) sx_0 ci_8 rfl rfl (Nat.le_of_ble_eq_true rfl) ⟨(Nat.le_of_ble_eq_true rfl), (Nat.le_of_ble_eq_true rfl)⟩ (mcc (by omega)) ?_
    intro r32 μ31
    refine ll_icmp_ge E (pc := 132) (tgt := 169) dL_seen_132 rfl ?_ ?_
    · refine ll_iinc E (pc := 169) (lo' := [some (.ref (ad 0)), some (.long v1), none, some (.int (v3 + (1 : Int32))), some (.int v4)]) dL_seen_169 rfl kc_1 (Nat.le_of_ble_eq_true rfl) rfl rfl ?_
      refine ll_goto E (pc := 172) (tgt := 80) dL_seen_172 rfl ?_
      exact ll_lo (lo' := [some (.ref (ad 0)), some (.long v1), none, some (.int (v3 + (1 : Int32))), none]) ⟨rfl, rfl, rfl, trivial⟩ (hK80 v1 (v3 + (1 : Int32)) μ31 _ (by omega))
    · refine ll_ldc2 E (pc := 135) dL_seen_135 kw_L_138 ?_
      refine ll_ldc2 E (pc := 138) dL_seen_138 kw_L_138 ?_
      refine ll_lload_n E (pc := 141) dL_seen_141 rfl ?_
      refine ll_lmul E (pc := 142) dL_seen_142 ?_
      refine ll_aload_n E (pc := 143) dL_seen_143 rfl ?_
      refine ll_iload_n E (pc := 144) dL_seen_144 rfl ?_
      refine ll_iload E (pc := 145) dL_seen_145 rfl ?_
      refine ll_ycallVi E X (pc := 147) (d := 8) (mc1 := 2) (ci := 8) (o9 := 0) [.int v3, .int v4] [.long ((31 : Int64) * v1), .long (31 : Int64)] dL_seen_147 cv_L_94 (fun h => cxX8_separation X.1 h) (Nat.le_of_ble_eq_true rfl) sx_0 ci_8 rfl rfl (Nat.le_of_ble_eq_true rfl) ⟨(Nat.le_of_ble_eq_true rfl), (Nat.le_of_ble_eq_true rfl)⟩ (mcd (by omega)) ?_
      intro r34 μ33
      refine ll_i2l E (pc := 150) dL_seen_150 ?_
      refine ll_ladd E (pc := 151) dL_seen_151 ?_
      refine ll_lmul E (pc := 152) dL_seen_152 ?_
      refine ll_aload_n E (pc := 153) dL_seen_153 rfl ?_
      refine ll_iload_n E (pc := 154) dL_seen_154 rfl ?_
      refine ll_iload E (pc := 155) dL_seen_155 rfl ?_
      refine ll_ycallVi E X (pc := 157) (d := 8) (mc1 := 2) (ci := 8) (o9 := 0) [.int v3, .int v4] [.long ((31 : Int64) * (((31 : Int64) * v1) + (Int32.toInt64 r34)))] dL_seen_157 cv_L_97 (fun h => cxX8_carried X.1 h) (Nat.le_of_ble_eq_true rfl) sx_0 ci_8 rfl rfl (Nat.le_of_ble_eq_true rfl) ⟨(Nat.le_of_ble_eq_true rfl), (Nat.le_of_ble_eq_true rfl)⟩ (mcd (by omega)) ?_
      intro r36 μ35
      refine ll_i2l E (pc := 160) dL_seen_160 ?_
      refine ll_ladd E (pc := 161) dL_seen_161 ?_
      refine ll_lstore_n E (pc := 162) (lo' := [some (.ref (ad 0)), some (.long (((31 : Int64) * (((31 : Int64) * v1) + (Int32.toInt64 r34))) + (Int32.toInt64 r36))), none, some (.int v3), some (.int v4)]) dL_seen_162 (Nat.le_of_ble_eq_true rfl) rfl rfl ?_
      refine ll_iinc E (pc := 163) (lo' := [some (.ref (ad 0)), some (.long (((31 : Int64) * (((31 : Int64) * v1) + (Int32.toInt64 r34))) + (Int32.toInt64 r36))), none, some (.int v3), some (.int (v4 + (1 : Int32)))]) dL_seen_163 rfl kc_1 (Nat.le_of_ble_eq_true rfl) rfl rfl ?_
      refine ll_goto E (pc := 166) (tgt := 126) dL_seen_166 rfl ?_
      exact ll_lo (lo' := [some (.ref (ad 0)), some (.long (((31 : Int64) * (((31 : Int64) * v1) + (Int32.toInt64 r34))) + (Int32.toInt64 r36))), none, some (.int v3), some (.int (v4 + (1 : Int32)))]) ⟨rfl, rfl, rfl, rfl, trivial⟩ (ih (((31 : Int64) * (((31 : Int64) * v1) + (Int32.toInt64 r34))) + (Int32.toInt64 r36)) v3 (v4 + (1 : Int32)) μ35 _ (by omega))
theorem kL_seen_L92 {p : Program} {l : Launch} {e : Env} {s : State} {m : MethodId} {args : Array Value} {below : List Frame} {meth : Method} {c : Code} {D : va_G} {cI cR : ClassId} {ad : Nat → Nat} {A0 : Nat → Prop} (E : EV p s m args meth c cL_seen 5 RL D cI cR ad shX NX A0) (X : EM9 l s A0) (hr : meth.sig.returnType = (some .long)) {K80 : Int64 → Int32 → Mem → Option (Int64 × Mem)} {X80 : Nat} (hK80 : ∀ (v1 : Int64) (v3 : Int32) (μ : Mem) (cl : Nat), cl + X80 ≤ 2438 → LL p l e (RX 11 2438) s m args below meth c 5 D cI cR ad shX NX A0 (fun (r : Int64) μ' => KM below args s D cI cR ad shX NX A0 2438 (some (.long r)) μ') (K80 v1 v3 μ) cl (6 * cl) 80 [some (.ref (ad 0)), some (.long v1), none, some (.int v3), none] [] μ) (n : Nat) : ∀ (v1 : Int64) (v3 : Int32) (v4 : Int32) (μ : Mem) (cl : Nat), cl + (2 * n + 88 + X80) ≤ 2438 → LL p l e (RX 11 2438) s m args below meth c 5 D cI cR ad shX NX A0 (fun (r : Int64) μ' => KM below args s D cI cR ad shX NX A0 2438 (some (.long r)) μ') (fL_seen_L92 K80 n v1 v3 v4 μ) cl (6 * cl) 92 [some (.ref (ad 0)), some (.long v1), none, some (.int v3), some (.int v4)] [] μ := by
  induction n with
  | zero =>
    intros
    exact ll_none
  | succ n ih =>
    intro v1 v3 v4 μ cl hc0
    rw [fL_seen_L92]
    refine ll_iload E (pc := 92) dL_seen_92 rfl ?_
    refine ll_bipush E (pc := 94) dL_seen_94 kb_19 ?_
    refine ll_icmp_ge E (pc := 96) (tgt := 123) dL_seen_96 rfl ?_ ?_
    · refine ll_iconst E (pc := 123) dL_seen_123 kc_0 ?_
      refine ll_istore E (pc := 124) (lo' := [some (.ref (ad 0)), some (.long v1), none, some (.int v3), some (.int (0 : Int32))]) dL_seen_124 (Nat.le_of_ble_eq_true rfl) rfl rfl ?_
      exact ll_lo (lo' := [some (.ref (ad 0)), some (.long v1), none, some (.int v3), some (.int (0 : Int32))]) ⟨rfl, rfl, rfl, rfl, trivial⟩ (kL_seen_L126 E X hr (X80 := X80) hK80 22 v1 v3 (0 : Int32) μ _ (by omega))
    · refine ll_ldc2 E (pc := 99) dL_seen_99 kw_L_138 ?_
      refine ll_lload_n E (pc := 102) dL_seen_102 rfl ?_
      refine ll_lmul E (pc := 103) dL_seen_103 ?_
      refine ll_aload_n E (pc := 104) dL_seen_104 rfl ?_
      refine ll_iload E (pc := 105) dL_seen_105 rfl ?_
      refine ll_iload_n E (pc := 107) dL_seen_107 rfl ?_
      refine ll_iconst E (pc := 108) dL_seen_108 kc_0 ?_
      refine ll_iconst E (pc := 109) dL_seen_109 kc_0 ?_
      refine ll_iconst E (pc := 110) dL_seen_110 kc_0 ?_
      refine ll_mcallH E X (pc := 111) (d := 10) [.ref (ad 0), .int v4, .int v3, .int (0 : Int32), .int (0 : Int32), .int (0 : Int32)] [.long ((31 : Int64) * v1)] dL_seen_111 cvH_L_161 (fun h => cmL_call X.1 h) rfl rfl (Nat.le_of_ble_eq_true rfl) ⟨(Nat.le_of_ble_eq_true rfl), (Nat.le_of_ble_eq_true rfl)⟩ (mcd (by omega)) ?_
      intro r38 μ37
      refine ll_i2l E (pc := 114) dL_seen_114 ?_
      refine ll_ladd E (pc := 115) dL_seen_115 ?_
      refine ll_lstore_n E (pc := 116) (lo' := [some (.ref (ad 0)), some (.long (((31 : Int64) * v1) + (Int32.toInt64 r38))), none, some (.int v3), some (.int v4)]) dL_seen_116 (Nat.le_of_ble_eq_true rfl) rfl rfl ?_
      refine ll_iinc E (pc := 117) (lo' := [some (.ref (ad 0)), some (.long (((31 : Int64) * v1) + (Int32.toInt64 r38))), none, some (.int v3), some (.int (v4 + (1 : Int32)))]) dL_seen_117 rfl kc_1 (Nat.le_of_ble_eq_true rfl) rfl rfl ?_
      refine ll_goto E (pc := 120) (tgt := 92) dL_seen_120 rfl ?_
      exact ll_lo (lo' := [some (.ref (ad 0)), some (.long (((31 : Int64) * v1) + (Int32.toInt64 r38))), none, some (.int v3), some (.int (v4 + (1 : Int32)))]) ⟨rfl, rfl, rfl, rfl, trivial⟩ (ih (((31 : Int64) * v1) + (Int32.toInt64 r38)) v3 (v4 + (1 : Int32)) μ37 _ (by omega))
theorem kL_seen_L177 {p : Program} {l : Launch} {e : Env} {s : State} {m : MethodId} {args : Array Value} {below : List Frame} {meth : Method} {c : Code} {D : va_G} {cI cR : ClassId} {ad : Nat → Nat} {A0 : Nat → Prop} (E : EV p s m args meth c cL_seen 5 RL D cI cR ad shX NX A0) (X : EM9 l s A0) (hr : meth.sig.returnType = (some .long)) (n : Nat) : ∀ (v1 : Int64) (v3 : Int32) (μ : Mem) (cl : Nat), cl + (3 * n + 0) ≤ 2438 → LL p l e (RX 11 2438) s m args below meth c 5 D cI cR ad shX NX A0 (fun (r : Int64) μ' => KM below args s D cI cR ad shX NX A0 2438 (some (.long r)) μ') (fL_seen_L177 n v1 v3 μ) cl (6 * cl) 177 [some (.ref (ad 0)), some (.long v1), none, some (.int v3), none] [] μ := by
  induction n with
  | zero =>
    intros
    exact ll_none
  | succ n ih =>
    intro v1 v3 μ cl hc0
    rw [fL_seen_L177]
    refine ll_iload_n E (pc := 177) dL_seen_177 rfl ?_
    refine ll_bipush E (pc := 178) dL_seen_178 kb_12 ?_
    refine ll_icmp_ge E (pc := 180) (tgt := 224) dL_seen_180 rfl ?_ ?_
    · refine ll_lload_n E (pc := 224) dL_seen_224 rfl ?_
      exact ll_mlreturn E hr (fun _ h => h) dL_seen_225 (by omega)
    · refine ll_ldc2 E (pc := 183) dL_seen_183 kw_L_138 ?_
      refine ll_ldc2 E (pc := 186) dL_seen_186 kw_L_138 ?_
      refine ll_ldc2 E (pc := 189) dL_seen_189 kw_L_138 ?_
      refine ll_lload_n E (pc := 192) dL_seen_192 rfl ?_
      refine ll_lmul E (pc := 193) dL_seen_193 ?_
      refine ll_aload_n E (pc := 194) dL_seen_194 rfl ?_
      refine ll_iload_n E (pc := 195) dL_seen_195 rfl ?_
      refine ll_ycallVi E X (pc := 196) (d := 8) (mc1 := 1) (ci := 8) (o9 := 0) [.int v3] [.long ((31 : Int64) * v1), .long (31 : Int64), .long (31 : Int64)] dL_seen_196 cv_L_100 (fun h => cxX8_registerInOrder X.1 h) (Nat.le_of_ble_eq_true rfl) sx_0 ci_8 rfl rfl (Nat.le_of_ble_eq_true rfl) ⟨(Nat.le_of_ble_eq_true rfl), (Nat.le_of_ble_eq_true rfl)⟩ (mcd (by omega)) ?_
      intro r40 μ39
      refine ll_i2l E (pc := 199) dL_seen_199 ?_
      refine ll_ladd E (pc := 200) dL_seen_200 ?_
      refine ll_lmul E (pc := 201) dL_seen_201 ?_
      refine ll_aload_n E (pc := 202) dL_seen_202 rfl ?_
      refine ll_iload_n E (pc := 203) dL_seen_203 rfl ?_
      refine ll_ycallVi E X (pc := 204) (d := 8) (mc1 := 1) (ci := 8) (o9 := 0) [.int v3] [.long ((31 : Int64) * (((31 : Int64) * v1) + (Int32.toInt64 r40))), .long (31 : Int64)] dL_seen_204 cv_L_106 (fun h => cxX8_cellInOrder X.1 h) (Nat.le_of_ble_eq_true rfl) sx_0 ci_8 rfl rfl (Nat.le_of_ble_eq_true rfl) ⟨(Nat.le_of_ble_eq_true rfl), (Nat.le_of_ble_eq_true rfl)⟩ (mcd (by omega)) ?_
      intro r42 μ41
      refine ll_i2l E (pc := 207) dL_seen_207 ?_
      refine ll_ladd E (pc := 208) dL_seen_208 ?_
      refine ll_lmul E (pc := 209) dL_seen_209 ?_
      refine ll_aload_n E (pc := 210) dL_seen_210 rfl ?_
      refine ll_iload_n E (pc := 211) dL_seen_211 rfl ?_
      refine ll_ycallVi E X (pc := 212) (d := 8) (mc1 := 1) (ci := 8) (o9 := 0) [.int v3] [.long ((31 : Int64) * (((31 : Int64) * (((31 : Int64) * v1) + (Int32.toInt64 r40))) + (Int32.toInt64 r42)))] dL_seen_212 cv_L_103 (fun h => cxX8_registerInBundles X.1 h) (Nat.le_of_ble_eq_true rfl) sx_0 ci_8 rfl rfl (Nat.le_of_ble_eq_true rfl) ⟨(Nat.le_of_ble_eq_true rfl), (Nat.le_of_ble_eq_true rfl)⟩ (mcd (by omega)) ?_
      intro r44 μ43
      refine ll_i2l E (pc := 215) dL_seen_215 ?_
      refine ll_ladd E (pc := 216) dL_seen_216 ?_
      refine ll_lstore_n E (pc := 217) (lo' := [some (.ref (ad 0)), some (.long (((31 : Int64) * (((31 : Int64) * (((31 : Int64) * v1) + (Int32.toInt64 r40))) + (Int32.toInt64 r42))) + (Int32.toInt64 r44))), none, some (.int v3), none]) dL_seen_217 (Nat.le_of_ble_eq_true rfl) rfl rfl ?_
      refine ll_iinc E (pc := 218) (lo' := [some (.ref (ad 0)), some (.long (((31 : Int64) * (((31 : Int64) * (((31 : Int64) * v1) + (Int32.toInt64 r40))) + (Int32.toInt64 r42))) + (Int32.toInt64 r44))), none, some (.int (v3 + (1 : Int32))), none]) dL_seen_218 rfl kc_1 (Nat.le_of_ble_eq_true rfl) rfl rfl ?_
      refine ll_goto E (pc := 221) (tgt := 177) dL_seen_221 rfl ?_
      exact ll_lo (lo' := [some (.ref (ad 0)), some (.long (((31 : Int64) * (((31 : Int64) * (((31 : Int64) * v1) + (Int32.toInt64 r40))) + (Int32.toInt64 r42))) + (Int32.toInt64 r44))), none, some (.int (v3 + (1 : Int32))), none]) ⟨rfl, rfl, rfl, trivial⟩ (ih (((31 : Int64) * (((31 : Int64) * (((31 : Int64) * v1) + (Int32.toInt64 r40))) + (Int32.toInt64 r42))) + (Int32.toInt64 r44)) (v3 + (1 : Int32)) μ43 _ (by omega))
theorem kL_seen_L80 {p : Program} {l : Launch} {e : Env} {s : State} {m : MethodId} {args : Array Value} {below : List Frame} {meth : Method} {c : Code} {D : va_G} {cI cR : ClassId} {ad : Nat → Nat} {A0 : Nat → Prop} (E : EV p s m args meth c cL_seen 5 RL D cI cR ad shX NX A0) (X : EM9 l s A0) (hr : meth.sig.returnType = (some .long)) (n : Nat) : ∀ (v1 : Int64) (v3 : Int32) (μ : Mem) (cl : Nat), cl + (106 * n + 106) ≤ 2438 → LL p l e (RX 11 2438) s m args below meth c 5 D cI cR ad shX NX A0 (fun (r : Int64) μ' => KM below args s D cI cR ad shX NX A0 2438 (some (.long r)) μ') (fL_seen_L80 n v1 v3 μ) cl (6 * cl) 80 [some (.ref (ad 0)), some (.long v1), none, some (.int v3), none] [] μ := by
  induction n with
  | zero =>
    intros
    exact ll_none
  | succ n ih =>
    intro v1 v3 μ cl hc0
    rw [fL_seen_L80]
    refine ll_iload_n E (pc := 80) dL_seen_80 rfl ?_
    refine ll_aload_n E (pc := 81) dL_seen_81 rfl ?_
    refine ll_callVi E (pc := 82) (d := 0) (ci := 8) (o9 := 0) [] [.int v3] dL_seen_82 cv_L_140 (fun h => ctX8_steps h) (Nat.le_of_ble_eq_true rfl) sx_0 ci_8 rfl rfl (Nat.le_of_ble_eq_true rfl) ⟨(Nat.le_of_ble_eq_true rfl), (Nat.le_of_ble_eq_true rfl)⟩ (mcc (by omega)) ?_
    intro r46 μ45
    refine ll_icmp_ge E (pc := 85) (tgt := 175) dL_seen_85 rfl ?_ ?_
    · refine ll_iconst E (pc := 175) dL_seen_175 kc_0 ?_
      refine ll_istore_n E (pc := 176) (lo' := [some (.ref (ad 0)), some (.long v1), none, some (.int (0 : Int32)), none]) dL_seen_176 (Nat.le_of_ble_eq_true rfl) rfl rfl ?_
      exact ll_lo (lo' := [some (.ref (ad 0)), some (.long v1), none, some (.int (0 : Int32)), none]) ⟨rfl, rfl, rfl, trivial⟩ (kL_seen_L177 E X hr 14 v1 (0 : Int32) μ45 _ (by omega))
    · refine ll_bipush E (pc := 88) dL_seen_88 kb_12 ?_
      refine ll_istore E (pc := 90) (lo' := [some (.ref (ad 0)), some (.long v1), none, some (.int v3), some (.int (12 : Int32))]) dL_seen_90 (Nat.le_of_ble_eq_true rfl) rfl rfl ?_
      exact ll_lo (lo' := [some (.ref (ad 0)), some (.long v1), none, some (.int v3), some (.int (12 : Int32))]) ⟨rfl, rfl, rfl, rfl, trivial⟩ (kL_seen_L92 E X hr (X80 := 106 * n + 106) (fun y0 y1 ν c9 h9 => ih y0 y1 ν c9 (by omega)) 9 v1 v3 (12 : Int32) μ45 _ (by omega))
theorem cmL_seen {l : Launch} {D : va_G} {cI cR : ClassId} {ad : Nat → Nat} {μ : Mem} (hl9 : l.stackTraces = false) {r : Int64} {μ' : Mem} (hf : fL_seen μ = some (r, μ')) : CM l yL_seen (.code yL_seen cL_seen 5 (some .long)) 11 2438 D cI cR ad shX NX [.ref (ad 0)] μ (some (.long r)) μ' :=
  cm_of (own := RL) (ov := fun (r : Int64) => (some (.long r))) hl9 (by decide +kernel) rfl (Nat.le_of_ble_eq_true rfl) (fun p e s m below meth c A0 E X hr => by
    refine ll_lo (lo' := [some (.ref (ad 0)), none, none, none, none]) ⟨rfl, trivial⟩ ?_
    rw [fL_seen]
    refine ll_ldc2 E (pc := 0) dL_seen_0 kw_L_136 ?_
    refine ll_lstore_n E (pc := 3) (lo' := [some (.ref (ad 0)), some (.long (3588 : Int64)), none, none, none]) dL_seen_3 (Nat.le_of_ble_eq_true rfl) rfl rfl ?_
    refine ll_ldc2 E (pc := 4) dL_seen_4 kw_L_138 ?_
    refine ll_ldc2 E (pc := 7) dL_seen_7 kw_L_138 ?_
    refine ll_ldc2 E (pc := 10) dL_seen_10 kw_L_138 ?_
    refine ll_ldc2 E (pc := 13) dL_seen_13 kw_L_138 ?_
    refine ll_lload_n E (pc := 16) dL_seen_16 rfl ?_
    refine ll_lmul E (pc := 17) dL_seen_17 ?_
    refine ll_aload_n E (pc := 18) dL_seen_18 rfl ?_
    refine ll_callVi E (pc := 19) (d := 0) (ci := 8) (o9 := 0) [] [.long ((31 : Int64) * (3588 : Int64)), .long (31 : Int64), .long (31 : Int64), .long (31 : Int64)] dL_seen_19 cv_L_140 (fun h => ctX8_steps h) (Nat.le_of_ble_eq_true rfl) sx_0 ci_8 rfl rfl (Nat.le_of_ble_eq_true rfl) ⟨(Nat.le_of_ble_eq_true rfl), (Nat.le_of_ble_eq_true rfl)⟩ (mcc (by omega)) ?_
    intro r48 μ47
    refine ll_i2l E (pc := 22) dL_seen_22 ?_
    refine ll_ladd E (pc := 23) dL_seen_23 ?_
    refine ll_lmul E (pc := 24) dL_seen_24 ?_
    refine ll_aload_n E (pc := 25) dL_seen_25 rfl ?_
    refine ll_callVi E (pc := 26) (d := 2) (ci := 8) (o9 := 0) [] [.long ((31 : Int64) * (((31 : Int64) * (3588 : Int64)) + (Int32.toInt64 r48))), .long (31 : Int64), .long (31 : Int64)] dL_seen_26 cv_L_143 (fun h => ctX8_bundles h) (Nat.le_of_ble_eq_true rfl) sx_0 ci_8 rfl rfl (Nat.le_of_ble_eq_true rfl) ⟨(Nat.le_of_ble_eq_true rfl), (Nat.le_of_ble_eq_true rfl)⟩ (mcc (by omega)) ?_
    intro r50 μ49
    refine ll_i2l E (pc := 29) dL_seen_29 ?_
    refine ll_ladd E (pc := 30) dL_seen_30 ?_
    refine ll_lmul E (pc := 31) dL_seen_31 ?_
    refine ll_aload_n E (pc := 32) dL_seen_32 rfl ?_
    refine ll_callVi E (pc := 33) (d := 5) (ci := 8) (o9 := 0) [] [.long ((31 : Int64) * (((31 : Int64) * (((31 : Int64) * (3588 : Int64)) + (Int32.toInt64 r48))) + (Int32.toInt64 r50))), .long (31 : Int64)] dL_seen_33 cv_L_146 (fun h => ctX8_whyWrong h) (Nat.le_of_ble_eq_true rfl) sx_0 ci_8 rfl rfl (Nat.le_of_ble_eq_true rfl) ⟨(Nat.le_of_ble_eq_true rfl), (Nat.le_of_ble_eq_true rfl)⟩ (mcc (by omega)) ?_
    intro r52 μ51
    refine ll_i2l E (pc := 36) dL_seen_36 ?_
    refine ll_ladd E (pc := 37) dL_seen_37 ?_
    refine ll_lmul E (pc := 38) dL_seen_38 ?_
    refine ll_aload_n E (pc := 39) dL_seen_39 rfl ?_
    refine ll_callVi E (pc := 40) (d := 5) (ci := 8) (o9 := 0) [] [.long ((31 : Int64) * (((31 : Int64) * (((31 : Int64) * (((31 : Int64) * (3588 : Int64)) + (Int32.toInt64 r48))) + (Int32.toInt64 r50))) + (Int32.toInt64 r52)))] dL_seen_40 cv_L_149 (fun h => ctX8_wrongAt h) (Nat.le_of_ble_eq_true rfl) sx_0 ci_8 rfl rfl (Nat.le_of_ble_eq_true rfl) ⟨(Nat.le_of_ble_eq_true rfl), (Nat.le_of_ble_eq_true rfl)⟩ (mcc (by omega)) ?_
    intro r54 μ53
    refine ll_i2l E (pc := 43) dL_seen_43 ?_
    refine ll_ladd E (pc := 44) dL_seen_44 ?_
    refine ll_lstore_n E (pc := 45) (lo' := [some (.ref (ad 0)), some (.long (((31 : Int64) * (((31 : Int64) * (((31 : Int64) * (((31 : Int64) * (3588 : Int64)) + (Int32.toInt64 r48))) + (Int32.toInt64 r50))) + (Int32.toInt64 r52))) + (Int32.toInt64 r54))), none, none, none]) dL_seen_45 (Nat.le_of_ble_eq_true rfl) rfl rfl ?_
    refine ll_ldc2 E (pc := 46) dL_seen_46 kw_L_138 ?_
    refine ll_ldc2 E (pc := 49) dL_seen_49 kw_L_138 ?_
    refine ll_ldc2 E (pc := 52) dL_seen_52 kw_L_138 ?_
    refine ll_lload_n E (pc := 55) dL_seen_55 rfl ?_
    refine ll_lmul E (pc := 56) dL_seen_56 ?_
    refine ll_aload_n E (pc := 57) dL_seen_57 rfl ?_
    refine ll_callVi E (pc := 58) (d := 5) (ci := 8) (o9 := 0) [] [.long ((31 : Int64) * (((31 : Int64) * (((31 : Int64) * (((31 : Int64) * (((31 : Int64) * (3588 : Int64)) + (Int32.toInt64 r48))) + (Int32.toInt64 r50))) + (Int32.toInt64 r52))) + (Int32.toInt64 r54))), .long (31 : Int64), .long (31 : Int64)] dL_seen_58 cv_L_152 (fun h => ctX8_wouldPack h) (Nat.le_of_ble_eq_true rfl) sx_0 ci_8 rfl rfl (Nat.le_of_ble_eq_true rfl) ⟨(Nat.le_of_ble_eq_true rfl), (Nat.le_of_ble_eq_true rfl)⟩ (mcc (by omega)) ?_
    intro r56 μ55
    refine ll_i2l E (pc := 61) dL_seen_61 ?_
    refine ll_ladd E (pc := 62) dL_seen_62 ?_
    refine ll_lmul E (pc := 63) dL_seen_63 ?_
    refine ll_aload_n E (pc := 64) dL_seen_64 rfl ?_
    refine ll_callVi E (pc := 65) (d := 3) (ci := 8) (o9 := 0) [] [.long ((31 : Int64) * (((31 : Int64) * (((31 : Int64) * (((31 : Int64) * (((31 : Int64) * (((31 : Int64) * (3588 : Int64)) + (Int32.toInt64 r48))) + (Int32.toInt64 r50))) + (Int32.toInt64 r52))) + (Int32.toInt64 r54))) + (Int32.toInt64 r56))), .long (31 : Int64)] dL_seen_65 cv_L_155 (fun h => ctX8_beatByUnits h) (Nat.le_of_ble_eq_true rfl) sx_0 ci_8 rfl rfl (Nat.le_of_ble_eq_true rfl) ⟨(Nat.le_of_ble_eq_true rfl), (Nat.le_of_ble_eq_true rfl)⟩ (mcc (by omega)) ?_
    intro r58 μ57
    refine ll_i2l E (pc := 68) dL_seen_68 ?_
    refine ll_ladd E (pc := 69) dL_seen_69 ?_
    refine ll_lmul E (pc := 70) dL_seen_70 ?_
    refine ll_aload_n E (pc := 71) dL_seen_71 rfl ?_
    refine ll_callVi E (pc := 72) (d := 6) (ci := 8) (o9 := 0) [] [.long ((31 : Int64) * (((31 : Int64) * (((31 : Int64) * (((31 : Int64) * (((31 : Int64) * (((31 : Int64) * (((31 : Int64) * (3588 : Int64)) + (Int32.toInt64 r48))) + (Int32.toInt64 r50))) + (Int32.toInt64 r52))) + (Int32.toInt64 r54))) + (Int32.toInt64 r56))) + (Int32.toInt64 r58)))] dL_seen_72 cv_L_158 (fun h => ctX8_jumpBundle h) (Nat.le_of_ble_eq_true rfl) sx_0 ci_8 rfl rfl (Nat.le_of_ble_eq_true rfl) ⟨(Nat.le_of_ble_eq_true rfl), (Nat.le_of_ble_eq_true rfl)⟩ (mcc (by omega)) ?_
    intro r60 μ59
    refine ll_i2l E (pc := 75) dL_seen_75 ?_
    refine ll_ladd E (pc := 76) dL_seen_76 ?_
    refine ll_lstore_n E (pc := 77) (lo' := [some (.ref (ad 0)), some (.long (((31 : Int64) * (((31 : Int64) * (((31 : Int64) * (((31 : Int64) * (((31 : Int64) * (((31 : Int64) * (((31 : Int64) * (3588 : Int64)) + (Int32.toInt64 r48))) + (Int32.toInt64 r50))) + (Int32.toInt64 r52))) + (Int32.toInt64 r54))) + (Int32.toInt64 r56))) + (Int32.toInt64 r58))) + (Int32.toInt64 r60))), none, none, none]) dL_seen_77 (Nat.le_of_ble_eq_true rfl) rfl rfl ?_
    refine ll_iconst E (pc := 78) dL_seen_78 kc_0 ?_
    refine ll_istore_n E (pc := 79) (lo' := [some (.ref (ad 0)), some (.long (((31 : Int64) * (((31 : Int64) * (((31 : Int64) * (((31 : Int64) * (((31 : Int64) * (((31 : Int64) * (((31 : Int64) * (3588 : Int64)) + (Int32.toInt64 r48))) + (Int32.toInt64 r50))) + (Int32.toInt64 r52))) + (Int32.toInt64 r54))) + (Int32.toInt64 r56))) + (Int32.toInt64 r58))) + (Int32.toInt64 r60))), none, some (.int (0 : Int32)), none]) dL_seen_79 (Nat.le_of_ble_eq_true rfl) rfl rfl ?_
    exact ll_lo (lo' := [some (.ref (ad 0)), some (.long (((31 : Int64) * (((31 : Int64) * (((31 : Int64) * (((31 : Int64) * (((31 : Int64) * (((31 : Int64) * (((31 : Int64) * (3588 : Int64)) + (Int32.toInt64 r48))) + (Int32.toInt64 r50))) + (Int32.toInt64 r52))) + (Int32.toInt64 r54))) + (Int32.toInt64 r56))) + (Int32.toInt64 r58))) + (Int32.toInt64 r60))), none, some (.int (0 : Int32)), none]) ⟨rfl, rfl, rfl, trivial⟩ (kL_seen_L80 E X hr 22 (((31 : Int64) * (((31 : Int64) * (((31 : Int64) * (((31 : Int64) * (((31 : Int64) * (((31 : Int64) * (((31 : Int64) * (3588 : Int64)) + (Int32.toInt64 r48))) + (Int32.toInt64 r50))) + (Int32.toInt64 r52))) + (Int32.toInt64 r54))) + (Int32.toInt64 r56))) + (Int32.toInt64 r58))) + (Int32.toInt64 r60)) (0 : Int32) μ59 _ (by omega))) hf
def fL_is (μ : Mem) (a1 : Int32) (a2 : Int32) (a3 : Int32) (a4 : Int32) (a5 : Int32) (a6 : Int32) : Option (Int32 × Mem) :=
  bz (fX8_latencyOf μ a1) fun r12 μ11 =>
  if r12 = a2 then
  bz (fX8_heightOf μ11 a1) fun r14 μ13 =>
  if r14 = a3 then
  bz (fX8_earliestOf μ13 a1) fun r16 μ15 =>
  if r16 = a4 then
  bz (fX8_bundleOf μ15 a1) fun r18 μ17 =>
  if r18 = a5 then
  bz (fX8_loopBundleOf μ17 a1) fun r20 μ19 =>
  if r20 = a6 then
  some ((1 : Int32), μ19)
  else
  some ((0 : Int32), μ19)
  else
  some ((0 : Int32), μ17)
  else
  some ((0 : Int32), μ15)
  else
  some ((0 : Int32), μ13)
  else
  some ((0 : Int32), μ11)
theorem cmL_is {l : Launch} {D : va_G} {cI cR : ClassId} {ad : Nat → Nat} {μ : Mem} {a1 : Int32} {a2 : Int32} {a3 : Int32} {a4 : Int32} {a5 : Int32} {a6 : Int32} (hl9 : l.stackTraces = false) {r : Int32} {μ' : Mem} (hf : fL_is μ a1 a2 a3 a4 a5 a6 = some (r, μ')) : CM l yL_is (.code yL_is cL_is 7 (some .boolean)) 9 5 D cI cR ad shX NX [.ref (ad 0), .int a1, .int a2, .int a3, .int a4, .int a5, .int a6] μ (some (.int r)) μ' :=
  cm_of (own := RL) (ov := fun (r : Int32) => (some (.int r))) hl9 (by decide +kernel) rfl (Nat.le_of_ble_eq_true rfl) (fun p e s m below meth c A0 E X hr => by
    refine ll_lo (lo' := [some (.ref (ad 0)), some (.int a1), some (.int a2), some (.int a3), some (.int a4), some (.int a5), some (.int a6)]) ⟨rfl, rfl, rfl, rfl, rfl, rfl, rfl, trivial⟩ ?_
    rw [fL_is]
    refine ll_aload_n E (pc := 0) dL_is_0 rfl ?_
    refine ll_iload_n E (pc := 1) dL_is_1 rfl ?_
    refine ll_ycallVi E X (pc := 2) (d := 8) (mc1 := 1) (ci := 8) (o9 := 0) [.int a1] [] dL_is_2 cv_L_79 (fun h => cxX8_latencyOf X.1 h) (Nat.le_of_ble_eq_true rfl) sx_0 ci_8 rfl rfl (Nat.le_of_ble_eq_true rfl) ⟨(Nat.le_of_ble_eq_true rfl), (Nat.le_of_ble_eq_true rfl)⟩ (mcd (by omega)) ?_
    intro r12 μ11
    refine ll_iload_n E (pc := 5) dL_is_5 rfl ?_
    refine ll_icmp_ne E (pc := 6) (tgt := 52) dL_is_6 rfl ?_ ?_
    · refine ll_iconst E (pc := 52) dL_is_52 kc_0 ?_
      exact ll_mzreturn E hr (fun _ h => h) rfl dL_is_53 (by omega)
    · refine ll_aload_n E (pc := 9) dL_is_9 rfl ?_
      refine ll_iload_n E (pc := 10) dL_is_10 rfl ?_
      refine ll_ycallVi E X (pc := 11) (d := 8) (mc1 := 1) (ci := 8) (o9 := 0) [.int a1] [] dL_is_11 cv_L_82 (fun h => cxX8_heightOf X.1 h) (Nat.le_of_ble_eq_true rfl) sx_0 ci_8 rfl rfl (Nat.le_of_ble_eq_true rfl) ⟨(Nat.le_of_ble_eq_true rfl), (Nat.le_of_ble_eq_true rfl)⟩ (mcd (by omega)) ?_
      intro r14 μ13
      refine ll_iload_n E (pc := 14) dL_is_14 rfl ?_
      refine ll_icmp_ne E (pc := 15) (tgt := 52) dL_is_15 rfl ?_ ?_
      · refine ll_iconst E (pc := 52) dL_is_52 kc_0 ?_
        exact ll_mzreturn E hr (fun _ h => h) rfl dL_is_53 (by omega)
      · refine ll_aload_n E (pc := 18) dL_is_18 rfl ?_
        refine ll_iload_n E (pc := 19) dL_is_19 rfl ?_
        refine ll_ycallVi E X (pc := 20) (d := 8) (mc1 := 1) (ci := 8) (o9 := 0) [.int a1] [] dL_is_20 cv_L_85 (fun h => cxX8_earliestOf X.1 h) (Nat.le_of_ble_eq_true rfl) sx_0 ci_8 rfl rfl (Nat.le_of_ble_eq_true rfl) ⟨(Nat.le_of_ble_eq_true rfl), (Nat.le_of_ble_eq_true rfl)⟩ (mcd (by omega)) ?_
        intro r16 μ15
        refine ll_iload E (pc := 23) dL_is_23 rfl ?_
        refine ll_icmp_ne E (pc := 25) (tgt := 52) dL_is_25 rfl ?_ ?_
        · refine ll_iconst E (pc := 52) dL_is_52 kc_0 ?_
          exact ll_mzreturn E hr (fun _ h => h) rfl dL_is_53 (by omega)
        · refine ll_aload_n E (pc := 28) dL_is_28 rfl ?_
          refine ll_iload_n E (pc := 29) dL_is_29 rfl ?_
          refine ll_ycallVi E X (pc := 30) (d := 8) (mc1 := 1) (ci := 8) (o9 := 0) [.int a1] [] dL_is_30 cv_L_88 (fun h => cxX8_bundleOf X.1 h) (Nat.le_of_ble_eq_true rfl) sx_0 ci_8 rfl rfl (Nat.le_of_ble_eq_true rfl) ⟨(Nat.le_of_ble_eq_true rfl), (Nat.le_of_ble_eq_true rfl)⟩ (mcd (by omega)) ?_
          intro r18 μ17
          refine ll_iload E (pc := 33) dL_is_33 rfl ?_
          refine ll_icmp_ne E (pc := 35) (tgt := 52) dL_is_35 rfl ?_ ?_
          · refine ll_iconst E (pc := 52) dL_is_52 kc_0 ?_
            exact ll_mzreturn E hr (fun _ h => h) rfl dL_is_53 (by omega)
          · refine ll_aload_n E (pc := 38) dL_is_38 rfl ?_
            refine ll_iload_n E (pc := 39) dL_is_39 rfl ?_
            refine ll_ycallVi E X (pc := 40) (d := 8) (mc1 := 1) (ci := 8) (o9 := 0) [.int a1] [] dL_is_40 cv_L_91 (fun h => cxX8_loopBundleOf X.1 h) (Nat.le_of_ble_eq_true rfl) sx_0 ci_8 rfl rfl (Nat.le_of_ble_eq_true rfl) ⟨(Nat.le_of_ble_eq_true rfl), (Nat.le_of_ble_eq_true rfl)⟩ (mcd (by omega)) ?_
            intro r20 μ19
            refine ll_iload E (pc := 43) dL_is_43 rfl ?_
            refine ll_icmp_ne E (pc := 45) (tgt := 52) dL_is_45 rfl ?_ ?_
            · refine ll_iconst E (pc := 52) dL_is_52 kc_0 ?_
              exact ll_mzreturn E hr (fun _ h => h) rfl dL_is_53 (by omega)
            · refine ll_iconst E (pc := 48) dL_is_48 kc_1 ?_
              refine ll_goto E (pc := 49) (tgt := 53) dL_is_49 rfl ?_
              exact ll_mzreturn E hr (fun _ h => h) rfl dL_is_53 (by omega)) hf
def fL_types_L45 (K6 : Int64 → Int32 → Int32 → Mem → Option (Int32 × Mem)) (v1 : Int64) (v4 : Int32) (s0 : Int32) (μ : Mem) : Option (Int32 × Mem) :=
  K6 v1 s0 (v4 + (-8 : Int32)) μ
def fL_types_L40 (K6 : Int64 → Int32 → Int32 → Mem → Option (Int32 × Mem)) (v1 : Int64) (v4 : Int32) (μ : Mem) : Option (Int32 × Mem) :=
  fL_types_L45 K6 v1 v4 (1 : Int32) μ
def fL_types_L44 (K6 : Int64 → Int32 → Int32 → Mem → Option (Int32 × Mem)) (v1 : Int64) (v4 : Int32) (μ : Mem) : Option (Int32 × Mem) :=
  fL_types_L45 K6 v1 v4 (0 : Int32) μ
def fL_types_L6 : Nat → Int64 → Int32 → Int32 → Mem → Option (Int32 × Mem)
  | 0, _, _, _, _ => none
  | n + 1, v1, v3, v4, μ =>   if v4 < 0 then
  zret v3 μ
  else
  if v3 = 0 then
  fL_types_L44 (fL_types_L6 n) v1 v4 μ
  else
  if (Int64.toInt32 ((v1 >>> (v4.toInt64 &&& 63)) &&& (255 : Int64))) = 0 then
  fL_types_L40 (fL_types_L6 n) v1 v4 μ
  else
  bz (fX8_append μ (Int64.toInt32 ((v1 >>> (v4.toInt64 &&& 63)) &&& (255 : Int64)))) fun r4 μ3 =>
  if r4 ≤ 0 then
  fL_types_L44 (fL_types_L6 n) v1 v4 μ3
  else
  fL_types_L40 (fL_types_L6 n) v1 v4 μ3
def fL_types (μ : Mem) (a1 : Int64) : Option (Int32 × Mem) :=
  fL_types_L6 10 a1 (1 : Int32) (56 : Int32) μ
theorem kL_types_L45 {p : Program} {l : Launch} {e : Env} {s : State} {m : MethodId} {args : Array Value} {below : List Frame} {meth : Method} {c : Code} {D : va_G} {cI cR : ClassId} {ad : Nat → Nat} {A0 : Nat → Prop} (E : EV p s m args meth c cL_types 6 RL D cI cR ad shX NX A0) (X : EM9 l s A0) (hr : meth.sig.returnType = (some .boolean)) {K6 : Int64 → Int32 → Int32 → Mem → Option (Int32 × Mem)} {X6 : Nat} (hK6 : ∀ (v1 : Int64) (v3 : Int32) (v4 : Int32) (μ : Mem) (cl : Nat), cl + X6 ≤ 11 → LL p l e (RX 8 11) s m args below meth c 6 D cI cR ad shX NX A0 (fun (r : Int32) μ' => KM below args s D cI cR ad shX NX A0 11 (some (.int r)) μ') (K6 v1 v3 v4 μ) cl (6 * cl) 6 [some (.ref (ad 0)), some (.long v1), none, some (.int v3), some (.int v4), none] [] μ) (v1 : Int64) (v4 : Int32) (s0 : Int32) (μ : Mem) (cl : Nat) (hc0 : cl + (0 + X6) ≤ 11) : LL p l e (RX 8 11) s m args below meth c 6 D cI cR ad shX NX A0 (fun (r : Int32) μ' => KM below args s D cI cR ad shX NX A0 11 (some (.int r)) μ') (fL_types_L45 K6 v1 v4 s0 μ) cl (6 * cl) 45 [some (.ref (ad 0)), some (.long v1), none, none, some (.int v4), none] [.int s0] μ := by
  rw [fL_types_L45]
  refine ll_istore_n E (pc := 45) (lo' := [some (.ref (ad 0)), some (.long v1), none, some (.int s0), some (.int v4), none]) dL_types_45 (Nat.le_of_ble_eq_true rfl) rfl rfl ?_
  refine ll_iinc E (pc := 46) (lo' := [some (.ref (ad 0)), some (.long v1), none, some (.int s0), some (.int (v4 + (-8 : Int32))), none]) dL_types_46 rfl kc_m8 (Nat.le_of_ble_eq_true rfl) rfl rfl ?_
  refine ll_goto E (pc := 49) (tgt := 6) dL_types_49 rfl ?_
  exact ll_lo (lo' := [some (.ref (ad 0)), some (.long v1), none, some (.int s0), some (.int (v4 + (-8 : Int32))), none]) ⟨rfl, rfl, rfl, rfl, trivial⟩ (hK6 v1 s0 (v4 + (-8 : Int32)) μ _ (by omega))
theorem kL_types_L40 {p : Program} {l : Launch} {e : Env} {s : State} {m : MethodId} {args : Array Value} {below : List Frame} {meth : Method} {c : Code} {D : va_G} {cI cR : ClassId} {ad : Nat → Nat} {A0 : Nat → Prop} (E : EV p s m args meth c cL_types 6 RL D cI cR ad shX NX A0) (X : EM9 l s A0) (hr : meth.sig.returnType = (some .boolean)) {K6 : Int64 → Int32 → Int32 → Mem → Option (Int32 × Mem)} {X6 : Nat} (hK6 : ∀ (v1 : Int64) (v3 : Int32) (v4 : Int32) (μ : Mem) (cl : Nat), cl + X6 ≤ 11 → LL p l e (RX 8 11) s m args below meth c 6 D cI cR ad shX NX A0 (fun (r : Int32) μ' => KM below args s D cI cR ad shX NX A0 11 (some (.int r)) μ') (K6 v1 v3 v4 μ) cl (6 * cl) 6 [some (.ref (ad 0)), some (.long v1), none, some (.int v3), some (.int v4), none] [] μ) (v1 : Int64) (v4 : Int32) (μ : Mem) (cl : Nat) (hc0 : cl + (0 + X6) ≤ 11) : LL p l e (RX 8 11) s m args below meth c 6 D cI cR ad shX NX A0 (fun (r : Int32) μ' => KM below args s D cI cR ad shX NX A0 11 (some (.int r)) μ') (fL_types_L40 K6 v1 v4 μ) cl (6 * cl) 40 [some (.ref (ad 0)), some (.long v1), none, none, some (.int v4), none] [] μ := by
  rw [fL_types_L40]
  refine ll_iconst E (pc := 40) dL_types_40 kc_1 ?_
  refine ll_goto E (pc := 41) (tgt := 45) dL_types_41 rfl ?_
  exact ll_lo (lo' := [some (.ref (ad 0)), some (.long v1), none, none, some (.int v4), none]) ⟨rfl, rfl, rfl, trivial⟩ (kL_types_L45 E X hr (X6 := X6) hK6 v1 v4 (1 : Int32) μ _ (by omega))
theorem kL_types_L44 {p : Program} {l : Launch} {e : Env} {s : State} {m : MethodId} {args : Array Value} {below : List Frame} {meth : Method} {c : Code} {D : va_G} {cI cR : ClassId} {ad : Nat → Nat} {A0 : Nat → Prop} (E : EV p s m args meth c cL_types 6 RL D cI cR ad shX NX A0) (X : EM9 l s A0) (hr : meth.sig.returnType = (some .boolean)) {K6 : Int64 → Int32 → Int32 → Mem → Option (Int32 × Mem)} {X6 : Nat} (hK6 : ∀ (v1 : Int64) (v3 : Int32) (v4 : Int32) (μ : Mem) (cl : Nat), cl + X6 ≤ 11 → LL p l e (RX 8 11) s m args below meth c 6 D cI cR ad shX NX A0 (fun (r : Int32) μ' => KM below args s D cI cR ad shX NX A0 11 (some (.int r)) μ') (K6 v1 v3 v4 μ) cl (6 * cl) 6 [some (.ref (ad 0)), some (.long v1), none, some (.int v3), some (.int v4), none] [] μ) (v1 : Int64) (v4 : Int32) (μ : Mem) (cl : Nat) (hc0 : cl + (0 + X6) ≤ 11) : LL p l e (RX 8 11) s m args below meth c 6 D cI cR ad shX NX A0 (fun (r : Int32) μ' => KM below args s D cI cR ad shX NX A0 11 (some (.int r)) μ') (fL_types_L44 K6 v1 v4 μ) cl (6 * cl) 44 [some (.ref (ad 0)), some (.long v1), none, none, some (.int v4), none] [] μ := by
  rw [fL_types_L44]
  refine ll_iconst E (pc := 44) dL_types_44 kc_0 ?_
  exact ll_lo (lo' := [some (.ref (ad 0)), some (.long v1), none, none, some (.int v4), none]) ⟨rfl, rfl, rfl, trivial⟩ (kL_types_L45 E X hr (X6 := X6) hK6 v1 v4 (0 : Int32) μ _ (by omega))
theorem kL_types_L6 {p : Program} {l : Launch} {e : Env} {s : State} {m : MethodId} {args : Array Value} {below : List Frame} {meth : Method} {c : Code} {D : va_G} {cI cR : ClassId} {ad : Nat → Nat} {A0 : Nat → Prop} (E : EV p s m args meth c cL_types 6 RL D cI cR ad shX NX A0) (X : EM9 l s A0) (hr : meth.sig.returnType = (some .boolean)) (n : Nat) : ∀ (v1 : Int64) (v3 : Int32) (v4 : Int32) (μ : Mem) (cl : Nat), cl + (1 * n + 1) ≤ 11 → LL p l e (RX 8 11) s m args below meth c 6 D cI cR ad shX NX A0 (fun (r : Int32) μ' => KM below args s D cI cR ad shX NX A0 11 (some (.int r)) μ') (fL_types_L6 n v1 v3 v4 μ) cl (6 * cl) 6 [some (.ref (ad 0)), some (.long v1), none, some (.int v3), some (.int v4), none] [] μ := by
  induction n with
  | zero =>
    intros
    exact ll_none
  | succ n ih =>
    intro v1 v3 v4 μ cl hc0
    rw [fL_types_L6]
    refine ll_iload E (pc := 6) dL_types_6 rfl ?_
    refine ll_if_lt E (pc := 8) (tgt := 52) dL_types_8 rfl ?_ ?_
    · refine ll_iload_n E (pc := 52) dL_types_52 rfl ?_
      exact ll_mzret E hr (fun _ h => h) dL_types_53 (by omega)
    · refine ll_lload_n E (pc := 11) dL_types_11 rfl ?_
      refine ll_iload E (pc := 12) dL_types_12 rfl ?_
      refine ll_lshr E (pc := 14) dL_types_14 ?_
      refine ll_ldc2 E (pc := 15) dL_types_15 kw_L_177 ?_
      refine ll_land E (pc := 18) dL_types_18 ?_
      refine ll_l2i E (pc := 19) dL_types_19 ?_
      refine ll_istore E (pc := 20) (lo' := [some (.ref (ad 0)), some (.long v1), none, some (.int v3), some (.int v4), some (.int (Int64.toInt32 ((v1 >>> (v4.toInt64 &&& 63)) &&& (255 : Int64))))]) dL_types_20 (Nat.le_of_ble_eq_true rfl) rfl rfl ?_
      refine ll_iload_n E (pc := 22) dL_types_22 rfl ?_
      refine ll_if_eq E (pc := 23) (tgt := 44) dL_types_23 rfl ?_ ?_
      · exact ll_lo (lo' := [some (.ref (ad 0)), some (.long v1), none, none, some (.int v4), none]) ⟨rfl, rfl, rfl, trivial⟩ (kL_types_L44 E X hr (X6 := 1 * n + 1) (fun y0 y1 y2 ν c9 h9 => ih y0 y1 y2 ν c9 (by omega)) v1 v4 μ _ (by omega))
      · refine ll_iload E (pc := 26) dL_types_26 rfl ?_
        refine ll_if_eq E (pc := 28) (tgt := 40) dL_types_28 rfl ?_ ?_
        · exact ll_lo (lo' := [some (.ref (ad 0)), some (.long v1), none, none, some (.int v4), none]) ⟨rfl, rfl, rfl, trivial⟩ (kL_types_L40 E X hr (X6 := 1 * n + 1) (fun y0 y1 y2 ν c9 h9 => ih y0 y1 y2 ν c9 (by omega)) v1 v4 μ _ (by omega))
        · refine ll_aload_n E (pc := 31) dL_types_31 rfl ?_
          refine ll_iload E (pc := 32) dL_types_32 rfl ?_
          refine ll_ycallVi E X (pc := 34) (d := 7) (mc1 := 1) (ci := 8) (o9 := 0) [.int (Int64.toInt32 ((v1 >>> (v4.toInt64 &&& 63)) &&& (255 : Int64)))] [] dL_types_34 cv_L_57 (fun h => cxX8_append X.1 h) (Nat.le_of_ble_eq_true rfl) sx_0 ci_8 rfl rfl (Nat.le_of_ble_eq_true rfl) ⟨(Nat.le_of_ble_eq_true rfl), (Nat.le_of_ble_eq_true rfl)⟩ (mcd (by omega)) ?_
          intro r4 μ3
          refine ll_if_le E (pc := 37) (tgt := 44) dL_types_37 rfl ?_ ?_
          · exact ll_lo (lo' := [some (.ref (ad 0)), some (.long v1), none, none, some (.int v4), none]) ⟨rfl, rfl, rfl, trivial⟩ (kL_types_L44 E X hr (X6 := 1 * n + 1) (fun y0 y1 y2 ν c9 h9 => ih y0 y1 y2 ν c9 (by omega)) v1 v4 μ3 _ (by omega))
          · exact ll_lo (lo' := [some (.ref (ad 0)), some (.long v1), none, none, some (.int v4), none]) ⟨rfl, rfl, rfl, trivial⟩ (kL_types_L40 E X hr (X6 := 1 * n + 1) (fun y0 y1 y2 ν c9 h9 => ih y0 y1 y2 ν c9 (by omega)) v1 v4 μ3 _ (by omega))
theorem cmL_types {l : Launch} {D : va_G} {cI cR : ClassId} {ad : Nat → Nat} {μ : Mem} {a1 : Int64} (hl9 : l.stackTraces = false) {r : Int32} {μ' : Mem} (hf : fL_types μ a1 = some (r, μ')) : CM l yL_types (.code yL_types cL_types 6 (some .boolean)) 8 11 D cI cR ad shX NX [.ref (ad 0), .long a1] μ (some (.int r)) μ' :=
  cm_of (own := RL) (ov := fun (r : Int32) => (some (.int r))) hl9 (by decide +kernel) rfl (Nat.le_of_ble_eq_true rfl) (fun p e s m below meth c A0 E X hr => by
    refine ll_lo (lo' := [some (.ref (ad 0)), some (.long a1), none, none, none, none]) ⟨rfl, rfl, trivial⟩ ?_
    rw [fL_types]
    refine ll_iconst E (pc := 0) dL_types_0 kc_1 ?_
    refine ll_istore_n E (pc := 1) (lo' := [some (.ref (ad 0)), some (.long a1), none, some (.int (1 : Int32)), none, none]) dL_types_1 (Nat.le_of_ble_eq_true rfl) rfl rfl ?_
    refine ll_bipush E (pc := 2) dL_types_2 kb_56 ?_
    refine ll_istore E (pc := 4) (lo' := [some (.ref (ad 0)), some (.long a1), none, some (.int (1 : Int32)), some (.int (56 : Int32)), none]) dL_types_4 (Nat.le_of_ble_eq_true rfl) rfl rfl ?_
    exact ll_lo (lo' := [some (.ref (ad 0)), some (.long a1), none, some (.int (1 : Int32)), some (.int (56 : Int32)), none]) ⟨rfl, rfl, rfl, rfl, trivial⟩ (kL_types_L6 E X hr 10 a1 (1 : Int32) (56 : Int32) μ _ (by omega))) hf
def fL_isError (μ : Mem) (a1 : Int64) (a3 : Int64) (a5 : Int32) : Option (Int32 × Mem) :=
  bd (fX8_clearBuffer μ) fun r10 μ9 =>
  if r10 < 0 then
  some ((0 : Int32), μ9)
  else
  bd (fL_types μ9 a1) fun r12 μ11 =>
  if r12 = 0 then
  some ((0 : Int32), μ11)
  else
  bd (fL_types μ11 a3) fun r14 μ13 =>
  if r14 = 0 then
  some ((0 : Int32), μ13)
  else
  bd (fX8_firstError μ13) fun r16 μ15 =>
  if r16 = a5 then
  some ((1 : Int32), μ15)
  else
  some ((0 : Int32), μ15)
theorem cmL_isError {l : Launch} {D : va_G} {cI cR : ClassId} {ad : Nat → Nat} {μ : Mem} {a1 : Int64} {a3 : Int64} {a5 : Int32} (hl9 : l.stackTraces = false) {r : Int32} {μ' : Mem} (hf : fL_isError μ a1 a3 a5 = some (r, μ')) : CM l yL_isError (.code yL_isError cL_isError 6 (some .boolean)) 9 22 D cI cR ad shX NX [.ref (ad 0), .long a1, .long a3, .int a5] μ (some (.int r)) μ' :=
  cm_of (own := RL) (ov := fun (r : Int32) => (some (.int r))) hl9 (by decide +kernel) rfl (Nat.le_of_ble_eq_true rfl) (fun p e s m below meth c A0 E X hr => by
    refine ll_lo (lo' := [some (.ref (ad 0)), some (.long a1), none, some (.long a3), none, some (.int a5)]) ⟨rfl, rfl, rfl, rfl, trivial⟩ ?_
    rw [fL_isError]
    refine ll_aload_n E (pc := 0) dL_isError_0 rfl ?_
    refine ll_callVi E (pc := 1) (d := 0) (ci := 8) (o9 := 0) [] [] dL_isError_1 cv_L_219 (fun h => ctX8_clearBuffer h) (Nat.le_of_ble_eq_true rfl) sx_0 ci_8 rfl rfl (Nat.le_of_ble_eq_true rfl) ⟨(Nat.le_of_ble_eq_true rfl), (Nat.le_of_ble_eq_true rfl)⟩ (mcc (by omega)) ?_
    intro r10 μ9
    refine ll_if_lt E (pc := 4) (tgt := 36) dL_isError_4 rfl ?_ ?_
    · refine ll_iconst E (pc := 36) dL_isError_36 kc_0 ?_
      exact ll_mzreturn E hr (fun _ h => h) rfl dL_isError_37 (by omega)
    · refine ll_aload_n E (pc := 7) dL_isError_7 rfl ?_
      refine ll_lload_n E (pc := 8) dL_isError_8 rfl ?_
      refine ll_mcallSi E X (pc := 9) (d := 8) [.ref (ad 0), .long a1] [] dL_isError_9 cv_L_209 (fun h => cmL_types X.1 h) rfl rfl (Nat.le_of_ble_eq_true rfl) ⟨(Nat.le_of_ble_eq_true rfl), (Nat.le_of_ble_eq_true rfl)⟩ (mcd (by omega)) ?_
      intro r12 μ11
      refine ll_if_eq E (pc := 12) (tgt := 36) dL_isError_12 rfl ?_ ?_
      · refine ll_iconst E (pc := 36) dL_isError_36 kc_0 ?_
        exact ll_mzreturn E hr (fun _ h => h) rfl dL_isError_37 (by omega)
      · refine ll_aload_n E (pc := 15) dL_isError_15 rfl ?_
        refine ll_lload_n E (pc := 16) dL_isError_16 rfl ?_
        refine ll_mcallSi E X (pc := 17) (d := 8) [.ref (ad 0), .long a3] [] dL_isError_17 cv_L_209 (fun h => cmL_types X.1 h) rfl rfl (Nat.le_of_ble_eq_true rfl) ⟨(Nat.le_of_ble_eq_true rfl), (Nat.le_of_ble_eq_true rfl)⟩ (mcd (by omega)) ?_
        intro r14 μ13
        refine ll_if_eq E (pc := 20) (tgt := 36) dL_isError_20 rfl ?_ ?_
        · refine ll_iconst E (pc := 36) dL_isError_36 kc_0 ?_
          exact ll_mzreturn E hr (fun _ h => h) rfl dL_isError_37 (by omega)
        · refine ll_aload_n E (pc := 23) dL_isError_23 rfl ?_
          refine ll_callVi E (pc := 24) (d := 5) (ci := 8) (o9 := 0) [] [] dL_isError_24 cv_L_264 (fun h => ctX8_firstError h) (Nat.le_of_ble_eq_true rfl) sx_0 ci_8 rfl rfl (Nat.le_of_ble_eq_true rfl) ⟨(Nat.le_of_ble_eq_true rfl), (Nat.le_of_ble_eq_true rfl)⟩ (mcc (by omega)) ?_
          intro r16 μ15
          refine ll_iload E (pc := 27) dL_isError_27 rfl ?_
          refine ll_icmp_ne E (pc := 29) (tgt := 36) dL_isError_29 rfl ?_ ?_
          · refine ll_iconst E (pc := 36) dL_isError_36 kc_0 ?_
            exact ll_mzreturn E hr (fun _ h => h) rfl dL_isError_37 (by omega)
          · refine ll_iconst E (pc := 32) dL_isError_32 kc_1 ?_
            refine ll_goto E (pc := 33) (tgt := 37) dL_isError_33 rfl ?_
            exact ll_mzreturn E hr (fun _ h => h) rfl dL_isError_37 (by omega)) hf
