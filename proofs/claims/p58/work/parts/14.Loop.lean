theorem dX3_slotAt_0 : decode cX3_slotAt 0 = .ok (.iload_n 1, 1) := by decide +kernel
theorem dX3_slotAt_1 : decode cX3_slotAt 1 = .ok (.sipush 340, 3) := by decide +kernel
theorem dX3_slotAt_4 : decode cX3_slotAt 4 = .ok (.imul, 1) := by decide +kernel
theorem dX3_slotAt_5 : decode cX3_slotAt 5 = .ok (.iload_n 2, 1) := by decide +kernel
theorem dX3_slotAt_6 : decode cX3_slotAt 6 = .ok (.iconst 1, 1) := by decide +kernel
theorem dX3_slotAt_7 : decode cX3_slotAt 7 = .ok (.aload_n 0, 1) := by decide +kernel
theorem dX3_slotAt_8 : decode cX3_slotAt 8 = .ok (.getfield 22, 3) := by decide +kernel
theorem dX3_slotAt_11 : decode cX3_slotAt 11 = .ok (.invokestatic 31, 3) := by decide +kernel
theorem dX3_slotAt_14 : decode cX3_slotAt 14 = .ok (.invokestatic 59, 3) := by decide +kernel
theorem dX3_slotAt_17 : decode cX3_slotAt 17 = .ok (.iadd, 1) := by decide +kernel
theorem dX3_slotAt_18 : decode cX3_slotAt 18 = .ok (.ireturn, 1) := by decide +kernel
def fX3_slotAt (μ : Mem) (a1 : Int32) (a2 : Int32) : Option (Int32 × Mem) :=
  bd (fJ9_floorMod_7cf53 μ a2 (jmax (1 : Int32) (μ 89 3))) fun r4 μ3 =>
  some (((a1 * (340 : Int32)) + r4), μ3)
theorem ctX3_slotAt {l : Launch} {D : va_G} {cI cR : ClassId} {ad : Nat → Nat} {μ : Mem} {a1 : Int32} {a2 : Int32} {r : Int32} {μ' : Mem} (hf : fX3_slotAt μ a1 a2 = some (r, μ')) : CT l yX3_slotAt cX3_slotAt 3 (some .int) 1 D cI cR ad shX NX [.ref (ad 89), .int a1, .int a2] μ (some (.int r)) μ' :=
  ct_of (own := RX3) (ov := fun r => some (.int r)) (by decide +kernel) rfl (Nat.le_of_ble_eq_true rfl) (fun p e s m below meth c A0 E hr => by
    refine ll_lo (lo' := [some (.ref (ad 89)), some (.int a1), some (.int a2)]) ⟨rfl, rfl, rfl, trivial⟩ ?_
    rw [fX3_slotAt]
    refine ll_iload_n E (pc := 0) dX3_slotAt_0 rfl ?_
    refine ll_sipush E (pc := 1) dX3_slotAt_1 ks_340 ?_
    refine ll_imul E (pc := 4) dX3_slotAt_4 ?_
    refine ll_iload_n E (pc := 5) dX3_slotAt_5 rfl ?_
    refine ll_iconst E (pc := 6) dX3_slotAt_6 kc_1 ?_
    refine ll_aload_n E (pc := 7) dX3_slotAt_7 rfl ?_
    refine ll_getf E (pc := 8) (o9 := 89) (ci := 3) (k9 := 3) dX3_slotAt_8 fl_X3_22 (Nat.le_of_ble_eq_true rfl) fx_89_3 ?_
    refine ll_max E (pc := 11) dX3_slotAt_11 mw_X3_31 mw_max1 mw_math mw_max2 (Nat.le_of_ble_eq_true rfl) ⟨(Nat.le_of_ble_eq_true rfl), (Nat.le_of_ble_eq_true rfl)⟩ ⟨(Nat.le_of_ble_eq_true rfl), (Nat.le_of_ble_eq_true rfl)⟩ ?_
    refine ll_callSi E (pc := 14) (d := 0) [.int a2, .int (jmax (1 : Int32) (μ 89 3))] [.int (a1 * (340 : Int32))] dX3_slotAt_14 cv_X3_59 (fun h => ctJ9_floorMod_7cf53 h) rfl rfl (Nat.le_of_ble_eq_true rfl) ⟨(Nat.le_of_ble_eq_true rfl), (Nat.le_of_ble_eq_true rfl)⟩ ⟨(Nat.le_of_ble_eq_true rfl), (Nat.le_of_ble_eq_true rfl)⟩ ?_
    intro r4 μ3
    refine ll_iadd E (pc := 17) dX3_slotAt_17 ?_
    exact ll_ireturn E (pc := 18) hr dX3_slotAt_18) hf
theorem dX3_take_0 : decode cX3_take 0 = .ok (.aload_n 0, 1) := by decide +kernel
theorem dX3_take_1 : decode cX3_take 1 = .ok (.getfield 15, 3) := by decide +kernel
theorem dX3_take_4 : decode cX3_take 4 = .ok (.aload_n 0, 1) := by decide +kernel
theorem dX3_take_5 : decode cX3_take 5 = .ok (.iload_n 1, 1) := by decide +kernel
theorem dX3_take_6 : decode cX3_take 6 = .ok (.iload_n 2, 1) := by decide +kernel
theorem dX3_take_7 : decode cX3_take 7 = .ok (.invokevirtual 62, 3) := by decide +kernel
theorem dX3_take_10 : decode cX3_take 10 = .ok (.dup2, 1) := by decide +kernel
theorem dX3_take_11 : decode cX3_take 11 = .ok (.iaload, 1) := by decide +kernel
theorem dX3_take_12 : decode cX3_take 12 = .ok (.iconst 1, 1) := by decide +kernel
theorem dX3_take_13 : decode cX3_take 13 = .ok (.iadd, 1) := by decide +kernel
theorem dX3_take_14 : decode cX3_take 14 = .ok (.iastore, 1) := by decide +kernel
theorem dX3_take_15 : decode cX3_take 15 = .ok (.return_, 1) := by decide +kernel
def fX3_take (μ : Mem) (a1 : Int32) (a2 : Int32) : Option (Unit × Mem) :=
  bd (fX3_slotAt μ a1 a2) fun r6 μ5 =>
  (ld 1020 (μ5 91) r6).bind fun r7 =>
  (ast 1020 μ5 91 r6 (r7 + (1 : Int32))).bind fun μ8 =>
  some ((), μ8)
theorem ctX3_take {l : Launch} {D : va_G} {cI cR : ClassId} {ad : Nat → Nat} {μ : Mem} {a1 : Int32} {a2 : Int32} {r : Unit} {μ' : Mem} (hf : fX3_take μ a1 a2 = some (r, μ')) : CT l yX3_take cX3_take 3 none 2 D cI cR ad shX NX [.ref (ad 89), .int a1, .int a2] μ none μ' :=
  ct_of (own := RX3) (ov := fun _ => none) (by decide +kernel) rfl (Nat.le_of_ble_eq_true rfl) (fun p e s m below meth c A0 E hr => by
    refine ll_lo (lo' := [some (.ref (ad 89)), some (.int a1), some (.int a2)]) ⟨rfl, rfl, rfl, trivial⟩ ?_
    rw [fX3_take]
    refine ll_aload_n E (pc := 0) dX3_take_0 rfl ?_
    refine ll_getfr E (pc := 1) (o9 := 89) (ci := 3) (k9 := 1) (q := 91) dX3_take_1 fl_X3_15 (Nat.le_of_ble_eq_true rfl) fx_89_1 ?_
    refine ll_aload_n E (pc := 4) dX3_take_4 rfl ?_
    refine ll_iload_n E (pc := 5) dX3_take_5 rfl ?_
    refine ll_iload_n E (pc := 6) dX3_take_6 rfl ?_
    refine ll_callVi E (pc := 7) (d := 1) (ci := 3) (o9 := 89) [.int a1, .int a2] [.ref (ad 91)] dX3_take_7 cv_X3_62 (fun h => ctX3_slotAt h) (Nat.le_of_ble_eq_true rfl) sx_89 ci_3 rfl rfl (Nat.le_of_ble_eq_true rfl) ⟨(Nat.le_of_ble_eq_true rfl), (Nat.le_of_ble_eq_true rfl)⟩ ⟨(Nat.le_of_ble_eq_true rfl), (Nat.le_of_ble_eq_true rfl)⟩ ?_
    intro r6 μ5
    refine ll_dup2 E (pc := 10) dX3_take_10 rfl rfl ?_
    refine ll_iald E (pc := 11) (a := 91) dX3_take_11 (px_91).1 (px_91).2 ?_
    intro r7
    refine ll_iconst E (pc := 12) dX3_take_12 kc_1 ?_
    refine ll_iadd E (pc := 13) dX3_take_13 ?_
    refine ll_iast E (pc := 14) (a := 91) dX3_take_14 (px_91).1 (px_91).2 ?_
    intro μ8
    exact ll_return E (pc := 15) hr dX3_take_15) hf
theorem dX3_askedFor_0 : decode cX3_askedFor 0 = .ok (.iconst 0, 1) := by decide +kernel
theorem dX3_askedFor_1 : decode cX3_askedFor 1 = .ok (.istore_n 3, 1) := by decide +kernel
theorem dX3_askedFor_2 : decode cX3_askedFor 2 = .ok (.iconst 0, 1) := by decide +kernel
theorem dX3_askedFor_3 : decode cX3_askedFor 3 = .ok (.istore 4, 2) := by decide +kernel
theorem dX3_askedFor_5 : decode cX3_askedFor 5 = .ok (.iload 4, 2) := by decide +kernel
theorem dX3_askedFor_7 : decode cX3_askedFor 7 = .ok (.iload_n 2, 1) := by decide +kernel
theorem dX3_askedFor_8 : decode cX3_askedFor 8 = .ok (.if_icmp .ge 76, 3) := by decide +kernel
theorem dX3_askedFor_11 : decode cX3_askedFor 11 = .ok (.aload_n 1, 1) := by decide +kernel
theorem dX3_askedFor_12 : decode cX3_askedFor 12 = .ok (.iload 4, 2) := by decide +kernel
theorem dX3_askedFor_14 : decode cX3_askedFor 14 = .ok (.iload_n 2, 1) := by decide +kernel
theorem dX3_askedFor_15 : decode cX3_askedFor 15 = .ok (.invokevirtual 76, 3) := by decide +kernel
theorem dX3_askedFor_18 : decode cX3_askedFor 18 = .ok (.istore 5, 2) := by decide +kernel
theorem dX3_askedFor_20 : decode cX3_askedFor 20 = .ok (.aload_n 1, 1) := by decide +kernel
theorem dX3_askedFor_21 : decode cX3_askedFor 21 = .ok (.iload 4, 2) := by decide +kernel
theorem dX3_askedFor_23 : decode cX3_askedFor 23 = .ok (.iload_n 2, 1) := by decide +kernel
theorem dX3_askedFor_24 : decode cX3_askedFor 24 = .ok (.invokevirtual 81, 3) := by decide +kernel
theorem dX3_askedFor_27 : decode cX3_askedFor 27 = .ok (.istore 6, 2) := by decide +kernel
theorem dX3_askedFor_29 : decode cX3_askedFor 29 = .ok (.iload 5, 2) := by decide +kernel
theorem dX3_askedFor_31 : decode cX3_askedFor 31 = .ok (.bipush (-99), 2) := by decide +kernel
theorem dX3_askedFor_33 : decode cX3_askedFor 33 = .ok (.if_icmp .eq 18, 3) := by decide +kernel
theorem dX3_askedFor_36 : decode cX3_askedFor 36 = .ok (.iload_n 3, 1) := by decide +kernel
theorem dX3_askedFor_37 : decode cX3_askedFor 37 = .ok (.aload_n 0, 1) := by decide +kernel
theorem dX3_askedFor_38 : decode cX3_askedFor 38 = .ok (.getfield 9, 3) := by decide +kernel
theorem dX3_askedFor_41 : decode cX3_askedFor 41 = .ok (.iload 4, 2) := by decide +kernel
theorem dX3_askedFor_43 : decode cX3_askedFor 43 = .ok (.iaload, 1) := by decide +kernel
theorem dX3_askedFor_44 : decode cX3_askedFor 44 = .ok (.iload 5, 2) := by decide +kernel
theorem dX3_askedFor_46 : decode cX3_askedFor 46 = .ok (.iadd, 1) := by decide +kernel
theorem dX3_askedFor_47 : decode cX3_askedFor 47 = .ok (.invokestatic 31, 3) := by decide +kernel
theorem dX3_askedFor_50 : decode cX3_askedFor 50 = .ok (.istore_n 3, 1) := by decide +kernel
theorem dX3_askedFor_51 : decode cX3_askedFor 51 = .ok (.iload 6, 2) := by decide +kernel
theorem dX3_askedFor_53 : decode cX3_askedFor 53 = .ok (.bipush (-99), 2) := by decide +kernel
theorem dX3_askedFor_55 : decode cX3_askedFor 55 = .ok (.if_icmp .eq 23, 3) := by decide +kernel
theorem dX3_askedFor_58 : decode cX3_askedFor 58 = .ok (.iload_n 3, 1) := by decide +kernel
theorem dX3_askedFor_59 : decode cX3_askedFor 59 = .ok (.aload_n 0, 1) := by decide +kernel
theorem dX3_askedFor_60 : decode cX3_askedFor 60 = .ok (.getfield 9, 3) := by decide +kernel
theorem dX3_askedFor_63 : decode cX3_askedFor 63 = .ok (.iload 4, 2) := by decide +kernel
theorem dX3_askedFor_65 : decode cX3_askedFor 65 = .ok (.iaload, 1) := by decide +kernel
theorem dX3_askedFor_66 : decode cX3_askedFor 66 = .ok (.iload 6, 2) := by decide +kernel
theorem dX3_askedFor_68 : decode cX3_askedFor 68 = .ok (.iadd, 1) := by decide +kernel
theorem dX3_askedFor_69 : decode cX3_askedFor 69 = .ok (.aload_n 0, 1) := by decide +kernel
theorem dX3_askedFor_70 : decode cX3_askedFor 70 = .ok (.getfield 22, 3) := by decide +kernel
theorem dX3_askedFor_73 : decode cX3_askedFor 73 = .ok (.isub, 1) := by decide +kernel
theorem dX3_askedFor_74 : decode cX3_askedFor 74 = .ok (.invokestatic 31, 3) := by decide +kernel
theorem dX3_askedFor_77 : decode cX3_askedFor 77 = .ok (.istore_n 3, 1) := by decide +kernel
theorem dX3_askedFor_78 : decode cX3_askedFor 78 = .ok (.iinc 4 1, 3) := by decide +kernel
theorem dX3_askedFor_81 : decode cX3_askedFor 81 = .ok (.goto (-76), 3) := by decide +kernel
theorem dX3_askedFor_84 : decode cX3_askedFor 84 = .ok (.iload_n 3, 1) := by decide +kernel
theorem dX3_askedFor_85 : decode cX3_askedFor 85 = .ok (.ireturn, 1) := by decide +kernel
def fX3_askedFor_L78 (K5 : Int32 → Int32 → Int32 → Mem → Option (Int32 × Mem)) (v2 : Int32) (v3 : Int32) (v4 : Int32) (μ : Mem) : Option (Int32 × Mem) :=
  K5 v2 v3 (v4 + (1 : Int32)) μ
def fX3_askedFor_L51 (K5 : Int32 → Int32 → Int32 → Mem → Option (Int32 × Mem)) (v2 : Int32) (v3 : Int32) (v4 : Int32) (v6 : Int32) (μ : Mem) : Option (Int32 × Mem) :=
  if v6 = (-99 : Int32) then
  fX3_askedFor_L78 K5 v2 v3 v4 μ
  else
  (ld 20 (μ 90) v4).bind fun r7 =>
  fX3_askedFor_L78 K5 v2 (jmax v3 ((r7 + v6) - (μ 89 3))) v4 μ
def fX3_askedFor_L5 : Nat → Int32 → Int32 → Int32 → Mem → Option (Int32 × Mem)
  | 0, _, _, _, _ => none
  | n + 1, v2, v3, v4, μ =>   if v2 ≤ v4 then
  some (v3, μ)
  else
  bd (fX2_nearOf μ v4 v2) fun r9 μ8 =>
  bd (fX2_overOf μ8 v4 v2) fun r11 μ10 =>
  if r9 = (-99 : Int32) then
  fX3_askedFor_L51 (fX3_askedFor_L5 n) v2 v3 v4 r11 μ10
  else
  (ld 20 (μ10 90) v4).bind fun r12 =>
  fX3_askedFor_L51 (fX3_askedFor_L5 n) v2 (jmax v3 (r12 + r9)) v4 r11 μ10
def fX3_askedFor (μ : Mem) (a2 : Int32) : Option (Int32 × Mem) :=
  fX3_askedFor_L5 fu a2 (0 : Int32) (0 : Int32) μ
theorem kX3_askedFor_L78 {p : Program} {l : Launch} {e : Env} {s : State} {m : MethodId} {args : Array Value} {below : List Frame} {meth : Method} {c : Code} {D : va_G} {cI cR : ClassId} {ad : Nat → Nat} {A0 : Nat → Prop} (E : EV p s m args meth c cX3_askedFor 7 RX3 D cI cR ad shX NX A0) (hr : meth.sig.returnType = (some .int)) {K5 : Int32 → Int32 → Int32 → Mem → Option (Int32 × Mem)} (hK5 : ∀ (v2 : Int32) (v3 : Int32) (v4 : Int32) (μ : Mem), LL p l e (RM 1) s m args below meth c 7 D cI cR ad shX NX A0 (fun (r : Int32) μ' => KG below args s D cI cR ad shX NX A0 (some (.int r)) μ') (K5 v2 v3 v4 μ) 0 0 5 [some (.ref (ad 89)), some (.ref (ad 75)), some (.int v2), some (.int v3), some (.int v4), none, none] [] μ) (v2 : Int32) (v3 : Int32) (v4 : Int32) (μ : Mem) : LL p l e (RM 1) s m args below meth c 7 D cI cR ad shX NX A0 (fun (r : Int32) μ' => KG below args s D cI cR ad shX NX A0 (some (.int r)) μ') (fX3_askedFor_L78 K5 v2 v3 v4 μ) 0 0 78 [some (.ref (ad 89)), some (.ref (ad 75)), some (.int v2), some (.int v3), some (.int v4), none, none] [] μ := by
  rw [fX3_askedFor_L78]
  refine ll_iinc E (pc := 78) (lo' := [some (.ref (ad 89)), some (.ref (ad 75)), some (.int v2), some (.int v3), some (.int (v4 + (1 : Int32))), none, none]) dX3_askedFor_78 rfl kc_1 (Nat.le_of_ble_eq_true rfl) rfl rfl ?_
  refine ll_goto E (pc := 81) (tgt := 5) dX3_askedFor_81 rfl ?_
  exact ll_lo (lo' := [some (.ref (ad 89)), some (.ref (ad 75)), some (.int v2), some (.int v3), some (.int (v4 + (1 : Int32))), none, none]) ⟨rfl, rfl, rfl, rfl, rfl, trivial⟩ (hK5 v2 v3 (v4 + (1 : Int32)) μ)
theorem kX3_askedFor_L51 {p : Program} {l : Launch} {e : Env} {s : State} {m : MethodId} {args : Array Value} {below : List Frame} {meth : Method} {c : Code} {D : va_G} {cI cR : ClassId} {ad : Nat → Nat} {A0 : Nat → Prop} (E : EV p s m args meth c cX3_askedFor 7 RX3 D cI cR ad shX NX A0) (hr : meth.sig.returnType = (some .int)) {K5 : Int32 → Int32 → Int32 → Mem → Option (Int32 × Mem)} (hK5 : ∀ (v2 : Int32) (v3 : Int32) (v4 : Int32) (μ : Mem), LL p l e (RM 1) s m args below meth c 7 D cI cR ad shX NX A0 (fun (r : Int32) μ' => KG below args s D cI cR ad shX NX A0 (some (.int r)) μ') (K5 v2 v3 v4 μ) 0 0 5 [some (.ref (ad 89)), some (.ref (ad 75)), some (.int v2), some (.int v3), some (.int v4), none, none] [] μ) (v2 : Int32) (v3 : Int32) (v4 : Int32) (v6 : Int32) (μ : Mem) : LL p l e (RM 1) s m args below meth c 7 D cI cR ad shX NX A0 (fun (r : Int32) μ' => KG below args s D cI cR ad shX NX A0 (some (.int r)) μ') (fX3_askedFor_L51 K5 v2 v3 v4 v6 μ) 0 0 51 [some (.ref (ad 89)), some (.ref (ad 75)), some (.int v2), some (.int v3), some (.int v4), none, some (.int v6)] [] μ := by
  rw [fX3_askedFor_L51]
  refine ll_iload E (pc := 51) dX3_askedFor_51 rfl ?_
  refine ll_bipush E (pc := 53) dX3_askedFor_53 kb_m99 ?_
  refine ll_icmp_eq E (pc := 55) (tgt := 78) dX3_askedFor_55 rfl ?_ ?_
  · exact ll_lo (lo' := [some (.ref (ad 89)), some (.ref (ad 75)), some (.int v2), some (.int v3), some (.int v4), none, none]) ⟨rfl, rfl, rfl, rfl, rfl, trivial⟩ (kX3_askedFor_L78 E hr hK5 v2 v3 v4 μ)
  · refine ll_iload_n E (pc := 58) dX3_askedFor_58 rfl ?_
    refine ll_aload_n E (pc := 59) dX3_askedFor_59 rfl ?_
    refine ll_getfr E (pc := 60) (o9 := 89) (ci := 3) (k9 := 0) (q := 90) dX3_askedFor_60 fl_X3_9 (Nat.le_of_ble_eq_true rfl) fx_89_0 ?_
    refine ll_iload E (pc := 63) dX3_askedFor_63 rfl ?_
    refine ll_iald E (pc := 65) (a := 90) dX3_askedFor_65 (px_90).1 (px_90).2 ?_
    intro r7
    refine ll_iload E (pc := 66) dX3_askedFor_66 rfl ?_
    refine ll_iadd E (pc := 68) dX3_askedFor_68 ?_
    refine ll_aload_n E (pc := 69) dX3_askedFor_69 rfl ?_
    refine ll_getf E (pc := 70) (o9 := 89) (ci := 3) (k9 := 3) dX3_askedFor_70 fl_X3_22 (Nat.le_of_ble_eq_true rfl) fx_89_3 ?_
    refine ll_isub E (pc := 73) dX3_askedFor_73 ?_
    refine ll_max E (pc := 74) dX3_askedFor_74 mw_X3_31 mw_max1 mw_math mw_max2 (Nat.le_of_ble_eq_true rfl) ⟨(Nat.le_of_ble_eq_true rfl), (Nat.le_of_ble_eq_true rfl)⟩ ⟨(Nat.le_of_ble_eq_true rfl), (Nat.le_of_ble_eq_true rfl)⟩ ?_
    refine ll_istore_n E (pc := 77) (lo' := [some (.ref (ad 89)), some (.ref (ad 75)), some (.int v2), some (.int (jmax v3 ((r7 + v6) - (μ 89 3)))), some (.int v4), none, some (.int v6)]) dX3_askedFor_77 (Nat.le_of_ble_eq_true rfl) rfl rfl ?_
    exact ll_lo (lo' := [some (.ref (ad 89)), some (.ref (ad 75)), some (.int v2), some (.int (jmax v3 ((r7 + v6) - (μ 89 3)))), some (.int v4), none, none]) ⟨rfl, rfl, rfl, rfl, rfl, trivial⟩ (kX3_askedFor_L78 E hr hK5 v2 (jmax v3 ((r7 + v6) - (μ 89 3))) v4 μ)
theorem kX3_askedFor_L5 {p : Program} {l : Launch} {e : Env} {s : State} {m : MethodId} {args : Array Value} {below : List Frame} {meth : Method} {c : Code} {D : va_G} {cI cR : ClassId} {ad : Nat → Nat} {A0 : Nat → Prop} (E : EV p s m args meth c cX3_askedFor 7 RX3 D cI cR ad shX NX A0) (hr : meth.sig.returnType = (some .int)) (n : Nat) : ∀ (v2 : Int32) (v3 : Int32) (v4 : Int32) (μ : Mem), LL p l e (RM 1) s m args below meth c 7 D cI cR ad shX NX A0 (fun (r : Int32) μ' => KG below args s D cI cR ad shX NX A0 (some (.int r)) μ') (fX3_askedFor_L5 n v2 v3 v4 μ) 0 0 5 [some (.ref (ad 89)), some (.ref (ad 75)), some (.int v2), some (.int v3), some (.int v4), none, none] [] μ := by
  induction n with
  | zero =>
    intros
    exact ll_none
  | succ n ih =>
    intro v2 v3 v4 μ
    rw [fX3_askedFor_L5]
    refine ll_iload E (pc := 5) dX3_askedFor_5 rfl ?_
    refine ll_iload_n E (pc := 7) dX3_askedFor_7 rfl ?_
    refine ll_icmp_ge E (pc := 8) (tgt := 84) dX3_askedFor_8 rfl ?_ ?_
    · refine ll_iload_n E (pc := 84) dX3_askedFor_84 rfl ?_
      exact ll_ireturn E (pc := 85) hr dX3_askedFor_85
    · refine ll_aload_n E (pc := 11) dX3_askedFor_11 rfl ?_
      refine ll_iload E (pc := 12) dX3_askedFor_12 rfl ?_
      refine ll_iload_n E (pc := 14) dX3_askedFor_14 rfl ?_
      refine ll_callVi E (pc := 15) (d := 0) (ci := 2) (o9 := 75) [.int v4, .int v2] [] dX3_askedFor_15 cv_X3_76 (fun h => ctX2_nearOf h) (Nat.le_of_ble_eq_true rfl) sx_75 ci_2 rfl rfl (Nat.le_of_ble_eq_true rfl) ⟨(Nat.le_of_ble_eq_true rfl), (Nat.le_of_ble_eq_true rfl)⟩ ⟨(Nat.le_of_ble_eq_true rfl), (Nat.le_of_ble_eq_true rfl)⟩ ?_
      intro r9 μ8
      refine ll_istore E (pc := 18) (lo' := [some (.ref (ad 89)), some (.ref (ad 75)), some (.int v2), some (.int v3), some (.int v4), some (.int r9), none]) dX3_askedFor_18 (Nat.le_of_ble_eq_true rfl) rfl rfl ?_
      refine ll_aload_n E (pc := 20) dX3_askedFor_20 rfl ?_
      refine ll_iload E (pc := 21) dX3_askedFor_21 rfl ?_
      refine ll_iload_n E (pc := 23) dX3_askedFor_23 rfl ?_
      refine ll_callVi E (pc := 24) (d := 0) (ci := 2) (o9 := 75) [.int v4, .int v2] [] dX3_askedFor_24 cv_X3_81 (fun h => ctX2_overOf h) (Nat.le_of_ble_eq_true rfl) sx_75 ci_2 rfl rfl (Nat.le_of_ble_eq_true rfl) ⟨(Nat.le_of_ble_eq_true rfl), (Nat.le_of_ble_eq_true rfl)⟩ ⟨(Nat.le_of_ble_eq_true rfl), (Nat.le_of_ble_eq_true rfl)⟩ ?_
      intro r11 μ10
      refine ll_istore E (pc := 27) (lo' := [some (.ref (ad 89)), some (.ref (ad 75)), some (.int v2), some (.int v3), some (.int v4), some (.int r9), some (.int r11)]) dX3_askedFor_27 (Nat.le_of_ble_eq_true rfl) rfl rfl ?_
      refine ll_iload E (pc := 29) dX3_askedFor_29 rfl ?_
      refine ll_bipush E (pc := 31) dX3_askedFor_31 kb_m99 ?_
      refine ll_icmp_eq E (pc := 33) (tgt := 51) dX3_askedFor_33 rfl ?_ ?_
      · exact ll_lo (lo' := [some (.ref (ad 89)), some (.ref (ad 75)), some (.int v2), some (.int v3), some (.int v4), none, some (.int r11)]) ⟨rfl, rfl, rfl, rfl, rfl, rfl, trivial⟩ (kX3_askedFor_L51 E hr ih v2 v3 v4 r11 μ10)
      · refine ll_iload_n E (pc := 36) dX3_askedFor_36 rfl ?_
        refine ll_aload_n E (pc := 37) dX3_askedFor_37 rfl ?_
        refine ll_getfr E (pc := 38) (o9 := 89) (ci := 3) (k9 := 0) (q := 90) dX3_askedFor_38 fl_X3_9 (Nat.le_of_ble_eq_true rfl) fx_89_0 ?_
        refine ll_iload E (pc := 41) dX3_askedFor_41 rfl ?_
        refine ll_iald E (pc := 43) (a := 90) dX3_askedFor_43 (px_90).1 (px_90).2 ?_
        intro r12
        refine ll_iload E (pc := 44) dX3_askedFor_44 rfl ?_
        refine ll_iadd E (pc := 46) dX3_askedFor_46 ?_
        refine ll_max E (pc := 47) dX3_askedFor_47 mw_X3_31 mw_max1 mw_math mw_max2 (Nat.le_of_ble_eq_true rfl) ⟨(Nat.le_of_ble_eq_true rfl), (Nat.le_of_ble_eq_true rfl)⟩ ⟨(Nat.le_of_ble_eq_true rfl), (Nat.le_of_ble_eq_true rfl)⟩ ?_
        refine ll_istore_n E (pc := 50) (lo' := [some (.ref (ad 89)), some (.ref (ad 75)), some (.int v2), some (.int (jmax v3 (r12 + r9))), some (.int v4), some (.int r9), some (.int r11)]) dX3_askedFor_50 (Nat.le_of_ble_eq_true rfl) rfl rfl ?_
        exact ll_lo (lo' := [some (.ref (ad 89)), some (.ref (ad 75)), some (.int v2), some (.int (jmax v3 (r12 + r9))), some (.int v4), none, some (.int r11)]) ⟨rfl, rfl, rfl, rfl, rfl, rfl, trivial⟩ (kX3_askedFor_L51 E hr ih v2 (jmax v3 (r12 + r9)) v4 r11 μ10)
theorem ctX3_askedFor {l : Launch} {D : va_G} {cI cR : ClassId} {ad : Nat → Nat} {μ : Mem} {a2 : Int32} {r : Int32} {μ' : Mem} (hf : fX3_askedFor μ a2 = some (r, μ')) : CT l yX3_askedFor cX3_askedFor 7 (some .int) 1 D cI cR ad shX NX [.ref (ad 89), .ref (ad 75), .int a2] μ (some (.int r)) μ' :=
  ct_of (own := RX3) (ov := fun r => some (.int r)) (by decide +kernel) rfl (Nat.le_of_ble_eq_true rfl) (fun p e s m below meth c A0 E hr => by
    refine ll_lo (lo' := [some (.ref (ad 89)), some (.ref (ad 75)), some (.int a2), none, none, none, none]) ⟨rfl, rfl, rfl, trivial⟩ ?_
    rw [fX3_askedFor]
    refine ll_iconst E (pc := 0) dX3_askedFor_0 kc_0 ?_
    refine ll_istore_n E (pc := 1) (lo' := [some (.ref (ad 89)), some (.ref (ad 75)), some (.int a2), some (.int (0 : Int32)), none, none, none]) dX3_askedFor_1 (Nat.le_of_ble_eq_true rfl) rfl rfl ?_
    refine ll_iconst E (pc := 2) dX3_askedFor_2 kc_0 ?_
    refine ll_istore E (pc := 3) (lo' := [some (.ref (ad 89)), some (.ref (ad 75)), some (.int a2), some (.int (0 : Int32)), some (.int (0 : Int32)), none, none]) dX3_askedFor_3 (Nat.le_of_ble_eq_true rfl) rfl rfl ?_
    exact ll_lo (lo' := [some (.ref (ad 89)), some (.ref (ad 75)), some (.int a2), some (.int (0 : Int32)), some (.int (0 : Int32)), none, none]) ⟨rfl, rfl, rfl, rfl, rfl, trivial⟩ (kX3_askedFor_L5 E hr fu a2 (0 : Int32) (0 : Int32) μ)) hf
theorem dX3_leavesTime_0 : decode cX3_leavesTime 0 = .ok (.iconst 0, 1) := by decide +kernel
theorem dX3_leavesTime_1 : decode cX3_leavesTime 1 = .ok (.istore 4, 2) := by decide +kernel
theorem dX3_leavesTime_3 : decode cX3_leavesTime 3 = .ok (.iload 4, 2) := by decide +kernel
theorem dX3_leavesTime_5 : decode cX3_leavesTime 5 = .ok (.iload_n 2, 1) := by decide +kernel
theorem dX3_leavesTime_6 : decode cX3_leavesTime 6 = .ok (.if_icmp .gt 60, 3) := by decide +kernel
theorem dX3_leavesTime_9 : decode cX3_leavesTime 9 = .ok (.aload_n 1, 1) := by decide +kernel
theorem dX3_leavesTime_10 : decode cX3_leavesTime 10 = .ok (.iload_n 2, 1) := by decide +kernel
theorem dX3_leavesTime_11 : decode cX3_leavesTime 11 = .ok (.iload 4, 2) := by decide +kernel
theorem dX3_leavesTime_13 : decode cX3_leavesTime 13 = .ok (.invokevirtual 81, 3) := by decide +kernel
theorem dX3_leavesTime_16 : decode cX3_leavesTime 16 = .ok (.istore 5, 2) := by decide +kernel
theorem dX3_leavesTime_18 : decode cX3_leavesTime 18 = .ok (.iload 4, 2) := by decide +kernel
theorem dX3_leavesTime_20 : decode cX3_leavesTime 20 = .ok (.iload_n 2, 1) := by decide +kernel
theorem dX3_leavesTime_21 : decode cX3_leavesTime 21 = .ok (.if_icmp .ne 7, 3) := by decide +kernel
theorem dX3_leavesTime_24 : decode cX3_leavesTime 24 = .ok (.iload_n 3, 1) := by decide +kernel
theorem dX3_leavesTime_25 : decode cX3_leavesTime 25 = .ok (.goto 10, 3) := by decide +kernel
theorem dX3_leavesTime_28 : decode cX3_leavesTime 28 = .ok (.aload_n 0, 1) := by decide +kernel
theorem dX3_leavesTime_29 : decode cX3_leavesTime 29 = .ok (.getfield 9, 3) := by decide +kernel
theorem dX3_leavesTime_32 : decode cX3_leavesTime 32 = .ok (.iload 4, 2) := by decide +kernel
theorem dX3_leavesTime_34 : decode cX3_leavesTime 34 = .ok (.iaload, 1) := by decide +kernel
theorem dX3_leavesTime_35 : decode cX3_leavesTime 35 = .ok (.istore 6, 2) := by decide +kernel
theorem dX3_leavesTime_37 : decode cX3_leavesTime 37 = .ok (.iload 5, 2) := by decide +kernel
theorem dX3_leavesTime_39 : decode cX3_leavesTime 39 = .ok (.bipush (-99), 2) := by decide +kernel
theorem dX3_leavesTime_41 : decode cX3_leavesTime 41 = .ok (.if_icmp .eq 19, 3) := by decide +kernel
theorem dX3_leavesTime_44 : decode cX3_leavesTime 44 = .ok (.iload 6, 2) := by decide +kernel
theorem dX3_leavesTime_46 : decode cX3_leavesTime 46 = .ok (.aload_n 0, 1) := by decide +kernel
theorem dX3_leavesTime_47 : decode cX3_leavesTime 47 = .ok (.getfield 22, 3) := by decide +kernel
theorem dX3_leavesTime_50 : decode cX3_leavesTime 50 = .ok (.iadd, 1) := by decide +kernel
theorem dX3_leavesTime_51 : decode cX3_leavesTime 51 = .ok (.iload_n 3, 1) := by decide +kernel
theorem dX3_leavesTime_52 : decode cX3_leavesTime 52 = .ok (.isub, 1) := by decide +kernel
theorem dX3_leavesTime_53 : decode cX3_leavesTime 53 = .ok (.iload 5, 2) := by decide +kernel
theorem dX3_leavesTime_55 : decode cX3_leavesTime 55 = .ok (.if_icmp .ge 5, 3) := by decide +kernel
theorem dX3_leavesTime_58 : decode cX3_leavesTime 58 = .ok (.iconst 0, 1) := by decide +kernel
theorem dX3_leavesTime_59 : decode cX3_leavesTime 59 = .ok (.ireturn, 1) := by decide +kernel
theorem dX3_leavesTime_60 : decode cX3_leavesTime 60 = .ok (.iinc 4 1, 3) := by decide +kernel
theorem dX3_leavesTime_63 : decode cX3_leavesTime 63 = .ok (.goto (-60), 3) := by decide +kernel
theorem dX3_leavesTime_66 : decode cX3_leavesTime 66 = .ok (.iconst 1, 1) := by decide +kernel
theorem dX3_leavesTime_67 : decode cX3_leavesTime 67 = .ok (.ireturn, 1) := by decide +kernel
def fX3_leavesTime_L60 (K3 : Int32 → Int32 → Int32 → Mem → Option (Int32 × Mem)) (v2 : Int32) (v3 : Int32) (v4 : Int32) (μ : Mem) : Option (Int32 × Mem) :=
  K3 v2 v3 (v4 + (1 : Int32)) μ
def fX3_leavesTime_L35 (K3 : Int32 → Int32 → Int32 → Mem → Option (Int32 × Mem)) (v2 : Int32) (v3 : Int32) (v4 : Int32) (v5 : Int32) (s0 : Int32) (μ : Mem) : Option (Int32 × Mem) :=
  if v5 = (-99 : Int32) then
  fX3_leavesTime_L60 K3 v2 v3 v4 μ
  else
  if v5 ≤ ((s0 + (μ 89 3)) - v3) then
  fX3_leavesTime_L60 K3 v2 v3 v4 μ
  else
  some ((0 : Int32), μ)
def fX3_leavesTime_L3 : Nat → Int32 → Int32 → Int32 → Mem → Option (Int32 × Mem)
  | 0, _, _, _, _ => none
  | n + 1, v2, v3, v4, μ =>   if v2 < v4 then
  some ((1 : Int32), μ)
  else
  bd (fX2_overOf μ v2 v4) fun r5 μ4 =>
  if v4 = v2 then
  fX3_leavesTime_L35 (fX3_leavesTime_L3 n) v2 v3 v4 r5 v3 μ4
  else
  (ld 20 (μ4 90) v4).bind fun r6 =>
  fX3_leavesTime_L35 (fX3_leavesTime_L3 n) v2 v3 v4 r5 r6 μ4
def fX3_leavesTime (μ : Mem) (a2 : Int32) (a3 : Int32) : Option (Int32 × Mem) :=
  fX3_leavesTime_L3 fu a2 a3 (0 : Int32) μ
theorem kX3_leavesTime_L60 {p : Program} {l : Launch} {e : Env} {s : State} {m : MethodId} {args : Array Value} {below : List Frame} {meth : Method} {c : Code} {D : va_G} {cI cR : ClassId} {ad : Nat → Nat} {A0 : Nat → Prop} (E : EV p s m args meth c cX3_leavesTime 7 RX3 D cI cR ad shX NX A0) (hr : meth.sig.returnType = (some .boolean)) {K3 : Int32 → Int32 → Int32 → Mem → Option (Int32 × Mem)} (hK3 : ∀ (v2 : Int32) (v3 : Int32) (v4 : Int32) (μ : Mem), LL p l e (RM 1) s m args below meth c 7 D cI cR ad shX NX A0 (fun (r : Int32) μ' => KG below args s D cI cR ad shX NX A0 (some (.int r)) μ') (K3 v2 v3 v4 μ) 0 0 3 [some (.ref (ad 89)), some (.ref (ad 75)), some (.int v2), some (.int v3), some (.int v4), none, none] [] μ) (v2 : Int32) (v3 : Int32) (v4 : Int32) (μ : Mem) : LL p l e (RM 1) s m args below meth c 7 D cI cR ad shX NX A0 (fun (r : Int32) μ' => KG below args s D cI cR ad shX NX A0 (some (.int r)) μ') (fX3_leavesTime_L60 K3 v2 v3 v4 μ) 0 0 60 [some (.ref (ad 89)), some (.ref (ad 75)), some (.int v2), some (.int v3), some (.int v4), none, none] [] μ := by
  rw [fX3_leavesTime_L60]
  refine ll_iinc E (pc := 60) (lo' := [some (.ref (ad 89)), some (.ref (ad 75)), some (.int v2), some (.int v3), some (.int (v4 + (1 : Int32))), none, none]) dX3_leavesTime_60 rfl kc_1 (Nat.le_of_ble_eq_true rfl) rfl rfl ?_
  refine ll_goto E (pc := 63) (tgt := 3) dX3_leavesTime_63 rfl ?_
  exact ll_lo (lo' := [some (.ref (ad 89)), some (.ref (ad 75)), some (.int v2), some (.int v3), some (.int (v4 + (1 : Int32))), none, none]) ⟨rfl, rfl, rfl, rfl, rfl, trivial⟩ (hK3 v2 v3 (v4 + (1 : Int32)) μ)
theorem kX3_leavesTime_L35 {p : Program} {l : Launch} {e : Env} {s : State} {m : MethodId} {args : Array Value} {below : List Frame} {meth : Method} {c : Code} {D : va_G} {cI cR : ClassId} {ad : Nat → Nat} {A0 : Nat → Prop} (E : EV p s m args meth c cX3_leavesTime 7 RX3 D cI cR ad shX NX A0) (hr : meth.sig.returnType = (some .boolean)) {K3 : Int32 → Int32 → Int32 → Mem → Option (Int32 × Mem)} (hK3 : ∀ (v2 : Int32) (v3 : Int32) (v4 : Int32) (μ : Mem), LL p l e (RM 1) s m args below meth c 7 D cI cR ad shX NX A0 (fun (r : Int32) μ' => KG below args s D cI cR ad shX NX A0 (some (.int r)) μ') (K3 v2 v3 v4 μ) 0 0 3 [some (.ref (ad 89)), some (.ref (ad 75)), some (.int v2), some (.int v3), some (.int v4), none, none] [] μ) (v2 : Int32) (v3 : Int32) (v4 : Int32) (v5 : Int32) (s0 : Int32) (μ : Mem) : LL p l e (RM 1) s m args below meth c 7 D cI cR ad shX NX A0 (fun (r : Int32) μ' => KG below args s D cI cR ad shX NX A0 (some (.int r)) μ') (fX3_leavesTime_L35 K3 v2 v3 v4 v5 s0 μ) 0 0 35 [some (.ref (ad 89)), some (.ref (ad 75)), some (.int v2), some (.int v3), some (.int v4), some (.int v5), none] [.int s0] μ := by
  rw [fX3_leavesTime_L35]
  refine ll_istore E (pc := 35) (lo' := [some (.ref (ad 89)), some (.ref (ad 75)), some (.int v2), some (.int v3), some (.int v4), some (.int v5), some (.int s0)]) dX3_leavesTime_35 (Nat.le_of_ble_eq_true rfl) rfl rfl ?_
  refine ll_iload E (pc := 37) dX3_leavesTime_37 rfl ?_
  refine ll_bipush E (pc := 39) dX3_leavesTime_39 kb_m99 ?_
  refine ll_icmp_eq E (pc := 41) (tgt := 60) dX3_leavesTime_41 rfl ?_ ?_
  · exact ll_lo (lo' := [some (.ref (ad 89)), some (.ref (ad 75)), some (.int v2), some (.int v3), some (.int v4), none, none]) ⟨rfl, rfl, rfl, rfl, rfl, trivial⟩ (kX3_leavesTime_L60 E hr hK3 v2 v3 v4 μ)
  · refine ll_iload E (pc := 44) dX3_leavesTime_44 rfl ?_
    refine ll_aload_n E (pc := 46) dX3_leavesTime_46 rfl ?_
    refine ll_getf E (pc := 47) (o9 := 89) (ci := 3) (k9 := 3) dX3_leavesTime_47 fl_X3_22 (Nat.le_of_ble_eq_true rfl) fx_89_3 ?_
    refine ll_iadd E (pc := 50) dX3_leavesTime_50 ?_
    refine ll_iload_n E (pc := 51) dX3_leavesTime_51 rfl ?_
    refine ll_isub E (pc := 52) dX3_leavesTime_52 ?_
    refine ll_iload E (pc := 53) dX3_leavesTime_53 rfl ?_
    refine ll_icmp_ge E (pc := 55) (tgt := 60) dX3_leavesTime_55 rfl ?_ ?_
    · exact ll_lo (lo' := [some (.ref (ad 89)), some (.ref (ad 75)), some (.int v2), some (.int v3), some (.int v4), none, none]) ⟨rfl, rfl, rfl, rfl, rfl, trivial⟩ (kX3_leavesTime_L60 E hr hK3 v2 v3 v4 μ)
    · refine ll_iconst E (pc := 58) dX3_leavesTime_58 kc_0 ?_
      exact ll_zreturn E (pc := 59) hr rfl dX3_leavesTime_59
theorem kX3_leavesTime_L3 {p : Program} {l : Launch} {e : Env} {s : State} {m : MethodId} {args : Array Value} {below : List Frame} {meth : Method} {c : Code} {D : va_G} {cI cR : ClassId} {ad : Nat → Nat} {A0 : Nat → Prop} (E : EV p s m args meth c cX3_leavesTime 7 RX3 D cI cR ad shX NX A0) (hr : meth.sig.returnType = (some .boolean)) (n : Nat) : ∀ (v2 : Int32) (v3 : Int32) (v4 : Int32) (μ : Mem), LL p l e (RM 1) s m args below meth c 7 D cI cR ad shX NX A0 (fun (r : Int32) μ' => KG below args s D cI cR ad shX NX A0 (some (.int r)) μ') (fX3_leavesTime_L3 n v2 v3 v4 μ) 0 0 3 [some (.ref (ad 89)), some (.ref (ad 75)), some (.int v2), some (.int v3), some (.int v4), none, none] [] μ := by
  induction n with
  | zero =>
    intros
    exact ll_none
  | succ n ih =>
    intro v2 v3 v4 μ
    rw [fX3_leavesTime_L3]
    refine ll_iload E (pc := 3) dX3_leavesTime_3 rfl ?_
    refine ll_iload_n E (pc := 5) dX3_leavesTime_5 rfl ?_
    refine ll_icmp_gt E (pc := 6) (tgt := 66) dX3_leavesTime_6 rfl ?_ ?_
    · refine ll_iconst E (pc := 66) dX3_leavesTime_66 kc_1 ?_
      exact ll_zreturn E (pc := 67) hr rfl dX3_leavesTime_67
    · refine ll_aload_n E (pc := 9) dX3_leavesTime_9 rfl ?_
      refine ll_iload_n E (pc := 10) dX3_leavesTime_10 rfl ?_
      refine ll_iload E (pc := 11) dX3_leavesTime_11 rfl ?_
      refine ll_callVi E (pc := 13) (d := 0) (ci := 2) (o9 := 75) [.int v2, .int v4] [] dX3_leavesTime_13 cv_X3_81 (fun h => ctX2_overOf h) (Nat.le_of_ble_eq_true rfl) sx_75 ci_2 rfl rfl (Nat.le_of_ble_eq_true rfl) ⟨(Nat.le_of_ble_eq_true rfl), (Nat.le_of_ble_eq_true rfl)⟩ ⟨(Nat.le_of_ble_eq_true rfl), (Nat.le_of_ble_eq_true rfl)⟩ ?_
      intro r5 μ4
      refine ll_istore E (pc := 16) (lo' := [some (.ref (ad 89)), some (.ref (ad 75)), some (.int v2), some (.int v3), some (.int v4), some (.int r5), none]) dX3_leavesTime_16 (Nat.le_of_ble_eq_true rfl) rfl rfl ?_
      refine ll_iload E (pc := 18) dX3_leavesTime_18 rfl ?_
      refine ll_iload_n E (pc := 20) dX3_leavesTime_20 rfl ?_
      refine ll_icmp_ne E (pc := 21) (tgt := 28) dX3_leavesTime_21 rfl ?_ ?_
      · refine ll_aload_n E (pc := 28) dX3_leavesTime_28 rfl ?_
        refine ll_getfr E (pc := 29) (o9 := 89) (ci := 3) (k9 := 0) (q := 90) dX3_leavesTime_29 fl_X3_9 (Nat.le_of_ble_eq_true rfl) fx_89_0 ?_
        refine ll_iload E (pc := 32) dX3_leavesTime_32 rfl ?_
        refine ll_iald E (pc := 34) (a := 90) dX3_leavesTime_34 (px_90).1 (px_90).2 ?_
        intro r6
        exact ll_lo (lo' := [some (.ref (ad 89)), some (.ref (ad 75)), some (.int v2), some (.int v3), some (.int v4), some (.int r5), none]) ⟨rfl, rfl, rfl, rfl, rfl, rfl, trivial⟩ (kX3_leavesTime_L35 E hr ih v2 v3 v4 r5 r6 μ4)
      · refine ll_iload_n E (pc := 24) dX3_leavesTime_24 rfl ?_
        refine ll_goto E (pc := 25) (tgt := 35) dX3_leavesTime_25 rfl ?_
        exact ll_lo (lo' := [some (.ref (ad 89)), some (.ref (ad 75)), some (.int v2), some (.int v3), some (.int v4), some (.int r5), none]) ⟨rfl, rfl, rfl, rfl, rfl, rfl, trivial⟩ (kX3_leavesTime_L35 E hr ih v2 v3 v4 r5 v3 μ4)
theorem ctX3_leavesTime {l : Launch} {D : va_G} {cI cR : ClassId} {ad : Nat → Nat} {μ : Mem} {a2 : Int32} {a3 : Int32} {r : Int32} {μ' : Mem} (hf : fX3_leavesTime μ a2 a3 = some (r, μ')) : CT l yX3_leavesTime cX3_leavesTime 7 (some .boolean) 1 D cI cR ad shX NX [.ref (ad 89), .ref (ad 75), .int a2, .int a3] μ (some (.int r)) μ' :=
  ct_of (own := RX3) (ov := fun r => some (.int r)) (by decide +kernel) rfl (Nat.le_of_ble_eq_true rfl) (fun p e s m below meth c A0 E hr => by
    refine ll_lo (lo' := [some (.ref (ad 89)), some (.ref (ad 75)), some (.int a2), some (.int a3), none, none, none]) ⟨rfl, rfl, rfl, rfl, trivial⟩ ?_
    rw [fX3_leavesTime]
    refine ll_iconst E (pc := 0) dX3_leavesTime_0 kc_0 ?_
    refine ll_istore E (pc := 1) (lo' := [some (.ref (ad 89)), some (.ref (ad 75)), some (.int a2), some (.int a3), some (.int (0 : Int32)), none, none]) dX3_leavesTime_1 (Nat.le_of_ble_eq_true rfl) rfl rfl ?_
    exact ll_lo (lo' := [some (.ref (ad 89)), some (.ref (ad 75)), some (.int a2), some (.int a3), some (.int (0 : Int32)), none, none]) ⟨rfl, rfl, rfl, rfl, rfl, trivial⟩ (kX3_leavesTime_L3 E hr fu a2 a3 (0 : Int32) μ)) hf
theorem dX3_firstFor_0 : decode cX3_firstFor 0 = .ok (.aload_n 1, 1) := by decide +kernel
theorem dX3_firstFor_1 : decode cX3_firstFor 1 = .ok (.iload_n 3, 1) := by decide +kernel
theorem dX3_firstFor_2 : decode cX3_firstFor 2 = .ok (.invokevirtual 55, 3) := by decide +kernel
theorem dX3_firstFor_5 : decode cX3_firstFor 5 = .ok (.istore 4, 2) := by decide +kernel
theorem dX3_firstFor_7 : decode cX3_firstFor 7 = .ok (.aload_n 0, 1) := by decide +kernel
theorem dX3_firstFor_8 : decode cX3_firstFor 8 = .ok (.aload_n 2, 1) := by decide +kernel
theorem dX3_firstFor_9 : decode cX3_firstFor 9 = .ok (.iload_n 3, 1) := by decide +kernel
theorem dX3_firstFor_10 : decode cX3_firstFor 10 = .ok (.invokevirtual 65, 3) := by decide +kernel
theorem dX3_firstFor_13 : decode cX3_firstFor 13 = .ok (.istore 5, 2) := by decide +kernel
theorem dX3_firstFor_15 : decode cX3_firstFor 15 = .ok (.iload 5, 2) := by decide +kernel
theorem dX3_firstFor_17 : decode cX3_firstFor 17 = .ok (.istore 6, 2) := by decide +kernel
theorem dX3_firstFor_19 : decode cX3_firstFor 19 = .ok (.iload 6, 2) := by decide +kernel
theorem dX3_firstFor_21 : decode cX3_firstFor 21 = .ok (.iload 5, 2) := by decide +kernel
theorem dX3_firstFor_23 : decode cX3_firstFor 23 = .ok (.aload_n 0, 1) := by decide +kernel
theorem dX3_firstFor_24 : decode cX3_firstFor 24 = .ok (.getfield 22, 3) := by decide +kernel
theorem dX3_firstFor_27 : decode cX3_firstFor 27 = .ok (.iadd, 1) := by decide +kernel
theorem dX3_firstFor_28 : decode cX3_firstFor 28 = .ok (.if_icmp .ge 46, 3) := by decide +kernel
theorem dX3_firstFor_31 : decode cX3_firstFor 31 = .ok (.aload_n 0, 1) := by decide +kernel
theorem dX3_firstFor_32 : decode cX3_firstFor 32 = .ok (.getfield 15, 3) := by decide +kernel
theorem dX3_firstFor_35 : decode cX3_firstFor 35 = .ok (.aload_n 0, 1) := by decide +kernel
theorem dX3_firstFor_36 : decode cX3_firstFor 36 = .ok (.iload 4, 2) := by decide +kernel
theorem dX3_firstFor_38 : decode cX3_firstFor 38 = .ok (.iload 6, 2) := by decide +kernel
theorem dX3_firstFor_40 : decode cX3_firstFor 40 = .ok (.invokevirtual 62, 3) := by decide +kernel
theorem dX3_firstFor_43 : decode cX3_firstFor 43 = .ok (.iaload, 1) := by decide +kernel
theorem dX3_firstFor_44 : decode cX3_firstFor 44 = .ok (.aload_n 1, 1) := by decide +kernel
theorem dX3_firstFor_45 : decode cX3_firstFor 45 = .ok (.getfield 69, 3) := by decide +kernel
theorem dX3_firstFor_48 : decode cX3_firstFor 48 = .ok (.iload 4, 2) := by decide +kernel
theorem dX3_firstFor_50 : decode cX3_firstFor 50 = .ok (.iaload, 1) := by decide +kernel
theorem dX3_firstFor_51 : decode cX3_firstFor 51 = .ok (.if_icmp .ge 17, 3) := by decide +kernel
theorem dX3_firstFor_54 : decode cX3_firstFor 54 = .ok (.aload_n 0, 1) := by decide +kernel
theorem dX3_firstFor_55 : decode cX3_firstFor 55 = .ok (.aload_n 2, 1) := by decide +kernel
theorem dX3_firstFor_56 : decode cX3_firstFor 56 = .ok (.iload_n 3, 1) := by decide +kernel
theorem dX3_firstFor_57 : decode cX3_firstFor 57 = .ok (.iload 6, 2) := by decide +kernel
theorem dX3_firstFor_59 : decode cX3_firstFor 59 = .ok (.invokevirtual 72, 3) := by decide +kernel
theorem dX3_firstFor_62 : decode cX3_firstFor 62 = .ok (.ifCond .eq 6, 3) := by decide +kernel
theorem dX3_firstFor_65 : decode cX3_firstFor 65 = .ok (.iload 6, 2) := by decide +kernel
theorem dX3_firstFor_67 : decode cX3_firstFor 67 = .ok (.ireturn, 1) := by decide +kernel
theorem dX3_firstFor_68 : decode cX3_firstFor 68 = .ok (.iinc 6 1, 3) := by decide +kernel
theorem dX3_firstFor_71 : decode cX3_firstFor 71 = .ok (.goto (-52), 3) := by decide +kernel
theorem dX3_firstFor_74 : decode cX3_firstFor 74 = .ok (.iconst (-1), 1) := by decide +kernel
theorem dX3_firstFor_75 : decode cX3_firstFor 75 = .ok (.ireturn, 1) := by decide +kernel
def fX3_firstFor_L68 (K19 : Int32 → Int32 → Int32 → Int32 → Mem → Option (Int32 × Mem)) (v3 : Int32) (v4 : Int32) (v5 : Int32) (v6 : Int32) (μ : Mem) : Option (Int32 × Mem) :=
  K19 v3 v4 v5 (v6 + (1 : Int32)) μ
def fX3_firstFor_L19 : Nat → Int32 → Int32 → Int32 → Int32 → Mem → Option (Int32 × Mem)
  | 0, _, _, _, _, _ => none
  | n + 1, v3, v4, v5, v6, μ =>   if (v5 + (μ 89 3)) ≤ v6 then
  some ((-1 : Int32), μ)
  else
  bd (fX3_slotAt μ v4 v6) fun r12 μ11 =>
  (ld 1020 (μ11 91) r12).bind fun r13 =>
  (ld 3 (μ11 9) v4).bind fun r14 =>
  if r14 ≤ r13 then
  fX3_firstFor_L68 (fX3_firstFor_L19 n) v3 v4 v5 v6 μ11
  else
  bd (fX3_leavesTime μ11 v3 v6) fun r16 μ15 =>
  if r16 = 0 then
  fX3_firstFor_L68 (fX3_firstFor_L19 n) v3 v4 v5 v6 μ15
  else
  some (v6, μ15)
def fX3_firstFor (μ : Mem) (a3 : Int32) : Option (Int32 × Mem) :=
  bd (fX6_unitOf μ a3) fun r18 μ17 =>
  bd (fX3_askedFor μ17 a3) fun r20 μ19 =>
  fX3_firstFor_L19 fu a3 r18 r20 r20 μ19
theorem kX3_firstFor_L68 {p : Program} {l : Launch} {e : Env} {s : State} {m : MethodId} {args : Array Value} {below : List Frame} {meth : Method} {c : Code} {D : va_G} {cI cR : ClassId} {ad : Nat → Nat} {A0 : Nat → Prop} (E : EV p s m args meth c cX3_firstFor 7 RX3 D cI cR ad shX NX A0) (hr : meth.sig.returnType = (some .int)) {K19 : Int32 → Int32 → Int32 → Int32 → Mem → Option (Int32 × Mem)} (hK19 : ∀ (v3 : Int32) (v4 : Int32) (v5 : Int32) (v6 : Int32) (μ : Mem), LL p l e (RM 2) s m args below meth c 7 D cI cR ad shX NX A0 (fun (r : Int32) μ' => KG below args s D cI cR ad shX NX A0 (some (.int r)) μ') (K19 v3 v4 v5 v6 μ) 0 0 19 [some (.ref (ad 89)), some (.ref (ad 1)), some (.ref (ad 75)), some (.int v3), some (.int v4), some (.int v5), some (.int v6)] [] μ) (v3 : Int32) (v4 : Int32) (v5 : Int32) (v6 : Int32) (μ : Mem) : LL p l e (RM 2) s m args below meth c 7 D cI cR ad shX NX A0 (fun (r : Int32) μ' => KG below args s D cI cR ad shX NX A0 (some (.int r)) μ') (fX3_firstFor_L68 K19 v3 v4 v5 v6 μ) 0 0 68 [some (.ref (ad 89)), some (.ref (ad 1)), some (.ref (ad 75)), some (.int v3), some (.int v4), some (.int v5), some (.int v6)] [] μ := by
  rw [fX3_firstFor_L68]
  refine ll_iinc E (pc := 68) (lo' := [some (.ref (ad 89)), some (.ref (ad 1)), some (.ref (ad 75)), some (.int v3), some (.int v4), some (.int v5), some (.int (v6 + (1 : Int32)))]) dX3_firstFor_68 rfl kc_1 (Nat.le_of_ble_eq_true rfl) rfl rfl ?_
  refine ll_goto E (pc := 71) (tgt := 19) dX3_firstFor_71 rfl ?_
  exact ll_lo (lo' := [some (.ref (ad 89)), some (.ref (ad 1)), some (.ref (ad 75)), some (.int v3), some (.int v4), some (.int v5), some (.int (v6 + (1 : Int32)))]) ⟨rfl, rfl, rfl, rfl, rfl, rfl, rfl, trivial⟩ (hK19 v3 v4 v5 (v6 + (1 : Int32)) μ)
theorem kX3_firstFor_L19 {p : Program} {l : Launch} {e : Env} {s : State} {m : MethodId} {args : Array Value} {below : List Frame} {meth : Method} {c : Code} {D : va_G} {cI cR : ClassId} {ad : Nat → Nat} {A0 : Nat → Prop} (E : EV p s m args meth c cX3_firstFor 7 RX3 D cI cR ad shX NX A0) (hr : meth.sig.returnType = (some .int)) (n : Nat) : ∀ (v3 : Int32) (v4 : Int32) (v5 : Int32) (v6 : Int32) (μ : Mem), LL p l e (RM 2) s m args below meth c 7 D cI cR ad shX NX A0 (fun (r : Int32) μ' => KG below args s D cI cR ad shX NX A0 (some (.int r)) μ') (fX3_firstFor_L19 n v3 v4 v5 v6 μ) 0 0 19 [some (.ref (ad 89)), some (.ref (ad 1)), some (.ref (ad 75)), some (.int v3), some (.int v4), some (.int v5), some (.int v6)] [] μ := by
  induction n with
  | zero =>
    intros
    exact ll_none
  | succ n ih =>
    intro v3 v4 v5 v6 μ
    rw [fX3_firstFor_L19]
    refine ll_iload E (pc := 19) dX3_firstFor_19 rfl ?_
    refine ll_iload E (pc := 21) dX3_firstFor_21 rfl ?_
    refine ll_aload_n E (pc := 23) dX3_firstFor_23 rfl ?_
    refine ll_getf E (pc := 24) (o9 := 89) (ci := 3) (k9 := 3) dX3_firstFor_24 fl_X3_22 (Nat.le_of_ble_eq_true rfl) fx_89_3 ?_
    refine ll_iadd E (pc := 27) dX3_firstFor_27 ?_
    refine ll_icmp_ge E (pc := 28) (tgt := 74) dX3_firstFor_28 rfl ?_ ?_
    · refine ll_iconst E (pc := 74) dX3_firstFor_74 kc_m1 ?_
      exact ll_ireturn E (pc := 75) hr dX3_firstFor_75
    · refine ll_aload_n E (pc := 31) dX3_firstFor_31 rfl ?_
      refine ll_getfr E (pc := 32) (o9 := 89) (ci := 3) (k9 := 1) (q := 91) dX3_firstFor_32 fl_X3_15 (Nat.le_of_ble_eq_true rfl) fx_89_1 ?_
      refine ll_aload_n E (pc := 35) dX3_firstFor_35 rfl ?_
      refine ll_iload E (pc := 36) dX3_firstFor_36 rfl ?_
      refine ll_iload E (pc := 38) dX3_firstFor_38 rfl ?_
      refine ll_callVi E (pc := 40) (d := 1) (ci := 3) (o9 := 89) [.int v4, .int v6] [.ref (ad 91)] dX3_firstFor_40 cv_X3_62 (fun h => ctX3_slotAt h) (Nat.le_of_ble_eq_true rfl) sx_89 ci_3 rfl rfl (Nat.le_of_ble_eq_true rfl) ⟨(Nat.le_of_ble_eq_true rfl), (Nat.le_of_ble_eq_true rfl)⟩ ⟨(Nat.le_of_ble_eq_true rfl), (Nat.le_of_ble_eq_true rfl)⟩ ?_
      intro r12 μ11
      refine ll_iald E (pc := 43) (a := 91) dX3_firstFor_43 (px_91).1 (px_91).2 ?_
      intro r13
      refine ll_aload_n E (pc := 44) dX3_firstFor_44 rfl ?_
      refine ll_getfr E (pc := 45) (o9 := 1) (ci := 6) (k9 := 8) (q := 9) dX3_firstFor_45 fl_X3_69 (Nat.le_of_ble_eq_true rfl) fx_1_8 ?_
      refine ll_iload E (pc := 48) dX3_firstFor_48 rfl ?_
      refine ll_iald E (pc := 50) (a := 9) dX3_firstFor_50 (px_9).1 (px_9).2 ?_
      intro r14
      refine ll_icmp_ge E (pc := 51) (tgt := 68) dX3_firstFor_51 rfl ?_ ?_
      · exact ll_lo (lo' := [some (.ref (ad 89)), some (.ref (ad 1)), some (.ref (ad 75)), some (.int v3), some (.int v4), some (.int v5), some (.int v6)]) ⟨rfl, rfl, rfl, rfl, rfl, rfl, rfl, trivial⟩ (kX3_firstFor_L68 E hr ih v3 v4 v5 v6 μ11)
      · refine ll_aload_n E (pc := 54) dX3_firstFor_54 rfl ?_
        refine ll_aload_n E (pc := 55) dX3_firstFor_55 rfl ?_
        refine ll_iload_n E (pc := 56) dX3_firstFor_56 rfl ?_
        refine ll_iload E (pc := 57) dX3_firstFor_57 rfl ?_
        refine ll_callVi E (pc := 59) (d := 1) (ci := 3) (o9 := 89) [.ref (ad 75), .int v3, .int v6] [] dX3_firstFor_59 cv_X3_72 (fun h => ctX3_leavesTime h) (Nat.le_of_ble_eq_true rfl) sx_89 ci_3 rfl rfl (Nat.le_of_ble_eq_true rfl) ⟨(Nat.le_of_ble_eq_true rfl), (Nat.le_of_ble_eq_true rfl)⟩ ⟨(Nat.le_of_ble_eq_true rfl), (Nat.le_of_ble_eq_true rfl)⟩ ?_
        intro r16 μ15
        refine ll_if_eq E (pc := 62) (tgt := 68) dX3_firstFor_62 rfl ?_ ?_
        · exact ll_lo (lo' := [some (.ref (ad 89)), some (.ref (ad 1)), some (.ref (ad 75)), some (.int v3), some (.int v4), some (.int v5), some (.int v6)]) ⟨rfl, rfl, rfl, rfl, rfl, rfl, rfl, trivial⟩ (kX3_firstFor_L68 E hr ih v3 v4 v5 v6 μ15)
        · refine ll_iload E (pc := 65) dX3_firstFor_65 rfl ?_
          exact ll_ireturn E (pc := 67) hr dX3_firstFor_67
theorem ctX3_firstFor {l : Launch} {D : va_G} {cI cR : ClassId} {ad : Nat → Nat} {μ : Mem} {a3 : Int32} {r : Int32} {μ' : Mem} (hf : fX3_firstFor μ a3 = some (r, μ')) : CT l yX3_firstFor cX3_firstFor 7 (some .int) 2 D cI cR ad shX NX [.ref (ad 89), .ref (ad 1), .ref (ad 75), .int a3] μ (some (.int r)) μ' :=
  ct_of (own := RX3) (ov := fun r => some (.int r)) (by decide +kernel) rfl (Nat.le_of_ble_eq_true rfl) (fun p e s m below meth c A0 E hr => by
    refine ll_lo (lo' := [some (.ref (ad 89)), some (.ref (ad 1)), some (.ref (ad 75)), some (.int a3), none, none, none]) ⟨rfl, rfl, rfl, rfl, trivial⟩ ?_
    rw [fX3_firstFor]
    refine ll_aload_n E (pc := 0) dX3_firstFor_0 rfl ?_
    refine ll_iload_n E (pc := 1) dX3_firstFor_1 rfl ?_
    refine ll_callVi E (pc := 2) (d := 1) (ci := 6) (o9 := 1) [.int a3] [] dX3_firstFor_2 cv_X3_55 (fun h => ctX6_unitOf h) (Nat.le_of_ble_eq_true rfl) sx_1 ci_6 rfl rfl (Nat.le_of_ble_eq_true rfl) ⟨(Nat.le_of_ble_eq_true rfl), (Nat.le_of_ble_eq_true rfl)⟩ ⟨(Nat.le_of_ble_eq_true rfl), (Nat.le_of_ble_eq_true rfl)⟩ ?_
    intro r18 μ17
    refine ll_istore E (pc := 5) (lo' := [some (.ref (ad 89)), some (.ref (ad 1)), some (.ref (ad 75)), some (.int a3), some (.int r18), none, none]) dX3_firstFor_5 (Nat.le_of_ble_eq_true rfl) rfl rfl ?_
    refine ll_aload_n E (pc := 7) dX3_firstFor_7 rfl ?_
    refine ll_aload_n E (pc := 8) dX3_firstFor_8 rfl ?_
    refine ll_iload_n E (pc := 9) dX3_firstFor_9 rfl ?_
    refine ll_callVi E (pc := 10) (d := 1) (ci := 3) (o9 := 89) [.ref (ad 75), .int a3] [] dX3_firstFor_10 cv_X3_65 (fun h => ctX3_askedFor h) (Nat.le_of_ble_eq_true rfl) sx_89 ci_3 rfl rfl (Nat.le_of_ble_eq_true rfl) ⟨(Nat.le_of_ble_eq_true rfl), (Nat.le_of_ble_eq_true rfl)⟩ ⟨(Nat.le_of_ble_eq_true rfl), (Nat.le_of_ble_eq_true rfl)⟩ ?_
    intro r20 μ19
    refine ll_istore E (pc := 13) (lo' := [some (.ref (ad 89)), some (.ref (ad 1)), some (.ref (ad 75)), some (.int a3), some (.int r18), some (.int r20), none]) dX3_firstFor_13 (Nat.le_of_ble_eq_true rfl) rfl rfl ?_
    refine ll_iload E (pc := 15) dX3_firstFor_15 rfl ?_
    refine ll_istore E (pc := 17) (lo' := [some (.ref (ad 89)), some (.ref (ad 1)), some (.ref (ad 75)), some (.int a3), some (.int r18), some (.int r20), some (.int r20)]) dX3_firstFor_17 (Nat.le_of_ble_eq_true rfl) rfl rfl ?_
    exact ll_lo (lo' := [some (.ref (ad 89)), some (.ref (ad 1)), some (.ref (ad 75)), some (.int a3), some (.int r18), some (.int r20), some (.int r20)]) ⟨rfl, rfl, rfl, rfl, rfl, rfl, rfl, trivial⟩ (kX3_firstFor_L19 E hr fu a3 r18 r20 r20 μ19)) hf
theorem dX3_fits_0 : decode cX3_fits 0 = .ok (.iconst 0, 1) := by decide +kernel
theorem dX3_fits_1 : decode cX3_fits 1 = .ok (.istore_n 3, 1) := by decide +kernel
theorem dX3_fits_2 : decode cX3_fits 2 = .ok (.iload_n 3, 1) := by decide +kernel
theorem dX3_fits_3 : decode cX3_fits 3 = .ok (.sipush 1020, 3) := by decide +kernel
theorem dX3_fits_6 : decode cX3_fits 6 = .ok (.if_icmp .ge 16, 3) := by decide +kernel
theorem dX3_fits_9 : decode cX3_fits 9 = .ok (.aload_n 0, 1) := by decide +kernel
theorem dX3_fits_10 : decode cX3_fits 10 = .ok (.getfield 15, 3) := by decide +kernel
theorem dX3_fits_13 : decode cX3_fits 13 = .ok (.iload_n 3, 1) := by decide +kernel
theorem dX3_fits_14 : decode cX3_fits 14 = .ok (.iconst 0, 1) := by decide +kernel
theorem dX3_fits_15 : decode cX3_fits 15 = .ok (.iastore, 1) := by decide +kernel
theorem dX3_fits_16 : decode cX3_fits 16 = .ok (.iinc 3 1, 3) := by decide +kernel
theorem dX3_fits_19 : decode cX3_fits 19 = .ok (.goto (-17), 3) := by decide +kernel
theorem dX3_fits_22 : decode cX3_fits 22 = .ok (.aload_n 0, 1) := by decide +kernel
theorem dX3_fits_23 : decode cX3_fits 23 = .ok (.iconst 0, 1) := by decide +kernel
theorem dX3_fits_24 : decode cX3_fits 24 = .ok (.aload_n 0, 1) := by decide +kernel
theorem dX3_fits_25 : decode cX3_fits 25 = .ok (.getfield 22, 3) := by decide +kernel
theorem dX3_fits_28 : decode cX3_fits 28 = .ok (.iconst 1, 1) := by decide +kernel
theorem dX3_fits_29 : decode cX3_fits 29 = .ok (.isub, 1) := by decide +kernel
theorem dX3_fits_30 : decode cX3_fits 30 = .ok (.aload_n 1, 1) := by decide +kernel
theorem dX3_fits_31 : decode cX3_fits 31 = .ok (.getfield 37, 3) := by decide +kernel
theorem dX3_fits_34 : decode cX3_fits 34 = .ok (.isub, 1) := by decide +kernel
theorem dX3_fits_35 : decode cX3_fits 35 = .ok (.invokevirtual 44, 3) := by decide +kernel
theorem dX3_fits_38 : decode cX3_fits 38 = .ok (.iconst 0, 1) := by decide +kernel
theorem dX3_fits_39 : decode cX3_fits 39 = .ok (.istore_n 3, 1) := by decide +kernel
theorem dX3_fits_40 : decode cX3_fits 40 = .ok (.iload_n 3, 1) := by decide +kernel
theorem dX3_fits_41 : decode cX3_fits 41 = .ok (.aload_n 1, 1) := by decide +kernel
theorem dX3_fits_42 : decode cX3_fits 42 = .ok (.getfield 48, 3) := by decide +kernel
theorem dX3_fits_45 : decode cX3_fits 45 = .ok (.if_icmp .ge 45, 3) := by decide +kernel
theorem dX3_fits_48 : decode cX3_fits 48 = .ok (.aload_n 0, 1) := by decide +kernel
theorem dX3_fits_49 : decode cX3_fits 49 = .ok (.aload_n 1, 1) := by decide +kernel
theorem dX3_fits_50 : decode cX3_fits 50 = .ok (.aload_n 2, 1) := by decide +kernel
theorem dX3_fits_51 : decode cX3_fits 51 = .ok (.iload_n 3, 1) := by decide +kernel
theorem dX3_fits_52 : decode cX3_fits 52 = .ok (.invokevirtual 51, 3) := by decide +kernel
theorem dX3_fits_55 : decode cX3_fits 55 = .ok (.istore 4, 2) := by decide +kernel
theorem dX3_fits_57 : decode cX3_fits 57 = .ok (.iload 4, 2) := by decide +kernel
theorem dX3_fits_59 : decode cX3_fits 59 = .ok (.iconst (-1), 1) := by decide +kernel
theorem dX3_fits_60 : decode cX3_fits 60 = .ok (.if_icmp .ne 5, 3) := by decide +kernel
theorem dX3_fits_63 : decode cX3_fits 63 = .ok (.iconst 0, 1) := by decide +kernel
theorem dX3_fits_64 : decode cX3_fits 64 = .ok (.ireturn, 1) := by decide +kernel
theorem dX3_fits_65 : decode cX3_fits 65 = .ok (.aload_n 0, 1) := by decide +kernel
theorem dX3_fits_66 : decode cX3_fits 66 = .ok (.getfield 9, 3) := by decide +kernel
theorem dX3_fits_69 : decode cX3_fits 69 = .ok (.iload_n 3, 1) := by decide +kernel
theorem dX3_fits_70 : decode cX3_fits 70 = .ok (.iload 4, 2) := by decide +kernel
theorem dX3_fits_72 : decode cX3_fits 72 = .ok (.iastore, 1) := by decide +kernel
theorem dX3_fits_73 : decode cX3_fits 73 = .ok (.aload_n 0, 1) := by decide +kernel
theorem dX3_fits_74 : decode cX3_fits 74 = .ok (.aload_n 1, 1) := by decide +kernel
theorem dX3_fits_75 : decode cX3_fits 75 = .ok (.iload_n 3, 1) := by decide +kernel
theorem dX3_fits_76 : decode cX3_fits 76 = .ok (.invokevirtual 55, 3) := by decide +kernel
theorem dX3_fits_79 : decode cX3_fits 79 = .ok (.iload 4, 2) := by decide +kernel
theorem dX3_fits_81 : decode cX3_fits 81 = .ok (.invokevirtual 44, 3) := by decide +kernel
theorem dX3_fits_84 : decode cX3_fits 84 = .ok (.iinc 3 1, 3) := by decide +kernel
theorem dX3_fits_87 : decode cX3_fits 87 = .ok (.goto (-47), 3) := by decide +kernel
theorem dX3_fits_90 : decode cX3_fits 90 = .ok (.iconst 1, 1) := by decide +kernel
theorem dX3_fits_91 : decode cX3_fits 91 = .ok (.ireturn, 1) := by decide +kernel
def fX3_fits_L40 : Nat → Int32 → Mem → Option (Int32 × Mem)
  | 0, _, _ => none
  | n + 1, v3, μ =>   if (μ 1 0) ≤ v3 then
  some ((1 : Int32), μ)
  else
  bd (fX3_firstFor μ v3) fun r12 μ11 =>
  if r12 = (-1 : Int32) then
  some ((0 : Int32), μ11)
  else
  (ast 20 μ11 90 v3 r12).bind fun μ13 =>
  bd (fX6_unitOf μ13 v3) fun r15 μ14 =>
  bd (fX3_take μ14 r15 r12) fun _ μ16 =>
  fX3_fits_L40 n (v3 + (1 : Int32)) μ16
def fX3_fits_L2 : Nat → Int32 → Mem → Option (Int32 × Mem)
  | 0, _, _ => none
  | n + 1, v3, μ =>   if (1020 : Int32) ≤ v3 then
  bd (fX3_take μ (0 : Int32) (((μ 89 3) - (1 : Int32)) - (μ 1 10))) fun _ μ18 =>
  fX3_fits_L40 fu (0 : Int32) μ18
  else
  (ast 1020 μ 91 v3 (0 : Int32)).bind fun μ20 =>
  fX3_fits_L2 n (v3 + (1 : Int32)) μ20
def fX3_fits (μ : Mem) : Option (Int32 × Mem) :=
  fX3_fits_L2 fu (0 : Int32) μ
theorem kX3_fits_L40 {p : Program} {l : Launch} {e : Env} {s : State} {m : MethodId} {args : Array Value} {below : List Frame} {meth : Method} {c : Code} {D : va_G} {cI cR : ClassId} {ad : Nat → Nat} {A0 : Nat → Prop} (E : EV p s m args meth c cX3_fits 5 RX3 D cI cR ad shX NX A0) (hr : meth.sig.returnType = (some .boolean)) (n : Nat) : ∀ (v3 : Int32) (μ : Mem), LL p l e (RM 3) s m args below meth c 5 D cI cR ad shX NX A0 (fun (r : Int32) μ' => KG below args s D cI cR ad shX NX A0 (some (.int r)) μ') (fX3_fits_L40 n v3 μ) 0 0 40 [some (.ref (ad 89)), some (.ref (ad 1)), some (.ref (ad 75)), some (.int v3), none] [] μ := by
  induction n with
  | zero =>
    intros
    exact ll_none
  | succ n ih =>
    intro v3 μ
    rw [fX3_fits_L40]
    refine ll_iload_n E (pc := 40) dX3_fits_40 rfl ?_
    refine ll_aload_n E (pc := 41) dX3_fits_41 rfl ?_
    refine ll_getf E (pc := 42) (o9 := 1) (ci := 6) (k9 := 0) dX3_fits_42 fl_X3_48 (Nat.le_of_ble_eq_true rfl) fx_1_0 ?_
    refine ll_icmp_ge E (pc := 45) (tgt := 90) dX3_fits_45 rfl ?_ ?_
    · refine ll_iconst E (pc := 90) dX3_fits_90 kc_1 ?_
      exact ll_zreturn E (pc := 91) hr rfl dX3_fits_91
    · refine ll_aload_n E (pc := 48) dX3_fits_48 rfl ?_
      refine ll_aload_n E (pc := 49) dX3_fits_49 rfl ?_
      refine ll_aload_n E (pc := 50) dX3_fits_50 rfl ?_
      refine ll_iload_n E (pc := 51) dX3_fits_51 rfl ?_
      refine ll_callVi E (pc := 52) (d := 2) (ci := 3) (o9 := 89) [.ref (ad 1), .ref (ad 75), .int v3] [] dX3_fits_52 cv_X3_51 (fun h => ctX3_firstFor h) (Nat.le_of_ble_eq_true rfl) sx_89 ci_3 rfl rfl (Nat.le_of_ble_eq_true rfl) ⟨(Nat.le_of_ble_eq_true rfl), (Nat.le_of_ble_eq_true rfl)⟩ ⟨(Nat.le_of_ble_eq_true rfl), (Nat.le_of_ble_eq_true rfl)⟩ ?_
      intro r12 μ11
      refine ll_istore E (pc := 55) (lo' := [some (.ref (ad 89)), some (.ref (ad 1)), some (.ref (ad 75)), some (.int v3), some (.int r12)]) dX3_fits_55 (Nat.le_of_ble_eq_true rfl) rfl rfl ?_
      refine ll_iload E (pc := 57) dX3_fits_57 rfl ?_
      refine ll_iconst E (pc := 59) dX3_fits_59 kc_m1 ?_
      refine ll_icmp_ne E (pc := 60) (tgt := 65) dX3_fits_60 rfl ?_ ?_
      · refine ll_aload_n E (pc := 65) dX3_fits_65 rfl ?_
        refine ll_getfr E (pc := 66) (o9 := 89) (ci := 3) (k9 := 0) (q := 90) dX3_fits_66 fl_X3_9 (Nat.le_of_ble_eq_true rfl) fx_89_0 ?_
        refine ll_iload_n E (pc := 69) dX3_fits_69 rfl ?_
        refine ll_iload E (pc := 70) dX3_fits_70 rfl ?_
        refine ll_iast E (pc := 72) (a := 90) dX3_fits_72 (px_90).1 (px_90).2 ?_
        intro μ13
        refine ll_aload_n E (pc := 73) dX3_fits_73 rfl ?_
        refine ll_aload_n E (pc := 74) dX3_fits_74 rfl ?_
        refine ll_iload_n E (pc := 75) dX3_fits_75 rfl ?_
        refine ll_callVi E (pc := 76) (d := 1) (ci := 6) (o9 := 1) [.int v3] [.ref (ad 89)] dX3_fits_76 cv_X3_55 (fun h => ctX6_unitOf h) (Nat.le_of_ble_eq_true rfl) sx_1 ci_6 rfl rfl (Nat.le_of_ble_eq_true rfl) ⟨(Nat.le_of_ble_eq_true rfl), (Nat.le_of_ble_eq_true rfl)⟩ ⟨(Nat.le_of_ble_eq_true rfl), (Nat.le_of_ble_eq_true rfl)⟩ ?_
        intro r15 μ14
        refine ll_iload E (pc := 79) dX3_fits_79 rfl ?_
        refine ll_callVv E (pc := 81) (d := 2) (ci := 3) (o9 := 89) [.int r15, .int r12] [] dX3_fits_81 cv_X3_44 (fun h => ctX3_take h) (Nat.le_of_ble_eq_true rfl) sx_89 ci_3 rfl rfl (Nat.le_of_ble_eq_true rfl) ⟨(Nat.le_of_ble_eq_true rfl), (Nat.le_of_ble_eq_true rfl)⟩ ⟨(Nat.le_of_ble_eq_true rfl), (Nat.le_of_ble_eq_true rfl)⟩ ?_
        intro r17 μ16
        refine ll_iinc E (pc := 84) (lo' := [some (.ref (ad 89)), some (.ref (ad 1)), some (.ref (ad 75)), some (.int (v3 + (1 : Int32))), some (.int r12)]) dX3_fits_84 rfl kc_1 (Nat.le_of_ble_eq_true rfl) rfl rfl ?_
        refine ll_goto E (pc := 87) (tgt := 40) dX3_fits_87 rfl ?_
        exact ll_lo (lo' := [some (.ref (ad 89)), some (.ref (ad 1)), some (.ref (ad 75)), some (.int (v3 + (1 : Int32))), none]) ⟨rfl, rfl, rfl, rfl, trivial⟩ (ih (v3 + (1 : Int32)) μ16)
      · refine ll_iconst E (pc := 63) dX3_fits_63 kc_0 ?_
        exact ll_zreturn E (pc := 64) hr rfl dX3_fits_64
theorem kX3_fits_L2 {p : Program} {l : Launch} {e : Env} {s : State} {m : MethodId} {args : Array Value} {below : List Frame} {meth : Method} {c : Code} {D : va_G} {cI cR : ClassId} {ad : Nat → Nat} {A0 : Nat → Prop} (E : EV p s m args meth c cX3_fits 5 RX3 D cI cR ad shX NX A0) (hr : meth.sig.returnType = (some .boolean)) (n : Nat) : ∀ (v3 : Int32) (μ : Mem), LL p l e (RM 3) s m args below meth c 5 D cI cR ad shX NX A0 (fun (r : Int32) μ' => KG below args s D cI cR ad shX NX A0 (some (.int r)) μ') (fX3_fits_L2 n v3 μ) 0 0 2 [some (.ref (ad 89)), some (.ref (ad 1)), some (.ref (ad 75)), some (.int v3), none] [] μ := by
  induction n with
  | zero =>
    intros
    exact ll_none
  | succ n ih =>
    intro v3 μ
    rw [fX3_fits_L2]
    refine ll_iload_n E (pc := 2) dX3_fits_2 rfl ?_
    refine ll_sipush E (pc := 3) dX3_fits_3 ks_1020 ?_
    refine ll_icmp_ge E (pc := 6) (tgt := 22) dX3_fits_6 rfl ?_ ?_
    · refine ll_aload_n E (pc := 22) dX3_fits_22 rfl ?_
      refine ll_iconst E (pc := 23) dX3_fits_23 kc_0 ?_
      refine ll_aload_n E (pc := 24) dX3_fits_24 rfl ?_
      refine ll_getf E (pc := 25) (o9 := 89) (ci := 3) (k9 := 3) dX3_fits_25 fl_X3_22 (Nat.le_of_ble_eq_true rfl) fx_89_3 ?_
      refine ll_iconst E (pc := 28) dX3_fits_28 kc_1 ?_
      refine ll_isub E (pc := 29) dX3_fits_29 ?_
      refine ll_aload_n E (pc := 30) dX3_fits_30 rfl ?_
      refine ll_getf E (pc := 31) (o9 := 1) (ci := 6) (k9 := 10) dX3_fits_31 fl_X3_37 (Nat.le_of_ble_eq_true rfl) fx_1_10 ?_
      refine ll_isub E (pc := 34) dX3_fits_34 ?_
      refine ll_callVv E (pc := 35) (d := 2) (ci := 3) (o9 := 89) [.int (0 : Int32), .int (((μ 89 3) - (1 : Int32)) - (μ 1 10))] [] dX3_fits_35 cv_X3_44 (fun h => ctX3_take h) (Nat.le_of_ble_eq_true rfl) sx_89 ci_3 rfl rfl (Nat.le_of_ble_eq_true rfl) ⟨(Nat.le_of_ble_eq_true rfl), (Nat.le_of_ble_eq_true rfl)⟩ ⟨(Nat.le_of_ble_eq_true rfl), (Nat.le_of_ble_eq_true rfl)⟩ ?_
      intro r19 μ18
      refine ll_iconst E (pc := 38) dX3_fits_38 kc_0 ?_
      refine ll_istore_n E (pc := 39) (lo' := [some (.ref (ad 89)), some (.ref (ad 1)), some (.ref (ad 75)), some (.int (0 : Int32)), none]) dX3_fits_39 (Nat.le_of_ble_eq_true rfl) rfl rfl ?_
      exact ll_lo (lo' := [some (.ref (ad 89)), some (.ref (ad 1)), some (.ref (ad 75)), some (.int (0 : Int32)), none]) ⟨rfl, rfl, rfl, rfl, trivial⟩ (kX3_fits_L40 E hr fu (0 : Int32) μ18)
    · refine ll_aload_n E (pc := 9) dX3_fits_9 rfl ?_
      refine ll_getfr E (pc := 10) (o9 := 89) (ci := 3) (k9 := 1) (q := 91) dX3_fits_10 fl_X3_15 (Nat.le_of_ble_eq_true rfl) fx_89_1 ?_
      refine ll_iload_n E (pc := 13) dX3_fits_13 rfl ?_
      refine ll_iconst E (pc := 14) dX3_fits_14 kc_0 ?_
      refine ll_iast E (pc := 15) (a := 91) dX3_fits_15 (px_91).1 (px_91).2 ?_
      intro μ20
      refine ll_iinc E (pc := 16) (lo' := [some (.ref (ad 89)), some (.ref (ad 1)), some (.ref (ad 75)), some (.int (v3 + (1 : Int32))), none]) dX3_fits_16 rfl kc_1 (Nat.le_of_ble_eq_true rfl) rfl rfl ?_
      refine ll_goto E (pc := 19) (tgt := 2) dX3_fits_19 rfl ?_
      exact ll_lo (lo' := [some (.ref (ad 89)), some (.ref (ad 1)), some (.ref (ad 75)), some (.int (v3 + (1 : Int32))), none]) ⟨rfl, rfl, rfl, rfl, trivial⟩ (ih (v3 + (1 : Int32)) μ20)
theorem ctX3_fits {l : Launch} {D : va_G} {cI cR : ClassId} {ad : Nat → Nat} {μ : Mem} {r : Int32} {μ' : Mem} (hf : fX3_fits μ = some (r, μ')) : CT l yX3_fits cX3_fits 5 (some .boolean) 3 D cI cR ad shX NX [.ref (ad 89), .ref (ad 1), .ref (ad 75)] μ (some (.int r)) μ' :=
  ct_of (own := RX3) (ov := fun r => some (.int r)) (by decide +kernel) rfl (Nat.le_of_ble_eq_true rfl) (fun p e s m below meth c A0 E hr => by
    refine ll_lo (lo' := [some (.ref (ad 89)), some (.ref (ad 1)), some (.ref (ad 75)), none, none]) ⟨rfl, rfl, rfl, trivial⟩ ?_
    rw [fX3_fits]
    refine ll_iconst E (pc := 0) dX3_fits_0 kc_0 ?_
    refine ll_istore_n E (pc := 1) (lo' := [some (.ref (ad 89)), some (.ref (ad 1)), some (.ref (ad 75)), some (.int (0 : Int32)), none]) dX3_fits_1 (Nat.le_of_ble_eq_true rfl) rfl rfl ?_
    exact ll_lo (lo' := [some (.ref (ad 89)), some (.ref (ad 1)), some (.ref (ad 75)), some (.int (0 : Int32)), none]) ⟨rfl, rfl, rfl, rfl, trivial⟩ (kX3_fits_L2 E hr fu (0 : Int32) μ)) hf
theorem dX3_makePlan_0 : decode cX3_makePlan 0 = .ok (.aload_n 0, 1) := by decide +kernel
theorem dX3_makePlan_1 : decode cX3_makePlan 1 = .ok (.iload_n 3, 1) := by decide +kernel
theorem dX3_makePlan_2 : decode cX3_makePlan 2 = .ok (.putfield 18, 3) := by decide +kernel
theorem dX3_makePlan_5 : decode cX3_makePlan 5 = .ok (.aload_n 1, 1) := by decide +kernel
theorem dX3_makePlan_6 : decode cX3_makePlan 6 = .ok (.invokevirtual 25, 3) := by decide +kernel
theorem dX3_makePlan_9 : decode cX3_makePlan 9 = .ok (.aload_n 0, 1) := by decide +kernel
theorem dX3_makePlan_10 : decode cX3_makePlan 10 = .ok (.getfield 18, 3) := by decide +kernel
theorem dX3_makePlan_13 : decode cX3_makePlan 13 = .ok (.invokestatic 31, 3) := by decide +kernel
theorem dX3_makePlan_16 : decode cX3_makePlan 16 = .ok (.aload_n 1, 1) := by decide +kernel
theorem dX3_makePlan_17 : decode cX3_makePlan 17 = .ok (.getfield 37, 3) := by decide +kernel
theorem dX3_makePlan_20 : decode cX3_makePlan 20 = .ok (.iconst 1, 1) := by decide +kernel
theorem dX3_makePlan_21 : decode cX3_makePlan 21 = .ok (.iadd, 1) := by decide +kernel
theorem dX3_makePlan_22 : decode cX3_makePlan 22 = .ok (.invokestatic 31, 3) := by decide +kernel
theorem dX3_makePlan_25 : decode cX3_makePlan 25 = .ok (.istore 4, 2) := by decide +kernel
theorem dX3_makePlan_27 : decode cX3_makePlan 27 = .ok (.iload 4, 2) := by decide +kernel
theorem dX3_makePlan_29 : decode cX3_makePlan 29 = .ok (.istore 5, 2) := by decide +kernel
theorem dX3_makePlan_31 : decode cX3_makePlan 31 = .ok (.iload 5, 2) := by decide +kernel
theorem dX3_makePlan_33 : decode cX3_makePlan 33 = .ok (.sipush 340, 3) := by decide +kernel
theorem dX3_makePlan_36 : decode cX3_makePlan 36 = .ok (.if_icmp .gt 25, 3) := by decide +kernel
theorem dX3_makePlan_39 : decode cX3_makePlan 39 = .ok (.aload_n 0, 1) := by decide +kernel
theorem dX3_makePlan_40 : decode cX3_makePlan 40 = .ok (.iload 5, 2) := by decide +kernel
theorem dX3_makePlan_42 : decode cX3_makePlan 42 = .ok (.putfield 22, 3) := by decide +kernel
theorem dX3_makePlan_45 : decode cX3_makePlan 45 = .ok (.aload_n 0, 1) := by decide +kernel
theorem dX3_makePlan_46 : decode cX3_makePlan 46 = .ok (.aload_n 1, 1) := by decide +kernel
theorem dX3_makePlan_47 : decode cX3_makePlan 47 = .ok (.aload_n 2, 1) := by decide +kernel
theorem dX3_makePlan_48 : decode cX3_makePlan 48 = .ok (.invokevirtual 40, 3) := by decide +kernel
theorem dX3_makePlan_51 : decode cX3_makePlan 51 = .ok (.ifCond .eq 4, 3) := by decide +kernel
theorem dX3_makePlan_54 : decode cX3_makePlan 54 = .ok (.return_, 1) := by decide +kernel
theorem dX3_makePlan_55 : decode cX3_makePlan 55 = .ok (.iinc 5 1, 3) := by decide +kernel
theorem dX3_makePlan_58 : decode cX3_makePlan 58 = .ok (.goto (-27), 3) := by decide +kernel
theorem dX3_makePlan_61 : decode cX3_makePlan 61 = .ok (.return_, 1) := by decide +kernel
def fX3_makePlan_L31 : Nat → Int32 → Mem → Option (Unit × Mem)
  | 0, _, _ => none
  | n + 1, v5, μ =>   if (340 : Int32) < v5 then
  some ((), μ)
  else
  (pt μ 89 3 v5).bind fun μ7 =>
  bd (fX3_fits μ7) fun r9 μ8 =>
  if r9 = 0 then
  fX3_makePlan_L31 n (v5 + (1 : Int32)) μ8
  else
  some ((), μ8)
def fX3_makePlan (μ : Mem) (a3 : Int32) : Option (Unit × Mem) :=
  (pt μ 89 2 a3).bind fun μ10 =>
  bd (fX6_unitBeat μ10) fun r12 μ11 =>
  fX3_makePlan_L31 fu (jmax (jmax r12 (μ11 89 2)) ((μ11 1 10) + (1 : Int32))) μ11
theorem kX3_makePlan_L31 {p : Program} {l : Launch} {e : Env} {s : State} {m : MethodId} {args : Array Value} {below : List Frame} {meth : Method} {c : Code} {D : va_G} {cI cR : ClassId} {ad : Nat → Nat} {A0 : Nat → Prop} (E : EV p s m args meth c cX3_makePlan 6 RX3 D cI cR ad shX NX A0) (hr : meth.sig.returnType = none) (n : Nat) : ∀ (v5 : Int32) (μ : Mem), LL p l e (RM 4) s m args below meth c 6 D cI cR ad shX NX A0 (fun (r : Unit) μ' => KG below args s D cI cR ad shX NX A0 none μ') (fX3_makePlan_L31 n v5 μ) 0 0 31 [some (.ref (ad 89)), some (.ref (ad 1)), some (.ref (ad 75)), none, none, some (.int v5)] [] μ := by
  induction n with
  | zero =>
    intros
    exact ll_none
  | succ n ih =>
    intro v5 μ
    rw [fX3_makePlan_L31]
    refine ll_iload E (pc := 31) dX3_makePlan_31 rfl ?_
    refine ll_sipush E (pc := 33) dX3_makePlan_33 ks_340 ?_
    refine ll_icmp_gt E (pc := 36) (tgt := 61) dX3_makePlan_36 rfl ?_ ?_
    · exact ll_return E (pc := 61) hr dX3_makePlan_61
    · refine ll_aload_n E (pc := 39) dX3_makePlan_39 rfl ?_
      refine ll_iload E (pc := 40) dX3_makePlan_40 rfl ?_
      refine ll_putf E (pc := 42) (o9 := 89) (ci := 3) (k9 := 3) dX3_makePlan_42 fw_X3_22 (Nat.le_of_ble_eq_true rfl) fx_89_3 ?_
      intro μ7
      refine ll_aload_n E (pc := 45) dX3_makePlan_45 rfl ?_
      refine ll_aload_n E (pc := 46) dX3_makePlan_46 rfl ?_
      refine ll_aload_n E (pc := 47) dX3_makePlan_47 rfl ?_
      refine ll_callVi E (pc := 48) (d := 3) (ci := 3) (o9 := 89) [.ref (ad 1), .ref (ad 75)] [] dX3_makePlan_48 cv_X3_40 (fun h => ctX3_fits h) (Nat.le_of_ble_eq_true rfl) sx_89 ci_3 rfl rfl (Nat.le_of_ble_eq_true rfl) ⟨(Nat.le_of_ble_eq_true rfl), (Nat.le_of_ble_eq_true rfl)⟩ ⟨(Nat.le_of_ble_eq_true rfl), (Nat.le_of_ble_eq_true rfl)⟩ ?_
      intro r9 μ8
      refine ll_if_eq E (pc := 51) (tgt := 55) dX3_makePlan_51 rfl ?_ ?_
      · refine ll_iinc E (pc := 55) (lo' := [some (.ref (ad 89)), some (.ref (ad 1)), some (.ref (ad 75)), none, none, some (.int (v5 + (1 : Int32)))]) dX3_makePlan_55 rfl kc_1 (Nat.le_of_ble_eq_true rfl) rfl rfl ?_
        refine ll_goto E (pc := 58) (tgt := 31) dX3_makePlan_58 rfl ?_
        exact ll_lo (lo' := [some (.ref (ad 89)), some (.ref (ad 1)), some (.ref (ad 75)), none, none, some (.int (v5 + (1 : Int32)))]) ⟨rfl, rfl, rfl, rfl, trivial⟩ (ih (v5 + (1 : Int32)) μ8)
      · exact ll_return E (pc := 54) hr dX3_makePlan_54
theorem ctX3_makePlan {l : Launch} {D : va_G} {cI cR : ClassId} {ad : Nat → Nat} {μ : Mem} {a3 : Int32} {r : Unit} {μ' : Mem} (hf : fX3_makePlan μ a3 = some (r, μ')) : CT l yX3_makePlan cX3_makePlan 6 none 4 D cI cR ad shX NX [.ref (ad 89), .ref (ad 1), .ref (ad 75), .int a3] μ none μ' :=
  ct_of (own := RX3) (ov := fun _ => none) (by decide +kernel) rfl (Nat.le_of_ble_eq_true rfl) (fun p e s m below meth c A0 E hr => by
    refine ll_lo (lo' := [some (.ref (ad 89)), some (.ref (ad 1)), some (.ref (ad 75)), some (.int a3), none, none]) ⟨rfl, rfl, rfl, rfl, trivial⟩ ?_
    rw [fX3_makePlan]
    refine ll_aload_n E (pc := 0) dX3_makePlan_0 rfl ?_
    refine ll_iload_n E (pc := 1) dX3_makePlan_1 rfl ?_
    refine ll_putf E (pc := 2) (o9 := 89) (ci := 3) (k9 := 2) dX3_makePlan_2 fw_X3_18 (Nat.le_of_ble_eq_true rfl) fx_89_2 ?_
    intro μ10
    refine ll_aload_n E (pc := 5) dX3_makePlan_5 rfl ?_
    refine ll_callVi E (pc := 6) (d := 2) (ci := 6) (o9 := 1) [] [] dX3_makePlan_6 cv_X3_25 (fun h => ctX6_unitBeat h) (Nat.le_of_ble_eq_true rfl) sx_1 ci_6 rfl rfl (Nat.le_of_ble_eq_true rfl) ⟨(Nat.le_of_ble_eq_true rfl), (Nat.le_of_ble_eq_true rfl)⟩ ⟨(Nat.le_of_ble_eq_true rfl), (Nat.le_of_ble_eq_true rfl)⟩ ?_
    intro r12 μ11
    refine ll_aload_n E (pc := 9) dX3_makePlan_9 rfl ?_
    refine ll_getf E (pc := 10) (o9 := 89) (ci := 3) (k9 := 2) dX3_makePlan_10 fl_X3_18 (Nat.le_of_ble_eq_true rfl) fx_89_2 ?_
    refine ll_max E (pc := 13) dX3_makePlan_13 mw_X3_31 mw_max1 mw_math mw_max2 (Nat.le_of_ble_eq_true rfl) ⟨(Nat.le_of_ble_eq_true rfl), (Nat.le_of_ble_eq_true rfl)⟩ ⟨(Nat.le_of_ble_eq_true rfl), (Nat.le_of_ble_eq_true rfl)⟩ ?_
    refine ll_aload_n E (pc := 16) dX3_makePlan_16 rfl ?_
    refine ll_getf E (pc := 17) (o9 := 1) (ci := 6) (k9 := 10) dX3_makePlan_17 fl_X3_37 (Nat.le_of_ble_eq_true rfl) fx_1_10 ?_
    refine ll_iconst E (pc := 20) dX3_makePlan_20 kc_1 ?_
    refine ll_iadd E (pc := 21) dX3_makePlan_21 ?_
    refine ll_max E (pc := 22) dX3_makePlan_22 mw_X3_31 mw_max1 mw_math mw_max2 (Nat.le_of_ble_eq_true rfl) ⟨(Nat.le_of_ble_eq_true rfl), (Nat.le_of_ble_eq_true rfl)⟩ ⟨(Nat.le_of_ble_eq_true rfl), (Nat.le_of_ble_eq_true rfl)⟩ ?_
    refine ll_istore E (pc := 25) (lo' := [some (.ref (ad 89)), some (.ref (ad 1)), some (.ref (ad 75)), some (.int a3), some (.int (jmax (jmax r12 (μ11 89 2)) ((μ11 1 10) + (1 : Int32)))), none]) dX3_makePlan_25 (Nat.le_of_ble_eq_true rfl) rfl rfl ?_
    refine ll_iload E (pc := 27) dX3_makePlan_27 rfl ?_
    refine ll_istore E (pc := 29) (lo' := [some (.ref (ad 89)), some (.ref (ad 1)), some (.ref (ad 75)), some (.int a3), some (.int (jmax (jmax r12 (μ11 89 2)) ((μ11 1 10) + (1 : Int32)))), some (.int (jmax (jmax r12 (μ11 89 2)) ((μ11 1 10) + (1 : Int32))))]) dX3_makePlan_29 (Nat.le_of_ble_eq_true rfl) rfl rfl ?_
    exact ll_lo (lo' := [some (.ref (ad 89)), some (.ref (ad 1)), some (.ref (ad 75)), none, none, some (.int (jmax (jmax r12 (μ11 89 2)) ((μ11 1 10) + (1 : Int32))))]) ⟨rfl, rfl, rfl, rfl, trivial⟩ (kX3_makePlan_L31 E hr fu (jmax (jmax r12 (μ11 89 2)) ((μ11 1 10) + (1 : Int32))) μ11)) hf
