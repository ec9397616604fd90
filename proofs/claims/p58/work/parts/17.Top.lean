theorem dX8_isRegister_0 : decode cX8_isRegister 0 = .ok (.iload_n 0, 1) := by decide +kernel
theorem dX8_isRegister_1 : decode cX8_isRegister 1 = .ok (.ifCond .lt 13, 3) := by decide +kernel
theorem dX8_isRegister_4 : decode cX8_isRegister 4 = .ok (.iload_n 0, 1) := by decide +kernel
theorem dX8_isRegister_5 : decode cX8_isRegister 5 = .ok (.bipush 12, 2) := by decide +kernel
theorem dX8_isRegister_7 : decode cX8_isRegister 7 = .ok (.if_icmp .ge 7, 3) := by decide +kernel
theorem dX8_isRegister_10 : decode cX8_isRegister 10 = .ok (.iconst 1, 1) := by decide +kernel
theorem dX8_isRegister_11 : decode cX8_isRegister 11 = .ok (.goto 4, 3) := by decide +kernel
theorem dX8_isRegister_14 : decode cX8_isRegister 14 = .ok (.iconst 0, 1) := by decide +kernel
theorem dX8_isRegister_15 : decode cX8_isRegister 15 = .ok (.ireturn, 1) := by decide +kernel
def fX8_isRegister (μ : Mem) (a0 : Int32) : Option (Int32 × Mem) :=
  if a0 < 0 then
  some ((0 : Int32), μ)
  else
  if (12 : Int32) ≤ a0 then
  some ((0 : Int32), μ)
  else
  some ((1 : Int32), μ)
theorem ctX8_isRegister {l : Launch} {D : va_G} {cI cR : ClassId} {ad : Nat → Nat} {μ : Mem} {a0 : Int32} {r : Int32} {μ' : Mem} (hf : fX8_isRegister μ a0 = some (r, μ')) : CT l yX8_isRegister cX8_isRegister 1 (some .boolean) 0 D cI cR ad shX NX [.int a0] μ (some (.int r)) μ' :=
  ct_of (own := RX8) (ov := fun r => some (.int r)) (by decide +kernel) rfl (Nat.le_of_ble_eq_true rfl) (fun p e s m below meth c A0 E hr => by
    refine ll_lo (lo' := [some (.int a0)]) ⟨rfl, trivial⟩ ?_
    rw [fX8_isRegister]
    refine ll_iload_n E (pc := 0) dX8_isRegister_0 rfl ?_
    refine ll_if_lt E (pc := 1) (tgt := 14) dX8_isRegister_1 rfl ?_ ?_
    · refine ll_iconst E (pc := 14) dX8_isRegister_14 kc_0 ?_
      exact ll_zreturn E (pc := 15) hr rfl dX8_isRegister_15
    · refine ll_iload_n E (pc := 4) dX8_isRegister_4 rfl ?_
      refine ll_bipush E (pc := 5) dX8_isRegister_5 kb_12 ?_
      refine ll_icmp_ge E (pc := 7) (tgt := 14) dX8_isRegister_7 rfl ?_ ?_
      · refine ll_iconst E (pc := 14) dX8_isRegister_14 kc_0 ?_
        exact ll_zreturn E (pc := 15) hr rfl dX8_isRegister_15
      · refine ll_iconst E (pc := 10) dX8_isRegister_10 kc_1 ?_
        refine ll_goto E (pc := 11) (tgt := 15) dX8_isRegister_11 rfl ?_
        exact ll_zreturn E (pc := 15) hr rfl dX8_isRegister_15) hf
theorem dX8_spoil_0 : decode cX8_spoil 0 = .ok (.aload_n 0, 1) := by decide +kernel
theorem dX8_spoil_1 : decode cX8_spoil 1 = .ok (.iconst 0, 1) := by decide +kernel
theorem dX8_spoil_2 : decode cX8_spoil 2 = .ok (.putfield 400, 3) := by decide +kernel
theorem dX8_spoil_5 : decode cX8_spoil 5 = .ok (.aload_n 0, 1) := by decide +kernel
theorem dX8_spoil_6 : decode cX8_spoil 6 = .ok (.iconst 0, 1) := by decide +kernel
theorem dX8_spoil_7 : decode cX8_spoil 7 = .ok (.putfield 403, 3) := by decide +kernel
theorem dX8_spoil_10 : decode cX8_spoil 10 = .ok (.return_, 1) := by decide +kernel
def fX8_spoil (μ : Mem) : Option (Unit × Mem) :=
  (pt μ 0 6 (0 : Int32)).bind fun μ3 =>
  (pt μ3 0 10 (0 : Int32)).bind fun μ4 =>
  some ((), μ4)
theorem ctX8_spoil {l : Launch} {D : va_G} {cI cR : ClassId} {ad : Nat → Nat} {μ : Mem} {r : Unit} {μ' : Mem} (hf : fX8_spoil μ = some (r, μ')) : CT l yX8_spoil cX8_spoil 1 none 0 D cI cR ad shX NX [.ref (ad 0)] μ none μ' :=
  ct_of (own := RX8) (ov := fun _ => none) (by decide +kernel) rfl (Nat.le_of_ble_eq_true rfl) (fun p e s m below meth c A0 E hr => by
    refine ll_lo (lo' := [some (.ref (ad 0))]) ⟨rfl, trivial⟩ ?_
    rw [fX8_spoil]
    refine ll_aload_n E (pc := 0) dX8_spoil_0 rfl ?_
    refine ll_iconst E (pc := 1) dX8_spoil_1 kc_0 ?_
    refine ll_put0 E (pc := 2) (o9 := 0) (ci := 8) (k9 := 6) dX8_spoil_2 fw_X8_400 (Nat.le_of_ble_eq_true rfl) fx_0_6 rfl rfl ?_
    intro μ3
    refine ll_aload_n E (pc := 5) dX8_spoil_5 rfl ?_
    refine ll_iconst E (pc := 6) dX8_spoil_6 kc_0 ?_
    refine ll_put0 E (pc := 7) (o9 := 0) (ci := 8) (k9 := 10) dX8_spoil_7 fw_X8_403 (Nat.le_of_ble_eq_true rfl) fx_0_10 rfl rfl ?_
    intro μ4
    exact ll_return E (pc := 10) hr dX8_spoil_10) hf
theorem dX8_save_0 : decode cX8_save 0 = .ok (.aload_n 0, 1) := by decide +kernel
theorem dX8_save_1 : decode cX8_save 1 = .ok (.getfield 19, 3) := by decide +kernel
theorem dX8_save_4 : decode cX8_save 4 = .ok (.aload_n 0, 1) := by decide +kernel
theorem dX8_save_5 : decode cX8_save 5 = .ok (.getfield 12, 3) := by decide +kernel
theorem dX8_save_8 : decode cX8_save 8 = .ok (.invokevirtual 397, 3) := by decide +kernel
theorem dX8_save_11 : decode cX8_save 11 = .ok (.aload_n 0, 1) := by decide +kernel
theorem dX8_save_12 : decode cX8_save 12 = .ok (.invokevirtual 229, 3) := by decide +kernel
theorem dX8_save_15 : decode cX8_save 15 = .ok (.return_, 1) := by decide +kernel
def fX8_save (μ : Mem) : Option (Unit × Mem) :=
  bd (fX1_push μ) fun _ μ5 =>
  bd (fX8_spoil μ5) fun _ μ7 =>
  some ((), μ7)
theorem ctX8_save {l : Launch} {D : va_G} {cI cR : ClassId} {ad : Nat → Nat} {μ : Mem} {r : Unit} {μ' : Mem} (hf : fX8_save μ = some (r, μ')) : CT l yX8_save cX8_save 1 none 3 D cI cR ad shX NX [.ref (ad 0)] μ none μ' :=
  ct_of (own := RX8) (ov := fun _ => none) (by decide +kernel) rfl (Nat.le_of_ble_eq_true rfl) (fun p e s m below meth c A0 E hr => by
    refine ll_lo (lo' := [some (.ref (ad 0))]) ⟨rfl, trivial⟩ ?_
    rw [fX8_save]
    refine ll_aload_n E (pc := 0) dX8_save_0 rfl ?_
    refine ll_getfr E (pc := 1) (o9 := 0) (ci := 8) (k9 := 1) (q := 11) dX8_save_1 fl_X8_19 (Nat.le_of_ble_eq_true rfl) fx_0_1 ?_
    refine ll_aload_n E (pc := 4) dX8_save_4 rfl ?_
    refine ll_getfr E (pc := 5) (o9 := 0) (ci := 8) (k9 := 0) (q := 1) dX8_save_5 fl_X8_12 (Nat.le_of_ble_eq_true rfl) fx_0_0 ?_
    refine ll_callVv E (pc := 8) (d := 2) (ci := 1) (o9 := 11) [.ref (ad 1)] [] dX8_save_8 cv_X8_397 (fun h => ctX1_push h) (Nat.le_of_ble_eq_true rfl) sx_11 ci_1 rfl rfl (Nat.le_of_ble_eq_true rfl) ⟨(Nat.le_of_ble_eq_true rfl), (Nat.le_of_ble_eq_true rfl)⟩ ⟨(Nat.le_of_ble_eq_true rfl), (Nat.le_of_ble_eq_true rfl)⟩ ?_
    intro r6 μ5
    refine ll_aload_n E (pc := 11) dX8_save_11 rfl ?_
    refine ll_callVv E (pc := 12) (d := 0) (ci := 8) (o9 := 0) [] [] dX8_save_12 cv_X8_229 (fun h => ctX8_spoil h) (Nat.le_of_ble_eq_true rfl) sx_0 ci_8 rfl rfl (Nat.le_of_ble_eq_true rfl) ⟨(Nat.le_of_ble_eq_true rfl), (Nat.le_of_ble_eq_true rfl)⟩ ⟨(Nat.le_of_ble_eq_true rfl), (Nat.le_of_ble_eq_true rfl)⟩ ?_
    intro r8 μ7
    exact ll_return E (pc := 15) hr dX8_save_15) hf
theorem dX8_insert_0 : decode cX8_insert 0 = .ok (.iload_n 1, 1) := by decide +kernel
theorem dX8_insert_1 : decode cX8_insert 1 = .ok (.ifCond .lt 37, 3) := by decide +kernel
theorem dX8_insert_4 : decode cX8_insert 4 = .ok (.iload_n 1, 1) := by decide +kernel
theorem dX8_insert_5 : decode cX8_insert 5 = .ok (.aload_n 0, 1) := by decide +kernel
theorem dX8_insert_6 : decode cX8_insert 6 = .ok (.getfield 12, 3) := by decide +kernel
theorem dX8_insert_9 : decode cX8_insert 9 = .ok (.getfield 81, 3) := by decide +kernel
theorem dX8_insert_12 : decode cX8_insert 12 = .ok (.if_icmp .gt 26, 3) := by decide +kernel
theorem dX8_insert_15 : decode cX8_insert 15 = .ok (.iload_n 3, 1) := by decide +kernel
theorem dX8_insert_16 : decode cX8_insert 16 = .ok (.invokestatic 85, 3) := by decide +kernel
theorem dX8_insert_19 : decode cX8_insert 19 = .ok (.ifCond .eq 19, 3) := by decide +kernel
theorem dX8_insert_22 : decode cX8_insert 22 = .ok (.iload 4, 2) := by decide +kernel
theorem dX8_insert_24 : decode cX8_insert 24 = .ok (.invokestatic 85, 3) := by decide +kernel
theorem dX8_insert_27 : decode cX8_insert 27 = .ok (.ifCond .eq 11, 3) := by decide +kernel
theorem dX8_insert_30 : decode cX8_insert 30 = .ok (.iload 5, 2) := by decide +kernel
theorem dX8_insert_32 : decode cX8_insert 32 = .ok (.invokestatic 85, 3) := by decide +kernel
theorem dX8_insert_35 : decode cX8_insert 35 = .ok (.ifCond .ne 13, 3) := by decide +kernel
theorem dX8_insert_38 : decode cX8_insert 38 = .ok (.new 89, 3) := by decide +kernel
theorem dX8_insert_41 : decode cX8_insert 41 = .ok (.dup, 1) := by decide +kernel
theorem dX8_insert_42 : decode cX8_insert 42 = .ok (.ldc 91, 2) := by decide +kernel
theorem dX8_insert_44 : decode cX8_insert 44 = .ok (.invokespecial 93, 3) := by decide +kernel
theorem dX8_insert_47 : decode cX8_insert 47 = .ok (.athrow, 1) := by decide +kernel
theorem dX8_insert_48 : decode cX8_insert 48 = .ok (.iload_n 2, 1) := by decide +kernel
theorem dX8_insert_49 : decode cX8_insert 49 = .ok (.ifCond .lt 23, 3) := by decide +kernel
theorem dX8_insert_52 : decode cX8_insert 52 = .ok (.iload_n 2, 1) := by decide +kernel
theorem dX8_insert_53 : decode cX8_insert 53 = .ok (.bipush 6, 2) := by decide +kernel
theorem dX8_insert_55 : decode cX8_insert 55 = .ok (.if_icmp .gt 17, 3) := by decide +kernel
theorem dX8_insert_58 : decode cX8_insert 58 = .ok (.iload 6, 2) := by decide +kernel
theorem dX8_insert_60 : decode cX8_insert 60 = .ok (.bipush (-99), 2) := by decide +kernel
theorem dX8_insert_62 : decode cX8_insert 62 = .ok (.if_icmp .lt 10, 3) := by decide +kernel
theorem dX8_insert_65 : decode cX8_insert 65 = .ok (.iload 6, 2) := by decide +kernel
theorem dX8_insert_67 : decode cX8_insert 67 = .ok (.bipush 99, 2) := by decide +kernel
theorem dX8_insert_69 : decode cX8_insert 69 = .ok (.if_icmp .le 13, 3) := by decide +kernel
theorem dX8_insert_72 : decode cX8_insert 72 = .ok (.new 96, 3) := by decide +kernel
theorem dX8_insert_75 : decode cX8_insert 75 = .ok (.dup, 1) := by decide +kernel
theorem dX8_insert_76 : decode cX8_insert 76 = .ok (.ldc 98, 2) := by decide +kernel
theorem dX8_insert_78 : decode cX8_insert 78 = .ok (.invokespecial 100, 3) := by decide +kernel
theorem dX8_insert_81 : decode cX8_insert 81 = .ok (.athrow, 1) := by decide +kernel
theorem dX8_insert_82 : decode cX8_insert 82 = .ok (.aload_n 0, 1) := by decide +kernel
theorem dX8_insert_83 : decode cX8_insert 83 = .ok (.getfield 12, 3) := by decide +kernel
theorem dX8_insert_86 : decode cX8_insert 86 = .ok (.getfield 81, 3) := by decide +kernel
theorem dX8_insert_89 : decode cX8_insert 89 = .ok (.bipush 20, 2) := by decide +kernel
theorem dX8_insert_91 : decode cX8_insert 91 = .ok (.if_icmp .lt 13, 3) := by decide +kernel
theorem dX8_insert_94 : decode cX8_insert 94 = .ok (.new 101, 3) := by decide +kernel
theorem dX8_insert_97 : decode cX8_insert 97 = .ok (.dup, 1) := by decide +kernel
theorem dX8_insert_98 : decode cX8_insert 98 = .ok (.ldc 103, 2) := by decide +kernel
theorem dX8_insert_100 : decode cX8_insert 100 = .ok (.invokespecial 105, 3) := by decide +kernel
theorem dX8_insert_103 : decode cX8_insert 103 = .ok (.athrow, 1) := by decide +kernel
theorem dX8_insert_104 : decode cX8_insert 104 = .ok (.aload_n 0, 1) := by decide +kernel
theorem dX8_insert_105 : decode cX8_insert 105 = .ok (.invokevirtual 106, 3) := by decide +kernel
theorem dX8_insert_108 : decode cX8_insert 108 = .ok (.aload_n 0, 1) := by decide +kernel
theorem dX8_insert_109 : decode cX8_insert 109 = .ok (.getfield 12, 3) := by decide +kernel
theorem dX8_insert_112 : decode cX8_insert 112 = .ok (.iload_n 1, 1) := by decide +kernel
theorem dX8_insert_113 : decode cX8_insert 113 = .ok (.iload_n 2, 1) := by decide +kernel
theorem dX8_insert_114 : decode cX8_insert 114 = .ok (.iload_n 3, 1) := by decide +kernel
theorem dX8_insert_115 : decode cX8_insert 115 = .ok (.iload 4, 2) := by decide +kernel
theorem dX8_insert_117 : decode cX8_insert 117 = .ok (.iload 5, 2) := by decide +kernel
theorem dX8_insert_119 : decode cX8_insert 119 = .ok (.iload 6, 2) := by decide +kernel
theorem dX8_insert_121 : decode cX8_insert 121 = .ok (.invokevirtual 109, 3) := by decide +kernel
theorem dX8_insert_124 : decode cX8_insert 124 = .ok (.aload_n 0, 1) := by decide +kernel
theorem dX8_insert_125 : decode cX8_insert 125 = .ok (.getfield 12, 3) := by decide +kernel
theorem dX8_insert_128 : decode cX8_insert 128 = .ok (.getfield 81, 3) := by decide +kernel
theorem dX8_insert_131 : decode cX8_insert 131 = .ok (.ireturn, 1) := by decide +kernel
def fX8_insert_L38  (μ : Mem) : Option ((Int32 ⊕ Nat) × Mem) :=
  some (.inr 1, μ)
def fX8_insert_L72  (μ : Mem) : Option ((Int32 ⊕ Nat) × Mem) :=
  some (.inr 2, μ)
def fX8_insert (μ : Mem) (a1 : Int32) (a2 : Int32) (a3 : Int32) (a4 : Int32) (a5 : Int32) (a6 : Int32) : Option ((Int32 ⊕ Nat) × Mem) :=
  if a1 < 0 then
  fX8_insert_L38 μ
  else
  if (μ 1 0) < a1 then
  fX8_insert_L38 μ
  else
  bd (fX8_isRegister μ a3) fun r12 μ11 =>
  if r12 = 0 then
  fX8_insert_L38 μ11
  else
  bd (fX8_isRegister μ11 a4) fun r14 μ13 =>
  if r14 = 0 then
  fX8_insert_L38 μ13
  else
  bd (fX8_isRegister μ13 a5) fun r16 μ15 =>
  if r16 = 0 then
  fX8_insert_L38 μ15
  else
  if a2 < 0 then
  fX8_insert_L72 μ15
  else
  if (6 : Int32) < a2 then
  fX8_insert_L72 μ15
  else
  if a6 < (-99 : Int32) then
  fX8_insert_L72 μ15
  else
  if a6 ≤ (99 : Int32) then
  if (μ15 1 0) < (20 : Int32) then
  bd (fX8_save μ15) fun _ μ17 =>
  bd (fX6_putIn μ17 a1 a2 a3 a4 a5 a6) fun _ μ19 =>
  some (.inl (μ19 1 0), μ19)
  else
  some (.inr 3, μ15)
  else
  fX8_insert_L72 μ15
theorem kX8_insert_L38 {p : Program} {l : Launch} {e : Env} {s : State} {m : MethodId} {args : Array Value} {below : List Frame} {meth : Method} {c : Code} {D : va_G} {cI cR : ClassId} {ad : Nat → Nat} {A0 : Nat → Prop} (E : EV p s m args meth c cX8_insert 7 RX8 D cI cR ad shX NX A0) (X : EX9 l s c A0) (hr : meth.sig.returnType = (some .int))  (μ : Mem) : LL p l e (RX 7 1) s m args below meth c 7 D cI cR ad shX NX A0 (fun (r : Int32 ⊕ Nat) μ' => KX below args s D cI cR ad shX NX A0 1 (r.elim (fun r => .inl (some (.int r))) .inr) μ') (fX8_insert_L38 μ) 0 0 38 [none, none, none, none, none, none, none] [] μ := by
  rw [fX8_insert_L38]
  exact ll_throw E (pc := 38) (k := 1) (tx := "no such place or register") X (by decide) xw_1 (by decide +kernel) rfl dX8_insert_38 dX8_insert_41 dX8_insert_42 dX8_insert_44 dX8_insert_47 ⟨(Nat.le_of_ble_eq_true rfl), (Nat.le_of_ble_eq_true rfl)⟩ (Nat.le_of_ble_eq_true rfl) ⟨(Nat.le_of_ble_eq_true rfl), (Nat.le_of_ble_eq_true rfl)⟩ ⟨(Nat.le_of_ble_eq_true rfl), (Nat.le_of_ble_eq_true rfl)⟩
theorem kX8_insert_L72 {p : Program} {l : Launch} {e : Env} {s : State} {m : MethodId} {args : Array Value} {below : List Frame} {meth : Method} {c : Code} {D : va_G} {cI cR : ClassId} {ad : Nat → Nat} {A0 : Nat → Prop} (E : EV p s m args meth c cX8_insert 7 RX8 D cI cR ad shX NX A0) (X : EX9 l s c A0) (hr : meth.sig.returnType = (some .int))  (μ : Mem) : LL p l e (RX 7 1) s m args below meth c 7 D cI cR ad shX NX A0 (fun (r : Int32 ⊕ Nat) μ' => KX below args s D cI cR ad shX NX A0 1 (r.elim (fun r => .inl (some (.int r))) .inr) μ') (fX8_insert_L72 μ) 0 0 72 [none, none, none, none, none, none, none] [] μ := by
  rw [fX8_insert_L72]
  exact ll_throw E (pc := 72) (k := 2) (tx := "kind or number out of range") X (by decide) xw_2 (by decide +kernel) rfl dX8_insert_72 dX8_insert_75 dX8_insert_76 dX8_insert_78 dX8_insert_81 ⟨(Nat.le_of_ble_eq_true rfl), (Nat.le_of_ble_eq_true rfl)⟩ (Nat.le_of_ble_eq_true rfl) ⟨(Nat.le_of_ble_eq_true rfl), (Nat.le_of_ble_eq_true rfl)⟩ ⟨(Nat.le_of_ble_eq_true rfl), (Nat.le_of_ble_eq_true rfl)⟩
theorem cxX8_insert {l : Launch} {D : va_G} {cI cR : ClassId} {ad : Nat → Nat} {μ : Mem} {a1 : Int32} {a2 : Int32} {a3 : Int32} {a4 : Int32} {a5 : Int32} {a6 : Int32} (hl9 : l.stackTraces = false) {r : Int32 ⊕ Nat} {μ' : Mem} (hf : fX8_insert μ a1 a2 a3 a4 a5 a6 = some (r, μ')) : CX l yX8_insert cX8_insert 7 (some .int) 7 1 D cI cR ad shX NX [.ref (ad 0), .int a1, .int a2, .int a3, .int a4, .int a5, .int a6] μ (r.elim (fun r => .inl (some (.int r))) .inr) μ' :=
  cx_of (own := RX8) (ov := fun (r : Int32 ⊕ Nat) => (r.elim (fun r => .inl (some (.int r))) .inr)) hl9 (by decide +kernel) rfl (Nat.le_of_ble_eq_true rfl) (fun p e s m below meth c A0 E X hr => by
    refine ll_lo (lo' := [some (.ref (ad 0)), some (.int a1), some (.int a2), some (.int a3), some (.int a4), some (.int a5), some (.int a6)]) ⟨rfl, rfl, rfl, rfl, rfl, rfl, rfl, trivial⟩ ?_
    rw [fX8_insert]
    refine ll_iload_n E (pc := 0) dX8_insert_0 rfl ?_
    refine ll_if_lt E (pc := 1) (tgt := 38) dX8_insert_1 rfl ?_ ?_
    · exact ll_lo (lo' := [none, none, none, none, none, none, none]) trivial (kX8_insert_L38 E X hr μ)
    · refine ll_iload_n E (pc := 4) dX8_insert_4 rfl ?_
      refine ll_aload_n E (pc := 5) dX8_insert_5 rfl ?_
      refine ll_getfr E (pc := 6) (o9 := 0) (ci := 8) (k9 := 0) (q := 1) dX8_insert_6 fl_X8_12 (Nat.le_of_ble_eq_true rfl) fx_0_0 ?_
      refine ll_getf E (pc := 9) (o9 := 1) (ci := 6) (k9 := 0) dX8_insert_9 fl_X8_81 (Nat.le_of_ble_eq_true rfl) fx_1_0 ?_
      refine ll_icmp_gt E (pc := 12) (tgt := 38) dX8_insert_12 rfl ?_ ?_
      · exact ll_lo (lo' := [none, none, none, none, none, none, none]) trivial (kX8_insert_L38 E X hr μ)
      · refine ll_iload_n E (pc := 15) dX8_insert_15 rfl ?_
        refine ll_callSi E (pc := 16) (d := 0) [.int a3] [] dX8_insert_16 cv_X8_85 (fun h => ctX8_isRegister h) rfl rfl (Nat.le_of_ble_eq_true rfl) ⟨(Nat.le_of_ble_eq_true rfl), (Nat.le_of_ble_eq_true rfl)⟩ ⟨(Nat.le_of_ble_eq_true rfl), (Nat.le_of_ble_eq_true rfl)⟩ ?_
        intro r12 μ11
        refine ll_if_eq E (pc := 19) (tgt := 38) dX8_insert_19 rfl ?_ ?_
        · exact ll_lo (lo' := [none, none, none, none, none, none, none]) trivial (kX8_insert_L38 E X hr μ11)
        · refine ll_iload E (pc := 22) dX8_insert_22 rfl ?_
          refine ll_callSi E (pc := 24) (d := 0) [.int a4] [] dX8_insert_24 cv_X8_85 (fun h => ctX8_isRegister h) rfl rfl (Nat.le_of_ble_eq_true rfl) ⟨(Nat.le_of_ble_eq_true rfl), (Nat.le_of_ble_eq_true rfl)⟩ ⟨(Nat.le_of_ble_eq_true rfl), (Nat.le_of_ble_eq_true rfl)⟩ ?_
          intro r14 μ13
          refine ll_if_eq E (pc := 27) (tgt := 38) dX8_insert_27 rfl ?_ ?_
          · exact ll_lo (lo' := [none, none, none, none, none, none, none]) trivial (kX8_insert_L38 E X hr μ13)
          · refine ll_iload E (pc := 30) dX8_insert_30 rfl ?_
            refine ll_callSi E (pc := 32) (d := 0) [.int a5] [] dX8_insert_32 cv_X8_85 (fun h => ctX8_isRegister h) rfl rfl (Nat.le_of_ble_eq_true rfl) ⟨(Nat.le_of_ble_eq_true rfl), (Nat.le_of_ble_eq_true rfl)⟩ ⟨(Nat.le_of_ble_eq_true rfl), (Nat.le_of_ble_eq_true rfl)⟩ ?_
            intro r16 μ15
            refine ll_if_ne E (pc := 35) (tgt := 48) dX8_insert_35 rfl ?_ ?_
            · refine ll_iload_n E (pc := 48) dX8_insert_48 rfl ?_
              refine ll_if_lt E (pc := 49) (tgt := 72) dX8_insert_49 rfl ?_ ?_
              · exact ll_lo (lo' := [none, none, none, none, none, none, none]) trivial (kX8_insert_L72 E X hr μ15)
              · refine ll_iload_n E (pc := 52) dX8_insert_52 rfl ?_
                refine ll_bipush E (pc := 53) dX8_insert_53 kb_6 ?_
                refine ll_icmp_gt E (pc := 55) (tgt := 72) dX8_insert_55 rfl ?_ ?_
                · exact ll_lo (lo' := [none, none, none, none, none, none, none]) trivial (kX8_insert_L72 E X hr μ15)
                · refine ll_iload E (pc := 58) dX8_insert_58 rfl ?_
                  refine ll_bipush E (pc := 60) dX8_insert_60 kb_m99 ?_
                  refine ll_icmp_lt E (pc := 62) (tgt := 72) dX8_insert_62 rfl ?_ ?_
                  · exact ll_lo (lo' := [none, none, none, none, none, none, none]) trivial (kX8_insert_L72 E X hr μ15)
                  · refine ll_iload E (pc := 65) dX8_insert_65 rfl ?_
                    refine ll_bipush E (pc := 67) dX8_insert_67 kb_99 ?_
                    refine ll_icmp_le E (pc := 69) (tgt := 82) dX8_insert_69 rfl ?_ ?_
                    · refine ll_aload_n E (pc := 82) dX8_insert_82 rfl ?_
                      refine ll_getfr E (pc := 83) (o9 := 0) (ci := 8) (k9 := 0) (q := 1) dX8_insert_83 fl_X8_12 (Nat.le_of_ble_eq_true rfl) fx_0_0 ?_
                      refine ll_getf E (pc := 86) (o9 := 1) (ci := 6) (k9 := 0) dX8_insert_86 fl_X8_81 (Nat.le_of_ble_eq_true rfl) fx_1_0 ?_
                      refine ll_bipush E (pc := 89) dX8_insert_89 kb_20 ?_
                      refine ll_icmp_lt E (pc := 91) (tgt := 104) dX8_insert_91 rfl ?_ ?_
                      · refine ll_aload_n E (pc := 104) dX8_insert_104 rfl ?_
                        refine ll_callVv E (pc := 105) (d := 3) (ci := 8) (o9 := 0) [] [] dX8_insert_105 cv_X8_106 (fun h => ctX8_save h) (Nat.le_of_ble_eq_true rfl) sx_0 ci_8 rfl rfl (Nat.le_of_ble_eq_true rfl) ⟨(Nat.le_of_ble_eq_true rfl), (Nat.le_of_ble_eq_true rfl)⟩ ⟨(Nat.le_of_ble_eq_true rfl), (Nat.le_of_ble_eq_true rfl)⟩ ?_
                        intro r18 μ17
                        refine ll_aload_n E (pc := 108) dX8_insert_108 rfl ?_
                        refine ll_getfr E (pc := 109) (o9 := 0) (ci := 8) (k9 := 0) (q := 1) dX8_insert_109 fl_X8_12 (Nat.le_of_ble_eq_true rfl) fx_0_0 ?_
                        refine ll_iload_n E (pc := 112) dX8_insert_112 rfl ?_
                        refine ll_iload_n E (pc := 113) dX8_insert_113 rfl ?_
                        refine ll_iload_n E (pc := 114) dX8_insert_114 rfl ?_
                        refine ll_iload E (pc := 115) dX8_insert_115 rfl ?_
                        refine ll_iload E (pc := 117) dX8_insert_117 rfl ?_
                        refine ll_iload E (pc := 119) dX8_insert_119 rfl ?_
                        refine ll_callVv E (pc := 121) (d := 2) (ci := 6) (o9 := 1) [.int a1, .int a2, .int a3, .int a4, .int a5, .int a6] [] dX8_insert_121 cv_X8_109 (fun h => ctX6_putIn h) (Nat.le_of_ble_eq_true rfl) sx_1 ci_6 rfl rfl (Nat.le_of_ble_eq_true rfl) ⟨(Nat.le_of_ble_eq_true rfl), (Nat.le_of_ble_eq_true rfl)⟩ ⟨(Nat.le_of_ble_eq_true rfl), (Nat.le_of_ble_eq_true rfl)⟩ ?_
                        intro r20 μ19
                        refine ll_aload_n E (pc := 124) dX8_insert_124 rfl ?_
                        refine ll_getfr E (pc := 125) (o9 := 0) (ci := 8) (k9 := 0) (q := 1) dX8_insert_125 fl_X8_12 (Nat.le_of_ble_eq_true rfl) fx_0_0 ?_
                        refine ll_getf E (pc := 128) (o9 := 1) (ci := 6) (k9 := 0) dX8_insert_128 fl_X8_81 (Nat.le_of_ble_eq_true rfl) fx_1_0 ?_
                        exact ll_xireturn E (pc := 131) hr dX8_insert_131 ⟨(Nat.le_of_ble_eq_true rfl), (Nat.le_of_ble_eq_true rfl)⟩
                      · exact ll_throw E (pc := 94) (k := 3) (tx := "there are 20 steps") X (by decide) xw_3 (by decide +kernel) rfl dX8_insert_94 dX8_insert_97 dX8_insert_98 dX8_insert_100 dX8_insert_103 ⟨(Nat.le_of_ble_eq_true rfl), (Nat.le_of_ble_eq_true rfl)⟩ (Nat.le_of_ble_eq_true rfl) ⟨(Nat.le_of_ble_eq_true rfl), (Nat.le_of_ble_eq_true rfl)⟩ ⟨(Nat.le_of_ble_eq_true rfl), (Nat.le_of_ble_eq_true rfl)⟩
                    · exact ll_lo (lo' := [none, none, none, none, none, none, none]) trivial (kX8_insert_L72 E X hr μ15)
            · exact ll_lo (lo' := [none, none, none, none, none, none, none]) trivial (kX8_insert_L38 E X hr μ15)) hf
theorem dX8_checkStep_0 : decode cX8_checkStep 0 = .ok (.iload_n 1, 1) := by decide +kernel
theorem dX8_checkStep_1 : decode cX8_checkStep 1 = .ok (.ifCond .lt 14, 3) := by decide +kernel
theorem dX8_checkStep_4 : decode cX8_checkStep 4 = .ok (.iload_n 1, 1) := by decide +kernel
theorem dX8_checkStep_5 : decode cX8_checkStep 5 = .ok (.aload_n 0, 1) := by decide +kernel
theorem dX8_checkStep_6 : decode cX8_checkStep 6 = .ok (.getfield 12, 3) := by decide +kernel
theorem dX8_checkStep_9 : decode cX8_checkStep 9 = .ok (.getfield 81, 3) := by decide +kernel
theorem dX8_checkStep_12 : decode cX8_checkStep 12 = .ok (.if_icmp .lt 14, 3) := by decide +kernel
theorem dX8_checkStep_15 : decode cX8_checkStep 15 = .ok (.new 89, 3) := by decide +kernel
theorem dX8_checkStep_18 : decode cX8_checkStep 18 = .ok (.dup, 1) := by decide +kernel
theorem dX8_checkStep_19 : decode cX8_checkStep 19 = .ok (.ldc_w 395, 3) := by decide +kernel
theorem dX8_checkStep_22 : decode cX8_checkStep 22 = .ok (.invokespecial 93, 3) := by decide +kernel
theorem dX8_checkStep_25 : decode cX8_checkStep 25 = .ok (.athrow, 1) := by decide +kernel
theorem dX8_checkStep_26 : decode cX8_checkStep 26 = .ok (.return_, 1) := by decide +kernel
def fX8_checkStep_L15  (μ : Mem) : Option ((Unit ⊕ Nat) × Mem) :=
  some (.inr 1, μ)
def fX8_checkStep (μ : Mem) (a1 : Int32) : Option ((Unit ⊕ Nat) × Mem) :=
  if a1 < 0 then
  fX8_checkStep_L15 μ
  else
  if a1 < (μ 1 0) then
  some (.inl (), μ)
  else
  fX8_checkStep_L15 μ
theorem kX8_checkStep_L15 {p : Program} {l : Launch} {e : Env} {s : State} {m : MethodId} {args : Array Value} {below : List Frame} {meth : Method} {c : Code} {D : va_G} {cI cR : ClassId} {ad : Nat → Nat} {A0 : Nat → Prop} (E : EV p s m args meth c cX8_checkStep 2 RX8 D cI cR ad shX NX A0) (X : EX9 l s c A0) (hr : meth.sig.returnType = none)  (μ : Mem) : LL p l e (RX 7 1) s m args below meth c 2 D cI cR ad shX NX A0 (fun (r : Unit ⊕ Nat) μ' => KX below args s D cI cR ad shX NX A0 1 (r.elim (fun _ => .inl (none)) .inr) μ') (fX8_checkStep_L15 μ) 0 0 15 [none, none] [] μ := by
  rw [fX8_checkStep_L15]
  exact ll_throwW E (pc := 15) (k := 1) (tx := "no such step") X (by decide) xw_1 (by decide +kernel) rfl dX8_checkStep_15 dX8_checkStep_18 dX8_checkStep_19 dX8_checkStep_22 dX8_checkStep_25 ⟨(Nat.le_of_ble_eq_true rfl), (Nat.le_of_ble_eq_true rfl)⟩ (Nat.le_of_ble_eq_true rfl) ⟨(Nat.le_of_ble_eq_true rfl), (Nat.le_of_ble_eq_true rfl)⟩ ⟨(Nat.le_of_ble_eq_true rfl), (Nat.le_of_ble_eq_true rfl)⟩
theorem cxX8_checkStep {l : Launch} {D : va_G} {cI cR : ClassId} {ad : Nat → Nat} {μ : Mem} {a1 : Int32} (hl9 : l.stackTraces = false) {r : Unit ⊕ Nat} {μ' : Mem} (hf : fX8_checkStep μ a1 = some (r, μ')) : CX l yX8_checkStep cX8_checkStep 2 none 7 1 D cI cR ad shX NX [.ref (ad 0), .int a1] μ (r.elim (fun _ => .inl (none)) .inr) μ' :=
  cx_of (own := RX8) (ov := fun (r : Unit ⊕ Nat) => (r.elim (fun _ => .inl (none)) .inr)) hl9 (by decide +kernel) rfl (Nat.le_of_ble_eq_true rfl) (fun p e s m below meth c A0 E X hr => by
    refine ll_lo (lo' := [some (.ref (ad 0)), some (.int a1)]) ⟨rfl, rfl, trivial⟩ ?_
    rw [fX8_checkStep]
    refine ll_iload_n E (pc := 0) dX8_checkStep_0 rfl ?_
    refine ll_if_lt E (pc := 1) (tgt := 15) dX8_checkStep_1 rfl ?_ ?_
    · exact ll_lo (lo' := [none, none]) trivial (kX8_checkStep_L15 E X hr μ)
    · refine ll_iload_n E (pc := 4) dX8_checkStep_4 rfl ?_
      refine ll_aload_n E (pc := 5) dX8_checkStep_5 rfl ?_
      refine ll_getfr E (pc := 6) (o9 := 0) (ci := 8) (k9 := 0) (q := 1) dX8_checkStep_6 fl_X8_12 (Nat.le_of_ble_eq_true rfl) fx_0_0 ?_
      refine ll_getf E (pc := 9) (o9 := 1) (ci := 6) (k9 := 0) dX8_checkStep_9 fl_X8_81 (Nat.le_of_ble_eq_true rfl) fx_1_0 ?_
      refine ll_icmp_lt E (pc := 12) (tgt := 26) dX8_checkStep_12 rfl ?_ ?_
      · exact ll_xreturn E (pc := 26) hr dX8_checkStep_26 ⟨(Nat.le_of_ble_eq_true rfl), (Nat.le_of_ble_eq_true rfl)⟩
      · exact ll_lo (lo' := [none, none]) trivial (kX8_checkStep_L15 E X hr μ)) hf
theorem dX8_remove_0 : decode cX8_remove 0 = .ok (.aload_n 0, 1) := by decide +kernel
theorem dX8_remove_1 : decode cX8_remove 1 = .ok (.iload_n 1, 1) := by decide +kernel
theorem dX8_remove_2 : decode cX8_remove 2 = .ok (.invokevirtual 113, 3) := by decide +kernel
theorem dX8_remove_5 : decode cX8_remove 5 = .ok (.aload_n 0, 1) := by decide +kernel
theorem dX8_remove_6 : decode cX8_remove 6 = .ok (.invokevirtual 106, 3) := by decide +kernel
theorem dX8_remove_9 : decode cX8_remove 9 = .ok (.aload_n 0, 1) := by decide +kernel
theorem dX8_remove_10 : decode cX8_remove 10 = .ok (.getfield 12, 3) := by decide +kernel
theorem dX8_remove_13 : decode cX8_remove 13 = .ok (.iload_n 1, 1) := by decide +kernel
theorem dX8_remove_14 : decode cX8_remove 14 = .ok (.invokevirtual 117, 3) := by decide +kernel
theorem dX8_remove_17 : decode cX8_remove 17 = .ok (.aload_n 0, 1) := by decide +kernel
theorem dX8_remove_18 : decode cX8_remove 18 = .ok (.getfield 12, 3) := by decide +kernel
theorem dX8_remove_21 : decode cX8_remove 21 = .ok (.getfield 81, 3) := by decide +kernel
theorem dX8_remove_24 : decode cX8_remove 24 = .ok (.ireturn, 1) := by decide +kernel
def fX8_remove (μ : Mem) (a1 : Int32) : Option ((Int32 ⊕ Nat) × Mem) :=
  bx (fX8_checkStep μ a1) fun _ μ7 =>
  bd (fX8_save μ7) fun _ μ9 =>
  bd (fX6_takeAway μ9 a1) fun _ μ11 =>
  some (.inl (μ11 1 0), μ11)
theorem cxX8_remove {l : Launch} {D : va_G} {cI cR : ClassId} {ad : Nat → Nat} {μ : Mem} {a1 : Int32} (hl9 : l.stackTraces = false) {r : Int32 ⊕ Nat} {μ' : Mem} (hf : fX8_remove μ a1 = some (r, μ')) : CX l yX8_remove cX8_remove 2 (some .int) 8 1 D cI cR ad shX NX [.ref (ad 0), .int a1] μ (r.elim (fun r => .inl (some (.int r))) .inr) μ' :=
  cx_of (own := RX8) (ov := fun (r : Int32 ⊕ Nat) => (r.elim (fun r => .inl (some (.int r))) .inr)) hl9 (by decide +kernel) rfl (Nat.le_of_ble_eq_true rfl) (fun p e s m below meth c A0 E X hr => by
    refine ll_lo (lo' := [some (.ref (ad 0)), some (.int a1)]) ⟨rfl, rfl, trivial⟩ ?_
    rw [fX8_remove]
    refine ll_aload_n E (pc := 0) dX8_remove_0 rfl ?_
    refine ll_iload_n E (pc := 1) dX8_remove_1 rfl ?_
    refine ll_xcallVv E X (pc := 2) (d := 7) (mc1 := 1) (mc := 1) (ci := 8) (o9 := 0) [.int a1] [] dX8_remove_2 cv_X8_113 (fun h => cxX8_checkStep X.1 h) (Nat.le_of_ble_eq_true rfl) sx_0 ci_8 rfl rfl (Nat.le_of_ble_eq_true rfl) ⟨(Nat.le_of_ble_eq_true rfl), (Nat.le_of_ble_eq_true rfl)⟩ ⟨(Nat.le_of_ble_eq_true rfl), (Nat.le_of_ble_eq_true rfl)⟩ ⟨(Nat.le_of_ble_eq_true rfl), (Nat.le_of_ble_eq_true rfl)⟩ ?_
    intro r8 μ7
    refine ll_aload_n E (pc := 5) dX8_remove_5 rfl ?_
    refine ll_callVv E (pc := 6) (d := 3) (ci := 8) (o9 := 0) [] [] dX8_remove_6 cv_X8_106 (fun h => ctX8_save h) (Nat.le_of_ble_eq_true rfl) sx_0 ci_8 rfl rfl (Nat.le_of_ble_eq_true rfl) ⟨(Nat.le_of_ble_eq_true rfl), (Nat.le_of_ble_eq_true rfl)⟩ ⟨(Nat.le_of_ble_eq_true rfl), (Nat.le_of_ble_eq_true rfl)⟩ ?_
    intro r10 μ9
    refine ll_aload_n E (pc := 9) dX8_remove_9 rfl ?_
    refine ll_getfr E (pc := 10) (o9 := 0) (ci := 8) (k9 := 0) (q := 1) dX8_remove_10 fl_X8_12 (Nat.le_of_ble_eq_true rfl) fx_0_0 ?_
    refine ll_iload_n E (pc := 13) dX8_remove_13 rfl ?_
    refine ll_callVv E (pc := 14) (d := 2) (ci := 6) (o9 := 1) [.int a1] [] dX8_remove_14 cv_X8_117 (fun h => ctX6_takeAway h) (Nat.le_of_ble_eq_true rfl) sx_1 ci_6 rfl rfl (Nat.le_of_ble_eq_true rfl) ⟨(Nat.le_of_ble_eq_true rfl), (Nat.le_of_ble_eq_true rfl)⟩ ⟨(Nat.le_of_ble_eq_true rfl), (Nat.le_of_ble_eq_true rfl)⟩ ?_
    intro r12 μ11
    refine ll_aload_n E (pc := 17) dX8_remove_17 rfl ?_
    refine ll_getfr E (pc := 18) (o9 := 0) (ci := 8) (k9 := 0) (q := 1) dX8_remove_18 fl_X8_12 (Nat.le_of_ble_eq_true rfl) fx_0_0 ?_
    refine ll_getf E (pc := 21) (o9 := 1) (ci := 6) (k9 := 0) dX8_remove_21 fl_X8_81 (Nat.le_of_ble_eq_true rfl) fx_1_0 ?_
    exact ll_xireturn E (pc := 24) hr dX8_remove_24 ⟨(Nat.le_of_ble_eq_true rfl), (Nat.le_of_ble_eq_true rfl)⟩) hf
theorem dX8_freshLinks_0 : decode cX8_freshLinks 0 = .ok (.aload_n 0, 1) := by decide +kernel
theorem dX8_freshLinks_1 : decode cX8_freshLinks 1 = .ok (.getfield 400, 3) := by decide +kernel
theorem dX8_freshLinks_4 : decode cX8_freshLinks 4 = .ok (.ifCond .ne 19, 3) := by decide +kernel
theorem dX8_freshLinks_7 : decode cX8_freshLinks 7 = .ok (.aload_n 0, 1) := by decide +kernel
theorem dX8_freshLinks_8 : decode cX8_freshLinks 8 = .ok (.getfield 36, 3) := by decide +kernel
theorem dX8_freshLinks_11 : decode cX8_freshLinks 11 = .ok (.aload_n 0, 1) := by decide +kernel
theorem dX8_freshLinks_12 : decode cX8_freshLinks 12 = .ok (.getfield 12, 3) := by decide +kernel
theorem dX8_freshLinks_15 : decode cX8_freshLinks 15 = .ok (.invokevirtual 406, 3) := by decide +kernel
theorem dX8_freshLinks_18 : decode cX8_freshLinks 18 = .ok (.aload_n 0, 1) := by decide +kernel
theorem dX8_freshLinks_19 : decode cX8_freshLinks 19 = .ok (.iconst 1, 1) := by decide +kernel
theorem dX8_freshLinks_20 : decode cX8_freshLinks 20 = .ok (.putfield 400, 3) := by decide +kernel
theorem dX8_freshLinks_23 : decode cX8_freshLinks 23 = .ok (.aload_n 0, 1) := by decide +kernel
theorem dX8_freshLinks_24 : decode cX8_freshLinks 24 = .ok (.getfield 36, 3) := by decide +kernel
theorem dX8_freshLinks_27 : decode cX8_freshLinks 27 = .ok (.areturn, 1) := by decide +kernel
def fX8_freshLinks_L23  (μ : Mem) : Option (Unit × Mem) :=
  some ((), μ)
def fX8_freshLinks (μ : Mem) : Option (Unit × Mem) :=
  if (μ 0 6) = 0 then
  bd (fX2_measure μ) fun _ μ4 =>
  (pt μ4 0 6 (1 : Int32)).bind fun μ6 =>
  fX8_freshLinks_L23 μ6
  else
  fX8_freshLinks_L23 μ
theorem kX8_freshLinks_L23 {p : Program} {l : Launch} {e : Env} {s : State} {m : MethodId} {args : Array Value} {below : List Frame} {meth : Method} {c : Code} {D : va_G} {cI cR : ClassId} {ad : Nat → Nat} {A0 : Nat → Prop} (E : EV p s m args meth c cX8_freshLinks 1 RX8 D cI cR ad shX NX A0) (hr : meth.sig.returnType = (some (.object "BuntingBundles$Links")))  (μ : Mem) : LL p l e (RM 4) s m args below meth c 1 D cI cR ad shX NX A0 (fun (r : Unit) μ' => KG below args s D cI cR ad shX NX A0 (some (.ref (ad 75))) μ') (fX8_freshLinks_L23 μ) 0 0 23 [some (.ref (ad 0))] [] μ := by
  rw [fX8_freshLinks_L23]
  refine ll_aload_n E (pc := 23) dX8_freshLinks_23 rfl ?_
  refine ll_getfr E (pc := 24) (o9 := 0) (ci := 8) (k9 := 5) (q := 75) dX8_freshLinks_24 fl_X8_36 (Nat.le_of_ble_eq_true rfl) fx_0_5 ?_
  exact ll_areturn E (pc := 27) hr dX8_freshLinks_27
theorem ctX8_freshLinks {l : Launch} {D : va_G} {cI cR : ClassId} {ad : Nat → Nat} {μ : Mem} {r : Unit} {μ' : Mem} (hf : fX8_freshLinks μ = some (r, μ')) : CT l yX8_freshLinks cX8_freshLinks 1 (some (.object "BuntingBundles$Links")) 4 D cI cR ad shX NX [.ref (ad 0)] μ (some (.ref (ad 75))) μ' :=
  ct_of (own := RX8) (ov := fun _ => some (.ref (ad 75))) (by decide +kernel) rfl (Nat.le_of_ble_eq_true rfl) (fun p e s m below meth c A0 E hr => by
    refine ll_lo (lo' := [some (.ref (ad 0))]) ⟨rfl, trivial⟩ ?_
    rw [fX8_freshLinks]
    refine ll_aload_n E (pc := 0) dX8_freshLinks_0 rfl ?_
    refine ll_getf E (pc := 1) (o9 := 0) (ci := 8) (k9 := 6) dX8_freshLinks_1 fl_X8_400 (Nat.le_of_ble_eq_true rfl) fx_0_6 ?_
    refine ll_if_ne E (pc := 4) (tgt := 23) dX8_freshLinks_4 rfl ?_ ?_
    · exact ll_lo (lo' := [some (.ref (ad 0))]) ⟨rfl, trivial⟩ (kX8_freshLinks_L23 E hr μ)
    · refine ll_aload_n E (pc := 7) dX8_freshLinks_7 rfl ?_
      refine ll_getfr E (pc := 8) (o9 := 0) (ci := 8) (k9 := 5) (q := 75) dX8_freshLinks_8 fl_X8_36 (Nat.le_of_ble_eq_true rfl) fx_0_5 ?_
      refine ll_aload_n E (pc := 11) dX8_freshLinks_11 rfl ?_
      refine ll_getfr E (pc := 12) (o9 := 0) (ci := 8) (k9 := 0) (q := 1) dX8_freshLinks_12 fl_X8_12 (Nat.le_of_ble_eq_true rfl) fx_0_0 ?_
      refine ll_callVv E (pc := 15) (d := 3) (ci := 2) (o9 := 75) [.ref (ad 1)] [] dX8_freshLinks_15 cv_X8_406 (fun h => ctX2_measure h) (Nat.le_of_ble_eq_true rfl) sx_75 ci_2 rfl rfl (Nat.le_of_ble_eq_true rfl) ⟨(Nat.le_of_ble_eq_true rfl), (Nat.le_of_ble_eq_true rfl)⟩ ⟨(Nat.le_of_ble_eq_true rfl), (Nat.le_of_ble_eq_true rfl)⟩ ?_
      intro r5 μ4
      refine ll_aload_n E (pc := 18) dX8_freshLinks_18 rfl ?_
      refine ll_iconst E (pc := 19) dX8_freshLinks_19 kc_1 ?_
      refine ll_put0 E (pc := 20) (o9 := 0) (ci := 8) (k9 := 6) dX8_freshLinks_20 fw_X8_400 (Nat.le_of_ble_eq_true rfl) fx_0_6 rfl rfl ?_
      intro μ6
      exact ll_lo (lo' := [some (.ref (ad 0))]) ⟨rfl, trivial⟩ (kX8_freshLinks_L23 E hr μ6)) hf
theorem dX8_exchange_0 : decode cX8_exchange 0 = .ok (.aload_n 0, 1) := by decide +kernel
theorem dX8_exchange_1 : decode cX8_exchange 1 = .ok (.iload_n 1, 1) := by decide +kernel
theorem dX8_exchange_2 : decode cX8_exchange 2 = .ok (.invokevirtual 113, 3) := by decide +kernel
theorem dX8_exchange_5 : decode cX8_exchange 5 = .ok (.aload_n 0, 1) := by decide +kernel
theorem dX8_exchange_6 : decode cX8_exchange 6 = .ok (.iload_n 2, 1) := by decide +kernel
theorem dX8_exchange_7 : decode cX8_exchange 7 = .ok (.invokevirtual 113, 3) := by decide +kernel
theorem dX8_exchange_10 : decode cX8_exchange 10 = .ok (.aload_n 0, 1) := by decide +kernel
theorem dX8_exchange_11 : decode cX8_exchange 11 = .ok (.invokevirtual 106, 3) := by decide +kernel
theorem dX8_exchange_14 : decode cX8_exchange 14 = .ok (.aload_n 0, 1) := by decide +kernel
theorem dX8_exchange_15 : decode cX8_exchange 15 = .ok (.getfield 12, 3) := by decide +kernel
theorem dX8_exchange_18 : decode cX8_exchange 18 = .ok (.iload_n 1, 1) := by decide +kernel
theorem dX8_exchange_19 : decode cX8_exchange 19 = .ok (.iload_n 2, 1) := by decide +kernel
theorem dX8_exchange_20 : decode cX8_exchange 20 = .ok (.invokevirtual 120, 3) := by decide +kernel
theorem dX8_exchange_23 : decode cX8_exchange 23 = .ok (.aload_n 0, 1) := by decide +kernel
theorem dX8_exchange_24 : decode cX8_exchange 24 = .ok (.invokevirtual 124, 3) := by decide +kernel
theorem dX8_exchange_27 : decode cX8_exchange 27 = .ok (.iload_n 1, 1) := by decide +kernel
theorem dX8_exchange_28 : decode cX8_exchange 28 = .ok (.iload_n 2, 1) := by decide +kernel
theorem dX8_exchange_29 : decode cX8_exchange 29 = .ok (.invokestatic 128, 3) := by decide +kernel
theorem dX8_exchange_32 : decode cX8_exchange 32 = .ok (.iload_n 1, 1) := by decide +kernel
theorem dX8_exchange_33 : decode cX8_exchange 33 = .ok (.iload_n 2, 1) := by decide +kernel
theorem dX8_exchange_34 : decode cX8_exchange 34 = .ok (.invokestatic 134, 3) := by decide +kernel
theorem dX8_exchange_37 : decode cX8_exchange 37 = .ok (.invokevirtual 137, 3) := by decide +kernel
theorem dX8_exchange_40 : decode cX8_exchange 40 = .ok (.ireturn, 1) := by decide +kernel
def fX8_exchange (μ : Mem) (a1 : Int32) (a2 : Int32) : Option ((Int32 ⊕ Nat) × Mem) :=
  bx (fX8_checkStep μ a1) fun _ μ13 =>
  bx (fX8_checkStep μ13 a2) fun _ μ15 =>
  bd (fX8_save μ15) fun _ μ17 =>
  bd (fX6_swapSteps μ17 a1 a2) fun _ μ19 =>
  bd (fX8_freshLinks μ19) fun _ μ21 =>
  bd (fX2_nearOf μ21 (jmin a1 a2) (jmax a1 a2)) fun r24 μ23 =>
  some (.inl r24, μ23)
theorem cxX8_exchange {l : Launch} {D : va_G} {cI cR : ClassId} {ad : Nat → Nat} {μ : Mem} {a1 : Int32} {a2 : Int32} (hl9 : l.stackTraces = false) {r : Int32 ⊕ Nat} {μ' : Mem} (hf : fX8_exchange μ a1 a2 = some (r, μ')) : CX l yX8_exchange cX8_exchange 3 (some .int) 8 2 D cI cR ad shX NX [.ref (ad 0), .int a1, .int a2] μ (r.elim (fun r => .inl (some (.int r))) .inr) μ' :=
  cx_of (own := RX8) (ov := fun (r : Int32 ⊕ Nat) => (r.elim (fun r => .inl (some (.int r))) .inr)) hl9 (by decide +kernel) rfl (Nat.le_of_ble_eq_true rfl) (fun p e s m below meth c A0 E X hr => by
    refine ll_lo (lo' := [some (.ref (ad 0)), some (.int a1), some (.int a2)]) ⟨rfl, rfl, rfl, trivial⟩ ?_
    rw [fX8_exchange]
    refine ll_aload_n E (pc := 0) dX8_exchange_0 rfl ?_
    refine ll_iload_n E (pc := 1) dX8_exchange_1 rfl ?_
    refine ll_xcallVv E X (pc := 2) (d := 7) (mc1 := 1) (mc := 2) (ci := 8) (o9 := 0) [.int a1] [] dX8_exchange_2 cv_X8_113 (fun h => cxX8_checkStep X.1 h) (Nat.le_of_ble_eq_true rfl) sx_0 ci_8 rfl rfl (Nat.le_of_ble_eq_true rfl) ⟨(Nat.le_of_ble_eq_true rfl), (Nat.le_of_ble_eq_true rfl)⟩ ⟨(Nat.le_of_ble_eq_true rfl), (Nat.le_of_ble_eq_true rfl)⟩ ⟨(Nat.le_of_ble_eq_true rfl), (Nat.le_of_ble_eq_true rfl)⟩ ?_
    intro r14 μ13
    refine ll_aload_n E (pc := 5) dX8_exchange_5 rfl ?_
    refine ll_iload_n E (pc := 6) dX8_exchange_6 rfl ?_
    refine ll_xcallVv E X (pc := 7) (d := 7) (mc1 := 1) (mc := 2) (ci := 8) (o9 := 0) [.int a2] [] dX8_exchange_7 cv_X8_113 (fun h => cxX8_checkStep X.1 h) (Nat.le_of_ble_eq_true rfl) sx_0 ci_8 rfl rfl (Nat.le_of_ble_eq_true rfl) ⟨(Nat.le_of_ble_eq_true rfl), (Nat.le_of_ble_eq_true rfl)⟩ ⟨(Nat.le_of_ble_eq_true rfl), (Nat.le_of_ble_eq_true rfl)⟩ ⟨(Nat.le_of_ble_eq_true rfl), (Nat.le_of_ble_eq_true rfl)⟩ ?_
    intro r16 μ15
    refine ll_aload_n E (pc := 10) dX8_exchange_10 rfl ?_
    refine ll_callVv E (pc := 11) (d := 3) (ci := 8) (o9 := 0) [] [] dX8_exchange_11 cv_X8_106 (fun h => ctX8_save h) (Nat.le_of_ble_eq_true rfl) sx_0 ci_8 rfl rfl (Nat.le_of_ble_eq_true rfl) ⟨(Nat.le_of_ble_eq_true rfl), (Nat.le_of_ble_eq_true rfl)⟩ ⟨(Nat.le_of_ble_eq_true rfl), (Nat.le_of_ble_eq_true rfl)⟩ ?_
    intro r18 μ17
    refine ll_aload_n E (pc := 14) dX8_exchange_14 rfl ?_
    refine ll_getfr E (pc := 15) (o9 := 0) (ci := 8) (k9 := 0) (q := 1) dX8_exchange_15 fl_X8_12 (Nat.le_of_ble_eq_true rfl) fx_0_0 ?_
    refine ll_iload_n E (pc := 18) dX8_exchange_18 rfl ?_
    refine ll_iload_n E (pc := 19) dX8_exchange_19 rfl ?_
    refine ll_callVv E (pc := 20) (d := 1) (ci := 6) (o9 := 1) [.int a1, .int a2] [] dX8_exchange_20 cv_X8_120 (fun h => ctX6_swapSteps h) (Nat.le_of_ble_eq_true rfl) sx_1 ci_6 rfl rfl (Nat.le_of_ble_eq_true rfl) ⟨(Nat.le_of_ble_eq_true rfl), (Nat.le_of_ble_eq_true rfl)⟩ ⟨(Nat.le_of_ble_eq_true rfl), (Nat.le_of_ble_eq_true rfl)⟩ ?_
    intro r20 μ19
    refine ll_aload_n E (pc := 23) dX8_exchange_23 rfl ?_
    refine ll_callVr E (pc := 24) (d := 4) (ci := 8) (o9 := 0) [] [] dX8_exchange_24 cv_X8_124 (fun h => ctX8_freshLinks h) (Nat.le_of_ble_eq_true rfl) sx_0 ci_8 rfl rfl (Nat.le_of_ble_eq_true rfl) ⟨(Nat.le_of_ble_eq_true rfl), (Nat.le_of_ble_eq_true rfl)⟩ ⟨(Nat.le_of_ble_eq_true rfl), (Nat.le_of_ble_eq_true rfl)⟩ ?_
    intro r22 μ21
    refine ll_iload_n E (pc := 27) dX8_exchange_27 rfl ?_
    refine ll_iload_n E (pc := 28) dX8_exchange_28 rfl ?_
    refine ll_min E (pc := 29) dX8_exchange_29 mw_X8_128 mw_min1 mw_math mw_min2 (Nat.le_of_ble_eq_true rfl) ⟨(Nat.le_of_ble_eq_true rfl), (Nat.le_of_ble_eq_true rfl)⟩ ⟨(Nat.le_of_ble_eq_true rfl), (Nat.le_of_ble_eq_true rfl)⟩ ?_
    refine ll_iload_n E (pc := 32) dX8_exchange_32 rfl ?_
    refine ll_iload_n E (pc := 33) dX8_exchange_33 rfl ?_
    refine ll_max E (pc := 34) dX8_exchange_34 mw_X8_134 mw_max1 mw_math mw_max2 (Nat.le_of_ble_eq_true rfl) ⟨(Nat.le_of_ble_eq_true rfl), (Nat.le_of_ble_eq_true rfl)⟩ ⟨(Nat.le_of_ble_eq_true rfl), (Nat.le_of_ble_eq_true rfl)⟩ ?_
    refine ll_callVi E (pc := 37) (d := 0) (ci := 2) (o9 := 75) [.int (jmin a1 a2), .int (jmax a1 a2)] [] dX8_exchange_37 cv_X8_137 (fun h => ctX2_nearOf h) (Nat.le_of_ble_eq_true rfl) sx_75 ci_2 rfl rfl (Nat.le_of_ble_eq_true rfl) ⟨(Nat.le_of_ble_eq_true rfl), (Nat.le_of_ble_eq_true rfl)⟩ ⟨(Nat.le_of_ble_eq_true rfl), (Nat.le_of_ble_eq_true rfl)⟩ ?_
    intro r24 μ23
    exact ll_xireturn E (pc := 40) hr dX8_exchange_40 ⟨(Nat.le_of_ble_eq_true rfl), (Nat.le_of_ble_eq_true rfl)⟩) hf
theorem dX8_checkRegister_0 : decode cX8_checkRegister 0 = .ok (.iload_n 0, 1) := by decide +kernel
theorem dX8_checkRegister_1 : decode cX8_checkRegister 1 = .ok (.invokestatic 85, 3) := by decide +kernel
theorem dX8_checkRegister_4 : decode cX8_checkRegister 4 = .ok (.ifCond .ne 14, 3) := by decide +kernel
theorem dX8_checkRegister_7 : decode cX8_checkRegister 7 = .ok (.new 89, 3) := by decide +kernel
theorem dX8_checkRegister_10 : decode cX8_checkRegister 10 = .ok (.dup, 1) := by decide +kernel
theorem dX8_checkRegister_11 : decode cX8_checkRegister 11 = .ok (.ldc_w 387, 3) := by decide +kernel
theorem dX8_checkRegister_14 : decode cX8_checkRegister 14 = .ok (.invokespecial 93, 3) := by decide +kernel
theorem dX8_checkRegister_17 : decode cX8_checkRegister 17 = .ok (.athrow, 1) := by decide +kernel
theorem dX8_checkRegister_18 : decode cX8_checkRegister 18 = .ok (.return_, 1) := by decide +kernel
def fX8_checkRegister (μ : Mem) (a0 : Int32) : Option ((Unit ⊕ Nat) × Mem) :=
  bd (fX8_isRegister μ a0) fun r4 μ3 =>
  if r4 = 0 then
  some (.inr 1, μ3)
  else
  some (.inl (), μ3)
theorem cxX8_checkRegister {l : Launch} {D : va_G} {cI cR : ClassId} {ad : Nat → Nat} {μ : Mem} {a0 : Int32} (hl9 : l.stackTraces = false) {r : Unit ⊕ Nat} {μ' : Mem} (hf : fX8_checkRegister μ a0 = some (r, μ')) : CX l yX8_checkRegister cX8_checkRegister 1 none 7 1 D cI cR ad shX NX [.int a0] μ (r.elim (fun _ => .inl (none)) .inr) μ' :=
  cx_of (own := RX8) (ov := fun (r : Unit ⊕ Nat) => (r.elim (fun _ => .inl (none)) .inr)) hl9 (by decide +kernel) rfl (Nat.le_of_ble_eq_true rfl) (fun p e s m below meth c A0 E X hr => by
    refine ll_lo (lo' := [some (.int a0)]) ⟨rfl, trivial⟩ ?_
    rw [fX8_checkRegister]
    refine ll_iload_n E (pc := 0) dX8_checkRegister_0 rfl ?_
    refine ll_callSi E (pc := 1) (d := 0) [.int a0] [] dX8_checkRegister_1 cv_X8_85 (fun h => ctX8_isRegister h) rfl rfl (Nat.le_of_ble_eq_true rfl) ⟨(Nat.le_of_ble_eq_true rfl), (Nat.le_of_ble_eq_true rfl)⟩ ⟨(Nat.le_of_ble_eq_true rfl), (Nat.le_of_ble_eq_true rfl)⟩ ?_
    intro r4 μ3
    refine ll_if_ne E (pc := 4) (tgt := 18) dX8_checkRegister_4 rfl ?_ ?_
    · exact ll_xreturn E (pc := 18) hr dX8_checkRegister_18 ⟨(Nat.le_of_ble_eq_true rfl), (Nat.le_of_ble_eq_true rfl)⟩
    · exact ll_throwW E (pc := 7) (k := 1) (tx := "no such register") X (by decide) xw_1 (by decide +kernel) rfl dX8_checkRegister_7 dX8_checkRegister_10 dX8_checkRegister_11 dX8_checkRegister_14 dX8_checkRegister_17 ⟨(Nat.le_of_ble_eq_true rfl), (Nat.le_of_ble_eq_true rfl)⟩ (Nat.le_of_ble_eq_true rfl) ⟨(Nat.le_of_ble_eq_true rfl), (Nat.le_of_ble_eq_true rfl)⟩ ⟨(Nat.le_of_ble_eq_true rfl), (Nat.le_of_ble_eq_true rfl)⟩) hf
theorem dX8_setRegister_0 : decode cX8_setRegister 0 = .ok (.iload_n 1, 1) := by decide +kernel
theorem dX8_setRegister_1 : decode cX8_setRegister 1 = .ok (.invokestatic 140, 3) := by decide +kernel
theorem dX8_setRegister_4 : decode cX8_setRegister 4 = .ok (.aload_n 0, 1) := by decide +kernel
theorem dX8_setRegister_5 : decode cX8_setRegister 5 = .ok (.invokevirtual 106, 3) := by decide +kernel
theorem dX8_setRegister_8 : decode cX8_setRegister 8 = .ok (.aload_n 0, 1) := by decide +kernel
theorem dX8_setRegister_9 : decode cX8_setRegister 9 = .ok (.getfield 12, 3) := by decide +kernel
theorem dX8_setRegister_12 : decode cX8_setRegister 12 = .ok (.iload_n 1, 1) := by decide +kernel
theorem dX8_setRegister_13 : decode cX8_setRegister 13 = .ok (.iload_n 2, 1) := by decide +kernel
theorem dX8_setRegister_14 : decode cX8_setRegister 14 = .ok (.invokevirtual 143, 3) := by decide +kernel
theorem dX8_setRegister_17 : decode cX8_setRegister 17 = .ok (.ireturn, 1) := by decide +kernel
def fX8_setRegister (μ : Mem) (a1 : Int32) (a2 : Int32) : Option ((Int32 ⊕ Nat) × Mem) :=
  bx (fX8_checkRegister μ a1) fun _ μ7 =>
  bd (fX8_save μ7) fun _ μ9 =>
  bd (fX6_changeFirst μ9 a1 a2) fun r12 μ11 =>
  some (.inl r12, μ11)
theorem cxX8_setRegister {l : Launch} {D : va_G} {cI cR : ClassId} {ad : Nat → Nat} {μ : Mem} {a1 : Int32} {a2 : Int32} (hl9 : l.stackTraces = false) {r : Int32 ⊕ Nat} {μ' : Mem} (hf : fX8_setRegister μ a1 a2 = some (r, μ')) : CX l yX8_setRegister cX8_setRegister 3 (some .int) 8 1 D cI cR ad shX NX [.ref (ad 0), .int a1, .int a2] μ (r.elim (fun r => .inl (some (.int r))) .inr) μ' :=
  cx_of (own := RX8) (ov := fun (r : Int32 ⊕ Nat) => (r.elim (fun r => .inl (some (.int r))) .inr)) hl9 (by decide +kernel) rfl (Nat.le_of_ble_eq_true rfl) (fun p e s m below meth c A0 E X hr => by
    refine ll_lo (lo' := [some (.ref (ad 0)), some (.int a1), some (.int a2)]) ⟨rfl, rfl, rfl, trivial⟩ ?_
    rw [fX8_setRegister]
    refine ll_iload_n E (pc := 0) dX8_setRegister_0 rfl ?_
    refine ll_xcallSv E X (pc := 1) (d := 7) (mc1 := 1) (mc := 1) [.int a1] [] dX8_setRegister_1 cv_X8_140 (fun h => cxX8_checkRegister X.1 h) rfl rfl (Nat.le_of_ble_eq_true rfl) ⟨(Nat.le_of_ble_eq_true rfl), (Nat.le_of_ble_eq_true rfl)⟩ ⟨(Nat.le_of_ble_eq_true rfl), (Nat.le_of_ble_eq_true rfl)⟩ ⟨(Nat.le_of_ble_eq_true rfl), (Nat.le_of_ble_eq_true rfl)⟩ ?_
    intro r8 μ7
    refine ll_aload_n E (pc := 4) dX8_setRegister_4 rfl ?_
    refine ll_callVv E (pc := 5) (d := 3) (ci := 8) (o9 := 0) [] [] dX8_setRegister_5 cv_X8_106 (fun h => ctX8_save h) (Nat.le_of_ble_eq_true rfl) sx_0 ci_8 rfl rfl (Nat.le_of_ble_eq_true rfl) ⟨(Nat.le_of_ble_eq_true rfl), (Nat.le_of_ble_eq_true rfl)⟩ ⟨(Nat.le_of_ble_eq_true rfl), (Nat.le_of_ble_eq_true rfl)⟩ ?_
    intro r10 μ9
    refine ll_aload_n E (pc := 8) dX8_setRegister_8 rfl ?_
    refine ll_getfr E (pc := 9) (o9 := 0) (ci := 8) (k9 := 0) (q := 1) dX8_setRegister_9 fl_X8_12 (Nat.le_of_ble_eq_true rfl) fx_0_0 ?_
    refine ll_iload_n E (pc := 12) dX8_setRegister_12 rfl ?_
    refine ll_iload_n E (pc := 13) dX8_setRegister_13 rfl ?_
    refine ll_callVi E (pc := 14) (d := 0) (ci := 6) (o9 := 1) [.int a1, .int a2] [] dX8_setRegister_14 cv_X8_143 (fun h => ctX6_changeFirst h) (Nat.le_of_ble_eq_true rfl) sx_1 ci_6 rfl rfl (Nat.le_of_ble_eq_true rfl) ⟨(Nat.le_of_ble_eq_true rfl), (Nat.le_of_ble_eq_true rfl)⟩ ⟨(Nat.le_of_ble_eq_true rfl), (Nat.le_of_ble_eq_true rfl)⟩ ?_
    intro r12 μ11
    exact ll_xireturn E (pc := 17) hr dX8_setRegister_17 ⟨(Nat.le_of_ble_eq_true rfl), (Nat.le_of_ble_eq_true rfl)⟩) hf
theorem dX8_checkCell_0 : decode cX8_checkCell 0 = .ok (.iload_n 0, 1) := by decide +kernel
theorem dX8_checkCell_1 : decode cX8_checkCell 1 = .ok (.ifCond .lt 9, 3) := by decide +kernel
theorem dX8_checkCell_4 : decode cX8_checkCell 4 = .ok (.iload_n 0, 1) := by decide +kernel
theorem dX8_checkCell_5 : decode cX8_checkCell 5 = .ok (.bipush 12, 2) := by decide +kernel
theorem dX8_checkCell_7 : decode cX8_checkCell 7 = .ok (.if_icmp .lt 14, 3) := by decide +kernel
theorem dX8_checkCell_10 : decode cX8_checkCell 10 = .ok (.new 89, 3) := by decide +kernel
theorem dX8_checkCell_13 : decode cX8_checkCell 13 = .ok (.dup, 1) := by decide +kernel
theorem dX8_checkCell_14 : decode cX8_checkCell 14 = .ok (.ldc_w 389, 3) := by decide +kernel
theorem dX8_checkCell_17 : decode cX8_checkCell 17 = .ok (.invokespecial 93, 3) := by decide +kernel
theorem dX8_checkCell_20 : decode cX8_checkCell 20 = .ok (.athrow, 1) := by decide +kernel
theorem dX8_checkCell_21 : decode cX8_checkCell 21 = .ok (.return_, 1) := by decide +kernel
def fX8_checkCell_L10  (μ : Mem) : Option ((Unit ⊕ Nat) × Mem) :=
  some (.inr 1, μ)
def fX8_checkCell (μ : Mem) (a0 : Int32) : Option ((Unit ⊕ Nat) × Mem) :=
  if a0 < 0 then
  fX8_checkCell_L10 μ
  else
  if a0 < (12 : Int32) then
  some (.inl (), μ)
  else
  fX8_checkCell_L10 μ
theorem kX8_checkCell_L10 {p : Program} {l : Launch} {e : Env} {s : State} {m : MethodId} {args : Array Value} {below : List Frame} {meth : Method} {c : Code} {D : va_G} {cI cR : ClassId} {ad : Nat → Nat} {A0 : Nat → Prop} (E : EV p s m args meth c cX8_checkCell 1 RX8 D cI cR ad shX NX A0) (X : EX9 l s c A0) (hr : meth.sig.returnType = none)  (μ : Mem) : LL p l e (RX 7 1) s m args below meth c 1 D cI cR ad shX NX A0 (fun (r : Unit ⊕ Nat) μ' => KX below args s D cI cR ad shX NX A0 1 (r.elim (fun _ => .inl (none)) .inr) μ') (fX8_checkCell_L10 μ) 0 0 10 [none] [] μ := by
  rw [fX8_checkCell_L10]
  exact ll_throwW E (pc := 10) (k := 1) (tx := "no such cell") X (by decide) xw_1 (by decide +kernel) rfl dX8_checkCell_10 dX8_checkCell_13 dX8_checkCell_14 dX8_checkCell_17 dX8_checkCell_20 ⟨(Nat.le_of_ble_eq_true rfl), (Nat.le_of_ble_eq_true rfl)⟩ (Nat.le_of_ble_eq_true rfl) ⟨(Nat.le_of_ble_eq_true rfl), (Nat.le_of_ble_eq_true rfl)⟩ ⟨(Nat.le_of_ble_eq_true rfl), (Nat.le_of_ble_eq_true rfl)⟩
theorem cxX8_checkCell {l : Launch} {D : va_G} {cI cR : ClassId} {ad : Nat → Nat} {μ : Mem} {a0 : Int32} (hl9 : l.stackTraces = false) {r : Unit ⊕ Nat} {μ' : Mem} (hf : fX8_checkCell μ a0 = some (r, μ')) : CX l yX8_checkCell cX8_checkCell 1 none 7 1 D cI cR ad shX NX [.int a0] μ (r.elim (fun _ => .inl (none)) .inr) μ' :=
  cx_of (own := RX8) (ov := fun (r : Unit ⊕ Nat) => (r.elim (fun _ => .inl (none)) .inr)) hl9 (by decide +kernel) rfl (Nat.le_of_ble_eq_true rfl) (fun p e s m below meth c A0 E X hr => by
    refine ll_lo (lo' := [some (.int a0)]) ⟨rfl, trivial⟩ ?_
    rw [fX8_checkCell]
    refine ll_iload_n E (pc := 0) dX8_checkCell_0 rfl ?_
    refine ll_if_lt E (pc := 1) (tgt := 10) dX8_checkCell_1 rfl ?_ ?_
    · exact ll_lo (lo' := [none]) trivial (kX8_checkCell_L10 E X hr μ)
    · refine ll_iload_n E (pc := 4) dX8_checkCell_4 rfl ?_
      refine ll_bipush E (pc := 5) dX8_checkCell_5 kb_12 ?_
      refine ll_icmp_lt E (pc := 7) (tgt := 21) dX8_checkCell_7 rfl ?_ ?_
      · exact ll_xreturn E (pc := 21) hr dX8_checkCell_21 ⟨(Nat.le_of_ble_eq_true rfl), (Nat.le_of_ble_eq_true rfl)⟩
      · exact ll_lo (lo' := [none]) trivial (kX8_checkCell_L10 E X hr μ)) hf
theorem dX8_setCell_0 : decode cX8_setCell 0 = .ok (.iload_n 1, 1) := by decide +kernel
theorem dX8_setCell_1 : decode cX8_setCell 1 = .ok (.invokestatic 146, 3) := by decide +kernel
theorem dX8_setCell_4 : decode cX8_setCell 4 = .ok (.aload_n 0, 1) := by decide +kernel
theorem dX8_setCell_5 : decode cX8_setCell 5 = .ok (.invokevirtual 106, 3) := by decide +kernel
theorem dX8_setCell_8 : decode cX8_setCell 8 = .ok (.aload_n 0, 1) := by decide +kernel
theorem dX8_setCell_9 : decode cX8_setCell 9 = .ok (.getfield 12, 3) := by decide +kernel
theorem dX8_setCell_12 : decode cX8_setCell 12 = .ok (.bipush 12, 2) := by decide +kernel
theorem dX8_setCell_14 : decode cX8_setCell 14 = .ok (.iload_n 1, 1) := by decide +kernel
theorem dX8_setCell_15 : decode cX8_setCell 15 = .ok (.iadd, 1) := by decide +kernel
theorem dX8_setCell_16 : decode cX8_setCell 16 = .ok (.iload_n 2, 1) := by decide +kernel
theorem dX8_setCell_17 : decode cX8_setCell 17 = .ok (.invokevirtual 143, 3) := by decide +kernel
theorem dX8_setCell_20 : decode cX8_setCell 20 = .ok (.ireturn, 1) := by decide +kernel
def fX8_setCell (μ : Mem) (a1 : Int32) (a2 : Int32) : Option ((Int32 ⊕ Nat) × Mem) :=
  bx (fX8_checkCell μ a1) fun _ μ7 =>
  bd (fX8_save μ7) fun _ μ9 =>
  bd (fX6_changeFirst μ9 ((12 : Int32) + a1) a2) fun r12 μ11 =>
  some (.inl r12, μ11)
theorem cxX8_setCell {l : Launch} {D : va_G} {cI cR : ClassId} {ad : Nat → Nat} {μ : Mem} {a1 : Int32} {a2 : Int32} (hl9 : l.stackTraces = false) {r : Int32 ⊕ Nat} {μ' : Mem} (hf : fX8_setCell μ a1 a2 = some (r, μ')) : CX l yX8_setCell cX8_setCell 3 (some .int) 8 1 D cI cR ad shX NX [.ref (ad 0), .int a1, .int a2] μ (r.elim (fun r => .inl (some (.int r))) .inr) μ' :=
  cx_of (own := RX8) (ov := fun (r : Int32 ⊕ Nat) => (r.elim (fun r => .inl (some (.int r))) .inr)) hl9 (by decide +kernel) rfl (Nat.le_of_ble_eq_true rfl) (fun p e s m below meth c A0 E X hr => by
    refine ll_lo (lo' := [some (.ref (ad 0)), some (.int a1), some (.int a2)]) ⟨rfl, rfl, rfl, trivial⟩ ?_
    rw [fX8_setCell]
    refine ll_iload_n E (pc := 0) dX8_setCell_0 rfl ?_
    refine ll_xcallSv E X (pc := 1) (d := 7) (mc1 := 1) (mc := 1) [.int a1] [] dX8_setCell_1 cv_X8_146 (fun h => cxX8_checkCell X.1 h) rfl rfl (Nat.le_of_ble_eq_true rfl) ⟨(Nat.le_of_ble_eq_true rfl), (Nat.le_of_ble_eq_true rfl)⟩ ⟨(Nat.le_of_ble_eq_true rfl), (Nat.le_of_ble_eq_true rfl)⟩ ⟨(Nat.le_of_ble_eq_true rfl), (Nat.le_of_ble_eq_true rfl)⟩ ?_
    intro r8 μ7
    refine ll_aload_n E (pc := 4) dX8_setCell_4 rfl ?_
    refine ll_callVv E (pc := 5) (d := 3) (ci := 8) (o9 := 0) [] [] dX8_setCell_5 cv_X8_106 (fun h => ctX8_save h) (Nat.le_of_ble_eq_true rfl) sx_0 ci_8 rfl rfl (Nat.le_of_ble_eq_true rfl) ⟨(Nat.le_of_ble_eq_true rfl), (Nat.le_of_ble_eq_true rfl)⟩ ⟨(Nat.le_of_ble_eq_true rfl), (Nat.le_of_ble_eq_true rfl)⟩ ?_
    intro r10 μ9
    refine ll_aload_n E (pc := 8) dX8_setCell_8 rfl ?_
    refine ll_getfr E (pc := 9) (o9 := 0) (ci := 8) (k9 := 0) (q := 1) dX8_setCell_9 fl_X8_12 (Nat.le_of_ble_eq_true rfl) fx_0_0 ?_
    refine ll_bipush E (pc := 12) dX8_setCell_12 kb_12 ?_
    refine ll_iload_n E (pc := 14) dX8_setCell_14 rfl ?_
    refine ll_iadd E (pc := 15) dX8_setCell_15 ?_
    refine ll_iload_n E (pc := 16) dX8_setCell_16 rfl ?_
    refine ll_callVi E (pc := 17) (d := 0) (ci := 6) (o9 := 1) [.int ((12 : Int32) + a1), .int a2] [] dX8_setCell_17 cv_X8_143 (fun h => ctX6_changeFirst h) (Nat.le_of_ble_eq_true rfl) sx_1 ci_6 rfl rfl (Nat.le_of_ble_eq_true rfl) ⟨(Nat.le_of_ble_eq_true rfl), (Nat.le_of_ble_eq_true rfl)⟩ ⟨(Nat.le_of_ble_eq_true rfl), (Nat.le_of_ble_eq_true rfl)⟩ ?_
    intro r12 μ11
    exact ll_xireturn E (pc := 20) hr dX8_setCell_20 ⟨(Nat.le_of_ble_eq_true rfl), (Nat.le_of_ble_eq_true rfl)⟩) hf
theorem dX8_checkUnit_0 : decode cX8_checkUnit 0 = .ok (.iload_n 0, 1) := by decide +kernel
theorem dX8_checkUnit_1 : decode cX8_checkUnit 1 = .ok (.ifCond .lt 8, 3) := by decide +kernel
theorem dX8_checkUnit_4 : decode cX8_checkUnit 4 = .ok (.iload_n 0, 1) := by decide +kernel
theorem dX8_checkUnit_5 : decode cX8_checkUnit 5 = .ok (.iconst 3, 1) := by decide +kernel
theorem dX8_checkUnit_6 : decode cX8_checkUnit 6 = .ok (.if_icmp .lt 14, 3) := by decide +kernel
theorem dX8_checkUnit_9 : decode cX8_checkUnit 9 = .ok (.new 89, 3) := by decide +kernel
theorem dX8_checkUnit_12 : decode cX8_checkUnit 12 = .ok (.dup, 1) := by decide +kernel
theorem dX8_checkUnit_13 : decode cX8_checkUnit 13 = .ok (.ldc_w 391, 3) := by decide +kernel
theorem dX8_checkUnit_16 : decode cX8_checkUnit 16 = .ok (.invokespecial 93, 3) := by decide +kernel
theorem dX8_checkUnit_19 : decode cX8_checkUnit 19 = .ok (.athrow, 1) := by decide +kernel
theorem dX8_checkUnit_20 : decode cX8_checkUnit 20 = .ok (.return_, 1) := by decide +kernel
def fX8_checkUnit_L9  (μ : Mem) : Option ((Unit ⊕ Nat) × Mem) :=
  some (.inr 1, μ)
def fX8_checkUnit (μ : Mem) (a0 : Int32) : Option ((Unit ⊕ Nat) × Mem) :=
  if a0 < 0 then
  fX8_checkUnit_L9 μ
  else
  if a0 < (3 : Int32) then
  some (.inl (), μ)
  else
  fX8_checkUnit_L9 μ
theorem kX8_checkUnit_L9 {p : Program} {l : Launch} {e : Env} {s : State} {m : MethodId} {args : Array Value} {below : List Frame} {meth : Method} {c : Code} {D : va_G} {cI cR : ClassId} {ad : Nat → Nat} {A0 : Nat → Prop} (E : EV p s m args meth c cX8_checkUnit 1 RX8 D cI cR ad shX NX A0) (X : EX9 l s c A0) (hr : meth.sig.returnType = none)  (μ : Mem) : LL p l e (RX 7 1) s m args below meth c 1 D cI cR ad shX NX A0 (fun (r : Unit ⊕ Nat) μ' => KX below args s D cI cR ad shX NX A0 1 (r.elim (fun _ => .inl (none)) .inr) μ') (fX8_checkUnit_L9 μ) 0 0 9 [none] [] μ := by
  rw [fX8_checkUnit_L9]
  exact ll_throwW E (pc := 9) (k := 1) (tx := "no such unit") X (by decide) xw_1 (by decide +kernel) rfl dX8_checkUnit_9 dX8_checkUnit_12 dX8_checkUnit_13 dX8_checkUnit_16 dX8_checkUnit_19 ⟨(Nat.le_of_ble_eq_true rfl), (Nat.le_of_ble_eq_true rfl)⟩ (Nat.le_of_ble_eq_true rfl) ⟨(Nat.le_of_ble_eq_true rfl), (Nat.le_of_ble_eq_true rfl)⟩ ⟨(Nat.le_of_ble_eq_true rfl), (Nat.le_of_ble_eq_true rfl)⟩
theorem cxX8_checkUnit {l : Launch} {D : va_G} {cI cR : ClassId} {ad : Nat → Nat} {μ : Mem} {a0 : Int32} (hl9 : l.stackTraces = false) {r : Unit ⊕ Nat} {μ' : Mem} (hf : fX8_checkUnit μ a0 = some (r, μ')) : CX l yX8_checkUnit cX8_checkUnit 1 none 7 1 D cI cR ad shX NX [.int a0] μ (r.elim (fun _ => .inl (none)) .inr) μ' :=
  cx_of (own := RX8) (ov := fun (r : Unit ⊕ Nat) => (r.elim (fun _ => .inl (none)) .inr)) hl9 (by decide +kernel) rfl (Nat.le_of_ble_eq_true rfl) (fun p e s m below meth c A0 E X hr => by
    refine ll_lo (lo' := [some (.int a0)]) ⟨rfl, trivial⟩ ?_
    rw [fX8_checkUnit]
    refine ll_iload_n E (pc := 0) dX8_checkUnit_0 rfl ?_
    refine ll_if_lt E (pc := 1) (tgt := 9) dX8_checkUnit_1 rfl ?_ ?_
    · exact ll_lo (lo' := [none]) trivial (kX8_checkUnit_L9 E X hr μ)
    · refine ll_iload_n E (pc := 4) dX8_checkUnit_4 rfl ?_
      refine ll_iconst E (pc := 5) dX8_checkUnit_5 kc_3 ?_
      refine ll_icmp_lt E (pc := 6) (tgt := 20) dX8_checkUnit_6 rfl ?_ ?_
      · exact ll_xreturn E (pc := 20) hr dX8_checkUnit_20 ⟨(Nat.le_of_ble_eq_true rfl), (Nat.le_of_ble_eq_true rfl)⟩
      · exact ll_lo (lo' := [none]) trivial (kX8_checkUnit_L9 E X hr μ)) hf
theorem dX8_setSlots_0 : decode cX8_setSlots 0 = .ok (.iload_n 1, 1) := by decide +kernel
theorem dX8_setSlots_1 : decode cX8_setSlots 1 = .ok (.invokestatic 149, 3) := by decide +kernel
theorem dX8_setSlots_4 : decode cX8_setSlots 4 = .ok (.iload_n 2, 1) := by decide +kernel
theorem dX8_setSlots_5 : decode cX8_setSlots 5 = .ok (.iconst 1, 1) := by decide +kernel
theorem dX8_setSlots_6 : decode cX8_setSlots 6 = .ok (.if_icmp .lt 8, 3) := by decide +kernel
theorem dX8_setSlots_9 : decode cX8_setSlots 9 = .ok (.iload_n 2, 1) := by decide +kernel
theorem dX8_setSlots_10 : decode cX8_setSlots 10 = .ok (.iconst 4, 1) := by decide +kernel
theorem dX8_setSlots_11 : decode cX8_setSlots 11 = .ok (.if_icmp .le 13, 3) := by decide +kernel
theorem dX8_setSlots_14 : decode cX8_setSlots 14 = .ok (.new 96, 3) := by decide +kernel
theorem dX8_setSlots_17 : decode cX8_setSlots 17 = .ok (.dup, 1) := by decide +kernel
theorem dX8_setSlots_18 : decode cX8_setSlots 18 = .ok (.ldc 152, 2) := by decide +kernel
theorem dX8_setSlots_20 : decode cX8_setSlots 20 = .ok (.invokespecial 100, 3) := by decide +kernel
theorem dX8_setSlots_23 : decode cX8_setSlots 23 = .ok (.athrow, 1) := by decide +kernel
theorem dX8_setSlots_24 : decode cX8_setSlots 24 = .ok (.aload_n 0, 1) := by decide +kernel
theorem dX8_setSlots_25 : decode cX8_setSlots 25 = .ok (.invokevirtual 106, 3) := by decide +kernel
theorem dX8_setSlots_28 : decode cX8_setSlots 28 = .ok (.aload_n 0, 1) := by decide +kernel
theorem dX8_setSlots_29 : decode cX8_setSlots 29 = .ok (.getfield 12, 3) := by decide +kernel
theorem dX8_setSlots_32 : decode cX8_setSlots 32 = .ok (.getfield 154, 3) := by decide +kernel
theorem dX8_setSlots_35 : decode cX8_setSlots 35 = .ok (.iload_n 1, 1) := by decide +kernel
theorem dX8_setSlots_36 : decode cX8_setSlots 36 = .ok (.iaload, 1) := by decide +kernel
theorem dX8_setSlots_37 : decode cX8_setSlots 37 = .ok (.istore_n 3, 1) := by decide +kernel
theorem dX8_setSlots_38 : decode cX8_setSlots 38 = .ok (.aload_n 0, 1) := by decide +kernel
theorem dX8_setSlots_39 : decode cX8_setSlots 39 = .ok (.getfield 12, 3) := by decide +kernel
theorem dX8_setSlots_42 : decode cX8_setSlots 42 = .ok (.getfield 154, 3) := by decide +kernel
theorem dX8_setSlots_45 : decode cX8_setSlots 45 = .ok (.iload_n 1, 1) := by decide +kernel
theorem dX8_setSlots_46 : decode cX8_setSlots 46 = .ok (.iload_n 2, 1) := by decide +kernel
theorem dX8_setSlots_47 : decode cX8_setSlots 47 = .ok (.iastore, 1) := by decide +kernel
theorem dX8_setSlots_48 : decode cX8_setSlots 48 = .ok (.iload_n 3, 1) := by decide +kernel
theorem dX8_setSlots_49 : decode cX8_setSlots 49 = .ok (.ireturn, 1) := by decide +kernel
def fX8_setSlots_L14  (μ : Mem) : Option ((Int32 ⊕ Nat) × Mem) :=
  some (.inr 2, μ)
def fX8_setSlots (μ : Mem) (a1 : Int32) (a2 : Int32) : Option ((Int32 ⊕ Nat) × Mem) :=
  bx (fX8_checkUnit μ a1) fun _ μ7 =>
  if a2 < (1 : Int32) then
  fX8_setSlots_L14 μ7
  else
  if a2 ≤ (4 : Int32) then
  bd (fX8_save μ7) fun _ μ9 =>
  (ld 3 (μ9 9) a1).bind fun r11 =>
  (ast 3 μ9 9 a1 a2).bind fun μ12 =>
  some (.inl r11, μ12)
  else
  fX8_setSlots_L14 μ7
theorem kX8_setSlots_L14 {p : Program} {l : Launch} {e : Env} {s : State} {m : MethodId} {args : Array Value} {below : List Frame} {meth : Method} {c : Code} {D : va_G} {cI cR : ClassId} {ad : Nat → Nat} {A0 : Nat → Prop} (E : EV p s m args meth c cX8_setSlots 4 RX8 D cI cR ad shX NX A0) (X : EX9 l s c A0) (hr : meth.sig.returnType = (some .int))  (μ : Mem) : LL p l e (RX 8 2) s m args below meth c 4 D cI cR ad shX NX A0 (fun (r : Int32 ⊕ Nat) μ' => KX below args s D cI cR ad shX NX A0 2 (r.elim (fun r => .inl (some (.int r))) .inr) μ') (fX8_setSlots_L14 μ) 1 6 14 [none, none, none, none] [] μ := by
  rw [fX8_setSlots_L14]
  exact ll_throw E (pc := 14) (k := 2) (tx := "slots out of range") X (by decide) xw_2 (by decide +kernel) rfl dX8_setSlots_14 dX8_setSlots_17 dX8_setSlots_18 dX8_setSlots_20 dX8_setSlots_23 ⟨(Nat.le_of_ble_eq_true rfl), (Nat.le_of_ble_eq_true rfl)⟩ (Nat.le_of_ble_eq_true rfl) ⟨(Nat.le_of_ble_eq_true rfl), (Nat.le_of_ble_eq_true rfl)⟩ ⟨(Nat.le_of_ble_eq_true rfl), (Nat.le_of_ble_eq_true rfl)⟩
theorem cxX8_setSlots {l : Launch} {D : va_G} {cI cR : ClassId} {ad : Nat → Nat} {μ : Mem} {a1 : Int32} {a2 : Int32} (hl9 : l.stackTraces = false) {r : Int32 ⊕ Nat} {μ' : Mem} (hf : fX8_setSlots μ a1 a2 = some (r, μ')) : CX l yX8_setSlots cX8_setSlots 4 (some .int) 8 2 D cI cR ad shX NX [.ref (ad 0), .int a1, .int a2] μ (r.elim (fun r => .inl (some (.int r))) .inr) μ' :=
  cx_of (own := RX8) (ov := fun (r : Int32 ⊕ Nat) => (r.elim (fun r => .inl (some (.int r))) .inr)) hl9 (by decide +kernel) rfl (Nat.le_of_ble_eq_true rfl) (fun p e s m below meth c A0 E X hr => by
    refine ll_lo (lo' := [some (.ref (ad 0)), some (.int a1), some (.int a2), none]) ⟨rfl, rfl, rfl, trivial⟩ ?_
    rw [fX8_setSlots]
    refine ll_iload_n E (pc := 0) dX8_setSlots_0 rfl ?_
    refine ll_xcallSv E X (pc := 1) (d := 7) (mc1 := 1) (mc := 2) [.int a1] [] dX8_setSlots_1 cv_X8_149 (fun h => cxX8_checkUnit X.1 h) rfl rfl (Nat.le_of_ble_eq_true rfl) ⟨(Nat.le_of_ble_eq_true rfl), (Nat.le_of_ble_eq_true rfl)⟩ ⟨(Nat.le_of_ble_eq_true rfl), (Nat.le_of_ble_eq_true rfl)⟩ ⟨(Nat.le_of_ble_eq_true rfl), (Nat.le_of_ble_eq_true rfl)⟩ ?_
    intro r8 μ7
    refine ll_iload_n E (pc := 4) dX8_setSlots_4 rfl ?_
    refine ll_iconst E (pc := 5) dX8_setSlots_5 kc_1 ?_
    refine ll_icmp_lt E (pc := 6) (tgt := 14) dX8_setSlots_6 rfl ?_ ?_
    · exact ll_lo (lo' := [none, none, none, none]) trivial (kX8_setSlots_L14 E X hr μ7)
    · refine ll_iload_n E (pc := 9) dX8_setSlots_9 rfl ?_
      refine ll_iconst E (pc := 10) dX8_setSlots_10 kc_4 ?_
      refine ll_icmp_le E (pc := 11) (tgt := 24) dX8_setSlots_11 rfl ?_ ?_
      · refine ll_aload_n E (pc := 24) dX8_setSlots_24 rfl ?_
        refine ll_callVv E (pc := 25) (d := 3) (ci := 8) (o9 := 0) [] [] dX8_setSlots_25 cv_X8_106 (fun h => ctX8_save h) (Nat.le_of_ble_eq_true rfl) sx_0 ci_8 rfl rfl (Nat.le_of_ble_eq_true rfl) ⟨(Nat.le_of_ble_eq_true rfl), (Nat.le_of_ble_eq_true rfl)⟩ ⟨(Nat.le_of_ble_eq_true rfl), (Nat.le_of_ble_eq_true rfl)⟩ ?_
        intro r10 μ9
        refine ll_aload_n E (pc := 28) dX8_setSlots_28 rfl ?_
        refine ll_getfr E (pc := 29) (o9 := 0) (ci := 8) (k9 := 0) (q := 1) dX8_setSlots_29 fl_X8_12 (Nat.le_of_ble_eq_true rfl) fx_0_0 ?_
        refine ll_getfr E (pc := 32) (o9 := 1) (ci := 6) (k9 := 8) (q := 9) dX8_setSlots_32 fl_X8_154 (Nat.le_of_ble_eq_true rfl) fx_1_8 ?_
        refine ll_iload_n E (pc := 35) dX8_setSlots_35 rfl ?_
        refine ll_iald E (pc := 36) (a := 9) dX8_setSlots_36 (px_9).1 (px_9).2 ?_
        intro r11
        refine ll_istore_n E (pc := 37) (lo' := [some (.ref (ad 0)), some (.int a1), some (.int a2), some (.int r11)]) dX8_setSlots_37 (Nat.le_of_ble_eq_true rfl) rfl rfl ?_
        refine ll_aload_n E (pc := 38) dX8_setSlots_38 rfl ?_
        refine ll_getfr E (pc := 39) (o9 := 0) (ci := 8) (k9 := 0) (q := 1) dX8_setSlots_39 fl_X8_12 (Nat.le_of_ble_eq_true rfl) fx_0_0 ?_
        refine ll_getfr E (pc := 42) (o9 := 1) (ci := 6) (k9 := 8) (q := 9) dX8_setSlots_42 fl_X8_154 (Nat.le_of_ble_eq_true rfl) fx_1_8 ?_
        refine ll_iload_n E (pc := 45) dX8_setSlots_45 rfl ?_
        refine ll_iload_n E (pc := 46) dX8_setSlots_46 rfl ?_
        refine ll_iast E (pc := 47) (a := 9) dX8_setSlots_47 (px_9).1 (px_9).2 ?_
        intro μ12
        refine ll_iload_n E (pc := 48) dX8_setSlots_48 rfl ?_
        exact ll_xireturn E (pc := 49) hr dX8_setSlots_49 ⟨(Nat.le_of_ble_eq_true rfl), (Nat.le_of_ble_eq_true rfl)⟩
      · exact ll_lo (lo' := [none, none, none, none]) trivial (kX8_setSlots_L14 E X hr μ7)) hf
theorem dX8_setLatency_0 : decode cX8_setLatency 0 = .ok (.iload_n 1, 1) := by decide +kernel
theorem dX8_setLatency_1 : decode cX8_setLatency 1 = .ok (.invokestatic 149, 3) := by decide +kernel
theorem dX8_setLatency_4 : decode cX8_setLatency 4 = .ok (.iload_n 2, 1) := by decide +kernel
theorem dX8_setLatency_5 : decode cX8_setLatency 5 = .ok (.iconst 1, 1) := by decide +kernel
theorem dX8_setLatency_6 : decode cX8_setLatency 6 = .ok (.if_icmp .lt 9, 3) := by decide +kernel
theorem dX8_setLatency_9 : decode cX8_setLatency 9 = .ok (.iload_n 2, 1) := by decide +kernel
theorem dX8_setLatency_10 : decode cX8_setLatency 10 = .ok (.bipush 6, 2) := by decide +kernel
theorem dX8_setLatency_12 : decode cX8_setLatency 12 = .ok (.if_icmp .le 13, 3) := by decide +kernel
theorem dX8_setLatency_15 : decode cX8_setLatency 15 = .ok (.new 96, 3) := by decide +kernel
theorem dX8_setLatency_18 : decode cX8_setLatency 18 = .ok (.dup, 1) := by decide +kernel
theorem dX8_setLatency_19 : decode cX8_setLatency 19 = .ok (.ldc 157, 2) := by decide +kernel
theorem dX8_setLatency_21 : decode cX8_setLatency 21 = .ok (.invokespecial 100, 3) := by decide +kernel
theorem dX8_setLatency_24 : decode cX8_setLatency 24 = .ok (.athrow, 1) := by decide +kernel
theorem dX8_setLatency_25 : decode cX8_setLatency 25 = .ok (.aload_n 0, 1) := by decide +kernel
theorem dX8_setLatency_26 : decode cX8_setLatency 26 = .ok (.invokevirtual 106, 3) := by decide +kernel
theorem dX8_setLatency_29 : decode cX8_setLatency 29 = .ok (.aload_n 0, 1) := by decide +kernel
theorem dX8_setLatency_30 : decode cX8_setLatency 30 = .ok (.getfield 12, 3) := by decide +kernel
theorem dX8_setLatency_33 : decode cX8_setLatency 33 = .ok (.getfield 159, 3) := by decide +kernel
theorem dX8_setLatency_36 : decode cX8_setLatency 36 = .ok (.iload_n 1, 1) := by decide +kernel
theorem dX8_setLatency_37 : decode cX8_setLatency 37 = .ok (.iaload, 1) := by decide +kernel
theorem dX8_setLatency_38 : decode cX8_setLatency 38 = .ok (.istore_n 3, 1) := by decide +kernel
theorem dX8_setLatency_39 : decode cX8_setLatency 39 = .ok (.aload_n 0, 1) := by decide +kernel
theorem dX8_setLatency_40 : decode cX8_setLatency 40 = .ok (.getfield 12, 3) := by decide +kernel
theorem dX8_setLatency_43 : decode cX8_setLatency 43 = .ok (.getfield 159, 3) := by decide +kernel
theorem dX8_setLatency_46 : decode cX8_setLatency 46 = .ok (.iload_n 1, 1) := by decide +kernel
theorem dX8_setLatency_47 : decode cX8_setLatency 47 = .ok (.iload_n 2, 1) := by decide +kernel
theorem dX8_setLatency_48 : decode cX8_setLatency 48 = .ok (.iastore, 1) := by decide +kernel
theorem dX8_setLatency_49 : decode cX8_setLatency 49 = .ok (.iload_n 3, 1) := by decide +kernel
theorem dX8_setLatency_50 : decode cX8_setLatency 50 = .ok (.ireturn, 1) := by decide +kernel
def fX8_setLatency_L15  (μ : Mem) : Option ((Int32 ⊕ Nat) × Mem) :=
  some (.inr 2, μ)
def fX8_setLatency (μ : Mem) (a1 : Int32) (a2 : Int32) : Option ((Int32 ⊕ Nat) × Mem) :=
  bx (fX8_checkUnit μ a1) fun _ μ7 =>
  if a2 < (1 : Int32) then
  fX8_setLatency_L15 μ7
  else
  if a2 ≤ (6 : Int32) then
  bd (fX8_save μ7) fun _ μ9 =>
  (ld 3 (μ9 10) a1).bind fun r11 =>
  (ast 3 μ9 10 a1 a2).bind fun μ12 =>
  some (.inl r11, μ12)
  else
  fX8_setLatency_L15 μ7
theorem kX8_setLatency_L15 {p : Program} {l : Launch} {e : Env} {s : State} {m : MethodId} {args : Array Value} {below : List Frame} {meth : Method} {c : Code} {D : va_G} {cI cR : ClassId} {ad : Nat → Nat} {A0 : Nat → Prop} (E : EV p s m args meth c cX8_setLatency 4 RX8 D cI cR ad shX NX A0) (X : EX9 l s c A0) (hr : meth.sig.returnType = (some .int))  (μ : Mem) : LL p l e (RX 8 2) s m args below meth c 4 D cI cR ad shX NX A0 (fun (r : Int32 ⊕ Nat) μ' => KX below args s D cI cR ad shX NX A0 2 (r.elim (fun r => .inl (some (.int r))) .inr) μ') (fX8_setLatency_L15 μ) 1 6 15 [none, none, none, none] [] μ := by
  rw [fX8_setLatency_L15]
  exact ll_throw E (pc := 15) (k := 2) (tx := "latency out of range") X (by decide) xw_2 (by decide +kernel) rfl dX8_setLatency_15 dX8_setLatency_18 dX8_setLatency_19 dX8_setLatency_21 dX8_setLatency_24 ⟨(Nat.le_of_ble_eq_true rfl), (Nat.le_of_ble_eq_true rfl)⟩ (Nat.le_of_ble_eq_true rfl) ⟨(Nat.le_of_ble_eq_true rfl), (Nat.le_of_ble_eq_true rfl)⟩ ⟨(Nat.le_of_ble_eq_true rfl), (Nat.le_of_ble_eq_true rfl)⟩
theorem cxX8_setLatency {l : Launch} {D : va_G} {cI cR : ClassId} {ad : Nat → Nat} {μ : Mem} {a1 : Int32} {a2 : Int32} (hl9 : l.stackTraces = false) {r : Int32 ⊕ Nat} {μ' : Mem} (hf : fX8_setLatency μ a1 a2 = some (r, μ')) : CX l yX8_setLatency cX8_setLatency 4 (some .int) 8 2 D cI cR ad shX NX [.ref (ad 0), .int a1, .int a2] μ (r.elim (fun r => .inl (some (.int r))) .inr) μ' :=
  cx_of (own := RX8) (ov := fun (r : Int32 ⊕ Nat) => (r.elim (fun r => .inl (some (.int r))) .inr)) hl9 (by decide +kernel) rfl (Nat.le_of_ble_eq_true rfl) (fun p e s m below meth c A0 E X hr => by
    refine ll_lo (lo' := [some (.ref (ad 0)), some (.int a1), some (.int a2), none]) ⟨rfl, rfl, rfl, trivial⟩ ?_
    rw [fX8_setLatency]
    refine ll_iload_n E (pc := 0) dX8_setLatency_0 rfl ?_
    refine ll_xcallSv E X (pc := 1) (d := 7) (mc1 := 1) (mc := 2) [.int a1] [] dX8_setLatency_1 cv_X8_149 (fun h => cxX8_checkUnit X.1 h) rfl rfl (Nat.le_of_ble_eq_true rfl) ⟨(Nat.le_of_ble_eq_true rfl), (Nat.le_of_ble_eq_true rfl)⟩ ⟨(Nat.le_of_ble_eq_true rfl), (Nat.le_of_ble_eq_true rfl)⟩ ⟨(Nat.le_of_ble_eq_true rfl), (Nat.le_of_ble_eq_true rfl)⟩ ?_
    intro r8 μ7
    refine ll_iload_n E (pc := 4) dX8_setLatency_4 rfl ?_
    refine ll_iconst E (pc := 5) dX8_setLatency_5 kc_1 ?_
    refine ll_icmp_lt E (pc := 6) (tgt := 15) dX8_setLatency_6 rfl ?_ ?_
    · exact ll_lo (lo' := [none, none, none, none]) trivial (kX8_setLatency_L15 E X hr μ7)
    · refine ll_iload_n E (pc := 9) dX8_setLatency_9 rfl ?_
      refine ll_bipush E (pc := 10) dX8_setLatency_10 kb_6 ?_
      refine ll_icmp_le E (pc := 12) (tgt := 25) dX8_setLatency_12 rfl ?_ ?_
      · refine ll_aload_n E (pc := 25) dX8_setLatency_25 rfl ?_
        refine ll_callVv E (pc := 26) (d := 3) (ci := 8) (o9 := 0) [] [] dX8_setLatency_26 cv_X8_106 (fun h => ctX8_save h) (Nat.le_of_ble_eq_true rfl) sx_0 ci_8 rfl rfl (Nat.le_of_ble_eq_true rfl) ⟨(Nat.le_of_ble_eq_true rfl), (Nat.le_of_ble_eq_true rfl)⟩ ⟨(Nat.le_of_ble_eq_true rfl), (Nat.le_of_ble_eq_true rfl)⟩ ?_
        intro r10 μ9
        refine ll_aload_n E (pc := 29) dX8_setLatency_29 rfl ?_
        refine ll_getfr E (pc := 30) (o9 := 0) (ci := 8) (k9 := 0) (q := 1) dX8_setLatency_30 fl_X8_12 (Nat.le_of_ble_eq_true rfl) fx_0_0 ?_
        refine ll_getfr E (pc := 33) (o9 := 1) (ci := 6) (k9 := 9) (q := 10) dX8_setLatency_33 fl_X8_159 (Nat.le_of_ble_eq_true rfl) fx_1_9 ?_
        refine ll_iload_n E (pc := 36) dX8_setLatency_36 rfl ?_
        refine ll_iald E (pc := 37) (a := 10) dX8_setLatency_37 (px_10).1 (px_10).2 ?_
        intro r11
        refine ll_istore_n E (pc := 38) (lo' := [some (.ref (ad 0)), some (.int a1), some (.int a2), some (.int r11)]) dX8_setLatency_38 (Nat.le_of_ble_eq_true rfl) rfl rfl ?_
        refine ll_aload_n E (pc := 39) dX8_setLatency_39 rfl ?_
        refine ll_getfr E (pc := 40) (o9 := 0) (ci := 8) (k9 := 0) (q := 1) dX8_setLatency_40 fl_X8_12 (Nat.le_of_ble_eq_true rfl) fx_0_0 ?_
        refine ll_getfr E (pc := 43) (o9 := 1) (ci := 6) (k9 := 9) (q := 10) dX8_setLatency_43 fl_X8_159 (Nat.le_of_ble_eq_true rfl) fx_1_9 ?_
        refine ll_iload_n E (pc := 46) dX8_setLatency_46 rfl ?_
        refine ll_iload_n E (pc := 47) dX8_setLatency_47 rfl ?_
        refine ll_iast E (pc := 48) (a := 10) dX8_setLatency_48 (px_10).1 (px_10).2 ?_
        intro μ12
        refine ll_iload_n E (pc := 49) dX8_setLatency_49 rfl ?_
        exact ll_xireturn E (pc := 50) hr dX8_setLatency_50 ⟨(Nat.le_of_ble_eq_true rfl), (Nat.le_of_ble_eq_true rfl)⟩
      · exact ll_lo (lo' := [none, none, none, none]) trivial (kX8_setLatency_L15 E X hr μ7)) hf
theorem dX8_setDelay_0 : decode cX8_setDelay 0 = .ok (.iload_n 1, 1) := by decide +kernel
theorem dX8_setDelay_1 : decode cX8_setDelay 1 = .ok (.ifCond .lt 8, 3) := by decide +kernel
theorem dX8_setDelay_4 : decode cX8_setDelay 4 = .ok (.iload_n 1, 1) := by decide +kernel
theorem dX8_setDelay_5 : decode cX8_setDelay 5 = .ok (.iconst 3, 1) := by decide +kernel
theorem dX8_setDelay_6 : decode cX8_setDelay 6 = .ok (.if_icmp .le 13, 3) := by decide +kernel
theorem dX8_setDelay_9 : decode cX8_setDelay 9 = .ok (.new 96, 3) := by decide +kernel
theorem dX8_setDelay_12 : decode cX8_setDelay 12 = .ok (.dup, 1) := by decide +kernel
theorem dX8_setDelay_13 : decode cX8_setDelay 13 = .ok (.ldc 162, 2) := by decide +kernel
theorem dX8_setDelay_15 : decode cX8_setDelay 15 = .ok (.invokespecial 100, 3) := by decide +kernel
theorem dX8_setDelay_18 : decode cX8_setDelay 18 = .ok (.athrow, 1) := by decide +kernel
theorem dX8_setDelay_19 : decode cX8_setDelay 19 = .ok (.aload_n 0, 1) := by decide +kernel
theorem dX8_setDelay_20 : decode cX8_setDelay 20 = .ok (.invokevirtual 106, 3) := by decide +kernel
theorem dX8_setDelay_23 : decode cX8_setDelay 23 = .ok (.aload_n 0, 1) := by decide +kernel
theorem dX8_setDelay_24 : decode cX8_setDelay 24 = .ok (.getfield 12, 3) := by decide +kernel
theorem dX8_setDelay_27 : decode cX8_setDelay 27 = .ok (.getfield 164, 3) := by decide +kernel
theorem dX8_setDelay_30 : decode cX8_setDelay 30 = .ok (.istore_n 2, 1) := by decide +kernel
theorem dX8_setDelay_31 : decode cX8_setDelay 31 = .ok (.aload_n 0, 1) := by decide +kernel
theorem dX8_setDelay_32 : decode cX8_setDelay 32 = .ok (.getfield 12, 3) := by decide +kernel
theorem dX8_setDelay_35 : decode cX8_setDelay 35 = .ok (.iload_n 1, 1) := by decide +kernel
theorem dX8_setDelay_36 : decode cX8_setDelay 36 = .ok (.putfield 164, 3) := by decide +kernel
theorem dX8_setDelay_39 : decode cX8_setDelay 39 = .ok (.iload_n 2, 1) := by decide +kernel
theorem dX8_setDelay_40 : decode cX8_setDelay 40 = .ok (.ireturn, 1) := by decide +kernel
def fX8_setDelay_L9  (μ : Mem) : Option ((Int32 ⊕ Nat) × Mem) :=
  some (.inr 2, μ)
def fX8_setDelay (μ : Mem) (a1 : Int32) : Option ((Int32 ⊕ Nat) × Mem) :=
  if a1 < 0 then
  fX8_setDelay_L9 μ
  else
  if a1 ≤ (3 : Int32) then
  bd (fX8_save μ) fun _ μ4 =>
  (pt μ4 1 10 a1).bind fun μ6 =>
  some (.inl (μ4 1 10), μ6)
  else
  fX8_setDelay_L9 μ
theorem kX8_setDelay_L9 {p : Program} {l : Launch} {e : Env} {s : State} {m : MethodId} {args : Array Value} {below : List Frame} {meth : Method} {c : Code} {D : va_G} {cI cR : ClassId} {ad : Nat → Nat} {A0 : Nat → Prop} (E : EV p s m args meth c cX8_setDelay 3 RX8 D cI cR ad shX NX A0) (X : EX9 l s c A0) (hr : meth.sig.returnType = (some .int))  (μ : Mem) : LL p l e (RX 7 1) s m args below meth c 3 D cI cR ad shX NX A0 (fun (r : Int32 ⊕ Nat) μ' => KX below args s D cI cR ad shX NX A0 1 (r.elim (fun r => .inl (some (.int r))) .inr) μ') (fX8_setDelay_L9 μ) 0 0 9 [none, none, none] [] μ := by
  rw [fX8_setDelay_L9]
  exact ll_throw E (pc := 9) (k := 2) (tx := "delay out of range") X (by decide) xw_2 (by decide +kernel) rfl dX8_setDelay_9 dX8_setDelay_12 dX8_setDelay_13 dX8_setDelay_15 dX8_setDelay_18 ⟨(Nat.le_of_ble_eq_true rfl), (Nat.le_of_ble_eq_true rfl)⟩ (Nat.le_of_ble_eq_true rfl) ⟨(Nat.le_of_ble_eq_true rfl), (Nat.le_of_ble_eq_true rfl)⟩ ⟨(Nat.le_of_ble_eq_true rfl), (Nat.le_of_ble_eq_true rfl)⟩
theorem cxX8_setDelay {l : Launch} {D : va_G} {cI cR : ClassId} {ad : Nat → Nat} {μ : Mem} {a1 : Int32} (hl9 : l.stackTraces = false) {r : Int32 ⊕ Nat} {μ' : Mem} (hf : fX8_setDelay μ a1 = some (r, μ')) : CX l yX8_setDelay cX8_setDelay 3 (some .int) 7 1 D cI cR ad shX NX [.ref (ad 0), .int a1] μ (r.elim (fun r => .inl (some (.int r))) .inr) μ' :=
  cx_of (own := RX8) (ov := fun (r : Int32 ⊕ Nat) => (r.elim (fun r => .inl (some (.int r))) .inr)) hl9 (by decide +kernel) rfl (Nat.le_of_ble_eq_true rfl) (fun p e s m below meth c A0 E X hr => by
    refine ll_lo (lo' := [some (.ref (ad 0)), some (.int a1), none]) ⟨rfl, rfl, trivial⟩ ?_
    rw [fX8_setDelay]
    refine ll_iload_n E (pc := 0) dX8_setDelay_0 rfl ?_
    refine ll_if_lt E (pc := 1) (tgt := 9) dX8_setDelay_1 rfl ?_ ?_
    · exact ll_lo (lo' := [none, none, none]) trivial (kX8_setDelay_L9 E X hr μ)
    · refine ll_iload_n E (pc := 4) dX8_setDelay_4 rfl ?_
      refine ll_iconst E (pc := 5) dX8_setDelay_5 kc_3 ?_
      refine ll_icmp_le E (pc := 6) (tgt := 19) dX8_setDelay_6 rfl ?_ ?_
      · refine ll_aload_n E (pc := 19) dX8_setDelay_19 rfl ?_
        refine ll_callVv E (pc := 20) (d := 3) (ci := 8) (o9 := 0) [] [] dX8_setDelay_20 cv_X8_106 (fun h => ctX8_save h) (Nat.le_of_ble_eq_true rfl) sx_0 ci_8 rfl rfl (Nat.le_of_ble_eq_true rfl) ⟨(Nat.le_of_ble_eq_true rfl), (Nat.le_of_ble_eq_true rfl)⟩ ⟨(Nat.le_of_ble_eq_true rfl), (Nat.le_of_ble_eq_true rfl)⟩ ?_
        intro r5 μ4
        refine ll_aload_n E (pc := 23) dX8_setDelay_23 rfl ?_
        refine ll_getfr E (pc := 24) (o9 := 0) (ci := 8) (k9 := 0) (q := 1) dX8_setDelay_24 fl_X8_12 (Nat.le_of_ble_eq_true rfl) fx_0_0 ?_
        refine ll_getf E (pc := 27) (o9 := 1) (ci := 6) (k9 := 10) dX8_setDelay_27 fl_X8_164 (Nat.le_of_ble_eq_true rfl) fx_1_10 ?_
        refine ll_istore_n E (pc := 30) (lo' := [some (.ref (ad 0)), some (.int a1), some (.int (μ4 1 10))]) dX8_setDelay_30 (Nat.le_of_ble_eq_true rfl) rfl rfl ?_
        refine ll_aload_n E (pc := 31) dX8_setDelay_31 rfl ?_
        refine ll_getfr E (pc := 32) (o9 := 0) (ci := 8) (k9 := 0) (q := 1) dX8_setDelay_32 fl_X8_12 (Nat.le_of_ble_eq_true rfl) fx_0_0 ?_
        refine ll_iload_n E (pc := 35) dX8_setDelay_35 rfl ?_
        refine ll_putf E (pc := 36) (o9 := 1) (ci := 6) (k9 := 10) dX8_setDelay_36 fw_X8_164 (Nat.le_of_ble_eq_true rfl) fx_1_10 ?_
        intro μ6
        refine ll_iload_n E (pc := 39) dX8_setDelay_39 rfl ?_
        exact ll_xireturn E (pc := 40) hr dX8_setDelay_40 ⟨(Nat.le_of_ble_eq_true rfl), (Nat.le_of_ble_eq_true rfl)⟩
      · exact ll_lo (lo' := [none, none, none]) trivial (kX8_setDelay_L9 E X hr μ)) hf
theorem dX8_checkBundle_0 : decode cX8_checkBundle 0 = .ok (.iload_n 0, 1) := by decide +kernel
theorem dX8_checkBundle_1 : decode cX8_checkBundle 1 = .ok (.ifCond .lt 10, 3) := by decide +kernel
theorem dX8_checkBundle_4 : decode cX8_checkBundle 4 = .ok (.iload_n 0, 1) := by decide +kernel
theorem dX8_checkBundle_5 : decode cX8_checkBundle 5 = .ok (.sipush 200, 3) := by decide +kernel
theorem dX8_checkBundle_8 : decode cX8_checkBundle 8 = .ok (.if_icmp .lt 14, 3) := by decide +kernel
theorem dX8_checkBundle_11 : decode cX8_checkBundle 11 = .ok (.new 96, 3) := by decide +kernel
theorem dX8_checkBundle_14 : decode cX8_checkBundle 14 = .ok (.dup, 1) := by decide +kernel
theorem dX8_checkBundle_15 : decode cX8_checkBundle 15 = .ok (.ldc_w 292, 3) := by decide +kernel
theorem dX8_checkBundle_18 : decode cX8_checkBundle 18 = .ok (.invokespecial 100, 3) := by decide +kernel
theorem dX8_checkBundle_21 : decode cX8_checkBundle 21 = .ok (.athrow, 1) := by decide +kernel
theorem dX8_checkBundle_22 : decode cX8_checkBundle 22 = .ok (.return_, 1) := by decide +kernel
def fX8_checkBundle_L11  (μ : Mem) : Option ((Unit ⊕ Nat) × Mem) :=
  some (.inr 2, μ)
def fX8_checkBundle (μ : Mem) (a0 : Int32) : Option ((Unit ⊕ Nat) × Mem) :=
  if a0 < 0 then
  fX8_checkBundle_L11 μ
  else
  if a0 < (200 : Int32) then
  some (.inl (), μ)
  else
  fX8_checkBundle_L11 μ
theorem kX8_checkBundle_L11 {p : Program} {l : Launch} {e : Env} {s : State} {m : MethodId} {args : Array Value} {below : List Frame} {meth : Method} {c : Code} {D : va_G} {cI cR : ClassId} {ad : Nat → Nat} {A0 : Nat → Prop} (E : EV p s m args meth c cX8_checkBundle 1 RX8 D cI cR ad shX NX A0) (X : EX9 l s c A0) (hr : meth.sig.returnType = none)  (μ : Mem) : LL p l e (RX 7 1) s m args below meth c 1 D cI cR ad shX NX A0 (fun (r : Unit ⊕ Nat) μ' => KX below args s D cI cR ad shX NX A0 1 (r.elim (fun _ => .inl (none)) .inr) μ') (fX8_checkBundle_L11 μ) 0 0 11 [none] [] μ := by
  rw [fX8_checkBundle_L11]
  exact ll_throwW E (pc := 11) (k := 2) (tx := "bundle out of range") X (by decide) xw_2 (by decide +kernel) rfl dX8_checkBundle_11 dX8_checkBundle_14 dX8_checkBundle_15 dX8_checkBundle_18 dX8_checkBundle_21 ⟨(Nat.le_of_ble_eq_true rfl), (Nat.le_of_ble_eq_true rfl)⟩ (Nat.le_of_ble_eq_true rfl) ⟨(Nat.le_of_ble_eq_true rfl), (Nat.le_of_ble_eq_true rfl)⟩ ⟨(Nat.le_of_ble_eq_true rfl), (Nat.le_of_ble_eq_true rfl)⟩
theorem cxX8_checkBundle {l : Launch} {D : va_G} {cI cR : ClassId} {ad : Nat → Nat} {μ : Mem} {a0 : Int32} (hl9 : l.stackTraces = false) {r : Unit ⊕ Nat} {μ' : Mem} (hf : fX8_checkBundle μ a0 = some (r, μ')) : CX l yX8_checkBundle cX8_checkBundle 1 none 7 1 D cI cR ad shX NX [.int a0] μ (r.elim (fun _ => .inl (none)) .inr) μ' :=
  cx_of (own := RX8) (ov := fun (r : Unit ⊕ Nat) => (r.elim (fun _ => .inl (none)) .inr)) hl9 (by decide +kernel) rfl (Nat.le_of_ble_eq_true rfl) (fun p e s m below meth c A0 E X hr => by
    refine ll_lo (lo' := [some (.int a0)]) ⟨rfl, trivial⟩ ?_
    rw [fX8_checkBundle]
    refine ll_iload_n E (pc := 0) dX8_checkBundle_0 rfl ?_
    refine ll_if_lt E (pc := 1) (tgt := 11) dX8_checkBundle_1 rfl ?_ ?_
    · exact ll_lo (lo' := [none]) trivial (kX8_checkBundle_L11 E X hr μ)
    · refine ll_iload_n E (pc := 4) dX8_checkBundle_4 rfl ?_
      refine ll_sipush E (pc := 5) dX8_checkBundle_5 ks_200 ?_
      refine ll_icmp_lt E (pc := 8) (tgt := 22) dX8_checkBundle_8 rfl ?_ ?_
      · exact ll_xreturn E (pc := 22) hr dX8_checkBundle_22 ⟨(Nat.le_of_ble_eq_true rfl), (Nat.le_of_ble_eq_true rfl)⟩
      · exact ll_lo (lo' := [none]) trivial (kX8_checkBundle_L11 E X hr μ)) hf
theorem dX8_lay_0 : decode cX8_lay 0 = .ok (.aload_n 0, 1) := by decide +kernel
theorem dX8_lay_1 : decode cX8_lay 1 = .ok (.iload_n 1, 1) := by decide +kernel
theorem dX8_lay_2 : decode cX8_lay 2 = .ok (.invokevirtual 113, 3) := by decide +kernel
theorem dX8_lay_5 : decode cX8_lay 5 = .ok (.iload_n 2, 1) := by decide +kernel
theorem dX8_lay_6 : decode cX8_lay 6 = .ok (.invokestatic 167, 3) := by decide +kernel
theorem dX8_lay_9 : decode cX8_lay 9 = .ok (.aload_n 0, 1) := by decide +kernel
theorem dX8_lay_10 : decode cX8_lay 10 = .ok (.invokevirtual 106, 3) := by decide +kernel
theorem dX8_lay_13 : decode cX8_lay 13 = .ok (.aload_n 0, 1) := by decide +kernel
theorem dX8_lay_14 : decode cX8_lay 14 = .ok (.getfield 12, 3) := by decide +kernel
theorem dX8_lay_17 : decode cX8_lay 17 = .ok (.getfield 170, 3) := by decide +kernel
theorem dX8_lay_20 : decode cX8_lay 20 = .ok (.iload_n 1, 1) := by decide +kernel
theorem dX8_lay_21 : decode cX8_lay 21 = .ok (.iaload, 1) := by decide +kernel
theorem dX8_lay_22 : decode cX8_lay 22 = .ok (.istore_n 3, 1) := by decide +kernel
theorem dX8_lay_23 : decode cX8_lay 23 = .ok (.aload_n 0, 1) := by decide +kernel
theorem dX8_lay_24 : decode cX8_lay 24 = .ok (.getfield 12, 3) := by decide +kernel
theorem dX8_lay_27 : decode cX8_lay 27 = .ok (.getfield 170, 3) := by decide +kernel
theorem dX8_lay_30 : decode cX8_lay 30 = .ok (.iload_n 1, 1) := by decide +kernel
theorem dX8_lay_31 : decode cX8_lay 31 = .ok (.iload_n 2, 1) := by decide +kernel
theorem dX8_lay_32 : decode cX8_lay 32 = .ok (.iastore, 1) := by decide +kernel
theorem dX8_lay_33 : decode cX8_lay 33 = .ok (.iload_n 3, 1) := by decide +kernel
theorem dX8_lay_34 : decode cX8_lay 34 = .ok (.ireturn, 1) := by decide +kernel
def fX8_lay (μ : Mem) (a1 : Int32) (a2 : Int32) : Option ((Int32 ⊕ Nat) × Mem) :=
  bx (fX8_checkStep μ a1) fun _ μ9 =>
  bx (fX8_checkBundle μ9 a2) fun _ μ11 =>
  bd (fX8_save μ11) fun _ μ13 =>
  (ld 20 (μ13 7) a1).bind fun r15 =>
  (ast 20 μ13 7 a1 a2).bind fun μ16 =>
  some (.inl r15, μ16)
theorem cxX8_lay {l : Launch} {D : va_G} {cI cR : ClassId} {ad : Nat → Nat} {μ : Mem} {a1 : Int32} {a2 : Int32} (hl9 : l.stackTraces = false) {r : Int32 ⊕ Nat} {μ' : Mem} (hf : fX8_lay μ a1 a2 = some (r, μ')) : CX l yX8_lay cX8_lay 4 (some .int) 8 2 D cI cR ad shX NX [.ref (ad 0), .int a1, .int a2] μ (r.elim (fun r => .inl (some (.int r))) .inr) μ' :=
  cx_of (own := RX8) (ov := fun (r : Int32 ⊕ Nat) => (r.elim (fun r => .inl (some (.int r))) .inr)) hl9 (by decide +kernel) rfl (Nat.le_of_ble_eq_true rfl) (fun p e s m below meth c A0 E X hr => by
    refine ll_lo (lo' := [some (.ref (ad 0)), some (.int a1), some (.int a2), none]) ⟨rfl, rfl, rfl, trivial⟩ ?_
    rw [fX8_lay]
    refine ll_aload_n E (pc := 0) dX8_lay_0 rfl ?_
    refine ll_iload_n E (pc := 1) dX8_lay_1 rfl ?_
    refine ll_xcallVv E X (pc := 2) (d := 7) (mc1 := 1) (mc := 2) (ci := 8) (o9 := 0) [.int a1] [] dX8_lay_2 cv_X8_113 (fun h => cxX8_checkStep X.1 h) (Nat.le_of_ble_eq_true rfl) sx_0 ci_8 rfl rfl (Nat.le_of_ble_eq_true rfl) ⟨(Nat.le_of_ble_eq_true rfl), (Nat.le_of_ble_eq_true rfl)⟩ ⟨(Nat.le_of_ble_eq_true rfl), (Nat.le_of_ble_eq_true rfl)⟩ ⟨(Nat.le_of_ble_eq_true rfl), (Nat.le_of_ble_eq_true rfl)⟩ ?_
    intro r10 μ9
    refine ll_iload_n E (pc := 5) dX8_lay_5 rfl ?_
    refine ll_xcallSv E X (pc := 6) (d := 7) (mc1 := 1) (mc := 2) [.int a2] [] dX8_lay_6 cv_X8_167 (fun h => cxX8_checkBundle X.1 h) rfl rfl (Nat.le_of_ble_eq_true rfl) ⟨(Nat.le_of_ble_eq_true rfl), (Nat.le_of_ble_eq_true rfl)⟩ ⟨(Nat.le_of_ble_eq_true rfl), (Nat.le_of_ble_eq_true rfl)⟩ ⟨(Nat.le_of_ble_eq_true rfl), (Nat.le_of_ble_eq_true rfl)⟩ ?_
    intro r12 μ11
    refine ll_aload_n E (pc := 9) dX8_lay_9 rfl ?_
    refine ll_callVv E (pc := 10) (d := 3) (ci := 8) (o9 := 0) [] [] dX8_lay_10 cv_X8_106 (fun h => ctX8_save h) (Nat.le_of_ble_eq_true rfl) sx_0 ci_8 rfl rfl (Nat.le_of_ble_eq_true rfl) ⟨(Nat.le_of_ble_eq_true rfl), (Nat.le_of_ble_eq_true rfl)⟩ ⟨(Nat.le_of_ble_eq_true rfl), (Nat.le_of_ble_eq_true rfl)⟩ ?_
    intro r14 μ13
    refine ll_aload_n E (pc := 13) dX8_lay_13 rfl ?_
    refine ll_getfr E (pc := 14) (o9 := 0) (ci := 8) (k9 := 0) (q := 1) dX8_lay_14 fl_X8_12 (Nat.le_of_ble_eq_true rfl) fx_0_0 ?_
    refine ll_getfr E (pc := 17) (o9 := 1) (ci := 6) (k9 := 6) (q := 7) dX8_lay_17 fl_X8_170 (Nat.le_of_ble_eq_true rfl) fx_1_6 ?_
    refine ll_iload_n E (pc := 20) dX8_lay_20 rfl ?_
    refine ll_iald E (pc := 21) (a := 7) dX8_lay_21 (px_7).1 (px_7).2 ?_
    intro r15
    refine ll_istore_n E (pc := 22) (lo' := [some (.ref (ad 0)), some (.int a1), some (.int a2), some (.int r15)]) dX8_lay_22 (Nat.le_of_ble_eq_true rfl) rfl rfl ?_
    refine ll_aload_n E (pc := 23) dX8_lay_23 rfl ?_
    refine ll_getfr E (pc := 24) (o9 := 0) (ci := 8) (k9 := 0) (q := 1) dX8_lay_24 fl_X8_12 (Nat.le_of_ble_eq_true rfl) fx_0_0 ?_
    refine ll_getfr E (pc := 27) (o9 := 1) (ci := 6) (k9 := 6) (q := 7) dX8_lay_27 fl_X8_170 (Nat.le_of_ble_eq_true rfl) fx_1_6 ?_
    refine ll_iload_n E (pc := 30) dX8_lay_30 rfl ?_
    refine ll_iload_n E (pc := 31) dX8_lay_31 rfl ?_
    refine ll_iast E (pc := 32) (a := 7) dX8_lay_32 (px_7).1 (px_7).2 ?_
    intro μ16
    refine ll_iload_n E (pc := 33) dX8_lay_33 rfl ?_
    exact ll_xireturn E (pc := 34) hr dX8_lay_34 ⟨(Nat.le_of_ble_eq_true rfl), (Nat.le_of_ble_eq_true rfl)⟩) hf
theorem dX8_takeOut_0 : decode cX8_takeOut 0 = .ok (.aload_n 0, 1) := by decide +kernel
theorem dX8_takeOut_1 : decode cX8_takeOut 1 = .ok (.iload_n 1, 1) := by decide +kernel
theorem dX8_takeOut_2 : decode cX8_takeOut 2 = .ok (.invokevirtual 113, 3) := by decide +kernel
theorem dX8_takeOut_5 : decode cX8_takeOut 5 = .ok (.aload_n 0, 1) := by decide +kernel
theorem dX8_takeOut_6 : decode cX8_takeOut 6 = .ok (.getfield 12, 3) := by decide +kernel
theorem dX8_takeOut_9 : decode cX8_takeOut 9 = .ok (.getfield 170, 3) := by decide +kernel
theorem dX8_takeOut_12 : decode cX8_takeOut 12 = .ok (.iload_n 1, 1) := by decide +kernel
theorem dX8_takeOut_13 : decode cX8_takeOut 13 = .ok (.iaload, 1) := by decide +kernel
theorem dX8_takeOut_14 : decode cX8_takeOut 14 = .ok (.istore_n 2, 1) := by decide +kernel
theorem dX8_takeOut_15 : decode cX8_takeOut 15 = .ok (.iload_n 2, 1) := by decide +kernel
theorem dX8_takeOut_16 : decode cX8_takeOut 16 = .ok (.iconst (-1), 1) := by decide +kernel
theorem dX8_takeOut_17 : decode cX8_takeOut 17 = .ok (.if_icmp .ne 13, 3) := by decide +kernel
theorem dX8_takeOut_20 : decode cX8_takeOut 20 = .ok (.new 101, 3) := by decide +kernel
theorem dX8_takeOut_23 : decode cX8_takeOut 23 = .ok (.dup, 1) := by decide +kernel
theorem dX8_takeOut_24 : decode cX8_takeOut 24 = .ok (.ldc 173, 2) := by decide +kernel
theorem dX8_takeOut_26 : decode cX8_takeOut 26 = .ok (.invokespecial 105, 3) := by decide +kernel
theorem dX8_takeOut_29 : decode cX8_takeOut 29 = .ok (.athrow, 1) := by decide +kernel
theorem dX8_takeOut_30 : decode cX8_takeOut 30 = .ok (.aload_n 0, 1) := by decide +kernel
theorem dX8_takeOut_31 : decode cX8_takeOut 31 = .ok (.invokevirtual 106, 3) := by decide +kernel
theorem dX8_takeOut_34 : decode cX8_takeOut 34 = .ok (.aload_n 0, 1) := by decide +kernel
theorem dX8_takeOut_35 : decode cX8_takeOut 35 = .ok (.getfield 12, 3) := by decide +kernel
theorem dX8_takeOut_38 : decode cX8_takeOut 38 = .ok (.getfield 170, 3) := by decide +kernel
theorem dX8_takeOut_41 : decode cX8_takeOut 41 = .ok (.iload_n 1, 1) := by decide +kernel
theorem dX8_takeOut_42 : decode cX8_takeOut 42 = .ok (.iconst (-1), 1) := by decide +kernel
theorem dX8_takeOut_43 : decode cX8_takeOut 43 = .ok (.iastore, 1) := by decide +kernel
theorem dX8_takeOut_44 : decode cX8_takeOut 44 = .ok (.iload_n 2, 1) := by decide +kernel
theorem dX8_takeOut_45 : decode cX8_takeOut 45 = .ok (.ireturn, 1) := by decide +kernel
def fX8_takeOut (μ : Mem) (a1 : Int32) : Option ((Int32 ⊕ Nat) × Mem) :=
  bx (fX8_checkStep μ a1) fun _ μ7 =>
  (ld 20 (μ7 7) a1).bind fun r9 =>
  if r9 = (-1 : Int32) then
  some (.inr 3, μ7)
  else
  bd (fX8_save μ7) fun _ μ10 =>
  (ast 20 μ10 7 a1 (-1 : Int32)).bind fun μ12 =>
  some (.inl r9, μ12)
theorem cxX8_takeOut {l : Launch} {D : va_G} {cI cR : ClassId} {ad : Nat → Nat} {μ : Mem} {a1 : Int32} (hl9 : l.stackTraces = false) {r : Int32 ⊕ Nat} {μ' : Mem} (hf : fX8_takeOut μ a1 = some (r, μ')) : CX l yX8_takeOut cX8_takeOut 3 (some .int) 8 2 D cI cR ad shX NX [.ref (ad 0), .int a1] μ (r.elim (fun r => .inl (some (.int r))) .inr) μ' :=
  cx_of (own := RX8) (ov := fun (r : Int32 ⊕ Nat) => (r.elim (fun r => .inl (some (.int r))) .inr)) hl9 (by decide +kernel) rfl (Nat.le_of_ble_eq_true rfl) (fun p e s m below meth c A0 E X hr => by
    refine ll_lo (lo' := [some (.ref (ad 0)), some (.int a1), none]) ⟨rfl, rfl, trivial⟩ ?_
    rw [fX8_takeOut]
    refine ll_aload_n E (pc := 0) dX8_takeOut_0 rfl ?_
    refine ll_iload_n E (pc := 1) dX8_takeOut_1 rfl ?_
    refine ll_xcallVv E X (pc := 2) (d := 7) (mc1 := 1) (mc := 2) (ci := 8) (o9 := 0) [.int a1] [] dX8_takeOut_2 cv_X8_113 (fun h => cxX8_checkStep X.1 h) (Nat.le_of_ble_eq_true rfl) sx_0 ci_8 rfl rfl (Nat.le_of_ble_eq_true rfl) ⟨(Nat.le_of_ble_eq_true rfl), (Nat.le_of_ble_eq_true rfl)⟩ ⟨(Nat.le_of_ble_eq_true rfl), (Nat.le_of_ble_eq_true rfl)⟩ ⟨(Nat.le_of_ble_eq_true rfl), (Nat.le_of_ble_eq_true rfl)⟩ ?_
    intro r8 μ7
    refine ll_aload_n E (pc := 5) dX8_takeOut_5 rfl ?_
    refine ll_getfr E (pc := 6) (o9 := 0) (ci := 8) (k9 := 0) (q := 1) dX8_takeOut_6 fl_X8_12 (Nat.le_of_ble_eq_true rfl) fx_0_0 ?_
    refine ll_getfr E (pc := 9) (o9 := 1) (ci := 6) (k9 := 6) (q := 7) dX8_takeOut_9 fl_X8_170 (Nat.le_of_ble_eq_true rfl) fx_1_6 ?_
    refine ll_iload_n E (pc := 12) dX8_takeOut_12 rfl ?_
    refine ll_iald E (pc := 13) (a := 7) dX8_takeOut_13 (px_7).1 (px_7).2 ?_
    intro r9
    refine ll_istore_n E (pc := 14) (lo' := [some (.ref (ad 0)), some (.int a1), some (.int r9)]) dX8_takeOut_14 (Nat.le_of_ble_eq_true rfl) rfl rfl ?_
    refine ll_iload_n E (pc := 15) dX8_takeOut_15 rfl ?_
    refine ll_iconst E (pc := 16) dX8_takeOut_16 kc_m1 ?_
    refine ll_icmp_ne E (pc := 17) (tgt := 30) dX8_takeOut_17 rfl ?_ ?_
    · refine ll_aload_n E (pc := 30) dX8_takeOut_30 rfl ?_
      refine ll_callVv E (pc := 31) (d := 3) (ci := 8) (o9 := 0) [] [] dX8_takeOut_31 cv_X8_106 (fun h => ctX8_save h) (Nat.le_of_ble_eq_true rfl) sx_0 ci_8 rfl rfl (Nat.le_of_ble_eq_true rfl) ⟨(Nat.le_of_ble_eq_true rfl), (Nat.le_of_ble_eq_true rfl)⟩ ⟨(Nat.le_of_ble_eq_true rfl), (Nat.le_of_ble_eq_true rfl)⟩ ?_
      intro r11 μ10
      refine ll_aload_n E (pc := 34) dX8_takeOut_34 rfl ?_
      refine ll_getfr E (pc := 35) (o9 := 0) (ci := 8) (k9 := 0) (q := 1) dX8_takeOut_35 fl_X8_12 (Nat.le_of_ble_eq_true rfl) fx_0_0 ?_
      refine ll_getfr E (pc := 38) (o9 := 1) (ci := 6) (k9 := 6) (q := 7) dX8_takeOut_38 fl_X8_170 (Nat.le_of_ble_eq_true rfl) fx_1_6 ?_
      refine ll_iload_n E (pc := 41) dX8_takeOut_41 rfl ?_
      refine ll_iconst E (pc := 42) dX8_takeOut_42 kc_m1 ?_
      refine ll_iast E (pc := 43) (a := 7) dX8_takeOut_43 (px_7).1 (px_7).2 ?_
      intro μ12
      refine ll_iload_n E (pc := 44) dX8_takeOut_44 rfl ?_
      exact ll_xireturn E (pc := 45) hr dX8_takeOut_45 ⟨(Nat.le_of_ble_eq_true rfl), (Nat.le_of_ble_eq_true rfl)⟩
    · exact ll_throw E (pc := 20) (k := 3) (tx := "the step is laid in none") X (by decide) xw_3 (by decide +kernel) rfl dX8_takeOut_20 dX8_takeOut_23 dX8_takeOut_24 dX8_takeOut_26 dX8_takeOut_29 ⟨(Nat.le_of_ble_eq_true rfl), (Nat.le_of_ble_eq_true rfl)⟩ (Nat.le_of_ble_eq_true rfl) ⟨(Nat.le_of_ble_eq_true rfl), (Nat.le_of_ble_eq_true rfl)⟩ ⟨(Nat.le_of_ble_eq_true rfl), (Nat.le_of_ble_eq_true rfl)⟩) hf
theorem dX8_spanOf_0 : decode cX8_spanOf 0 = .ok (.iconst (-1), 1) := by decide +kernel
theorem dX8_spanOf_1 : decode cX8_spanOf 1 = .ok (.istore_n 2, 1) := by decide +kernel
theorem dX8_spanOf_2 : decode cX8_spanOf 2 = .ok (.iconst 0, 1) := by decide +kernel
theorem dX8_spanOf_3 : decode cX8_spanOf 3 = .ok (.istore_n 3, 1) := by decide +kernel
theorem dX8_spanOf_4 : decode cX8_spanOf 4 = .ok (.iload_n 3, 1) := by decide +kernel
theorem dX8_spanOf_5 : decode cX8_spanOf 5 = .ok (.iload_n 1, 1) := by decide +kernel
theorem dX8_spanOf_6 : decode cX8_spanOf 6 = .ok (.if_icmp .ge 23, 3) := by decide +kernel
theorem dX8_spanOf_9 : decode cX8_spanOf 9 = .ok (.iload_n 3, 1) := by decide +kernel
theorem dX8_spanOf_10 : decode cX8_spanOf 10 = .ok (.aload_n 0, 1) := by decide +kernel
theorem dX8_spanOf_11 : decode cX8_spanOf 11 = .ok (.arraylength, 1) := by decide +kernel
theorem dX8_spanOf_12 : decode cX8_spanOf 12 = .ok (.if_icmp .ge 17, 3) := by decide +kernel
theorem dX8_spanOf_15 : decode cX8_spanOf 15 = .ok (.iload_n 2, 1) := by decide +kernel
theorem dX8_spanOf_16 : decode cX8_spanOf 16 = .ok (.aload_n 0, 1) := by decide +kernel
theorem dX8_spanOf_17 : decode cX8_spanOf 17 = .ok (.iload_n 3, 1) := by decide +kernel
theorem dX8_spanOf_18 : decode cX8_spanOf 18 = .ok (.iaload, 1) := by decide +kernel
theorem dX8_spanOf_19 : decode cX8_spanOf 19 = .ok (.invokestatic 134, 3) := by decide +kernel
theorem dX8_spanOf_22 : decode cX8_spanOf 22 = .ok (.istore_n 2, 1) := by decide +kernel
theorem dX8_spanOf_23 : decode cX8_spanOf 23 = .ok (.iinc 3 1, 3) := by decide +kernel
theorem dX8_spanOf_26 : decode cX8_spanOf 26 = .ok (.goto (-22), 3) := by decide +kernel
theorem dX8_spanOf_29 : decode cX8_spanOf 29 = .ok (.iload_n 2, 1) := by decide +kernel
theorem dX8_spanOf_30 : decode cX8_spanOf 30 = .ok (.iconst 1, 1) := by decide +kernel
theorem dX8_spanOf_31 : decode cX8_spanOf 31 = .ok (.iadd, 1) := by decide +kernel
theorem dX8_spanOf_32 : decode cX8_spanOf 32 = .ok (.ireturn, 1) := by decide +kernel
def fX8_spanOf_L29 (a0 : Nat) (v2 : Int32) (μ : Mem) : Option (Int32 × Mem) :=
  some ((v2 + (1 : Int32)), μ)
def fX8_spanOf_L4 (a0 : Nat) : Nat → Int32 → Int32 → Int32 → Mem → Option (Int32 × Mem)
  | 0, _, _, _, _ => none
  | n + 1, v1, v2, v3, μ =>   if v1 ≤ v3 then
  fX8_spanOf_L29 a0 v2 μ
  else
  if (20 : Int32) ≤ v3 then
  fX8_spanOf_L29 a0 v2 μ
  else
  (ld 20 (μ a0) v3).bind fun r2 =>
  fX8_spanOf_L4 a0 n v1 (jmax v2 r2) (v3 + (1 : Int32)) μ
def fX8_spanOf (μ : Mem) (a0 : Nat) (a1 : Int32) : Option (Int32 × Mem) :=
  fX8_spanOf_L4 a0 fu a1 (-1 : Int32) (0 : Int32) μ
theorem kX8_spanOf_L29 {p : Program} {l : Launch} {e : Env} {s : State} {m : MethodId} {args : Array Value} {below : List Frame} {meth : Method} {c : Code} {D : va_G} {cI cR : ClassId} {ad : Nat → Nat} {A0 : Nat → Prop} (E : EV p s m args meth c cX8_spanOf 4 RX8 D cI cR ad shX NX A0) (hr : meth.sig.returnType = (some .int)) {a0 : Nat} (h0 : Pa shX NX 20 a0) (v2 : Int32) (μ : Mem) : LL p l e (RM 1) s m args below meth c 4 D cI cR ad shX NX A0 (fun (r : Int32) μ' => KG below args s D cI cR ad shX NX A0 (some (.int r)) μ') (fX8_spanOf_L29 a0 v2 μ) 0 0 29 [none, none, some (.int v2), none] [] μ := by
  rw [fX8_spanOf_L29]
  refine ll_iload_n E (pc := 29) dX8_spanOf_29 rfl ?_
  refine ll_iconst E (pc := 30) dX8_spanOf_30 kc_1 ?_
  refine ll_iadd E (pc := 31) dX8_spanOf_31 ?_
  exact ll_ireturn E (pc := 32) hr dX8_spanOf_32
theorem kX8_spanOf_L4 {p : Program} {l : Launch} {e : Env} {s : State} {m : MethodId} {args : Array Value} {below : List Frame} {meth : Method} {c : Code} {D : va_G} {cI cR : ClassId} {ad : Nat → Nat} {A0 : Nat → Prop} (E : EV p s m args meth c cX8_spanOf 4 RX8 D cI cR ad shX NX A0) (hr : meth.sig.returnType = (some .int)) {a0 : Nat} (h0 : Pa shX NX 20 a0) (n : Nat) : ∀ (v1 : Int32) (v2 : Int32) (v3 : Int32) (μ : Mem), LL p l e (RM 1) s m args below meth c 4 D cI cR ad shX NX A0 (fun (r : Int32) μ' => KG below args s D cI cR ad shX NX A0 (some (.int r)) μ') (fX8_spanOf_L4 a0 n v1 v2 v3 μ) 0 0 4 [some (.ref (ad a0)), some (.int v1), some (.int v2), some (.int v3)] [] μ := by
  induction n with
  | zero =>
    intros
    exact ll_none
  | succ n ih =>
    intro v1 v2 v3 μ
    rw [fX8_spanOf_L4]
    refine ll_iload_n E (pc := 4) dX8_spanOf_4 rfl ?_
    refine ll_iload_n E (pc := 5) dX8_spanOf_5 rfl ?_
    refine ll_icmp_ge E (pc := 6) (tgt := 29) dX8_spanOf_6 rfl ?_ ?_
    · exact ll_lo (lo' := [none, none, some (.int v2), none]) ⟨rfl, trivial⟩ (kX8_spanOf_L29 E hr h0 v2 μ)
    · refine ll_iload_n E (pc := 9) dX8_spanOf_9 rfl ?_
      refine ll_aload_n E (pc := 10) dX8_spanOf_10 rfl ?_
      refine ll_alen E (pc := 11) (a := a0) (v := 20) dX8_spanOf_11 (h0).1 (h0).2 rfl ?_
      refine ll_icmp_ge E (pc := 12) (tgt := 29) dX8_spanOf_12 rfl ?_ ?_
      · exact ll_lo (lo' := [none, none, some (.int v2), none]) ⟨rfl, trivial⟩ (kX8_spanOf_L29 E hr h0 v2 μ)
      · refine ll_iload_n E (pc := 15) dX8_spanOf_15 rfl ?_
        refine ll_aload_n E (pc := 16) dX8_spanOf_16 rfl ?_
        refine ll_iload_n E (pc := 17) dX8_spanOf_17 rfl ?_
        refine ll_iald E (pc := 18) (a := a0) dX8_spanOf_18 (h0).1 (h0).2 ?_
        intro r2
        refine ll_max E (pc := 19) dX8_spanOf_19 mw_X8_134 mw_max1 mw_math mw_max2 (Nat.le_of_ble_eq_true rfl) ⟨(Nat.le_of_ble_eq_true rfl), (Nat.le_of_ble_eq_true rfl)⟩ ⟨(Nat.le_of_ble_eq_true rfl), (Nat.le_of_ble_eq_true rfl)⟩ ?_
        refine ll_istore_n E (pc := 22) (lo' := [some (.ref (ad a0)), some (.int v1), some (.int (jmax v2 r2)), some (.int v3)]) dX8_spanOf_22 (Nat.le_of_ble_eq_true rfl) rfl rfl ?_
        refine ll_iinc E (pc := 23) (lo' := [some (.ref (ad a0)), some (.int v1), some (.int (jmax v2 r2)), some (.int (v3 + (1 : Int32)))]) dX8_spanOf_23 rfl kc_1 (Nat.le_of_ble_eq_true rfl) rfl rfl ?_
        refine ll_goto E (pc := 26) (tgt := 4) dX8_spanOf_26 rfl ?_
        exact ll_lo (lo' := [some (.ref (ad a0)), some (.int v1), some (.int (jmax v2 r2)), some (.int (v3 + (1 : Int32)))]) ⟨rfl, rfl, rfl, rfl, trivial⟩ (ih v1 (jmax v2 r2) (v3 + (1 : Int32)) μ)
theorem ctX8_spanOf {l : Launch} {D : va_G} {cI cR : ClassId} {ad : Nat → Nat} {μ : Mem} {a0 : Nat} {a1 : Int32} (h0 : Pa shX NX 20 a0) {r : Int32} {μ' : Mem} (hf : fX8_spanOf μ a0 a1 = some (r, μ')) : CT l yX8_spanOf cX8_spanOf 4 (some .int) 1 D cI cR ad shX NX [.ref (ad a0), .int a1] μ (some (.int r)) μ' :=
  ct_of (own := RX8) (ov := fun r => some (.int r)) (by decide +kernel) rfl (Nat.le_of_ble_eq_true rfl) (fun p e s m below meth c A0 E hr => by
    refine ll_lo (lo' := [some (.ref (ad a0)), some (.int a1), none, none]) ⟨rfl, rfl, trivial⟩ ?_
    rw [fX8_spanOf]
    refine ll_iconst E (pc := 0) dX8_spanOf_0 kc_m1 ?_
    refine ll_istore_n E (pc := 1) (lo' := [some (.ref (ad a0)), some (.int a1), some (.int (-1 : Int32)), none]) dX8_spanOf_1 (Nat.le_of_ble_eq_true rfl) rfl rfl ?_
    refine ll_iconst E (pc := 2) dX8_spanOf_2 kc_0 ?_
    refine ll_istore_n E (pc := 3) (lo' := [some (.ref (ad a0)), some (.int a1), some (.int (-1 : Int32)), some (.int (0 : Int32))]) dX8_spanOf_3 (Nat.le_of_ble_eq_true rfl) rfl rfl ?_
    exact ll_lo (lo' := [some (.ref (ad a0)), some (.int a1), some (.int (-1 : Int32)), some (.int (0 : Int32))]) ⟨rfl, rfl, rfl, rfl, trivial⟩ (kX8_spanOf_L4 E hr h0 fu a1 (-1 : Int32) (0 : Int32) μ)) hf
theorem dX8_pack_0 : decode cX8_pack 0 = .ok (.aload_n 0, 1) := by decide +kernel
theorem dX8_pack_1 : decode cX8_pack 1 = .ok (.getfield 43, 3) := by decide +kernel
theorem dX8_pack_4 : decode cX8_pack 4 = .ok (.aload_n 0, 1) := by decide +kernel
theorem dX8_pack_5 : decode cX8_pack 5 = .ok (.getfield 12, 3) := by decide +kernel
theorem dX8_pack_8 : decode cX8_pack 8 = .ok (.aload_n 0, 1) := by decide +kernel
theorem dX8_pack_9 : decode cX8_pack 9 = .ok (.invokevirtual 124, 3) := by decide +kernel
theorem dX8_pack_12 : decode cX8_pack 12 = .ok (.invokevirtual 175, 3) := by decide +kernel
theorem dX8_pack_15 : decode cX8_pack 15 = .ok (.aload_n 0, 1) := by decide +kernel
theorem dX8_pack_16 : decode cX8_pack 16 = .ok (.invokevirtual 106, 3) := by decide +kernel
theorem dX8_pack_19 : decode cX8_pack 19 = .ok (.aload_n 0, 1) := by decide +kernel
theorem dX8_pack_20 : decode cX8_pack 20 = .ok (.getfield 43, 3) := by decide +kernel
theorem dX8_pack_23 : decode cX8_pack 23 = .ok (.getfield 179, 3) := by decide +kernel
theorem dX8_pack_26 : decode cX8_pack 26 = .ok (.iconst 0, 1) := by decide +kernel
theorem dX8_pack_27 : decode cX8_pack 27 = .ok (.aload_n 0, 1) := by decide +kernel
theorem dX8_pack_28 : decode cX8_pack 28 = .ok (.getfield 12, 3) := by decide +kernel
theorem dX8_pack_31 : decode cX8_pack 31 = .ok (.getfield 170, 3) := by decide +kernel
theorem dX8_pack_34 : decode cX8_pack 34 = .ok (.iconst 0, 1) := by decide +kernel
theorem dX8_pack_35 : decode cX8_pack 35 = .ok (.aload_n 0, 1) := by decide +kernel
theorem dX8_pack_36 : decode cX8_pack 36 = .ok (.getfield 12, 3) := by decide +kernel
theorem dX8_pack_39 : decode cX8_pack 39 = .ok (.getfield 81, 3) := by decide +kernel
theorem dX8_pack_42 : decode cX8_pack 42 = .ok (.invokestatic 182, 3) := by decide +kernel
theorem dX8_pack_45 : decode cX8_pack 45 = .ok (.aload_n 0, 1) := by decide +kernel
theorem dX8_pack_46 : decode cX8_pack 46 = .ok (.getfield 12, 3) := by decide +kernel
theorem dX8_pack_49 : decode cX8_pack 49 = .ok (.getfield 170, 3) := by decide +kernel
theorem dX8_pack_52 : decode cX8_pack 52 = .ok (.aload_n 0, 1) := by decide +kernel
theorem dX8_pack_53 : decode cX8_pack 53 = .ok (.getfield 12, 3) := by decide +kernel
theorem dX8_pack_56 : decode cX8_pack 56 = .ok (.getfield 81, 3) := by decide +kernel
theorem dX8_pack_59 : decode cX8_pack 59 = .ok (.invokestatic 188, 3) := by decide +kernel
theorem dX8_pack_62 : decode cX8_pack 62 = .ok (.ireturn, 1) := by decide +kernel
def fX8_pack (μ : Mem) : Option (Int32 × Mem) :=
  bd (fX8_freshLinks μ) fun _ μ10 =>
  bd (fX4_makePlan μ10) fun _ μ12 =>
  bd (fX8_save μ12) fun _ μ14 =>
  (acp 20 20 μ14 84 (0 : Int32) 7 (0 : Int32) (μ14 1 0)).bind fun μ16 =>
  bd (fX8_spanOf μ16 7 (μ16 1 0)) fun r18 μ17 =>
  some (r18, μ17)
theorem ctX8_pack {l : Launch} {D : va_G} {cI cR : ClassId} {ad : Nat → Nat} {μ : Mem} {r : Int32} {μ' : Mem} (hf : fX8_pack μ = some (r, μ')) : CT l yX8_pack cX8_pack 1 (some .int) 5 D cI cR ad shX NX [.ref (ad 0)] μ (some (.int r)) μ' :=
  ct_of (own := RX8) (ov := fun r => some (.int r)) (by decide +kernel) rfl (Nat.le_of_ble_eq_true rfl) (fun p e s m below meth c A0 E hr => by
    refine ll_lo (lo' := [some (.ref (ad 0))]) ⟨rfl, trivial⟩ ?_
    rw [fX8_pack]
    refine ll_aload_n E (pc := 0) dX8_pack_0 rfl ?_
    refine ll_getfr E (pc := 1) (o9 := 0) (ci := 8) (k9 := 7) (q := 83) dX8_pack_1 fl_X8_43 (Nat.le_of_ble_eq_true rfl) fx_0_7 ?_
    refine ll_aload_n E (pc := 4) dX8_pack_4 rfl ?_
    refine ll_getfr E (pc := 5) (o9 := 0) (ci := 8) (k9 := 0) (q := 1) dX8_pack_5 fl_X8_12 (Nat.le_of_ble_eq_true rfl) fx_0_0 ?_
    refine ll_aload_n E (pc := 8) dX8_pack_8 rfl ?_
    refine ll_callVr E (pc := 9) (d := 4) (ci := 8) (o9 := 0) [] [.ref (ad 1), .ref (ad 83)] dX8_pack_9 cv_X8_124 (fun h => ctX8_freshLinks h) (Nat.le_of_ble_eq_true rfl) sx_0 ci_8 rfl rfl (Nat.le_of_ble_eq_true rfl) ⟨(Nat.le_of_ble_eq_true rfl), (Nat.le_of_ble_eq_true rfl)⟩ ⟨(Nat.le_of_ble_eq_true rfl), (Nat.le_of_ble_eq_true rfl)⟩ ?_
    intro r11 μ10
    refine ll_callVv E (pc := 12) (d := 4) (ci := 4) (o9 := 83) [.ref (ad 1), .ref (ad 75)] [] dX8_pack_12 cv_X8_175 (fun h => ctX4_makePlan h) (Nat.le_of_ble_eq_true rfl) sx_83 ci_4 rfl rfl (Nat.le_of_ble_eq_true rfl) ⟨(Nat.le_of_ble_eq_true rfl), (Nat.le_of_ble_eq_true rfl)⟩ ⟨(Nat.le_of_ble_eq_true rfl), (Nat.le_of_ble_eq_true rfl)⟩ ?_
    intro r13 μ12
    refine ll_aload_n E (pc := 15) dX8_pack_15 rfl ?_
    refine ll_callVv E (pc := 16) (d := 3) (ci := 8) (o9 := 0) [] [] dX8_pack_16 cv_X8_106 (fun h => ctX8_save h) (Nat.le_of_ble_eq_true rfl) sx_0 ci_8 rfl rfl (Nat.le_of_ble_eq_true rfl) ⟨(Nat.le_of_ble_eq_true rfl), (Nat.le_of_ble_eq_true rfl)⟩ ⟨(Nat.le_of_ble_eq_true rfl), (Nat.le_of_ble_eq_true rfl)⟩ ?_
    intro r15 μ14
    refine ll_aload_n E (pc := 19) dX8_pack_19 rfl ?_
    refine ll_getfr E (pc := 20) (o9 := 0) (ci := 8) (k9 := 7) (q := 83) dX8_pack_20 fl_X8_43 (Nat.le_of_ble_eq_true rfl) fx_0_7 ?_
    refine ll_getfr E (pc := 23) (o9 := 83) (ci := 4) (k9 := 0) (q := 84) dX8_pack_23 fl_X8_179 (Nat.le_of_ble_eq_true rfl) fx_83_0 ?_
    refine ll_iconst E (pc := 26) dX8_pack_26 kc_0 ?_
    refine ll_aload_n E (pc := 27) dX8_pack_27 rfl ?_
    refine ll_getfr E (pc := 28) (o9 := 0) (ci := 8) (k9 := 0) (q := 1) dX8_pack_28 fl_X8_12 (Nat.le_of_ble_eq_true rfl) fx_0_0 ?_
    refine ll_getfr E (pc := 31) (o9 := 1) (ci := 6) (k9 := 6) (q := 7) dX8_pack_31 fl_X8_170 (Nat.le_of_ble_eq_true rfl) fx_1_6 ?_
    refine ll_iconst E (pc := 34) dX8_pack_34 kc_0 ?_
    refine ll_aload_n E (pc := 35) dX8_pack_35 rfl ?_
    refine ll_getfr E (pc := 36) (o9 := 0) (ci := 8) (k9 := 0) (q := 1) dX8_pack_36 fl_X8_12 (Nat.le_of_ble_eq_true rfl) fx_0_0 ?_
    refine ll_getf E (pc := 39) (o9 := 1) (ci := 6) (k9 := 0) dX8_pack_39 fl_X8_81 (Nat.le_of_ble_eq_true rfl) fx_1_0 ?_
    refine ll_acopy E (pc := 42) (a0 := 84) (a1 := 7) dX8_pack_42 mw_X8_182 mw_ac1 mw_ac2 mw_sys (px_84).1 (px_7).1 (px_84).2 (px_7).2 (Nat.le_of_ble_eq_true rfl) ⟨(Nat.le_of_ble_eq_true rfl), (Nat.le_of_ble_eq_true rfl)⟩ ?_
    intro μ16
    refine ll_aload_n E (pc := 45) dX8_pack_45 rfl ?_
    refine ll_getfr E (pc := 46) (o9 := 0) (ci := 8) (k9 := 0) (q := 1) dX8_pack_46 fl_X8_12 (Nat.le_of_ble_eq_true rfl) fx_0_0 ?_
    refine ll_getfr E (pc := 49) (o9 := 1) (ci := 6) (k9 := 6) (q := 7) dX8_pack_49 fl_X8_170 (Nat.le_of_ble_eq_true rfl) fx_1_6 ?_
    refine ll_aload_n E (pc := 52) dX8_pack_52 rfl ?_
    refine ll_getfr E (pc := 53) (o9 := 0) (ci := 8) (k9 := 0) (q := 1) dX8_pack_53 fl_X8_12 (Nat.le_of_ble_eq_true rfl) fx_0_0 ?_
    refine ll_getf E (pc := 56) (o9 := 1) (ci := 6) (k9 := 0) dX8_pack_56 fl_X8_81 (Nat.le_of_ble_eq_true rfl) fx_1_0 ?_
    refine ll_callSi E (pc := 59) (d := 1) [.ref (ad 7), .int (μ16 1 0)] [] dX8_pack_59 cv_X8_188 (fun h => ctX8_spanOf px_7 h) rfl rfl (Nat.le_of_ble_eq_true rfl) ⟨(Nat.le_of_ble_eq_true rfl), (Nat.le_of_ble_eq_true rfl)⟩ ⟨(Nat.le_of_ble_eq_true rfl), (Nat.le_of_ble_eq_true rfl)⟩ ?_
    intro r18 μ17
    exact ll_ireturn E (pc := 62) hr dX8_pack_62) hf
theorem dX8_append_0 : decode cX8_append 0 = .ok (.iload_n 1, 1) := by decide +kernel
theorem dX8_append_1 : decode cX8_append 1 = .ok (.bipush 33, 2) := by decide +kernel
theorem dX8_append_3 : decode cX8_append 3 = .ok (.if_icmp .lt 9, 3) := by decide +kernel
theorem dX8_append_6 : decode cX8_append 6 = .ok (.iload_n 1, 1) := by decide +kernel
theorem dX8_append_7 : decode cX8_append 7 = .ok (.bipush 126, 2) := by decide +kernel
theorem dX8_append_9 : decode cX8_append 9 = .ok (.if_icmp .le 13, 3) := by decide +kernel
theorem dX8_append_12 : decode cX8_append 12 = .ok (.new 96, 3) := by decide +kernel
theorem dX8_append_15 : decode cX8_append 15 = .ok (.dup, 1) := by decide +kernel
theorem dX8_append_16 : decode cX8_append 16 = .ok (.ldc 192, 2) := by decide +kernel
theorem dX8_append_18 : decode cX8_append 18 = .ok (.invokespecial 100, 3) := by decide +kernel
theorem dX8_append_21 : decode cX8_append 21 = .ok (.athrow, 1) := by decide +kernel
theorem dX8_append_22 : decode cX8_append 22 = .ok (.aload_n 0, 1) := by decide +kernel
theorem dX8_append_23 : decode cX8_append 23 = .ok (.getfield 29, 3) := by decide +kernel
theorem dX8_append_26 : decode cX8_append 26 = .ok (.getfield 194, 3) := by decide +kernel
theorem dX8_append_29 : decode cX8_append 29 = .ok (.bipush 60, 2) := by decide +kernel
theorem dX8_append_31 : decode cX8_append 31 = .ok (.if_icmp .lt 13, 3) := by decide +kernel
theorem dX8_append_34 : decode cX8_append 34 = .ok (.new 101, 3) := by decide +kernel
theorem dX8_append_37 : decode cX8_append 37 = .ok (.dup, 1) := by decide +kernel
theorem dX8_append_38 : decode cX8_append 38 = .ok (.ldc 197, 2) := by decide +kernel
theorem dX8_append_40 : decode cX8_append 40 = .ok (.invokespecial 105, 3) := by decide +kernel
theorem dX8_append_43 : decode cX8_append 43 = .ok (.athrow, 1) := by decide +kernel
theorem dX8_append_44 : decode cX8_append 44 = .ok (.aload_n 0, 1) := by decide +kernel
theorem dX8_append_45 : decode cX8_append 45 = .ok (.getfield 29, 3) := by decide +kernel
theorem dX8_append_48 : decode cX8_append 48 = .ok (.iload_n 1, 1) := by decide +kernel
theorem dX8_append_49 : decode cX8_append 49 = .ok (.invokevirtual 199, 3) := by decide +kernel
theorem dX8_append_52 : decode cX8_append 52 = .ok (.aload_n 0, 1) := by decide +kernel
theorem dX8_append_53 : decode cX8_append 53 = .ok (.getfield 29, 3) := by decide +kernel
theorem dX8_append_56 : decode cX8_append 56 = .ok (.getfield 194, 3) := by decide +kernel
theorem dX8_append_59 : decode cX8_append 59 = .ok (.ireturn, 1) := by decide +kernel
def fX8_append_L12  (μ : Mem) : Option ((Int32 ⊕ Nat) × Mem) :=
  some (.inr 2, μ)
def fX8_append (μ : Mem) (a1 : Int32) : Option ((Int32 ⊕ Nat) × Mem) :=
  if a1 < (33 : Int32) then
  fX8_append_L12 μ
  else
  if a1 ≤ (126 : Int32) then
  if (μ 73 1) < (60 : Int32) then
  bd (fX7_addSign μ a1) fun _ μ3 =>
  some (.inl (μ3 73 1), μ3)
  else
  some (.inr 3, μ)
  else
  fX8_append_L12 μ
theorem kX8_append_L12 {p : Program} {l : Launch} {e : Env} {s : State} {m : MethodId} {args : Array Value} {below : List Frame} {meth : Method} {c : Code} {D : va_G} {cI cR : ClassId} {ad : Nat → Nat} {A0 : Nat → Prop} (E : EV p s m args meth c cX8_append 2 RX8 D cI cR ad shX NX A0) (X : EX9 l s c A0) (hr : meth.sig.returnType = (some .int))  (μ : Mem) : LL p l e (RX 7 1) s m args below meth c 2 D cI cR ad shX NX A0 (fun (r : Int32 ⊕ Nat) μ' => KX below args s D cI cR ad shX NX A0 1 (r.elim (fun r => .inl (some (.int r))) .inr) μ') (fX8_append_L12 μ) 0 0 12 [none, none] [] μ := by
  rw [fX8_append_L12]
  exact ll_throw E (pc := 12) (k := 2) (tx := "code out of range") X (by decide) xw_2 (by decide +kernel) rfl dX8_append_12 dX8_append_15 dX8_append_16 dX8_append_18 dX8_append_21 ⟨(Nat.le_of_ble_eq_true rfl), (Nat.le_of_ble_eq_true rfl)⟩ (Nat.le_of_ble_eq_true rfl) ⟨(Nat.le_of_ble_eq_true rfl), (Nat.le_of_ble_eq_true rfl)⟩ ⟨(Nat.le_of_ble_eq_true rfl), (Nat.le_of_ble_eq_true rfl)⟩
theorem cxX8_append {l : Launch} {D : va_G} {cI cR : ClassId} {ad : Nat → Nat} {μ : Mem} {a1 : Int32} (hl9 : l.stackTraces = false) {r : Int32 ⊕ Nat} {μ' : Mem} (hf : fX8_append μ a1 = some (r, μ')) : CX l yX8_append cX8_append 2 (some .int) 7 1 D cI cR ad shX NX [.ref (ad 0), .int a1] μ (r.elim (fun r => .inl (some (.int r))) .inr) μ' :=
  cx_of (own := RX8) (ov := fun (r : Int32 ⊕ Nat) => (r.elim (fun r => .inl (some (.int r))) .inr)) hl9 (by decide +kernel) rfl (Nat.le_of_ble_eq_true rfl) (fun p e s m below meth c A0 E X hr => by
    refine ll_lo (lo' := [some (.ref (ad 0)), some (.int a1)]) ⟨rfl, rfl, trivial⟩ ?_
    rw [fX8_append]
    refine ll_iload_n E (pc := 0) dX8_append_0 rfl ?_
    refine ll_bipush E (pc := 1) dX8_append_1 kb_33 ?_
    refine ll_icmp_lt E (pc := 3) (tgt := 12) dX8_append_3 rfl ?_ ?_
    · exact ll_lo (lo' := [none, none]) trivial (kX8_append_L12 E X hr μ)
    · refine ll_iload_n E (pc := 6) dX8_append_6 rfl ?_
      refine ll_bipush E (pc := 7) dX8_append_7 kb_126 ?_
      refine ll_icmp_le E (pc := 9) (tgt := 22) dX8_append_9 rfl ?_ ?_
      · refine ll_aload_n E (pc := 22) dX8_append_22 rfl ?_
        refine ll_getfr E (pc := 23) (o9 := 0) (ci := 8) (k9 := 4) (q := 73) dX8_append_23 fl_X8_29 (Nat.le_of_ble_eq_true rfl) fx_0_4 ?_
        refine ll_getf E (pc := 26) (o9 := 73) (ci := 7) (k9 := 1) dX8_append_26 fl_X8_194 (Nat.le_of_ble_eq_true rfl) fx_73_1 ?_
        refine ll_bipush E (pc := 29) dX8_append_29 kb_60 ?_
        refine ll_icmp_lt E (pc := 31) (tgt := 44) dX8_append_31 rfl ?_ ?_
        · refine ll_aload_n E (pc := 44) dX8_append_44 rfl ?_
          refine ll_getfr E (pc := 45) (o9 := 0) (ci := 8) (k9 := 4) (q := 73) dX8_append_45 fl_X8_29 (Nat.le_of_ble_eq_true rfl) fx_0_4 ?_
          refine ll_iload_n E (pc := 48) dX8_append_48 rfl ?_
          refine ll_callVv E (pc := 49) (d := 0) (ci := 7) (o9 := 73) [.int a1] [] dX8_append_49 cv_X8_199 (fun h => ctX7_addSign h) (Nat.le_of_ble_eq_true rfl) sx_73 ci_7 rfl rfl (Nat.le_of_ble_eq_true rfl) ⟨(Nat.le_of_ble_eq_true rfl), (Nat.le_of_ble_eq_true rfl)⟩ ⟨(Nat.le_of_ble_eq_true rfl), (Nat.le_of_ble_eq_true rfl)⟩ ?_
          intro r4 μ3
          refine ll_aload_n E (pc := 52) dX8_append_52 rfl ?_
          refine ll_getfr E (pc := 53) (o9 := 0) (ci := 8) (k9 := 4) (q := 73) dX8_append_53 fl_X8_29 (Nat.le_of_ble_eq_true rfl) fx_0_4 ?_
          refine ll_getf E (pc := 56) (o9 := 73) (ci := 7) (k9 := 1) dX8_append_56 fl_X8_194 (Nat.le_of_ble_eq_true rfl) fx_73_1 ?_
          exact ll_xireturn E (pc := 59) hr dX8_append_59 ⟨(Nat.le_of_ble_eq_true rfl), (Nat.le_of_ble_eq_true rfl)⟩
        · exact ll_throw E (pc := 34) (k := 3) (tx := "the buffer is full") X (by decide) xw_3 (by decide +kernel) rfl dX8_append_34 dX8_append_37 dX8_append_38 dX8_append_40 dX8_append_43 ⟨(Nat.le_of_ble_eq_true rfl), (Nat.le_of_ble_eq_true rfl)⟩ (Nat.le_of_ble_eq_true rfl) ⟨(Nat.le_of_ble_eq_true rfl), (Nat.le_of_ble_eq_true rfl)⟩ ⟨(Nat.le_of_ble_eq_true rfl), (Nat.le_of_ble_eq_true rfl)⟩
      · exact ll_lo (lo' := [none, none]) trivial (kX8_append_L12 E X hr μ)) hf
theorem dX8_clearBuffer_0 : decode cX8_clearBuffer 0 = .ok (.aload_n 0, 1) := by decide +kernel
theorem dX8_clearBuffer_1 : decode cX8_clearBuffer 1 = .ok (.getfield 29, 3) := by decide +kernel
theorem dX8_clearBuffer_4 : decode cX8_clearBuffer 4 = .ok (.getfield 194, 3) := by decide +kernel
theorem dX8_clearBuffer_7 : decode cX8_clearBuffer 7 = .ok (.istore_n 1, 1) := by decide +kernel
theorem dX8_clearBuffer_8 : decode cX8_clearBuffer 8 = .ok (.aload_n 0, 1) := by decide +kernel
theorem dX8_clearBuffer_9 : decode cX8_clearBuffer 9 = .ok (.getfield 29, 3) := by decide +kernel
theorem dX8_clearBuffer_12 : decode cX8_clearBuffer 12 = .ok (.iconst 0, 1) := by decide +kernel
theorem dX8_clearBuffer_13 : decode cX8_clearBuffer 13 = .ok (.putfield 194, 3) := by decide +kernel
theorem dX8_clearBuffer_16 : decode cX8_clearBuffer 16 = .ok (.iload_n 1, 1) := by decide +kernel
theorem dX8_clearBuffer_17 : decode cX8_clearBuffer 17 = .ok (.ireturn, 1) := by decide +kernel
def fX8_clearBuffer (μ : Mem) : Option (Int32 × Mem) :=
  (pt μ 73 1 (0 : Int32)).bind fun μ2 =>
  some ((μ 73 1), μ2)
theorem ctX8_clearBuffer {l : Launch} {D : va_G} {cI cR : ClassId} {ad : Nat → Nat} {μ : Mem} {r : Int32} {μ' : Mem} (hf : fX8_clearBuffer μ = some (r, μ')) : CT l yX8_clearBuffer cX8_clearBuffer 2 (some .int) 0 D cI cR ad shX NX [.ref (ad 0)] μ (some (.int r)) μ' :=
  ct_of (own := RX8) (ov := fun r => some (.int r)) (by decide +kernel) rfl (Nat.le_of_ble_eq_true rfl) (fun p e s m below meth c A0 E hr => by
    refine ll_lo (lo' := [some (.ref (ad 0)), none]) ⟨rfl, trivial⟩ ?_
    rw [fX8_clearBuffer]
    refine ll_aload_n E (pc := 0) dX8_clearBuffer_0 rfl ?_
    refine ll_getfr E (pc := 1) (o9 := 0) (ci := 8) (k9 := 4) (q := 73) dX8_clearBuffer_1 fl_X8_29 (Nat.le_of_ble_eq_true rfl) fx_0_4 ?_
    refine ll_getf E (pc := 4) (o9 := 73) (ci := 7) (k9 := 1) dX8_clearBuffer_4 fl_X8_194 (Nat.le_of_ble_eq_true rfl) fx_73_1 ?_
    refine ll_istore_n E (pc := 7) (lo' := [some (.ref (ad 0)), some (.int (μ 73 1))]) dX8_clearBuffer_7 (Nat.le_of_ble_eq_true rfl) rfl rfl ?_
    refine ll_aload_n E (pc := 8) dX8_clearBuffer_8 rfl ?_
    refine ll_getfr E (pc := 9) (o9 := 0) (ci := 8) (k9 := 4) (q := 73) dX8_clearBuffer_9 fl_X8_29 (Nat.le_of_ble_eq_true rfl) fx_0_4 ?_
    refine ll_iconst E (pc := 12) dX8_clearBuffer_12 kc_0 ?_
    refine ll_putf E (pc := 13) (o9 := 73) (ci := 7) (k9 := 1) dX8_clearBuffer_13 fw_X8_194 (Nat.le_of_ble_eq_true rfl) fx_73_1 ?_
    intro μ2
    refine ll_iload_n E (pc := 16) dX8_clearBuffer_16 rfl ?_
    exact ll_ireturn E (pc := 17) hr dX8_clearBuffer_17) hf
theorem dX8_firstError_0 : decode cX8_firstError 0 = .ok (.aload_n 0, 1) := by decide +kernel
theorem dX8_firstError_1 : decode cX8_firstError 1 = .ok (.getfield 29, 3) := by decide +kernel
theorem dX8_firstError_4 : decode cX8_firstError 4 = .ok (.invokevirtual 202, 3) := by decide +kernel
theorem dX8_firstError_7 : decode cX8_firstError 7 = .ok (.ireturn, 1) := by decide +kernel
def fX8_firstError (μ : Mem) : Option (Int32 × Mem) :=
  bd (fX7_firstBad μ) fun r4 μ3 =>
  some (r4, μ3)
theorem ctX8_firstError {l : Launch} {D : va_G} {cI cR : ClassId} {ad : Nat → Nat} {μ : Mem} {r : Int32} {μ' : Mem} (hf : fX8_firstError μ = some (r, μ')) : CT l yX8_firstError cX8_firstError 1 (some .int) 5 D cI cR ad shX NX [.ref (ad 0)] μ (some (.int r)) μ' :=
  ct_of (own := RX8) (ov := fun r => some (.int r)) (by decide +kernel) rfl (Nat.le_of_ble_eq_true rfl) (fun p e s m below meth c A0 E hr => by
    refine ll_lo (lo' := [some (.ref (ad 0))]) ⟨rfl, trivial⟩ ?_
    rw [fX8_firstError]
    refine ll_aload_n E (pc := 0) dX8_firstError_0 rfl ?_
    refine ll_getfr E (pc := 1) (o9 := 0) (ci := 8) (k9 := 4) (q := 73) dX8_firstError_1 fl_X8_29 (Nat.le_of_ble_eq_true rfl) fx_0_4 ?_
    refine ll_callVi E (pc := 4) (d := 4) (ci := 7) (o9 := 73) [] [] dX8_firstError_4 cv_X8_202 (fun h => ctX7_firstBad h) (Nat.le_of_ble_eq_true rfl) sx_73 ci_7 rfl rfl (Nat.le_of_ble_eq_true rfl) ⟨(Nat.le_of_ble_eq_true rfl), (Nat.le_of_ble_eq_true rfl)⟩ ⟨(Nat.le_of_ble_eq_true rfl), (Nat.le_of_ble_eq_true rfl)⟩ ?_
    intro r4 μ3
    exact ll_ireturn E (pc := 7) hr dX8_firstError_7) hf
theorem dX8_addAll_0 : decode cX8_addAll 0 = .ok (.aload_n 0, 1) := by decide +kernel
theorem dX8_addAll_1 : decode cX8_addAll 1 = .ok (.getfield 29, 3) := by decide +kernel
theorem dX8_addAll_4 : decode cX8_addAll 4 = .ok (.invokevirtual 206, 3) := by decide +kernel
theorem dX8_addAll_7 : decode cX8_addAll 7 = .ok (.ifCond .ne 13, 3) := by decide +kernel
theorem dX8_addAll_10 : decode cX8_addAll 10 = .ok (.new 96, 3) := by decide +kernel
theorem dX8_addAll_13 : decode cX8_addAll 13 = .ok (.dup, 1) := by decide +kernel
theorem dX8_addAll_14 : decode cX8_addAll 14 = .ok (.ldc 210, 2) := by decide +kernel
theorem dX8_addAll_16 : decode cX8_addAll 16 = .ok (.invokespecial 100, 3) := by decide +kernel
theorem dX8_addAll_19 : decode cX8_addAll 19 = .ok (.athrow, 1) := by decide +kernel
theorem dX8_addAll_20 : decode cX8_addAll 20 = .ok (.aload_n 0, 1) := by decide +kernel
theorem dX8_addAll_21 : decode cX8_addAll 21 = .ok (.getfield 12, 3) := by decide +kernel
theorem dX8_addAll_24 : decode cX8_addAll 24 = .ok (.getfield 81, 3) := by decide +kernel
theorem dX8_addAll_27 : decode cX8_addAll 27 = .ok (.aload_n 0, 1) := by decide +kernel
theorem dX8_addAll_28 : decode cX8_addAll 28 = .ok (.getfield 29, 3) := by decide +kernel
theorem dX8_addAll_31 : decode cX8_addAll 31 = .ok (.invokevirtual 212, 3) := by decide +kernel
theorem dX8_addAll_34 : decode cX8_addAll 34 = .ok (.iadd, 1) := by decide +kernel
theorem dX8_addAll_35 : decode cX8_addAll 35 = .ok (.bipush 20, 2) := by decide +kernel
theorem dX8_addAll_37 : decode cX8_addAll 37 = .ok (.if_icmp .le 13, 3) := by decide +kernel
theorem dX8_addAll_40 : decode cX8_addAll 40 = .ok (.new 101, 3) := by decide +kernel
theorem dX8_addAll_43 : decode cX8_addAll 43 = .ok (.dup, 1) := by decide +kernel
theorem dX8_addAll_44 : decode cX8_addAll 44 = .ok (.ldc 215, 2) := by decide +kernel
theorem dX8_addAll_46 : decode cX8_addAll 46 = .ok (.invokespecial 105, 3) := by decide +kernel
theorem dX8_addAll_49 : decode cX8_addAll 49 = .ok (.athrow, 1) := by decide +kernel
theorem dX8_addAll_50 : decode cX8_addAll 50 = .ok (.aload_n 0, 1) := by decide +kernel
theorem dX8_addAll_51 : decode cX8_addAll 51 = .ok (.invokevirtual 106, 3) := by decide +kernel
theorem dX8_addAll_54 : decode cX8_addAll 54 = .ok (.aload_n 0, 1) := by decide +kernel
theorem dX8_addAll_55 : decode cX8_addAll 55 = .ok (.getfield 29, 3) := by decide +kernel
theorem dX8_addAll_58 : decode cX8_addAll 58 = .ok (.aload_n 0, 1) := by decide +kernel
theorem dX8_addAll_59 : decode cX8_addAll 59 = .ok (.getfield 12, 3) := by decide +kernel
theorem dX8_addAll_62 : decode cX8_addAll 62 = .ok (.invokevirtual 217, 3) := by decide +kernel
theorem dX8_addAll_65 : decode cX8_addAll 65 = .ok (.aload_n 0, 1) := by decide +kernel
theorem dX8_addAll_66 : decode cX8_addAll 66 = .ok (.getfield 29, 3) := by decide +kernel
theorem dX8_addAll_69 : decode cX8_addAll 69 = .ok (.iconst 0, 1) := by decide +kernel
theorem dX8_addAll_70 : decode cX8_addAll 70 = .ok (.putfield 194, 3) := by decide +kernel
theorem dX8_addAll_73 : decode cX8_addAll 73 = .ok (.aload_n 0, 1) := by decide +kernel
theorem dX8_addAll_74 : decode cX8_addAll 74 = .ok (.getfield 12, 3) := by decide +kernel
theorem dX8_addAll_77 : decode cX8_addAll 77 = .ok (.getfield 81, 3) := by decide +kernel
theorem dX8_addAll_80 : decode cX8_addAll 80 = .ok (.ireturn, 1) := by decide +kernel
def fX8_addAll (μ : Mem) : Option ((Int32 ⊕ Nat) × Mem) :=
  bd (fX7_isWhole μ) fun r11 μ10 =>
  if r11 = 0 then
  some (.inr 2, μ10)
  else
  bd (fX7_countOfSteps μ10) fun r13 μ12 =>
  if ((μ10 1 0) + r13) ≤ (20 : Int32) then
  bd (fX8_save μ12) fun _ μ14 =>
  bd (fX7_putInto μ14) fun _ μ16 =>
  (pt μ16 73 1 (0 : Int32)).bind fun μ18 =>
  some (.inl (μ18 1 0), μ18)
  else
  some (.inr 3, μ12)
theorem cxX8_addAll {l : Launch} {D : va_G} {cI cR : ClassId} {ad : Nat → Nat} {μ : Mem} (hl9 : l.stackTraces = false) {r : Int32 ⊕ Nat} {μ' : Mem} (hf : fX8_addAll μ = some (r, μ')) : CX l yX8_addAll cX8_addAll 1 (some .int) 7 1 D cI cR ad shX NX [.ref (ad 0)] μ (r.elim (fun r => .inl (some (.int r))) .inr) μ' :=
  cx_of (own := RX8) (ov := fun (r : Int32 ⊕ Nat) => (r.elim (fun r => .inl (some (.int r))) .inr)) hl9 (by decide +kernel) rfl (Nat.le_of_ble_eq_true rfl) (fun p e s m below meth c A0 E X hr => by
    refine ll_lo (lo' := [some (.ref (ad 0))]) ⟨rfl, trivial⟩ ?_
    rw [fX8_addAll]
    refine ll_aload_n E (pc := 0) dX8_addAll_0 rfl ?_
    refine ll_getfr E (pc := 1) (o9 := 0) (ci := 8) (k9 := 4) (q := 73) dX8_addAll_1 fl_X8_29 (Nat.le_of_ble_eq_true rfl) fx_0_4 ?_
    refine ll_callVi E (pc := 4) (d := 4) (ci := 7) (o9 := 73) [] [] dX8_addAll_4 cv_X8_206 (fun h => ctX7_isWhole h) (Nat.le_of_ble_eq_true rfl) sx_73 ci_7 rfl rfl (Nat.le_of_ble_eq_true rfl) ⟨(Nat.le_of_ble_eq_true rfl), (Nat.le_of_ble_eq_true rfl)⟩ ⟨(Nat.le_of_ble_eq_true rfl), (Nat.le_of_ble_eq_true rfl)⟩ ?_
    intro r11 μ10
    refine ll_if_ne E (pc := 7) (tgt := 20) dX8_addAll_7 rfl ?_ ?_
    · refine ll_aload_n E (pc := 20) dX8_addAll_20 rfl ?_
      refine ll_getfr E (pc := 21) (o9 := 0) (ci := 8) (k9 := 0) (q := 1) dX8_addAll_21 fl_X8_12 (Nat.le_of_ble_eq_true rfl) fx_0_0 ?_
      refine ll_getf E (pc := 24) (o9 := 1) (ci := 6) (k9 := 0) dX8_addAll_24 fl_X8_81 (Nat.le_of_ble_eq_true rfl) fx_1_0 ?_
      refine ll_aload_n E (pc := 27) dX8_addAll_27 rfl ?_
      refine ll_getfr E (pc := 28) (o9 := 0) (ci := 8) (k9 := 4) (q := 73) dX8_addAll_28 fl_X8_29 (Nat.le_of_ble_eq_true rfl) fx_0_4 ?_
      refine ll_callVi E (pc := 31) (d := 1) (ci := 7) (o9 := 73) [] [.int (μ10 1 0)] dX8_addAll_31 cv_X8_212 (fun h => ctX7_countOfSteps h) (Nat.le_of_ble_eq_true rfl) sx_73 ci_7 rfl rfl (Nat.le_of_ble_eq_true rfl) ⟨(Nat.le_of_ble_eq_true rfl), (Nat.le_of_ble_eq_true rfl)⟩ ⟨(Nat.le_of_ble_eq_true rfl), (Nat.le_of_ble_eq_true rfl)⟩ ?_
      intro r13 μ12
      refine ll_iadd E (pc := 34) dX8_addAll_34 ?_
      refine ll_bipush E (pc := 35) dX8_addAll_35 kb_20 ?_
      refine ll_icmp_le E (pc := 37) (tgt := 50) dX8_addAll_37 rfl ?_ ?_
      · refine ll_aload_n E (pc := 50) dX8_addAll_50 rfl ?_
        refine ll_callVv E (pc := 51) (d := 3) (ci := 8) (o9 := 0) [] [] dX8_addAll_51 cv_X8_106 (fun h => ctX8_save h) (Nat.le_of_ble_eq_true rfl) sx_0 ci_8 rfl rfl (Nat.le_of_ble_eq_true rfl) ⟨(Nat.le_of_ble_eq_true rfl), (Nat.le_of_ble_eq_true rfl)⟩ ⟨(Nat.le_of_ble_eq_true rfl), (Nat.le_of_ble_eq_true rfl)⟩ ?_
        intro r15 μ14
        refine ll_aload_n E (pc := 54) dX8_addAll_54 rfl ?_
        refine ll_getfr E (pc := 55) (o9 := 0) (ci := 8) (k9 := 4) (q := 73) dX8_addAll_55 fl_X8_29 (Nat.le_of_ble_eq_true rfl) fx_0_4 ?_
        refine ll_aload_n E (pc := 58) dX8_addAll_58 rfl ?_
        refine ll_getfr E (pc := 59) (o9 := 0) (ci := 8) (k9 := 0) (q := 1) dX8_addAll_59 fl_X8_12 (Nat.le_of_ble_eq_true rfl) fx_0_0 ?_
        refine ll_callVv E (pc := 62) (d := 4) (ci := 7) (o9 := 73) [.ref (ad 1)] [] dX8_addAll_62 cv_X8_217 (fun h => ctX7_putInto h) (Nat.le_of_ble_eq_true rfl) sx_73 ci_7 rfl rfl (Nat.le_of_ble_eq_true rfl) ⟨(Nat.le_of_ble_eq_true rfl), (Nat.le_of_ble_eq_true rfl)⟩ ⟨(Nat.le_of_ble_eq_true rfl), (Nat.le_of_ble_eq_true rfl)⟩ ?_
        intro r17 μ16
        refine ll_aload_n E (pc := 65) dX8_addAll_65 rfl ?_
        refine ll_getfr E (pc := 66) (o9 := 0) (ci := 8) (k9 := 4) (q := 73) dX8_addAll_66 fl_X8_29 (Nat.le_of_ble_eq_true rfl) fx_0_4 ?_
        refine ll_iconst E (pc := 69) dX8_addAll_69 kc_0 ?_
        refine ll_putf E (pc := 70) (o9 := 73) (ci := 7) (k9 := 1) dX8_addAll_70 fw_X8_194 (Nat.le_of_ble_eq_true rfl) fx_73_1 ?_
        intro μ18
        refine ll_aload_n E (pc := 73) dX8_addAll_73 rfl ?_
        refine ll_getfr E (pc := 74) (o9 := 0) (ci := 8) (k9 := 0) (q := 1) dX8_addAll_74 fl_X8_12 (Nat.le_of_ble_eq_true rfl) fx_0_0 ?_
        refine ll_getf E (pc := 77) (o9 := 1) (ci := 6) (k9 := 0) dX8_addAll_77 fl_X8_81 (Nat.le_of_ble_eq_true rfl) fx_1_0 ?_
        exact ll_xireturn E (pc := 80) hr dX8_addAll_80 ⟨(Nat.le_of_ble_eq_true rfl), (Nat.le_of_ble_eq_true rfl)⟩
      · exact ll_throw E (pc := 40) (k := 3) (tx := "more than 20 steps") X (by decide) xw_3 (by decide +kernel) rfl dX8_addAll_40 dX8_addAll_43 dX8_addAll_44 dX8_addAll_46 dX8_addAll_49 ⟨(Nat.le_of_ble_eq_true rfl), (Nat.le_of_ble_eq_true rfl)⟩ (Nat.le_of_ble_eq_true rfl) ⟨(Nat.le_of_ble_eq_true rfl), (Nat.le_of_ble_eq_true rfl)⟩ ⟨(Nat.le_of_ble_eq_true rfl), (Nat.le_of_ble_eq_true rfl)⟩
    · exact ll_throw E (pc := 10) (k := 2) (tx := "not complete steps as a text") X (by decide) xw_2 (by decide +kernel) rfl dX8_addAll_10 dX8_addAll_13 dX8_addAll_14 dX8_addAll_16 dX8_addAll_19 ⟨(Nat.le_of_ble_eq_true rfl), (Nat.le_of_ble_eq_true rfl)⟩ (Nat.le_of_ble_eq_true rfl) ⟨(Nat.le_of_ble_eq_true rfl), (Nat.le_of_ble_eq_true rfl)⟩ ⟨(Nat.le_of_ble_eq_true rfl), (Nat.le_of_ble_eq_true rfl)⟩) hf
theorem dX8_undo_0 : decode cX8_undo 0 = .ok (.aload_n 0, 1) := by decide +kernel
theorem dX8_undo_1 : decode cX8_undo 1 = .ok (.getfield 19, 3) := by decide +kernel
theorem dX8_undo_4 : decode cX8_undo 4 = .ok (.getfield 221, 3) := by decide +kernel
theorem dX8_undo_7 : decode cX8_undo 7 = .ok (.ifCond .ne 13, 3) := by decide +kernel
theorem dX8_undo_10 : decode cX8_undo 10 = .ok (.new 101, 3) := by decide +kernel
theorem dX8_undo_13 : decode cX8_undo 13 = .ok (.dup, 1) := by decide +kernel
theorem dX8_undo_14 : decode cX8_undo 14 = .ok (.ldc 224, 2) := by decide +kernel
theorem dX8_undo_16 : decode cX8_undo 16 = .ok (.invokespecial 105, 3) := by decide +kernel
theorem dX8_undo_19 : decode cX8_undo 19 = .ok (.athrow, 1) := by decide +kernel
theorem dX8_undo_20 : decode cX8_undo 20 = .ok (.aload_n 0, 1) := by decide +kernel
theorem dX8_undo_21 : decode cX8_undo 21 = .ok (.getfield 19, 3) := by decide +kernel
theorem dX8_undo_24 : decode cX8_undo 24 = .ok (.aload_n 0, 1) := by decide +kernel
theorem dX8_undo_25 : decode cX8_undo 25 = .ok (.getfield 12, 3) := by decide +kernel
theorem dX8_undo_28 : decode cX8_undo 28 = .ok (.invokevirtual 226, 3) := by decide +kernel
theorem dX8_undo_31 : decode cX8_undo 31 = .ok (.aload_n 0, 1) := by decide +kernel
theorem dX8_undo_32 : decode cX8_undo 32 = .ok (.invokevirtual 229, 3) := by decide +kernel
theorem dX8_undo_35 : decode cX8_undo 35 = .ok (.aload_n 0, 1) := by decide +kernel
theorem dX8_undo_36 : decode cX8_undo 36 = .ok (.getfield 19, 3) := by decide +kernel
theorem dX8_undo_39 : decode cX8_undo 39 = .ok (.getfield 221, 3) := by decide +kernel
theorem dX8_undo_42 : decode cX8_undo 42 = .ok (.ireturn, 1) := by decide +kernel
def fX8_undo (μ : Mem) : Option ((Int32 ⊕ Nat) × Mem) :=
  if (μ 11 1) = 0 then
  some (.inr 3, μ)
  else
  bd (fX1_popInto μ) fun _ μ5 =>
  bd (fX8_spoil μ5) fun _ μ7 =>
  some (.inl (μ7 11 1), μ7)
theorem cxX8_undo {l : Launch} {D : va_G} {cI cR : ClassId} {ad : Nat → Nat} {μ : Mem} (hl9 : l.stackTraces = false) {r : Int32 ⊕ Nat} {μ' : Mem} (hf : fX8_undo μ = some (r, μ')) : CX l yX8_undo cX8_undo 1 (some .int) 7 1 D cI cR ad shX NX [.ref (ad 0)] μ (r.elim (fun r => .inl (some (.int r))) .inr) μ' :=
  cx_of (own := RX8) (ov := fun (r : Int32 ⊕ Nat) => (r.elim (fun r => .inl (some (.int r))) .inr)) hl9 (by decide +kernel) rfl (Nat.le_of_ble_eq_true rfl) (fun p e s m below meth c A0 E X hr => by
    refine ll_lo (lo' := [some (.ref (ad 0))]) ⟨rfl, trivial⟩ ?_
    rw [fX8_undo]
    refine ll_aload_n E (pc := 0) dX8_undo_0 rfl ?_
    refine ll_getfr E (pc := 1) (o9 := 0) (ci := 8) (k9 := 1) (q := 11) dX8_undo_1 fl_X8_19 (Nat.le_of_ble_eq_true rfl) fx_0_1 ?_
    refine ll_getf E (pc := 4) (o9 := 11) (ci := 1) (k9 := 1) dX8_undo_4 fl_X8_221 (Nat.le_of_ble_eq_true rfl) fx_11_1 ?_
    refine ll_if_ne E (pc := 7) (tgt := 20) dX8_undo_7 rfl ?_ ?_
    · refine ll_aload_n E (pc := 20) dX8_undo_20 rfl ?_
      refine ll_getfr E (pc := 21) (o9 := 0) (ci := 8) (k9 := 1) (q := 11) dX8_undo_21 fl_X8_19 (Nat.le_of_ble_eq_true rfl) fx_0_1 ?_
      refine ll_aload_n E (pc := 24) dX8_undo_24 rfl ?_
      refine ll_getfr E (pc := 25) (o9 := 0) (ci := 8) (k9 := 0) (q := 1) dX8_undo_25 fl_X8_12 (Nat.le_of_ble_eq_true rfl) fx_0_0 ?_
      refine ll_callVv E (pc := 28) (d := 2) (ci := 1) (o9 := 11) [.ref (ad 1)] [] dX8_undo_28 cv_X8_226 (fun h => ctX1_popInto h) (Nat.le_of_ble_eq_true rfl) sx_11 ci_1 rfl rfl (Nat.le_of_ble_eq_true rfl) ⟨(Nat.le_of_ble_eq_true rfl), (Nat.le_of_ble_eq_true rfl)⟩ ⟨(Nat.le_of_ble_eq_true rfl), (Nat.le_of_ble_eq_true rfl)⟩ ?_
      intro r6 μ5
      refine ll_aload_n E (pc := 31) dX8_undo_31 rfl ?_
      refine ll_callVv E (pc := 32) (d := 0) (ci := 8) (o9 := 0) [] [] dX8_undo_32 cv_X8_229 (fun h => ctX8_spoil h) (Nat.le_of_ble_eq_true rfl) sx_0 ci_8 rfl rfl (Nat.le_of_ble_eq_true rfl) ⟨(Nat.le_of_ble_eq_true rfl), (Nat.le_of_ble_eq_true rfl)⟩ ⟨(Nat.le_of_ble_eq_true rfl), (Nat.le_of_ble_eq_true rfl)⟩ ?_
      intro r8 μ7
      refine ll_aload_n E (pc := 35) dX8_undo_35 rfl ?_
      refine ll_getfr E (pc := 36) (o9 := 0) (ci := 8) (k9 := 1) (q := 11) dX8_undo_36 fl_X8_19 (Nat.le_of_ble_eq_true rfl) fx_0_1 ?_
      refine ll_getf E (pc := 39) (o9 := 11) (ci := 1) (k9 := 1) dX8_undo_39 fl_X8_221 (Nat.le_of_ble_eq_true rfl) fx_11_1 ?_
      exact ll_xireturn E (pc := 42) hr dX8_undo_42 ⟨(Nat.le_of_ble_eq_true rfl), (Nat.le_of_ble_eq_true rfl)⟩
    · exact ll_throw E (pc := 10) (k := 3) (tx := "no saved state") X (by decide) xw_3 (by decide +kernel) rfl dX8_undo_10 dX8_undo_13 dX8_undo_14 dX8_undo_16 dX8_undo_19 ⟨(Nat.le_of_ble_eq_true rfl), (Nat.le_of_ble_eq_true rfl)⟩ (Nat.le_of_ble_eq_true rfl) ⟨(Nat.le_of_ble_eq_true rfl), (Nat.le_of_ble_eq_true rfl)⟩ ⟨(Nat.le_of_ble_eq_true rfl), (Nat.le_of_ble_eq_true rfl)⟩) hf
theorem dX8_savedStates_0 : decode cX8_savedStates 0 = .ok (.aload_n 0, 1) := by decide +kernel
theorem dX8_savedStates_1 : decode cX8_savedStates 1 = .ok (.getfield 19, 3) := by decide +kernel
theorem dX8_savedStates_4 : decode cX8_savedStates 4 = .ok (.getfield 221, 3) := by decide +kernel
theorem dX8_savedStates_7 : decode cX8_savedStates 7 = .ok (.ireturn, 1) := by decide +kernel
def fX8_savedStates (μ : Mem) : Option (Int32 × Mem) :=
  some ((μ 11 1), μ)
theorem ctX8_savedStates {l : Launch} {D : va_G} {cI cR : ClassId} {ad : Nat → Nat} {μ : Mem} {r : Int32} {μ' : Mem} (hf : fX8_savedStates μ = some (r, μ')) : CT l yX8_savedStates cX8_savedStates 1 (some .int) 0 D cI cR ad shX NX [.ref (ad 0)] μ (some (.int r)) μ' :=
  ct_of (own := RX8) (ov := fun r => some (.int r)) (by decide +kernel) rfl (Nat.le_of_ble_eq_true rfl) (fun p e s m below meth c A0 E hr => by
    refine ll_lo (lo' := [some (.ref (ad 0))]) ⟨rfl, trivial⟩ ?_
    rw [fX8_savedStates]
    refine ll_aload_n E (pc := 0) dX8_savedStates_0 rfl ?_
    refine ll_getfr E (pc := 1) (o9 := 0) (ci := 8) (k9 := 1) (q := 11) dX8_savedStates_1 fl_X8_19 (Nat.le_of_ble_eq_true rfl) fx_0_1 ?_
    refine ll_getf E (pc := 4) (o9 := 11) (ci := 1) (k9 := 1) dX8_savedStates_4 fl_X8_221 (Nat.le_of_ble_eq_true rfl) fx_11_1 ?_
    exact ll_ireturn E (pc := 7) hr dX8_savedStates_7) hf
theorem dX8_keep_0 : decode cX8_keep 0 = .ok (.aload_n 0, 1) := by decide +kernel
theorem dX8_keep_1 : decode cX8_keep 1 = .ok (.getfield 23, 3) := by decide +kernel
theorem dX8_keep_4 : decode cX8_keep 4 = .ok (.aload_n 0, 1) := by decide +kernel
theorem dX8_keep_5 : decode cX8_keep 5 = .ok (.getfield 12, 3) := by decide +kernel
theorem dX8_keep_8 : decode cX8_keep 8 = .ok (.invokevirtual 232, 3) := by decide +kernel
theorem dX8_keep_11 : decode cX8_keep 11 = .ok (.aload_n 0, 1) := by decide +kernel
theorem dX8_keep_12 : decode cX8_keep 12 = .ok (.iconst 1, 1) := by decide +kernel
theorem dX8_keep_13 : decode cX8_keep 13 = .ok (.putfield 235, 3) := by decide +kernel
theorem dX8_keep_16 : decode cX8_keep 16 = .ok (.aload_n 0, 1) := by decide +kernel
theorem dX8_keep_17 : decode cX8_keep 17 = .ok (.getfield 12, 3) := by decide +kernel
theorem dX8_keep_20 : decode cX8_keep 20 = .ok (.getfield 81, 3) := by decide +kernel
theorem dX8_keep_23 : decode cX8_keep 23 = .ok (.ireturn, 1) := by decide +kernel
def fX8_keep (μ : Mem) : Option (Int32 × Mem) :=
  bd (fX6_copyFrom μ 63 1) fun _ μ4 =>
  (pt μ4 0 3 (1 : Int32)).bind fun μ6 =>
  some ((μ6 1 0), μ6)
theorem ctX8_keep {l : Launch} {D : va_G} {cI cR : ClassId} {ad : Nat → Nat} {μ : Mem} {r : Int32} {μ' : Mem} (hf : fX8_keep μ = some (r, μ')) : CT l yX8_keep cX8_keep 1 (some .int) 2 D cI cR ad shX NX [.ref (ad 0)] μ (some (.int r)) μ' :=
  ct_of (own := RX8) (ov := fun r => some (.int r)) (by decide +kernel) rfl (Nat.le_of_ble_eq_true rfl) (fun p e s m below meth c A0 E hr => by
    refine ll_lo (lo' := [some (.ref (ad 0))]) ⟨rfl, trivial⟩ ?_
    rw [fX8_keep]
    refine ll_aload_n E (pc := 0) dX8_keep_0 rfl ?_
    refine ll_getfr E (pc := 1) (o9 := 0) (ci := 8) (k9 := 2) (q := 63) dX8_keep_1 fl_X8_23 (Nat.le_of_ble_eq_true rfl) fx_0_2 ?_
    refine ll_aload_n E (pc := 4) dX8_keep_4 rfl ?_
    refine ll_getfr E (pc := 5) (o9 := 0) (ci := 8) (k9 := 0) (q := 1) dX8_keep_5 fl_X8_12 (Nat.le_of_ble_eq_true rfl) fx_0_0 ?_
    refine ll_callVv E (pc := 8) (d := 1) (ci := 6) (o9 := 63) [.ref (ad 1)] [] dX8_keep_8 cv_X8_232 (fun h => ctX6_copyFrom (pst_c 63 rfl) (pst_c 1 rfl) h) (Nat.le_of_ble_eq_true rfl) sx_63 ci_6 rfl rfl (Nat.le_of_ble_eq_true rfl) ⟨(Nat.le_of_ble_eq_true rfl), (Nat.le_of_ble_eq_true rfl)⟩ ⟨(Nat.le_of_ble_eq_true rfl), (Nat.le_of_ble_eq_true rfl)⟩ ?_
    intro r5 μ4
    refine ll_aload_n E (pc := 11) dX8_keep_11 rfl ?_
    refine ll_iconst E (pc := 12) dX8_keep_12 kc_1 ?_
    refine ll_put0 E (pc := 13) (o9 := 0) (ci := 8) (k9 := 3) dX8_keep_13 fw_X8_235 (Nat.le_of_ble_eq_true rfl) fx_0_3 rfl rfl ?_
    intro μ6
    refine ll_aload_n E (pc := 16) dX8_keep_16 rfl ?_
    refine ll_getfr E (pc := 17) (o9 := 0) (ci := 8) (k9 := 0) (q := 1) dX8_keep_17 fl_X8_12 (Nat.le_of_ble_eq_true rfl) fx_0_0 ?_
    refine ll_getf E (pc := 20) (o9 := 1) (ci := 6) (k9 := 0) dX8_keep_20 fl_X8_81 (Nat.le_of_ble_eq_true rfl) fx_1_0 ?_
    exact ll_ireturn E (pc := 23) hr dX8_keep_23) hf
theorem dX8_goBack_0 : decode cX8_goBack 0 = .ok (.aload_n 0, 1) := by decide +kernel
theorem dX8_goBack_1 : decode cX8_goBack 1 = .ok (.getfield 235, 3) := by decide +kernel
theorem dX8_goBack_4 : decode cX8_goBack 4 = .ok (.ifCond .ne 13, 3) := by decide +kernel
theorem dX8_goBack_7 : decode cX8_goBack 7 = .ok (.new 101, 3) := by decide +kernel
theorem dX8_goBack_10 : decode cX8_goBack 10 = .ok (.dup, 1) := by decide +kernel
theorem dX8_goBack_11 : decode cX8_goBack 11 = .ok (.ldc 239, 2) := by decide +kernel
theorem dX8_goBack_13 : decode cX8_goBack 13 = .ok (.invokespecial 105, 3) := by decide +kernel
theorem dX8_goBack_16 : decode cX8_goBack 16 = .ok (.athrow, 1) := by decide +kernel
theorem dX8_goBack_17 : decode cX8_goBack 17 = .ok (.aload_n 0, 1) := by decide +kernel
theorem dX8_goBack_18 : decode cX8_goBack 18 = .ok (.invokevirtual 106, 3) := by decide +kernel
theorem dX8_goBack_21 : decode cX8_goBack 21 = .ok (.aload_n 0, 1) := by decide +kernel
theorem dX8_goBack_22 : decode cX8_goBack 22 = .ok (.getfield 12, 3) := by decide +kernel
theorem dX8_goBack_25 : decode cX8_goBack 25 = .ok (.aload_n 0, 1) := by decide +kernel
theorem dX8_goBack_26 : decode cX8_goBack 26 = .ok (.getfield 23, 3) := by decide +kernel
theorem dX8_goBack_29 : decode cX8_goBack 29 = .ok (.invokevirtual 232, 3) := by decide +kernel
theorem dX8_goBack_32 : decode cX8_goBack 32 = .ok (.aload_n 0, 1) := by decide +kernel
theorem dX8_goBack_33 : decode cX8_goBack 33 = .ok (.getfield 12, 3) := by decide +kernel
theorem dX8_goBack_36 : decode cX8_goBack 36 = .ok (.getfield 81, 3) := by decide +kernel
theorem dX8_goBack_39 : decode cX8_goBack 39 = .ok (.ireturn, 1) := by decide +kernel
def fX8_goBack (μ : Mem) : Option ((Int32 ⊕ Nat) × Mem) :=
  if (μ 0 3) = 0 then
  some (.inr 3, μ)
  else
  bd (fX8_save μ) fun _ μ5 =>
  bd (fX6_copyFrom μ5 1 63) fun _ μ7 =>
  some (.inl (μ7 1 0), μ7)
theorem cxX8_goBack {l : Launch} {D : va_G} {cI cR : ClassId} {ad : Nat → Nat} {μ : Mem} (hl9 : l.stackTraces = false) {r : Int32 ⊕ Nat} {μ' : Mem} (hf : fX8_goBack μ = some (r, μ')) : CX l yX8_goBack cX8_goBack 1 (some .int) 7 1 D cI cR ad shX NX [.ref (ad 0)] μ (r.elim (fun r => .inl (some (.int r))) .inr) μ' :=
  cx_of (own := RX8) (ov := fun (r : Int32 ⊕ Nat) => (r.elim (fun r => .inl (some (.int r))) .inr)) hl9 (by decide +kernel) rfl (Nat.le_of_ble_eq_true rfl) (fun p e s m below meth c A0 E X hr => by
    refine ll_lo (lo' := [some (.ref (ad 0))]) ⟨rfl, trivial⟩ ?_
    rw [fX8_goBack]
    refine ll_aload_n E (pc := 0) dX8_goBack_0 rfl ?_
    refine ll_getf E (pc := 1) (o9 := 0) (ci := 8) (k9 := 3) dX8_goBack_1 fl_X8_235 (Nat.le_of_ble_eq_true rfl) fx_0_3 ?_
    refine ll_if_ne E (pc := 4) (tgt := 17) dX8_goBack_4 rfl ?_ ?_
    · refine ll_aload_n E (pc := 17) dX8_goBack_17 rfl ?_
      refine ll_callVv E (pc := 18) (d := 3) (ci := 8) (o9 := 0) [] [] dX8_goBack_18 cv_X8_106 (fun h => ctX8_save h) (Nat.le_of_ble_eq_true rfl) sx_0 ci_8 rfl rfl (Nat.le_of_ble_eq_true rfl) ⟨(Nat.le_of_ble_eq_true rfl), (Nat.le_of_ble_eq_true rfl)⟩ ⟨(Nat.le_of_ble_eq_true rfl), (Nat.le_of_ble_eq_true rfl)⟩ ?_
      intro r6 μ5
      refine ll_aload_n E (pc := 21) dX8_goBack_21 rfl ?_
      refine ll_getfr E (pc := 22) (o9 := 0) (ci := 8) (k9 := 0) (q := 1) dX8_goBack_22 fl_X8_12 (Nat.le_of_ble_eq_true rfl) fx_0_0 ?_
      refine ll_aload_n E (pc := 25) dX8_goBack_25 rfl ?_
      refine ll_getfr E (pc := 26) (o9 := 0) (ci := 8) (k9 := 2) (q := 63) dX8_goBack_26 fl_X8_23 (Nat.le_of_ble_eq_true rfl) fx_0_2 ?_
      refine ll_callVv E (pc := 29) (d := 1) (ci := 6) (o9 := 1) [.ref (ad 63)] [] dX8_goBack_29 cv_X8_232 (fun h => ctX6_copyFrom (pst_c 1 rfl) (pst_c 63 rfl) h) (Nat.le_of_ble_eq_true rfl) sx_1 ci_6 rfl rfl (Nat.le_of_ble_eq_true rfl) ⟨(Nat.le_of_ble_eq_true rfl), (Nat.le_of_ble_eq_true rfl)⟩ ⟨(Nat.le_of_ble_eq_true rfl), (Nat.le_of_ble_eq_true rfl)⟩ ?_
      intro r8 μ7
      refine ll_aload_n E (pc := 32) dX8_goBack_32 rfl ?_
      refine ll_getfr E (pc := 33) (o9 := 0) (ci := 8) (k9 := 0) (q := 1) dX8_goBack_33 fl_X8_12 (Nat.le_of_ble_eq_true rfl) fx_0_0 ?_
      refine ll_getf E (pc := 36) (o9 := 1) (ci := 6) (k9 := 0) dX8_goBack_36 fl_X8_81 (Nat.le_of_ble_eq_true rfl) fx_1_0 ?_
      exact ll_xireturn E (pc := 39) hr dX8_goBack_39 ⟨(Nat.le_of_ble_eq_true rfl), (Nat.le_of_ble_eq_true rfl)⟩
    · exact ll_throw E (pc := 7) (k := 3) (tx := "no snapshot") X (by decide) xw_3 (by decide +kernel) rfl dX8_goBack_7 dX8_goBack_10 dX8_goBack_11 dX8_goBack_13 dX8_goBack_16 ⟨(Nat.le_of_ble_eq_true rfl), (Nat.le_of_ble_eq_true rfl)⟩ (Nat.le_of_ble_eq_true rfl) ⟨(Nat.le_of_ble_eq_true rfl), (Nat.le_of_ble_eq_true rfl)⟩ ⟨(Nat.le_of_ble_eq_true rfl), (Nat.le_of_ble_eq_true rfl)⟩) hf
theorem dX8_steps_0 : decode cX8_steps 0 = .ok (.aload_n 0, 1) := by decide +kernel
theorem dX8_steps_1 : decode cX8_steps 1 = .ok (.getfield 12, 3) := by decide +kernel
theorem dX8_steps_4 : decode cX8_steps 4 = .ok (.getfield 81, 3) := by decide +kernel
theorem dX8_steps_7 : decode cX8_steps 7 = .ok (.ireturn, 1) := by decide +kernel
def fX8_steps (μ : Mem) : Option (Int32 × Mem) :=
  some ((μ 1 0), μ)
theorem ctX8_steps {l : Launch} {D : va_G} {cI cR : ClassId} {ad : Nat → Nat} {μ : Mem} {r : Int32} {μ' : Mem} (hf : fX8_steps μ = some (r, μ')) : CT l yX8_steps cX8_steps 1 (some .int) 0 D cI cR ad shX NX [.ref (ad 0)] μ (some (.int r)) μ' :=
  ct_of (own := RX8) (ov := fun r => some (.int r)) (by decide +kernel) rfl (Nat.le_of_ble_eq_true rfl) (fun p e s m below meth c A0 E hr => by
    refine ll_lo (lo' := [some (.ref (ad 0))]) ⟨rfl, trivial⟩ ?_
    rw [fX8_steps]
    refine ll_aload_n E (pc := 0) dX8_steps_0 rfl ?_
    refine ll_getfr E (pc := 1) (o9 := 0) (ci := 8) (k9 := 0) (q := 1) dX8_steps_1 fl_X8_12 (Nat.le_of_ble_eq_true rfl) fx_0_0 ?_
    refine ll_getf E (pc := 4) (o9 := 1) (ci := 6) (k9 := 0) dX8_steps_4 fl_X8_81 (Nat.le_of_ble_eq_true rfl) fx_1_0 ?_
    exact ll_ireturn E (pc := 7) hr dX8_steps_7) hf
theorem dX8_kindOf_0 : decode cX8_kindOf 0 = .ok (.aload_n 0, 1) := by decide +kernel
theorem dX8_kindOf_1 : decode cX8_kindOf 1 = .ok (.iload_n 1, 1) := by decide +kernel
theorem dX8_kindOf_2 : decode cX8_kindOf 2 = .ok (.invokevirtual 113, 3) := by decide +kernel
theorem dX8_kindOf_5 : decode cX8_kindOf 5 = .ok (.aload_n 0, 1) := by decide +kernel
theorem dX8_kindOf_6 : decode cX8_kindOf 6 = .ok (.getfield 12, 3) := by decide +kernel
theorem dX8_kindOf_9 : decode cX8_kindOf 9 = .ok (.getfield 241, 3) := by decide +kernel
theorem dX8_kindOf_12 : decode cX8_kindOf 12 = .ok (.iload_n 1, 1) := by decide +kernel
theorem dX8_kindOf_13 : decode cX8_kindOf 13 = .ok (.iaload, 1) := by decide +kernel
theorem dX8_kindOf_14 : decode cX8_kindOf 14 = .ok (.ireturn, 1) := by decide +kernel
def fX8_kindOf (μ : Mem) (a1 : Int32) : Option ((Int32 ⊕ Nat) × Mem) :=
  bx (fX8_checkStep μ a1) fun _ μ4 =>
  (ld 20 (μ4 2) a1).bind fun r6 =>
  some (.inl r6, μ4)
theorem cxX8_kindOf {l : Launch} {D : va_G} {cI cR : ClassId} {ad : Nat → Nat} {μ : Mem} {a1 : Int32} (hl9 : l.stackTraces = false) {r : Int32 ⊕ Nat} {μ' : Mem} (hf : fX8_kindOf μ a1 = some (r, μ')) : CX l yX8_kindOf cX8_kindOf 2 (some .int) 8 1 D cI cR ad shX NX [.ref (ad 0), .int a1] μ (r.elim (fun r => .inl (some (.int r))) .inr) μ' :=
  cx_of (own := RX8) (ov := fun (r : Int32 ⊕ Nat) => (r.elim (fun r => .inl (some (.int r))) .inr)) hl9 (by decide +kernel) rfl (Nat.le_of_ble_eq_true rfl) (fun p e s m below meth c A0 E X hr => by
    refine ll_lo (lo' := [some (.ref (ad 0)), some (.int a1)]) ⟨rfl, rfl, trivial⟩ ?_
    rw [fX8_kindOf]
    refine ll_aload_n E (pc := 0) dX8_kindOf_0 rfl ?_
    refine ll_iload_n E (pc := 1) dX8_kindOf_1 rfl ?_
    refine ll_xcallVv E X (pc := 2) (d := 7) (mc1 := 1) (mc := 1) (ci := 8) (o9 := 0) [.int a1] [] dX8_kindOf_2 cv_X8_113 (fun h => cxX8_checkStep X.1 h) (Nat.le_of_ble_eq_true rfl) sx_0 ci_8 rfl rfl (Nat.le_of_ble_eq_true rfl) ⟨(Nat.le_of_ble_eq_true rfl), (Nat.le_of_ble_eq_true rfl)⟩ ⟨(Nat.le_of_ble_eq_true rfl), (Nat.le_of_ble_eq_true rfl)⟩ ⟨(Nat.le_of_ble_eq_true rfl), (Nat.le_of_ble_eq_true rfl)⟩ ?_
    intro r5 μ4
    refine ll_aload_n E (pc := 5) dX8_kindOf_5 rfl ?_
    refine ll_getfr E (pc := 6) (o9 := 0) (ci := 8) (k9 := 0) (q := 1) dX8_kindOf_6 fl_X8_12 (Nat.le_of_ble_eq_true rfl) fx_0_0 ?_
    refine ll_getfr E (pc := 9) (o9 := 1) (ci := 6) (k9 := 1) (q := 2) dX8_kindOf_9 fl_X8_241 (Nat.le_of_ble_eq_true rfl) fx_1_1 ?_
    refine ll_iload_n E (pc := 12) dX8_kindOf_12 rfl ?_
    refine ll_iald E (pc := 13) (a := 2) dX8_kindOf_13 (px_2).1 (px_2).2 ?_
    intro r6
    exact ll_xireturn E (pc := 14) hr dX8_kindOf_14 ⟨(Nat.le_of_ble_eq_true rfl), (Nat.le_of_ble_eq_true rfl)⟩) hf
theorem dX8_readBy_0 : decode cX8_readBy 0 = .ok (.aload_n 0, 1) := by decide +kernel
theorem dX8_readBy_1 : decode cX8_readBy 1 = .ok (.iload_n 1, 1) := by decide +kernel
theorem dX8_readBy_2 : decode cX8_readBy 2 = .ok (.invokevirtual 113, 3) := by decide +kernel
theorem dX8_readBy_5 : decode cX8_readBy 5 = .ok (.aload_n 0, 1) := by decide +kernel
theorem dX8_readBy_6 : decode cX8_readBy 6 = .ok (.getfield 12, 3) := by decide +kernel
theorem dX8_readBy_9 : decode cX8_readBy 9 = .ok (.iload_n 1, 1) := by decide +kernel
theorem dX8_readBy_10 : decode cX8_readBy 10 = .ok (.invokevirtual 244, 3) := by decide +kernel
theorem dX8_readBy_13 : decode cX8_readBy 13 = .ok (.ireturn, 1) := by decide +kernel
def fX8_readBy (μ : Mem) (a1 : Int32) : Option ((Int32 ⊕ Nat) × Mem) :=
  bx (fX8_checkStep μ a1) fun _ μ5 =>
  bd (fX6_readsOf μ5 a1) fun r8 μ7 =>
  some (.inl r8, μ7)
theorem cxX8_readBy {l : Launch} {D : va_G} {cI cR : ClassId} {ad : Nat → Nat} {μ : Mem} {a1 : Int32} (hl9 : l.stackTraces = false) {r : Int32 ⊕ Nat} {μ' : Mem} (hf : fX8_readBy μ a1 = some (r, μ')) : CX l yX8_readBy cX8_readBy 2 (some .int) 8 1 D cI cR ad shX NX [.ref (ad 0), .int a1] μ (r.elim (fun r => .inl (some (.int r))) .inr) μ' :=
  cx_of (own := RX8) (ov := fun (r : Int32 ⊕ Nat) => (r.elim (fun r => .inl (some (.int r))) .inr)) hl9 (by decide +kernel) rfl (Nat.le_of_ble_eq_true rfl) (fun p e s m below meth c A0 E X hr => by
    refine ll_lo (lo' := [some (.ref (ad 0)), some (.int a1)]) ⟨rfl, rfl, trivial⟩ ?_
    rw [fX8_readBy]
    refine ll_aload_n E (pc := 0) dX8_readBy_0 rfl ?_
    refine ll_iload_n E (pc := 1) dX8_readBy_1 rfl ?_
    refine ll_xcallVv E X (pc := 2) (d := 7) (mc1 := 1) (mc := 1) (ci := 8) (o9 := 0) [.int a1] [] dX8_readBy_2 cv_X8_113 (fun h => cxX8_checkStep X.1 h) (Nat.le_of_ble_eq_true rfl) sx_0 ci_8 rfl rfl (Nat.le_of_ble_eq_true rfl) ⟨(Nat.le_of_ble_eq_true rfl), (Nat.le_of_ble_eq_true rfl)⟩ ⟨(Nat.le_of_ble_eq_true rfl), (Nat.le_of_ble_eq_true rfl)⟩ ⟨(Nat.le_of_ble_eq_true rfl), (Nat.le_of_ble_eq_true rfl)⟩ ?_
    intro r6 μ5
    refine ll_aload_n E (pc := 5) dX8_readBy_5 rfl ?_
    refine ll_getfr E (pc := 6) (o9 := 0) (ci := 8) (k9 := 0) (q := 1) dX8_readBy_6 fl_X8_12 (Nat.le_of_ble_eq_true rfl) fx_0_0 ?_
    refine ll_iload_n E (pc := 9) dX8_readBy_9 rfl ?_
    refine ll_callVi E (pc := 10) (d := 0) (ci := 6) (o9 := 1) [.int a1] [] dX8_readBy_10 cv_X8_244 (fun h => ctX6_readsOf h) (Nat.le_of_ble_eq_true rfl) sx_1 ci_6 rfl rfl (Nat.le_of_ble_eq_true rfl) ⟨(Nat.le_of_ble_eq_true rfl), (Nat.le_of_ble_eq_true rfl)⟩ ⟨(Nat.le_of_ble_eq_true rfl), (Nat.le_of_ble_eq_true rfl)⟩ ?_
    intro r8 μ7
    exact ll_xireturn E (pc := 13) hr dX8_readBy_13 ⟨(Nat.le_of_ble_eq_true rfl), (Nat.le_of_ble_eq_true rfl)⟩) hf
theorem dX8_writtenBy_0 : decode cX8_writtenBy 0 = .ok (.aload_n 0, 1) := by decide +kernel
theorem dX8_writtenBy_1 : decode cX8_writtenBy 1 = .ok (.iload_n 1, 1) := by decide +kernel
theorem dX8_writtenBy_2 : decode cX8_writtenBy 2 = .ok (.invokevirtual 113, 3) := by decide +kernel
theorem dX8_writtenBy_5 : decode cX8_writtenBy 5 = .ok (.aload_n 0, 1) := by decide +kernel
theorem dX8_writtenBy_6 : decode cX8_writtenBy 6 = .ok (.getfield 12, 3) := by decide +kernel
theorem dX8_writtenBy_9 : decode cX8_writtenBy 9 = .ok (.iload_n 1, 1) := by decide +kernel
theorem dX8_writtenBy_10 : decode cX8_writtenBy 10 = .ok (.invokevirtual 248, 3) := by decide +kernel
theorem dX8_writtenBy_13 : decode cX8_writtenBy 13 = .ok (.ireturn, 1) := by decide +kernel
def fX8_writtenBy (μ : Mem) (a1 : Int32) : Option ((Int32 ⊕ Nat) × Mem) :=
  bx (fX8_checkStep μ a1) fun _ μ5 =>
  bd (fX6_writesOf μ5 a1) fun r8 μ7 =>
  some (.inl r8, μ7)
theorem cxX8_writtenBy {l : Launch} {D : va_G} {cI cR : ClassId} {ad : Nat → Nat} {μ : Mem} {a1 : Int32} (hl9 : l.stackTraces = false) {r : Int32 ⊕ Nat} {μ' : Mem} (hf : fX8_writtenBy μ a1 = some (r, μ')) : CX l yX8_writtenBy cX8_writtenBy 2 (some .int) 8 1 D cI cR ad shX NX [.ref (ad 0), .int a1] μ (r.elim (fun r => .inl (some (.int r))) .inr) μ' :=
  cx_of (own := RX8) (ov := fun (r : Int32 ⊕ Nat) => (r.elim (fun r => .inl (some (.int r))) .inr)) hl9 (by decide +kernel) rfl (Nat.le_of_ble_eq_true rfl) (fun p e s m below meth c A0 E X hr => by
    refine ll_lo (lo' := [some (.ref (ad 0)), some (.int a1)]) ⟨rfl, rfl, trivial⟩ ?_
    rw [fX8_writtenBy]
    refine ll_aload_n E (pc := 0) dX8_writtenBy_0 rfl ?_
    refine ll_iload_n E (pc := 1) dX8_writtenBy_1 rfl ?_
    refine ll_xcallVv E X (pc := 2) (d := 7) (mc1 := 1) (mc := 1) (ci := 8) (o9 := 0) [.int a1] [] dX8_writtenBy_2 cv_X8_113 (fun h => cxX8_checkStep X.1 h) (Nat.le_of_ble_eq_true rfl) sx_0 ci_8 rfl rfl (Nat.le_of_ble_eq_true rfl) ⟨(Nat.le_of_ble_eq_true rfl), (Nat.le_of_ble_eq_true rfl)⟩ ⟨(Nat.le_of_ble_eq_true rfl), (Nat.le_of_ble_eq_true rfl)⟩ ⟨(Nat.le_of_ble_eq_true rfl), (Nat.le_of_ble_eq_true rfl)⟩ ?_
    intro r6 μ5
    refine ll_aload_n E (pc := 5) dX8_writtenBy_5 rfl ?_
    refine ll_getfr E (pc := 6) (o9 := 0) (ci := 8) (k9 := 0) (q := 1) dX8_writtenBy_6 fl_X8_12 (Nat.le_of_ble_eq_true rfl) fx_0_0 ?_
    refine ll_iload_n E (pc := 9) dX8_writtenBy_9 rfl ?_
    refine ll_callVi E (pc := 10) (d := 0) (ci := 6) (o9 := 1) [.int a1] [] dX8_writtenBy_10 cv_X8_248 (fun h => ctX6_writesOf h) (Nat.le_of_ble_eq_true rfl) sx_1 ci_6 rfl rfl (Nat.le_of_ble_eq_true rfl) ⟨(Nat.le_of_ble_eq_true rfl), (Nat.le_of_ble_eq_true rfl)⟩ ⟨(Nat.le_of_ble_eq_true rfl), (Nat.le_of_ble_eq_true rfl)⟩ ?_
    intro r8 μ7
    exact ll_xireturn E (pc := 13) hr dX8_writtenBy_13 ⟨(Nat.le_of_ble_eq_true rfl), (Nat.le_of_ble_eq_true rfl)⟩) hf
theorem dX8_latencyOf_0 : decode cX8_latencyOf 0 = .ok (.aload_n 0, 1) := by decide +kernel
theorem dX8_latencyOf_1 : decode cX8_latencyOf 1 = .ok (.iload_n 1, 1) := by decide +kernel
theorem dX8_latencyOf_2 : decode cX8_latencyOf 2 = .ok (.invokevirtual 113, 3) := by decide +kernel
theorem dX8_latencyOf_5 : decode cX8_latencyOf 5 = .ok (.aload_n 0, 1) := by decide +kernel
theorem dX8_latencyOf_6 : decode cX8_latencyOf 6 = .ok (.getfield 12, 3) := by decide +kernel
theorem dX8_latencyOf_9 : decode cX8_latencyOf 9 = .ok (.iload_n 1, 1) := by decide +kernel
theorem dX8_latencyOf_10 : decode cX8_latencyOf 10 = .ok (.invokevirtual 251, 3) := by decide +kernel
theorem dX8_latencyOf_13 : decode cX8_latencyOf 13 = .ok (.ireturn, 1) := by decide +kernel
def fX8_latencyOf (μ : Mem) (a1 : Int32) : Option ((Int32 ⊕ Nat) × Mem) :=
  bx (fX8_checkStep μ a1) fun _ μ5 =>
  bd (fX6_lengthOf μ5 a1) fun r8 μ7 =>
  some (.inl r8, μ7)
theorem cxX8_latencyOf {l : Launch} {D : va_G} {cI cR : ClassId} {ad : Nat → Nat} {μ : Mem} {a1 : Int32} (hl9 : l.stackTraces = false) {r : Int32 ⊕ Nat} {μ' : Mem} (hf : fX8_latencyOf μ a1 = some (r, μ')) : CX l yX8_latencyOf cX8_latencyOf 2 (some .int) 8 1 D cI cR ad shX NX [.ref (ad 0), .int a1] μ (r.elim (fun r => .inl (some (.int r))) .inr) μ' :=
  cx_of (own := RX8) (ov := fun (r : Int32 ⊕ Nat) => (r.elim (fun r => .inl (some (.int r))) .inr)) hl9 (by decide +kernel) rfl (Nat.le_of_ble_eq_true rfl) (fun p e s m below meth c A0 E X hr => by
    refine ll_lo (lo' := [some (.ref (ad 0)), some (.int a1)]) ⟨rfl, rfl, trivial⟩ ?_
    rw [fX8_latencyOf]
    refine ll_aload_n E (pc := 0) dX8_latencyOf_0 rfl ?_
    refine ll_iload_n E (pc := 1) dX8_latencyOf_1 rfl ?_
    refine ll_xcallVv E X (pc := 2) (d := 7) (mc1 := 1) (mc := 1) (ci := 8) (o9 := 0) [.int a1] [] dX8_latencyOf_2 cv_X8_113 (fun h => cxX8_checkStep X.1 h) (Nat.le_of_ble_eq_true rfl) sx_0 ci_8 rfl rfl (Nat.le_of_ble_eq_true rfl) ⟨(Nat.le_of_ble_eq_true rfl), (Nat.le_of_ble_eq_true rfl)⟩ ⟨(Nat.le_of_ble_eq_true rfl), (Nat.le_of_ble_eq_true rfl)⟩ ⟨(Nat.le_of_ble_eq_true rfl), (Nat.le_of_ble_eq_true rfl)⟩ ?_
    intro r6 μ5
    refine ll_aload_n E (pc := 5) dX8_latencyOf_5 rfl ?_
    refine ll_getfr E (pc := 6) (o9 := 0) (ci := 8) (k9 := 0) (q := 1) dX8_latencyOf_6 fl_X8_12 (Nat.le_of_ble_eq_true rfl) fx_0_0 ?_
    refine ll_iload_n E (pc := 9) dX8_latencyOf_9 rfl ?_
    refine ll_callVi E (pc := 10) (d := 2) (ci := 6) (o9 := 1) [.int a1] [] dX8_latencyOf_10 cv_X8_251 (fun h => ctX6_lengthOf h) (Nat.le_of_ble_eq_true rfl) sx_1 ci_6 rfl rfl (Nat.le_of_ble_eq_true rfl) ⟨(Nat.le_of_ble_eq_true rfl), (Nat.le_of_ble_eq_true rfl)⟩ ⟨(Nat.le_of_ble_eq_true rfl), (Nat.le_of_ble_eq_true rfl)⟩ ?_
    intro r8 μ7
    exact ll_xireturn E (pc := 13) hr dX8_latencyOf_13 ⟨(Nat.le_of_ble_eq_true rfl), (Nat.le_of_ble_eq_true rfl)⟩) hf
theorem dX8_separation_0 : decode cX8_separation 0 = .ok (.aload_n 0, 1) := by decide +kernel
theorem dX8_separation_1 : decode cX8_separation 1 = .ok (.iload_n 1, 1) := by decide +kernel
theorem dX8_separation_2 : decode cX8_separation 2 = .ok (.invokevirtual 113, 3) := by decide +kernel
theorem dX8_separation_5 : decode cX8_separation 5 = .ok (.aload_n 0, 1) := by decide +kernel
theorem dX8_separation_6 : decode cX8_separation 6 = .ok (.iload_n 2, 1) := by decide +kernel
theorem dX8_separation_7 : decode cX8_separation 7 = .ok (.invokevirtual 113, 3) := by decide +kernel
theorem dX8_separation_10 : decode cX8_separation 10 = .ok (.aload_n 0, 1) := by decide +kernel
theorem dX8_separation_11 : decode cX8_separation 11 = .ok (.invokevirtual 124, 3) := by decide +kernel
theorem dX8_separation_14 : decode cX8_separation 14 = .ok (.iload_n 1, 1) := by decide +kernel
theorem dX8_separation_15 : decode cX8_separation 15 = .ok (.iload_n 2, 1) := by decide +kernel
theorem dX8_separation_16 : decode cX8_separation 16 = .ok (.invokevirtual 137, 3) := by decide +kernel
theorem dX8_separation_19 : decode cX8_separation 19 = .ok (.ireturn, 1) := by decide +kernel
def fX8_separation (μ : Mem) (a1 : Int32) (a2 : Int32) : Option ((Int32 ⊕ Nat) × Mem) :=
  bx (fX8_checkStep μ a1) fun _ μ9 =>
  bx (fX8_checkStep μ9 a2) fun _ μ11 =>
  bd (fX8_freshLinks μ11) fun _ μ13 =>
  bd (fX2_nearOf μ13 a1 a2) fun r16 μ15 =>
  some (.inl r16, μ15)
theorem cxX8_separation {l : Launch} {D : va_G} {cI cR : ClassId} {ad : Nat → Nat} {μ : Mem} {a1 : Int32} {a2 : Int32} (hl9 : l.stackTraces = false) {r : Int32 ⊕ Nat} {μ' : Mem} (hf : fX8_separation μ a1 a2 = some (r, μ')) : CX l yX8_separation cX8_separation 3 (some .int) 8 2 D cI cR ad shX NX [.ref (ad 0), .int a1, .int a2] μ (r.elim (fun r => .inl (some (.int r))) .inr) μ' :=
  cx_of (own := RX8) (ov := fun (r : Int32 ⊕ Nat) => (r.elim (fun r => .inl (some (.int r))) .inr)) hl9 (by decide +kernel) rfl (Nat.le_of_ble_eq_true rfl) (fun p e s m below meth c A0 E X hr => by
    refine ll_lo (lo' := [some (.ref (ad 0)), some (.int a1), some (.int a2)]) ⟨rfl, rfl, rfl, trivial⟩ ?_
    rw [fX8_separation]
    refine ll_aload_n E (pc := 0) dX8_separation_0 rfl ?_
    refine ll_iload_n E (pc := 1) dX8_separation_1 rfl ?_
    refine ll_xcallVv E X (pc := 2) (d := 7) (mc1 := 1) (mc := 2) (ci := 8) (o9 := 0) [.int a1] [] dX8_separation_2 cv_X8_113 (fun h => cxX8_checkStep X.1 h) (Nat.le_of_ble_eq_true rfl) sx_0 ci_8 rfl rfl (Nat.le_of_ble_eq_true rfl) ⟨(Nat.le_of_ble_eq_true rfl), (Nat.le_of_ble_eq_true rfl)⟩ ⟨(Nat.le_of_ble_eq_true rfl), (Nat.le_of_ble_eq_true rfl)⟩ ⟨(Nat.le_of_ble_eq_true rfl), (Nat.le_of_ble_eq_true rfl)⟩ ?_
    intro r10 μ9
    refine ll_aload_n E (pc := 5) dX8_separation_5 rfl ?_
    refine ll_iload_n E (pc := 6) dX8_separation_6 rfl ?_
    refine ll_xcallVv E X (pc := 7) (d := 7) (mc1 := 1) (mc := 2) (ci := 8) (o9 := 0) [.int a2] [] dX8_separation_7 cv_X8_113 (fun h => cxX8_checkStep X.1 h) (Nat.le_of_ble_eq_true rfl) sx_0 ci_8 rfl rfl (Nat.le_of_ble_eq_true rfl) ⟨(Nat.le_of_ble_eq_true rfl), (Nat.le_of_ble_eq_true rfl)⟩ ⟨(Nat.le_of_ble_eq_true rfl), (Nat.le_of_ble_eq_true rfl)⟩ ⟨(Nat.le_of_ble_eq_true rfl), (Nat.le_of_ble_eq_true rfl)⟩ ?_
    intro r12 μ11
    refine ll_aload_n E (pc := 10) dX8_separation_10 rfl ?_
    refine ll_callVr E (pc := 11) (d := 4) (ci := 8) (o9 := 0) [] [] dX8_separation_11 cv_X8_124 (fun h => ctX8_freshLinks h) (Nat.le_of_ble_eq_true rfl) sx_0 ci_8 rfl rfl (Nat.le_of_ble_eq_true rfl) ⟨(Nat.le_of_ble_eq_true rfl), (Nat.le_of_ble_eq_true rfl)⟩ ⟨(Nat.le_of_ble_eq_true rfl), (Nat.le_of_ble_eq_true rfl)⟩ ?_
    intro r14 μ13
    refine ll_iload_n E (pc := 14) dX8_separation_14 rfl ?_
    refine ll_iload_n E (pc := 15) dX8_separation_15 rfl ?_
    refine ll_callVi E (pc := 16) (d := 0) (ci := 2) (o9 := 75) [.int a1, .int a2] [] dX8_separation_16 cv_X8_137 (fun h => ctX2_nearOf h) (Nat.le_of_ble_eq_true rfl) sx_75 ci_2 rfl rfl (Nat.le_of_ble_eq_true rfl) ⟨(Nat.le_of_ble_eq_true rfl), (Nat.le_of_ble_eq_true rfl)⟩ ⟨(Nat.le_of_ble_eq_true rfl), (Nat.le_of_ble_eq_true rfl)⟩ ?_
    intro r16 μ15
    exact ll_xireturn E (pc := 19) hr dX8_separation_19 ⟨(Nat.le_of_ble_eq_true rfl), (Nat.le_of_ble_eq_true rfl)⟩) hf
theorem dX8_carried_0 : decode cX8_carried 0 = .ok (.aload_n 0, 1) := by decide +kernel
theorem dX8_carried_1 : decode cX8_carried 1 = .ok (.iload_n 1, 1) := by decide +kernel
theorem dX8_carried_2 : decode cX8_carried 2 = .ok (.invokevirtual 113, 3) := by decide +kernel
theorem dX8_carried_5 : decode cX8_carried 5 = .ok (.aload_n 0, 1) := by decide +kernel
theorem dX8_carried_6 : decode cX8_carried 6 = .ok (.iload_n 2, 1) := by decide +kernel
theorem dX8_carried_7 : decode cX8_carried 7 = .ok (.invokevirtual 113, 3) := by decide +kernel
theorem dX8_carried_10 : decode cX8_carried 10 = .ok (.aload_n 0, 1) := by decide +kernel
theorem dX8_carried_11 : decode cX8_carried 11 = .ok (.invokevirtual 124, 3) := by decide +kernel
theorem dX8_carried_14 : decode cX8_carried 14 = .ok (.iload_n 1, 1) := by decide +kernel
theorem dX8_carried_15 : decode cX8_carried 15 = .ok (.iload_n 2, 1) := by decide +kernel
theorem dX8_carried_16 : decode cX8_carried 16 = .ok (.invokevirtual 254, 3) := by decide +kernel
theorem dX8_carried_19 : decode cX8_carried 19 = .ok (.ireturn, 1) := by decide +kernel
def fX8_carried (μ : Mem) (a1 : Int32) (a2 : Int32) : Option ((Int32 ⊕ Nat) × Mem) :=
  bx (fX8_checkStep μ a1) fun _ μ9 =>
  bx (fX8_checkStep μ9 a2) fun _ μ11 =>
  bd (fX8_freshLinks μ11) fun _ μ13 =>
  bd (fX2_overOf μ13 a1 a2) fun r16 μ15 =>
  some (.inl r16, μ15)
theorem cxX8_carried {l : Launch} {D : va_G} {cI cR : ClassId} {ad : Nat → Nat} {μ : Mem} {a1 : Int32} {a2 : Int32} (hl9 : l.stackTraces = false) {r : Int32 ⊕ Nat} {μ' : Mem} (hf : fX8_carried μ a1 a2 = some (r, μ')) : CX l yX8_carried cX8_carried 3 (some .int) 8 2 D cI cR ad shX NX [.ref (ad 0), .int a1, .int a2] μ (r.elim (fun r => .inl (some (.int r))) .inr) μ' :=
  cx_of (own := RX8) (ov := fun (r : Int32 ⊕ Nat) => (r.elim (fun r => .inl (some (.int r))) .inr)) hl9 (by decide +kernel) rfl (Nat.le_of_ble_eq_true rfl) (fun p e s m below meth c A0 E X hr => by
    refine ll_lo (lo' := [some (.ref (ad 0)), some (.int a1), some (.int a2)]) ⟨rfl, rfl, rfl, trivial⟩ ?_
    rw [fX8_carried]
    refine ll_aload_n E (pc := 0) dX8_carried_0 rfl ?_
    refine ll_iload_n E (pc := 1) dX8_carried_1 rfl ?_
    refine ll_xcallVv E X (pc := 2) (d := 7) (mc1 := 1) (mc := 2) (ci := 8) (o9 := 0) [.int a1] [] dX8_carried_2 cv_X8_113 (fun h => cxX8_checkStep X.1 h) (Nat.le_of_ble_eq_true rfl) sx_0 ci_8 rfl rfl (Nat.le_of_ble_eq_true rfl) ⟨(Nat.le_of_ble_eq_true rfl), (Nat.le_of_ble_eq_true rfl)⟩ ⟨(Nat.le_of_ble_eq_true rfl), (Nat.le_of_ble_eq_true rfl)⟩ ⟨(Nat.le_of_ble_eq_true rfl), (Nat.le_of_ble_eq_true rfl)⟩ ?_
    intro r10 μ9
    refine ll_aload_n E (pc := 5) dX8_carried_5 rfl ?_
    refine ll_iload_n E (pc := 6) dX8_carried_6 rfl ?_
    refine ll_xcallVv E X (pc := 7) (d := 7) (mc1 := 1) (mc := 2) (ci := 8) (o9 := 0) [.int a2] [] dX8_carried_7 cv_X8_113 (fun h => cxX8_checkStep X.1 h) (Nat.le_of_ble_eq_true rfl) sx_0 ci_8 rfl rfl (Nat.le_of_ble_eq_true rfl) ⟨(Nat.le_of_ble_eq_true rfl), (Nat.le_of_ble_eq_true rfl)⟩ ⟨(Nat.le_of_ble_eq_true rfl), (Nat.le_of_ble_eq_true rfl)⟩ ⟨(Nat.le_of_ble_eq_true rfl), (Nat.le_of_ble_eq_true rfl)⟩ ?_
    intro r12 μ11
    refine ll_aload_n E (pc := 10) dX8_carried_10 rfl ?_
    refine ll_callVr E (pc := 11) (d := 4) (ci := 8) (o9 := 0) [] [] dX8_carried_11 cv_X8_124 (fun h => ctX8_freshLinks h) (Nat.le_of_ble_eq_true rfl) sx_0 ci_8 rfl rfl (Nat.le_of_ble_eq_true rfl) ⟨(Nat.le_of_ble_eq_true rfl), (Nat.le_of_ble_eq_true rfl)⟩ ⟨(Nat.le_of_ble_eq_true rfl), (Nat.le_of_ble_eq_true rfl)⟩ ?_
    intro r14 μ13
    refine ll_iload_n E (pc := 14) dX8_carried_14 rfl ?_
    refine ll_iload_n E (pc := 15) dX8_carried_15 rfl ?_
    refine ll_callVi E (pc := 16) (d := 0) (ci := 2) (o9 := 75) [.int a1, .int a2] [] dX8_carried_16 cv_X8_254 (fun h => ctX2_overOf h) (Nat.le_of_ble_eq_true rfl) sx_75 ci_2 rfl rfl (Nat.le_of_ble_eq_true rfl) ⟨(Nat.le_of_ble_eq_true rfl), (Nat.le_of_ble_eq_true rfl)⟩ ⟨(Nat.le_of_ble_eq_true rfl), (Nat.le_of_ble_eq_true rfl)⟩ ?_
    intro r16 μ15
    exact ll_xireturn E (pc := 19) hr dX8_carried_19 ⟨(Nat.le_of_ble_eq_true rfl), (Nat.le_of_ble_eq_true rfl)⟩) hf
theorem dX8_heightOf_0 : decode cX8_heightOf 0 = .ok (.aload_n 0, 1) := by decide +kernel
theorem dX8_heightOf_1 : decode cX8_heightOf 1 = .ok (.iload_n 1, 1) := by decide +kernel
theorem dX8_heightOf_2 : decode cX8_heightOf 2 = .ok (.invokevirtual 113, 3) := by decide +kernel
theorem dX8_heightOf_5 : decode cX8_heightOf 5 = .ok (.aload_n 0, 1) := by decide +kernel
theorem dX8_heightOf_6 : decode cX8_heightOf 6 = .ok (.invokevirtual 124, 3) := by decide +kernel
theorem dX8_heightOf_9 : decode cX8_heightOf 9 = .ok (.getfield 257, 3) := by decide +kernel
theorem dX8_heightOf_12 : decode cX8_heightOf 12 = .ok (.iload_n 1, 1) := by decide +kernel
theorem dX8_heightOf_13 : decode cX8_heightOf 13 = .ok (.iaload, 1) := by decide +kernel
theorem dX8_heightOf_14 : decode cX8_heightOf 14 = .ok (.ireturn, 1) := by decide +kernel
def fX8_heightOf (μ : Mem) (a1 : Int32) : Option ((Int32 ⊕ Nat) × Mem) :=
  bx (fX8_checkStep μ a1) fun _ μ6 =>
  bd (fX8_freshLinks μ6) fun _ μ8 =>
  (ld 20 (μ8 81) a1).bind fun r10 =>
  some (.inl r10, μ8)
theorem cxX8_heightOf {l : Launch} {D : va_G} {cI cR : ClassId} {ad : Nat → Nat} {μ : Mem} {a1 : Int32} (hl9 : l.stackTraces = false) {r : Int32 ⊕ Nat} {μ' : Mem} (hf : fX8_heightOf μ a1 = some (r, μ')) : CX l yX8_heightOf cX8_heightOf 2 (some .int) 8 1 D cI cR ad shX NX [.ref (ad 0), .int a1] μ (r.elim (fun r => .inl (some (.int r))) .inr) μ' :=
  cx_of (own := RX8) (ov := fun (r : Int32 ⊕ Nat) => (r.elim (fun r => .inl (some (.int r))) .inr)) hl9 (by decide +kernel) rfl (Nat.le_of_ble_eq_true rfl) (fun p e s m below meth c A0 E X hr => by
    refine ll_lo (lo' := [some (.ref (ad 0)), some (.int a1)]) ⟨rfl, rfl, trivial⟩ ?_
    rw [fX8_heightOf]
    refine ll_aload_n E (pc := 0) dX8_heightOf_0 rfl ?_
    refine ll_iload_n E (pc := 1) dX8_heightOf_1 rfl ?_
    refine ll_xcallVv E X (pc := 2) (d := 7) (mc1 := 1) (mc := 1) (ci := 8) (o9 := 0) [.int a1] [] dX8_heightOf_2 cv_X8_113 (fun h => cxX8_checkStep X.1 h) (Nat.le_of_ble_eq_true rfl) sx_0 ci_8 rfl rfl (Nat.le_of_ble_eq_true rfl) ⟨(Nat.le_of_ble_eq_true rfl), (Nat.le_of_ble_eq_true rfl)⟩ ⟨(Nat.le_of_ble_eq_true rfl), (Nat.le_of_ble_eq_true rfl)⟩ ⟨(Nat.le_of_ble_eq_true rfl), (Nat.le_of_ble_eq_true rfl)⟩ ?_
    intro r7 μ6
    refine ll_aload_n E (pc := 5) dX8_heightOf_5 rfl ?_
    refine ll_callVr E (pc := 6) (d := 4) (ci := 8) (o9 := 0) [] [] dX8_heightOf_6 cv_X8_124 (fun h => ctX8_freshLinks h) (Nat.le_of_ble_eq_true rfl) sx_0 ci_8 rfl rfl (Nat.le_of_ble_eq_true rfl) ⟨(Nat.le_of_ble_eq_true rfl), (Nat.le_of_ble_eq_true rfl)⟩ ⟨(Nat.le_of_ble_eq_true rfl), (Nat.le_of_ble_eq_true rfl)⟩ ?_
    intro r9 μ8
    refine ll_getfr E (pc := 9) (o9 := 75) (ci := 2) (k9 := 6) (q := 81) dX8_heightOf_9 fl_X8_257 (Nat.le_of_ble_eq_true rfl) fx_75_6 ?_
    refine ll_iload_n E (pc := 12) dX8_heightOf_12 rfl ?_
    refine ll_iald E (pc := 13) (a := 81) dX8_heightOf_13 (px_81).1 (px_81).2 ?_
    intro r10
    exact ll_xireturn E (pc := 14) hr dX8_heightOf_14 ⟨(Nat.le_of_ble_eq_true rfl), (Nat.le_of_ble_eq_true rfl)⟩) hf
theorem dX8_earliestOf_0 : decode cX8_earliestOf 0 = .ok (.aload_n 0, 1) := by decide +kernel
theorem dX8_earliestOf_1 : decode cX8_earliestOf 1 = .ok (.iload_n 1, 1) := by decide +kernel
theorem dX8_earliestOf_2 : decode cX8_earliestOf 2 = .ok (.invokevirtual 113, 3) := by decide +kernel
theorem dX8_earliestOf_5 : decode cX8_earliestOf 5 = .ok (.aload_n 0, 1) := by decide +kernel
theorem dX8_earliestOf_6 : decode cX8_earliestOf 6 = .ok (.invokevirtual 124, 3) := by decide +kernel
theorem dX8_earliestOf_9 : decode cX8_earliestOf 9 = .ok (.getfield 260, 3) := by decide +kernel
theorem dX8_earliestOf_12 : decode cX8_earliestOf 12 = .ok (.iload_n 1, 1) := by decide +kernel
theorem dX8_earliestOf_13 : decode cX8_earliestOf 13 = .ok (.iaload, 1) := by decide +kernel
theorem dX8_earliestOf_14 : decode cX8_earliestOf 14 = .ok (.ireturn, 1) := by decide +kernel
def fX8_earliestOf (μ : Mem) (a1 : Int32) : Option ((Int32 ⊕ Nat) × Mem) :=
  bx (fX8_checkStep μ a1) fun _ μ6 =>
  bd (fX8_freshLinks μ6) fun _ μ8 =>
  (ld 20 (μ8 82) a1).bind fun r10 =>
  some (.inl r10, μ8)
theorem cxX8_earliestOf {l : Launch} {D : va_G} {cI cR : ClassId} {ad : Nat → Nat} {μ : Mem} {a1 : Int32} (hl9 : l.stackTraces = false) {r : Int32 ⊕ Nat} {μ' : Mem} (hf : fX8_earliestOf μ a1 = some (r, μ')) : CX l yX8_earliestOf cX8_earliestOf 2 (some .int) 8 1 D cI cR ad shX NX [.ref (ad 0), .int a1] μ (r.elim (fun r => .inl (some (.int r))) .inr) μ' :=
  cx_of (own := RX8) (ov := fun (r : Int32 ⊕ Nat) => (r.elim (fun r => .inl (some (.int r))) .inr)) hl9 (by decide +kernel) rfl (Nat.le_of_ble_eq_true rfl) (fun p e s m below meth c A0 E X hr => by
    refine ll_lo (lo' := [some (.ref (ad 0)), some (.int a1)]) ⟨rfl, rfl, trivial⟩ ?_
    rw [fX8_earliestOf]
    refine ll_aload_n E (pc := 0) dX8_earliestOf_0 rfl ?_
    refine ll_iload_n E (pc := 1) dX8_earliestOf_1 rfl ?_
    refine ll_xcallVv E X (pc := 2) (d := 7) (mc1 := 1) (mc := 1) (ci := 8) (o9 := 0) [.int a1] [] dX8_earliestOf_2 cv_X8_113 (fun h => cxX8_checkStep X.1 h) (Nat.le_of_ble_eq_true rfl) sx_0 ci_8 rfl rfl (Nat.le_of_ble_eq_true rfl) ⟨(Nat.le_of_ble_eq_true rfl), (Nat.le_of_ble_eq_true rfl)⟩ ⟨(Nat.le_of_ble_eq_true rfl), (Nat.le_of_ble_eq_true rfl)⟩ ⟨(Nat.le_of_ble_eq_true rfl), (Nat.le_of_ble_eq_true rfl)⟩ ?_
    intro r7 μ6
    refine ll_aload_n E (pc := 5) dX8_earliestOf_5 rfl ?_
    refine ll_callVr E (pc := 6) (d := 4) (ci := 8) (o9 := 0) [] [] dX8_earliestOf_6 cv_X8_124 (fun h => ctX8_freshLinks h) (Nat.le_of_ble_eq_true rfl) sx_0 ci_8 rfl rfl (Nat.le_of_ble_eq_true rfl) ⟨(Nat.le_of_ble_eq_true rfl), (Nat.le_of_ble_eq_true rfl)⟩ ⟨(Nat.le_of_ble_eq_true rfl), (Nat.le_of_ble_eq_true rfl)⟩ ?_
    intro r9 μ8
    refine ll_getfr E (pc := 9) (o9 := 75) (ci := 2) (k9 := 7) (q := 82) dX8_earliestOf_9 fl_X8_260 (Nat.le_of_ble_eq_true rfl) fx_75_7 ?_
    refine ll_iload_n E (pc := 12) dX8_earliestOf_12 rfl ?_
    refine ll_iald E (pc := 13) (a := 82) dX8_earliestOf_13 (px_82).1 (px_82).2 ?_
    intro r10
    exact ll_xireturn E (pc := 14) hr dX8_earliestOf_14 ⟨(Nat.le_of_ble_eq_true rfl), (Nat.le_of_ble_eq_true rfl)⟩) hf
theorem dX8_spanByHeights_0 : decode cX8_spanByHeights 0 = .ok (.aload_n 0, 1) := by decide +kernel
theorem dX8_spanByHeights_1 : decode cX8_spanByHeights 1 = .ok (.invokevirtual 124, 3) := by decide +kernel
theorem dX8_spanByHeights_4 : decode cX8_spanByHeights 4 = .ok (.invokevirtual 263, 3) := by decide +kernel
theorem dX8_spanByHeights_7 : decode cX8_spanByHeights 7 = .ok (.ireturn, 1) := by decide +kernel
def fX8_spanByHeights (μ : Mem) : Option (Int32 × Mem) :=
  bd (fX8_freshLinks μ) fun _ μ5 =>
  bd (fX2_greatestHeight μ5) fun r8 μ7 =>
  some (r8, μ7)
theorem ctX8_spanByHeights {l : Launch} {D : va_G} {cI cR : ClassId} {ad : Nat → Nat} {μ : Mem} {r : Int32} {μ' : Mem} (hf : fX8_spanByHeights μ = some (r, μ')) : CT l yX8_spanByHeights cX8_spanByHeights 1 (some .int) 5 D cI cR ad shX NX [.ref (ad 0)] μ (some (.int r)) μ' :=
  ct_of (own := RX8) (ov := fun r => some (.int r)) (by decide +kernel) rfl (Nat.le_of_ble_eq_true rfl) (fun p e s m below meth c A0 E hr => by
    refine ll_lo (lo' := [some (.ref (ad 0))]) ⟨rfl, trivial⟩ ?_
    rw [fX8_spanByHeights]
    refine ll_aload_n E (pc := 0) dX8_spanByHeights_0 rfl ?_
    refine ll_callVr E (pc := 1) (d := 4) (ci := 8) (o9 := 0) [] [] dX8_spanByHeights_1 cv_X8_124 (fun h => ctX8_freshLinks h) (Nat.le_of_ble_eq_true rfl) sx_0 ci_8 rfl rfl (Nat.le_of_ble_eq_true rfl) ⟨(Nat.le_of_ble_eq_true rfl), (Nat.le_of_ble_eq_true rfl)⟩ ⟨(Nat.le_of_ble_eq_true rfl), (Nat.le_of_ble_eq_true rfl)⟩ ?_
    intro r6 μ5
    refine ll_callVi E (pc := 4) (d := 1) (ci := 2) (o9 := 75) [] [] dX8_spanByHeights_4 cv_X8_263 (fun h => ctX2_greatestHeight h) (Nat.le_of_ble_eq_true rfl) sx_75 ci_2 rfl rfl (Nat.le_of_ble_eq_true rfl) ⟨(Nat.le_of_ble_eq_true rfl), (Nat.le_of_ble_eq_true rfl)⟩ ⟨(Nat.le_of_ble_eq_true rfl), (Nat.le_of_ble_eq_true rfl)⟩ ?_
    intro r8 μ7
    exact ll_ireturn E (pc := 7) hr dX8_spanByHeights_7) hf
theorem dX8_spanByEarliest_0 : decode cX8_spanByEarliest 0 = .ok (.aload_n 0, 1) := by decide +kernel
theorem dX8_spanByEarliest_1 : decode cX8_spanByEarliest 1 = .ok (.invokevirtual 124, 3) := by decide +kernel
theorem dX8_spanByEarliest_4 : decode cX8_spanByEarliest 4 = .ok (.invokevirtual 266, 3) := by decide +kernel
theorem dX8_spanByEarliest_7 : decode cX8_spanByEarliest 7 = .ok (.ireturn, 1) := by decide +kernel
def fX8_spanByEarliest (μ : Mem) : Option (Int32 × Mem) :=
  bd (fX8_freshLinks μ) fun _ μ5 =>
  bd (fX2_lastResult μ5) fun r8 μ7 =>
  some (r8, μ7)
theorem ctX8_spanByEarliest {l : Launch} {D : va_G} {cI cR : ClassId} {ad : Nat → Nat} {μ : Mem} {r : Int32} {μ' : Mem} (hf : fX8_spanByEarliest μ = some (r, μ')) : CT l yX8_spanByEarliest cX8_spanByEarliest 1 (some .int) 5 D cI cR ad shX NX [.ref (ad 0)] μ (some (.int r)) μ' :=
  ct_of (own := RX8) (ov := fun r => some (.int r)) (by decide +kernel) rfl (Nat.le_of_ble_eq_true rfl) (fun p e s m below meth c A0 E hr => by
    refine ll_lo (lo' := [some (.ref (ad 0))]) ⟨rfl, trivial⟩ ?_
    rw [fX8_spanByEarliest]
    refine ll_aload_n E (pc := 0) dX8_spanByEarliest_0 rfl ?_
    refine ll_callVr E (pc := 1) (d := 4) (ci := 8) (o9 := 0) [] [] dX8_spanByEarliest_1 cv_X8_124 (fun h => ctX8_freshLinks h) (Nat.le_of_ble_eq_true rfl) sx_0 ci_8 rfl rfl (Nat.le_of_ble_eq_true rfl) ⟨(Nat.le_of_ble_eq_true rfl), (Nat.le_of_ble_eq_true rfl)⟩ ⟨(Nat.le_of_ble_eq_true rfl), (Nat.le_of_ble_eq_true rfl)⟩ ?_
    intro r6 μ5
    refine ll_callVi E (pc := 4) (d := 1) (ci := 2) (o9 := 75) [] [] dX8_spanByEarliest_4 cv_X8_266 (fun h => ctX2_lastResult h) (Nat.le_of_ble_eq_true rfl) sx_75 ci_2 rfl rfl (Nat.le_of_ble_eq_true rfl) ⟨(Nat.le_of_ble_eq_true rfl), (Nat.le_of_ble_eq_true rfl)⟩ ⟨(Nat.le_of_ble_eq_true rfl), (Nat.le_of_ble_eq_true rfl)⟩ ?_
    intro r8 μ7
    exact ll_ireturn E (pc := 7) hr dX8_spanByEarliest_7) hf
theorem dX8_bundleOf_0 : decode cX8_bundleOf 0 = .ok (.aload_n 0, 1) := by decide +kernel
theorem dX8_bundleOf_1 : decode cX8_bundleOf 1 = .ok (.iload_n 1, 1) := by decide +kernel
theorem dX8_bundleOf_2 : decode cX8_bundleOf 2 = .ok (.invokevirtual 113, 3) := by decide +kernel
theorem dX8_bundleOf_5 : decode cX8_bundleOf 5 = .ok (.aload_n 0, 1) := by decide +kernel
theorem dX8_bundleOf_6 : decode cX8_bundleOf 6 = .ok (.getfield 12, 3) := by decide +kernel
theorem dX8_bundleOf_9 : decode cX8_bundleOf 9 = .ok (.getfield 170, 3) := by decide +kernel
theorem dX8_bundleOf_12 : decode cX8_bundleOf 12 = .ok (.iload_n 1, 1) := by decide +kernel
theorem dX8_bundleOf_13 : decode cX8_bundleOf 13 = .ok (.iaload, 1) := by decide +kernel
theorem dX8_bundleOf_14 : decode cX8_bundleOf 14 = .ok (.ireturn, 1) := by decide +kernel
def fX8_bundleOf (μ : Mem) (a1 : Int32) : Option ((Int32 ⊕ Nat) × Mem) :=
  bx (fX8_checkStep μ a1) fun _ μ4 =>
  (ld 20 (μ4 7) a1).bind fun r6 =>
  some (.inl r6, μ4)
theorem cxX8_bundleOf {l : Launch} {D : va_G} {cI cR : ClassId} {ad : Nat → Nat} {μ : Mem} {a1 : Int32} (hl9 : l.stackTraces = false) {r : Int32 ⊕ Nat} {μ' : Mem} (hf : fX8_bundleOf μ a1 = some (r, μ')) : CX l yX8_bundleOf cX8_bundleOf 2 (some .int) 8 1 D cI cR ad shX NX [.ref (ad 0), .int a1] μ (r.elim (fun r => .inl (some (.int r))) .inr) μ' :=
  cx_of (own := RX8) (ov := fun (r : Int32 ⊕ Nat) => (r.elim (fun r => .inl (some (.int r))) .inr)) hl9 (by decide +kernel) rfl (Nat.le_of_ble_eq_true rfl) (fun p e s m below meth c A0 E X hr => by
    refine ll_lo (lo' := [some (.ref (ad 0)), some (.int a1)]) ⟨rfl, rfl, trivial⟩ ?_
    rw [fX8_bundleOf]
    refine ll_aload_n E (pc := 0) dX8_bundleOf_0 rfl ?_
    refine ll_iload_n E (pc := 1) dX8_bundleOf_1 rfl ?_
    refine ll_xcallVv E X (pc := 2) (d := 7) (mc1 := 1) (mc := 1) (ci := 8) (o9 := 0) [.int a1] [] dX8_bundleOf_2 cv_X8_113 (fun h => cxX8_checkStep X.1 h) (Nat.le_of_ble_eq_true rfl) sx_0 ci_8 rfl rfl (Nat.le_of_ble_eq_true rfl) ⟨(Nat.le_of_ble_eq_true rfl), (Nat.le_of_ble_eq_true rfl)⟩ ⟨(Nat.le_of_ble_eq_true rfl), (Nat.le_of_ble_eq_true rfl)⟩ ⟨(Nat.le_of_ble_eq_true rfl), (Nat.le_of_ble_eq_true rfl)⟩ ?_
    intro r5 μ4
    refine ll_aload_n E (pc := 5) dX8_bundleOf_5 rfl ?_
    refine ll_getfr E (pc := 6) (o9 := 0) (ci := 8) (k9 := 0) (q := 1) dX8_bundleOf_6 fl_X8_12 (Nat.le_of_ble_eq_true rfl) fx_0_0 ?_
    refine ll_getfr E (pc := 9) (o9 := 1) (ci := 6) (k9 := 6) (q := 7) dX8_bundleOf_9 fl_X8_170 (Nat.le_of_ble_eq_true rfl) fx_1_6 ?_
    refine ll_iload_n E (pc := 12) dX8_bundleOf_12 rfl ?_
    refine ll_iald E (pc := 13) (a := 7) dX8_bundleOf_13 (px_7).1 (px_7).2 ?_
    intro r6
    exact ll_xireturn E (pc := 14) hr dX8_bundleOf_14 ⟨(Nat.le_of_ble_eq_true rfl), (Nat.le_of_ble_eq_true rfl)⟩) hf
theorem dX8_stepsIn_0 : decode cX8_stepsIn 0 = .ok (.iload_n 1, 1) := by decide +kernel
theorem dX8_stepsIn_1 : decode cX8_stepsIn 1 = .ok (.invokestatic 167, 3) := by decide +kernel
theorem dX8_stepsIn_4 : decode cX8_stepsIn 4 = .ok (.aload_n 0, 1) := by decide +kernel
theorem dX8_stepsIn_5 : decode cX8_stepsIn 5 = .ok (.getfield 12, 3) := by decide +kernel
theorem dX8_stepsIn_8 : decode cX8_stepsIn 8 = .ok (.iload_n 1, 1) := by decide +kernel
theorem dX8_stepsIn_9 : decode cX8_stepsIn 9 = .ok (.invokevirtual 269, 3) := by decide +kernel
theorem dX8_stepsIn_12 : decode cX8_stepsIn 12 = .ok (.ireturn, 1) := by decide +kernel
def fX8_stepsIn (μ : Mem) (a1 : Int32) : Option ((Int32 ⊕ Nat) × Mem) :=
  bx (fX8_checkBundle μ a1) fun _ μ5 =>
  bd (fX6_setLaidIn μ5 a1) fun r8 μ7 =>
  some (.inl r8, μ7)
theorem cxX8_stepsIn {l : Launch} {D : va_G} {cI cR : ClassId} {ad : Nat → Nat} {μ : Mem} {a1 : Int32} (hl9 : l.stackTraces = false) {r : Int32 ⊕ Nat} {μ' : Mem} (hf : fX8_stepsIn μ a1 = some (r, μ')) : CX l yX8_stepsIn cX8_stepsIn 2 (some .int) 8 1 D cI cR ad shX NX [.ref (ad 0), .int a1] μ (r.elim (fun r => .inl (some (.int r))) .inr) μ' :=
  cx_of (own := RX8) (ov := fun (r : Int32 ⊕ Nat) => (r.elim (fun r => .inl (some (.int r))) .inr)) hl9 (by decide +kernel) rfl (Nat.le_of_ble_eq_true rfl) (fun p e s m below meth c A0 E X hr => by
    refine ll_lo (lo' := [some (.ref (ad 0)), some (.int a1)]) ⟨rfl, rfl, trivial⟩ ?_
    rw [fX8_stepsIn]
    refine ll_iload_n E (pc := 0) dX8_stepsIn_0 rfl ?_
    refine ll_xcallSv E X (pc := 1) (d := 7) (mc1 := 1) (mc := 1) [.int a1] [] dX8_stepsIn_1 cv_X8_167 (fun h => cxX8_checkBundle X.1 h) rfl rfl (Nat.le_of_ble_eq_true rfl) ⟨(Nat.le_of_ble_eq_true rfl), (Nat.le_of_ble_eq_true rfl)⟩ ⟨(Nat.le_of_ble_eq_true rfl), (Nat.le_of_ble_eq_true rfl)⟩ ⟨(Nat.le_of_ble_eq_true rfl), (Nat.le_of_ble_eq_true rfl)⟩ ?_
    intro r6 μ5
    refine ll_aload_n E (pc := 4) dX8_stepsIn_4 rfl ?_
    refine ll_getfr E (pc := 5) (o9 := 0) (ci := 8) (k9 := 0) (q := 1) dX8_stepsIn_5 fl_X8_12 (Nat.le_of_ble_eq_true rfl) fx_0_0 ?_
    refine ll_iload_n E (pc := 8) dX8_stepsIn_8 rfl ?_
    refine ll_callVi E (pc := 9) (d := 0) (ci := 6) (o9 := 1) [.int a1] [] dX8_stepsIn_9 cv_X8_269 (fun h => ctX6_setLaidIn h) (Nat.le_of_ble_eq_true rfl) sx_1 ci_6 rfl rfl (Nat.le_of_ble_eq_true rfl) ⟨(Nat.le_of_ble_eq_true rfl), (Nat.le_of_ble_eq_true rfl)⟩ ⟨(Nat.le_of_ble_eq_true rfl), (Nat.le_of_ble_eq_true rfl)⟩ ?_
    intro r8 μ7
    exact ll_xireturn E (pc := 12) hr dX8_stepsIn_12 ⟨(Nat.le_of_ble_eq_true rfl), (Nat.le_of_ble_eq_true rfl)⟩) hf
theorem dX8_bundles_0 : decode cX8_bundles 0 = .ok (.aload_n 0, 1) := by decide +kernel
theorem dX8_bundles_1 : decode cX8_bundles 1 = .ok (.getfield 12, 3) := by decide +kernel
theorem dX8_bundles_4 : decode cX8_bundles 4 = .ok (.getfield 170, 3) := by decide +kernel
theorem dX8_bundles_7 : decode cX8_bundles 7 = .ok (.aload_n 0, 1) := by decide +kernel
theorem dX8_bundles_8 : decode cX8_bundles 8 = .ok (.getfield 12, 3) := by decide +kernel
theorem dX8_bundles_11 : decode cX8_bundles 11 = .ok (.getfield 81, 3) := by decide +kernel
theorem dX8_bundles_14 : decode cX8_bundles 14 = .ok (.invokestatic 188, 3) := by decide +kernel
theorem dX8_bundles_17 : decode cX8_bundles 17 = .ok (.ireturn, 1) := by decide +kernel
def fX8_bundles (μ : Mem) : Option (Int32 × Mem) :=
  bd (fX8_spanOf μ 7 (μ 1 0)) fun r4 μ3 =>
  some (r4, μ3)
theorem ctX8_bundles {l : Launch} {D : va_G} {cI cR : ClassId} {ad : Nat → Nat} {μ : Mem} {r : Int32} {μ' : Mem} (hf : fX8_bundles μ = some (r, μ')) : CT l yX8_bundles cX8_bundles 1 (some .int) 2 D cI cR ad shX NX [.ref (ad 0)] μ (some (.int r)) μ' :=
  ct_of (own := RX8) (ov := fun r => some (.int r)) (by decide +kernel) rfl (Nat.le_of_ble_eq_true rfl) (fun p e s m below meth c A0 E hr => by
    refine ll_lo (lo' := [some (.ref (ad 0))]) ⟨rfl, trivial⟩ ?_
    rw [fX8_bundles]
    refine ll_aload_n E (pc := 0) dX8_bundles_0 rfl ?_
    refine ll_getfr E (pc := 1) (o9 := 0) (ci := 8) (k9 := 0) (q := 1) dX8_bundles_1 fl_X8_12 (Nat.le_of_ble_eq_true rfl) fx_0_0 ?_
    refine ll_getfr E (pc := 4) (o9 := 1) (ci := 6) (k9 := 6) (q := 7) dX8_bundles_4 fl_X8_170 (Nat.le_of_ble_eq_true rfl) fx_1_6 ?_
    refine ll_aload_n E (pc := 7) dX8_bundles_7 rfl ?_
    refine ll_getfr E (pc := 8) (o9 := 0) (ci := 8) (k9 := 0) (q := 1) dX8_bundles_8 fl_X8_12 (Nat.le_of_ble_eq_true rfl) fx_0_0 ?_
    refine ll_getf E (pc := 11) (o9 := 1) (ci := 6) (k9 := 0) dX8_bundles_11 fl_X8_81 (Nat.le_of_ble_eq_true rfl) fx_1_0 ?_
    refine ll_callSi E (pc := 14) (d := 1) [.ref (ad 7), .int (μ 1 0)] [] dX8_bundles_14 cv_X8_188 (fun h => ctX8_spanOf px_7 h) rfl rfl (Nat.le_of_ble_eq_true rfl) ⟨(Nat.le_of_ble_eq_true rfl), (Nat.le_of_ble_eq_true rfl)⟩ ⟨(Nat.le_of_ble_eq_true rfl), (Nat.le_of_ble_eq_true rfl)⟩ ?_
    intro r4 μ3
    exact ll_ireturn E (pc := 17) hr dX8_bundles_17) hf
theorem dX8_whyWrong_0 : decode cX8_whyWrong 0 = .ok (.aload_n 0, 1) := by decide +kernel
theorem dX8_whyWrong_1 : decode cX8_whyWrong 1 = .ok (.getfield 12, 3) := by decide +kernel
theorem dX8_whyWrong_4 : decode cX8_whyWrong 4 = .ok (.invokevirtual 272, 3) := by decide +kernel
theorem dX8_whyWrong_7 : decode cX8_whyWrong 7 = .ok (.iconst (-1), 1) := by decide +kernel
theorem dX8_whyWrong_8 : decode cX8_whyWrong 8 = .ok (.if_icmp .eq 5, 3) := by decide +kernel
theorem dX8_whyWrong_11 : decode cX8_whyWrong 11 = .ok (.iconst 1, 1) := by decide +kernel
theorem dX8_whyWrong_12 : decode cX8_whyWrong 12 = .ok (.ireturn, 1) := by decide +kernel
theorem dX8_whyWrong_13 : decode cX8_whyWrong 13 = .ok (.aload_n 0, 1) := by decide +kernel
theorem dX8_whyWrong_14 : decode cX8_whyWrong 14 = .ok (.getfield 12, 3) := by decide +kernel
theorem dX8_whyWrong_17 : decode cX8_whyWrong 17 = .ok (.invokevirtual 275, 3) := by decide +kernel
theorem dX8_whyWrong_20 : decode cX8_whyWrong 20 = .ok (.iconst (-1), 1) := by decide +kernel
theorem dX8_whyWrong_21 : decode cX8_whyWrong 21 = .ok (.if_icmp .eq 5, 3) := by decide +kernel
theorem dX8_whyWrong_24 : decode cX8_whyWrong 24 = .ok (.iconst 2, 1) := by decide +kernel
theorem dX8_whyWrong_25 : decode cX8_whyWrong 25 = .ok (.ireturn, 1) := by decide +kernel
theorem dX8_whyWrong_26 : decode cX8_whyWrong 26 = .ok (.aload_n 0, 1) := by decide +kernel
theorem dX8_whyWrong_27 : decode cX8_whyWrong 27 = .ok (.invokevirtual 124, 3) := by decide +kernel
theorem dX8_whyWrong_30 : decode cX8_whyWrong 30 = .ok (.aload_n 0, 1) := by decide +kernel
theorem dX8_whyWrong_31 : decode cX8_whyWrong 31 = .ok (.getfield 12, 3) := by decide +kernel
theorem dX8_whyWrong_34 : decode cX8_whyWrong 34 = .ok (.invokevirtual 278, 3) := by decide +kernel
theorem dX8_whyWrong_37 : decode cX8_whyWrong 37 = .ok (.iconst (-1), 1) := by decide +kernel
theorem dX8_whyWrong_38 : decode cX8_whyWrong 38 = .ok (.if_icmp .eq 7, 3) := by decide +kernel
theorem dX8_whyWrong_41 : decode cX8_whyWrong 41 = .ok (.iconst 3, 1) := by decide +kernel
theorem dX8_whyWrong_42 : decode cX8_whyWrong 42 = .ok (.goto 4, 3) := by decide +kernel
theorem dX8_whyWrong_45 : decode cX8_whyWrong 45 = .ok (.iconst 0, 1) := by decide +kernel
theorem dX8_whyWrong_46 : decode cX8_whyWrong 46 = .ok (.ireturn, 1) := by decide +kernel
def fX8_whyWrong (μ : Mem) : Option (Int32 × Mem) :=
  bd (fX6_lowestNotLaid μ) fun r10 μ9 =>
  if r10 = (-1 : Int32) then
  bd (fX6_lowestCrowded μ9) fun r12 μ11 =>
  if r12 = (-1 : Int32) then
  bd (fX8_freshLinks μ11) fun _ μ13 =>
  bd (fX2_lowestTooEarly μ13) fun r16 μ15 =>
  if r16 = (-1 : Int32) then
  some ((0 : Int32), μ15)
  else
  some ((3 : Int32), μ15)
  else
  some ((2 : Int32), μ11)
  else
  some ((1 : Int32), μ9)
theorem ctX8_whyWrong {l : Launch} {D : va_G} {cI cR : ClassId} {ad : Nat → Nat} {μ : Mem} {r : Int32} {μ' : Mem} (hf : fX8_whyWrong μ = some (r, μ')) : CT l yX8_whyWrong cX8_whyWrong 1 (some .int) 5 D cI cR ad shX NX [.ref (ad 0)] μ (some (.int r)) μ' :=
  ct_of (own := RX8) (ov := fun r => some (.int r)) (by decide +kernel) rfl (Nat.le_of_ble_eq_true rfl) (fun p e s m below meth c A0 E hr => by
    refine ll_lo (lo' := [some (.ref (ad 0))]) ⟨rfl, trivial⟩ ?_
    rw [fX8_whyWrong]
    refine ll_aload_n E (pc := 0) dX8_whyWrong_0 rfl ?_
    refine ll_getfr E (pc := 1) (o9 := 0) (ci := 8) (k9 := 0) (q := 1) dX8_whyWrong_1 fl_X8_12 (Nat.le_of_ble_eq_true rfl) fx_0_0 ?_
    refine ll_callVi E (pc := 4) (d := 0) (ci := 6) (o9 := 1) [] [] dX8_whyWrong_4 cv_X8_272 (fun h => ctX6_lowestNotLaid h) (Nat.le_of_ble_eq_true rfl) sx_1 ci_6 rfl rfl (Nat.le_of_ble_eq_true rfl) ⟨(Nat.le_of_ble_eq_true rfl), (Nat.le_of_ble_eq_true rfl)⟩ ⟨(Nat.le_of_ble_eq_true rfl), (Nat.le_of_ble_eq_true rfl)⟩ ?_
    intro r10 μ9
    refine ll_iconst E (pc := 7) dX8_whyWrong_7 kc_m1 ?_
    refine ll_icmp_eq E (pc := 8) (tgt := 13) dX8_whyWrong_8 rfl ?_ ?_
    · refine ll_aload_n E (pc := 13) dX8_whyWrong_13 rfl ?_
      refine ll_getfr E (pc := 14) (o9 := 0) (ci := 8) (k9 := 0) (q := 1) dX8_whyWrong_14 fl_X8_12 (Nat.le_of_ble_eq_true rfl) fx_0_0 ?_
      refine ll_callVi E (pc := 17) (d := 3) (ci := 6) (o9 := 1) [] [] dX8_whyWrong_17 cv_X8_275 (fun h => ctX6_lowestCrowded h) (Nat.le_of_ble_eq_true rfl) sx_1 ci_6 rfl rfl (Nat.le_of_ble_eq_true rfl) ⟨(Nat.le_of_ble_eq_true rfl), (Nat.le_of_ble_eq_true rfl)⟩ ⟨(Nat.le_of_ble_eq_true rfl), (Nat.le_of_ble_eq_true rfl)⟩ ?_
      intro r12 μ11
      refine ll_iconst E (pc := 20) dX8_whyWrong_20 kc_m1 ?_
      refine ll_icmp_eq E (pc := 21) (tgt := 26) dX8_whyWrong_21 rfl ?_ ?_
      · refine ll_aload_n E (pc := 26) dX8_whyWrong_26 rfl ?_
        refine ll_callVr E (pc := 27) (d := 4) (ci := 8) (o9 := 0) [] [] dX8_whyWrong_27 cv_X8_124 (fun h => ctX8_freshLinks h) (Nat.le_of_ble_eq_true rfl) sx_0 ci_8 rfl rfl (Nat.le_of_ble_eq_true rfl) ⟨(Nat.le_of_ble_eq_true rfl), (Nat.le_of_ble_eq_true rfl)⟩ ⟨(Nat.le_of_ble_eq_true rfl), (Nat.le_of_ble_eq_true rfl)⟩ ?_
        intro r14 μ13
        refine ll_aload_n E (pc := 30) dX8_whyWrong_30 rfl ?_
        refine ll_getfr E (pc := 31) (o9 := 0) (ci := 8) (k9 := 0) (q := 1) dX8_whyWrong_31 fl_X8_12 (Nat.le_of_ble_eq_true rfl) fx_0_0 ?_
        refine ll_callVi E (pc := 34) (d := 1) (ci := 2) (o9 := 75) [.ref (ad 1)] [] dX8_whyWrong_34 cv_X8_278 (fun h => ctX2_lowestTooEarly h) (Nat.le_of_ble_eq_true rfl) sx_75 ci_2 rfl rfl (Nat.le_of_ble_eq_true rfl) ⟨(Nat.le_of_ble_eq_true rfl), (Nat.le_of_ble_eq_true rfl)⟩ ⟨(Nat.le_of_ble_eq_true rfl), (Nat.le_of_ble_eq_true rfl)⟩ ?_
        intro r16 μ15
        refine ll_iconst E (pc := 37) dX8_whyWrong_37 kc_m1 ?_
        refine ll_icmp_eq E (pc := 38) (tgt := 45) dX8_whyWrong_38 rfl ?_ ?_
        · refine ll_iconst E (pc := 45) dX8_whyWrong_45 kc_0 ?_
          exact ll_ireturn E (pc := 46) hr dX8_whyWrong_46
        · refine ll_iconst E (pc := 41) dX8_whyWrong_41 kc_3 ?_
          refine ll_goto E (pc := 42) (tgt := 46) dX8_whyWrong_42 rfl ?_
          exact ll_ireturn E (pc := 46) hr dX8_whyWrong_46
      · refine ll_iconst E (pc := 24) dX8_whyWrong_24 kc_2 ?_
        exact ll_ireturn E (pc := 25) hr dX8_whyWrong_25
    · refine ll_iconst E (pc := 11) dX8_whyWrong_11 kc_1 ?_
      exact ll_ireturn E (pc := 12) hr dX8_whyWrong_12) hf
theorem dX8_wrongAt_0 : decode cX8_wrongAt 0 = .ok (.aload_n 0, 1) := by decide +kernel
theorem dX8_wrongAt_1 : decode cX8_wrongAt 1 = .ok (.getfield 12, 3) := by decide +kernel
theorem dX8_wrongAt_4 : decode cX8_wrongAt 4 = .ok (.invokevirtual 272, 3) := by decide +kernel
theorem dX8_wrongAt_7 : decode cX8_wrongAt 7 = .ok (.istore_n 1, 1) := by decide +kernel
theorem dX8_wrongAt_8 : decode cX8_wrongAt 8 = .ok (.iload_n 1, 1) := by decide +kernel
theorem dX8_wrongAt_9 : decode cX8_wrongAt 9 = .ok (.iconst (-1), 1) := by decide +kernel
theorem dX8_wrongAt_10 : decode cX8_wrongAt 10 = .ok (.if_icmp .eq 5, 3) := by decide +kernel
theorem dX8_wrongAt_13 : decode cX8_wrongAt 13 = .ok (.iload_n 1, 1) := by decide +kernel
theorem dX8_wrongAt_14 : decode cX8_wrongAt 14 = .ok (.ireturn, 1) := by decide +kernel
theorem dX8_wrongAt_15 : decode cX8_wrongAt 15 = .ok (.aload_n 0, 1) := by decide +kernel
theorem dX8_wrongAt_16 : decode cX8_wrongAt 16 = .ok (.getfield 12, 3) := by decide +kernel
theorem dX8_wrongAt_19 : decode cX8_wrongAt 19 = .ok (.invokevirtual 275, 3) := by decide +kernel
theorem dX8_wrongAt_22 : decode cX8_wrongAt 22 = .ok (.istore_n 2, 1) := by decide +kernel
theorem dX8_wrongAt_23 : decode cX8_wrongAt 23 = .ok (.iload_n 2, 1) := by decide +kernel
theorem dX8_wrongAt_24 : decode cX8_wrongAt 24 = .ok (.iconst (-1), 1) := by decide +kernel
theorem dX8_wrongAt_25 : decode cX8_wrongAt 25 = .ok (.if_icmp .eq 5, 3) := by decide +kernel
theorem dX8_wrongAt_28 : decode cX8_wrongAt 28 = .ok (.iload_n 2, 1) := by decide +kernel
theorem dX8_wrongAt_29 : decode cX8_wrongAt 29 = .ok (.ireturn, 1) := by decide +kernel
theorem dX8_wrongAt_30 : decode cX8_wrongAt 30 = .ok (.aload_n 0, 1) := by decide +kernel
theorem dX8_wrongAt_31 : decode cX8_wrongAt 31 = .ok (.invokevirtual 124, 3) := by decide +kernel
theorem dX8_wrongAt_34 : decode cX8_wrongAt 34 = .ok (.aload_n 0, 1) := by decide +kernel
theorem dX8_wrongAt_35 : decode cX8_wrongAt 35 = .ok (.getfield 12, 3) := by decide +kernel
theorem dX8_wrongAt_38 : decode cX8_wrongAt 38 = .ok (.invokevirtual 278, 3) := by decide +kernel
theorem dX8_wrongAt_41 : decode cX8_wrongAt 41 = .ok (.ireturn, 1) := by decide +kernel
def fX8_wrongAt (μ : Mem) : Option (Int32 × Mem) :=
  bd (fX6_lowestNotLaid μ) fun r10 μ9 =>
  if r10 = (-1 : Int32) then
  bd (fX6_lowestCrowded μ9) fun r12 μ11 =>
  if r12 = (-1 : Int32) then
  bd (fX8_freshLinks μ11) fun _ μ13 =>
  bd (fX2_lowestTooEarly μ13) fun r16 μ15 =>
  some (r16, μ15)
  else
  some (r12, μ11)
  else
  some (r10, μ9)
theorem ctX8_wrongAt {l : Launch} {D : va_G} {cI cR : ClassId} {ad : Nat → Nat} {μ : Mem} {r : Int32} {μ' : Mem} (hf : fX8_wrongAt μ = some (r, μ')) : CT l yX8_wrongAt cX8_wrongAt 3 (some .int) 5 D cI cR ad shX NX [.ref (ad 0)] μ (some (.int r)) μ' :=
  ct_of (own := RX8) (ov := fun r => some (.int r)) (by decide +kernel) rfl (Nat.le_of_ble_eq_true rfl) (fun p e s m below meth c A0 E hr => by
    refine ll_lo (lo' := [some (.ref (ad 0)), none, none]) ⟨rfl, trivial⟩ ?_
    rw [fX8_wrongAt]
    refine ll_aload_n E (pc := 0) dX8_wrongAt_0 rfl ?_
    refine ll_getfr E (pc := 1) (o9 := 0) (ci := 8) (k9 := 0) (q := 1) dX8_wrongAt_1 fl_X8_12 (Nat.le_of_ble_eq_true rfl) fx_0_0 ?_
    refine ll_callVi E (pc := 4) (d := 0) (ci := 6) (o9 := 1) [] [] dX8_wrongAt_4 cv_X8_272 (fun h => ctX6_lowestNotLaid h) (Nat.le_of_ble_eq_true rfl) sx_1 ci_6 rfl rfl (Nat.le_of_ble_eq_true rfl) ⟨(Nat.le_of_ble_eq_true rfl), (Nat.le_of_ble_eq_true rfl)⟩ ⟨(Nat.le_of_ble_eq_true rfl), (Nat.le_of_ble_eq_true rfl)⟩ ?_
    intro r10 μ9
    refine ll_istore_n E (pc := 7) (lo' := [some (.ref (ad 0)), some (.int r10), none]) dX8_wrongAt_7 (Nat.le_of_ble_eq_true rfl) rfl rfl ?_
    refine ll_iload_n E (pc := 8) dX8_wrongAt_8 rfl ?_
    refine ll_iconst E (pc := 9) dX8_wrongAt_9 kc_m1 ?_
    refine ll_icmp_eq E (pc := 10) (tgt := 15) dX8_wrongAt_10 rfl ?_ ?_
    · refine ll_aload_n E (pc := 15) dX8_wrongAt_15 rfl ?_
      refine ll_getfr E (pc := 16) (o9 := 0) (ci := 8) (k9 := 0) (q := 1) dX8_wrongAt_16 fl_X8_12 (Nat.le_of_ble_eq_true rfl) fx_0_0 ?_
      refine ll_callVi E (pc := 19) (d := 3) (ci := 6) (o9 := 1) [] [] dX8_wrongAt_19 cv_X8_275 (fun h => ctX6_lowestCrowded h) (Nat.le_of_ble_eq_true rfl) sx_1 ci_6 rfl rfl (Nat.le_of_ble_eq_true rfl) ⟨(Nat.le_of_ble_eq_true rfl), (Nat.le_of_ble_eq_true rfl)⟩ ⟨(Nat.le_of_ble_eq_true rfl), (Nat.le_of_ble_eq_true rfl)⟩ ?_
      intro r12 μ11
      refine ll_istore_n E (pc := 22) (lo' := [some (.ref (ad 0)), some (.int r10), some (.int r12)]) dX8_wrongAt_22 (Nat.le_of_ble_eq_true rfl) rfl rfl ?_
      refine ll_iload_n E (pc := 23) dX8_wrongAt_23 rfl ?_
      refine ll_iconst E (pc := 24) dX8_wrongAt_24 kc_m1 ?_
      refine ll_icmp_eq E (pc := 25) (tgt := 30) dX8_wrongAt_25 rfl ?_ ?_
      · refine ll_aload_n E (pc := 30) dX8_wrongAt_30 rfl ?_
        refine ll_callVr E (pc := 31) (d := 4) (ci := 8) (o9 := 0) [] [] dX8_wrongAt_31 cv_X8_124 (fun h => ctX8_freshLinks h) (Nat.le_of_ble_eq_true rfl) sx_0 ci_8 rfl rfl (Nat.le_of_ble_eq_true rfl) ⟨(Nat.le_of_ble_eq_true rfl), (Nat.le_of_ble_eq_true rfl)⟩ ⟨(Nat.le_of_ble_eq_true rfl), (Nat.le_of_ble_eq_true rfl)⟩ ?_
        intro r14 μ13
        refine ll_aload_n E (pc := 34) dX8_wrongAt_34 rfl ?_
        refine ll_getfr E (pc := 35) (o9 := 0) (ci := 8) (k9 := 0) (q := 1) dX8_wrongAt_35 fl_X8_12 (Nat.le_of_ble_eq_true rfl) fx_0_0 ?_
        refine ll_callVi E (pc := 38) (d := 1) (ci := 2) (o9 := 75) [.ref (ad 1)] [] dX8_wrongAt_38 cv_X8_278 (fun h => ctX2_lowestTooEarly h) (Nat.le_of_ble_eq_true rfl) sx_75 ci_2 rfl rfl (Nat.le_of_ble_eq_true rfl) ⟨(Nat.le_of_ble_eq_true rfl), (Nat.le_of_ble_eq_true rfl)⟩ ⟨(Nat.le_of_ble_eq_true rfl), (Nat.le_of_ble_eq_true rfl)⟩ ?_
        intro r16 μ15
        exact ll_ireturn E (pc := 41) hr dX8_wrongAt_41
      · refine ll_iload_n E (pc := 28) dX8_wrongAt_28 rfl ?_
        exact ll_ireturn E (pc := 29) hr dX8_wrongAt_29
    · refine ll_iload_n E (pc := 13) dX8_wrongAt_13 rfl ?_
      exact ll_ireturn E (pc := 14) hr dX8_wrongAt_14) hf
theorem dX8_wouldPack_0 : decode cX8_wouldPack 0 = .ok (.aload_n 0, 1) := by decide +kernel
theorem dX8_wouldPack_1 : decode cX8_wouldPack 1 = .ok (.getfield 43, 3) := by decide +kernel
theorem dX8_wouldPack_4 : decode cX8_wouldPack 4 = .ok (.aload_n 0, 1) := by decide +kernel
theorem dX8_wouldPack_5 : decode cX8_wouldPack 5 = .ok (.getfield 12, 3) := by decide +kernel
theorem dX8_wouldPack_8 : decode cX8_wouldPack 8 = .ok (.aload_n 0, 1) := by decide +kernel
theorem dX8_wouldPack_9 : decode cX8_wouldPack 9 = .ok (.invokevirtual 124, 3) := by decide +kernel
theorem dX8_wouldPack_12 : decode cX8_wouldPack 12 = .ok (.invokevirtual 175, 3) := by decide +kernel
theorem dX8_wouldPack_15 : decode cX8_wouldPack 15 = .ok (.aload_n 0, 1) := by decide +kernel
theorem dX8_wouldPack_16 : decode cX8_wouldPack 16 = .ok (.getfield 43, 3) := by decide +kernel
theorem dX8_wouldPack_19 : decode cX8_wouldPack 19 = .ok (.getfield 179, 3) := by decide +kernel
theorem dX8_wouldPack_22 : decode cX8_wouldPack 22 = .ok (.aload_n 0, 1) := by decide +kernel
theorem dX8_wouldPack_23 : decode cX8_wouldPack 23 = .ok (.getfield 12, 3) := by decide +kernel
theorem dX8_wouldPack_26 : decode cX8_wouldPack 26 = .ok (.getfield 81, 3) := by decide +kernel
theorem dX8_wouldPack_29 : decode cX8_wouldPack 29 = .ok (.invokestatic 188, 3) := by decide +kernel
theorem dX8_wouldPack_32 : decode cX8_wouldPack 32 = .ok (.ireturn, 1) := by decide +kernel
def fX8_wouldPack (μ : Mem) : Option (Int32 × Mem) :=
  bd (fX8_freshLinks μ) fun _ μ7 =>
  bd (fX4_makePlan μ7) fun _ μ9 =>
  bd (fX8_spanOf μ9 84 (μ9 1 0)) fun r12 μ11 =>
  some (r12, μ11)
theorem ctX8_wouldPack {l : Launch} {D : va_G} {cI cR : ClassId} {ad : Nat → Nat} {μ : Mem} {r : Int32} {μ' : Mem} (hf : fX8_wouldPack μ = some (r, μ')) : CT l yX8_wouldPack cX8_wouldPack 1 (some .int) 5 D cI cR ad shX NX [.ref (ad 0)] μ (some (.int r)) μ' :=
  ct_of (own := RX8) (ov := fun r => some (.int r)) (by decide +kernel) rfl (Nat.le_of_ble_eq_true rfl) (fun p e s m below meth c A0 E hr => by
    refine ll_lo (lo' := [some (.ref (ad 0))]) ⟨rfl, trivial⟩ ?_
    rw [fX8_wouldPack]
    refine ll_aload_n E (pc := 0) dX8_wouldPack_0 rfl ?_
    refine ll_getfr E (pc := 1) (o9 := 0) (ci := 8) (k9 := 7) (q := 83) dX8_wouldPack_1 fl_X8_43 (Nat.le_of_ble_eq_true rfl) fx_0_7 ?_
    refine ll_aload_n E (pc := 4) dX8_wouldPack_4 rfl ?_
    refine ll_getfr E (pc := 5) (o9 := 0) (ci := 8) (k9 := 0) (q := 1) dX8_wouldPack_5 fl_X8_12 (Nat.le_of_ble_eq_true rfl) fx_0_0 ?_
    refine ll_aload_n E (pc := 8) dX8_wouldPack_8 rfl ?_
    refine ll_callVr E (pc := 9) (d := 4) (ci := 8) (o9 := 0) [] [.ref (ad 1), .ref (ad 83)] dX8_wouldPack_9 cv_X8_124 (fun h => ctX8_freshLinks h) (Nat.le_of_ble_eq_true rfl) sx_0 ci_8 rfl rfl (Nat.le_of_ble_eq_true rfl) ⟨(Nat.le_of_ble_eq_true rfl), (Nat.le_of_ble_eq_true rfl)⟩ ⟨(Nat.le_of_ble_eq_true rfl), (Nat.le_of_ble_eq_true rfl)⟩ ?_
    intro r8 μ7
    refine ll_callVv E (pc := 12) (d := 4) (ci := 4) (o9 := 83) [.ref (ad 1), .ref (ad 75)] [] dX8_wouldPack_12 cv_X8_175 (fun h => ctX4_makePlan h) (Nat.le_of_ble_eq_true rfl) sx_83 ci_4 rfl rfl (Nat.le_of_ble_eq_true rfl) ⟨(Nat.le_of_ble_eq_true rfl), (Nat.le_of_ble_eq_true rfl)⟩ ⟨(Nat.le_of_ble_eq_true rfl), (Nat.le_of_ble_eq_true rfl)⟩ ?_
    intro r10 μ9
    refine ll_aload_n E (pc := 15) dX8_wouldPack_15 rfl ?_
    refine ll_getfr E (pc := 16) (o9 := 0) (ci := 8) (k9 := 7) (q := 83) dX8_wouldPack_16 fl_X8_43 (Nat.le_of_ble_eq_true rfl) fx_0_7 ?_
    refine ll_getfr E (pc := 19) (o9 := 83) (ci := 4) (k9 := 0) (q := 84) dX8_wouldPack_19 fl_X8_179 (Nat.le_of_ble_eq_true rfl) fx_83_0 ?_
    refine ll_aload_n E (pc := 22) dX8_wouldPack_22 rfl ?_
    refine ll_getfr E (pc := 23) (o9 := 0) (ci := 8) (k9 := 0) (q := 1) dX8_wouldPack_23 fl_X8_12 (Nat.le_of_ble_eq_true rfl) fx_0_0 ?_
    refine ll_getf E (pc := 26) (o9 := 1) (ci := 6) (k9 := 0) dX8_wouldPack_26 fl_X8_81 (Nat.le_of_ble_eq_true rfl) fx_1_0 ?_
    refine ll_callSi E (pc := 29) (d := 1) [.ref (ad 84), .int (μ9 1 0)] [] dX8_wouldPack_29 cv_X8_188 (fun h => ctX8_spanOf px_84 h) rfl rfl (Nat.le_of_ble_eq_true rfl) ⟨(Nat.le_of_ble_eq_true rfl), (Nat.le_of_ble_eq_true rfl)⟩ ⟨(Nat.le_of_ble_eq_true rfl), (Nat.le_of_ble_eq_true rfl)⟩ ?_
    intro r12 μ11
    exact ll_ireturn E (pc := 32) hr dX8_wouldPack_32) hf
theorem dX8_filledShare_0 : decode cX8_filledShare 0 = .ok (.aload_n 0, 1) := by decide +kernel
theorem dX8_filledShare_1 : decode cX8_filledShare 1 = .ok (.getfield 12, 3) := by decide +kernel
theorem dX8_filledShare_4 : decode cX8_filledShare 4 = .ok (.getfield 170, 3) := by decide +kernel
theorem dX8_filledShare_7 : decode cX8_filledShare 7 = .ok (.aload_n 0, 1) := by decide +kernel
theorem dX8_filledShare_8 : decode cX8_filledShare 8 = .ok (.getfield 12, 3) := by decide +kernel
theorem dX8_filledShare_11 : decode cX8_filledShare 11 = .ok (.getfield 81, 3) := by decide +kernel
theorem dX8_filledShare_14 : decode cX8_filledShare 14 = .ok (.invokestatic 188, 3) := by decide +kernel
theorem dX8_filledShare_17 : decode cX8_filledShare 17 = .ok (.aload_n 0, 1) := by decide +kernel
theorem dX8_filledShare_18 : decode cX8_filledShare 18 = .ok (.getfield 12, 3) := by decide +kernel
theorem dX8_filledShare_21 : decode cX8_filledShare 21 = .ok (.getfield 154, 3) := by decide +kernel
theorem dX8_filledShare_24 : decode cX8_filledShare 24 = .ok (.iconst 0, 1) := by decide +kernel
theorem dX8_filledShare_25 : decode cX8_filledShare 25 = .ok (.iaload, 1) := by decide +kernel
theorem dX8_filledShare_26 : decode cX8_filledShare 26 = .ok (.aload_n 0, 1) := by decide +kernel
theorem dX8_filledShare_27 : decode cX8_filledShare 27 = .ok (.getfield 12, 3) := by decide +kernel
theorem dX8_filledShare_30 : decode cX8_filledShare 30 = .ok (.getfield 154, 3) := by decide +kernel
theorem dX8_filledShare_33 : decode cX8_filledShare 33 = .ok (.iconst 1, 1) := by decide +kernel
theorem dX8_filledShare_34 : decode cX8_filledShare 34 = .ok (.iaload, 1) := by decide +kernel
theorem dX8_filledShare_35 : decode cX8_filledShare 35 = .ok (.iadd, 1) := by decide +kernel
theorem dX8_filledShare_36 : decode cX8_filledShare 36 = .ok (.aload_n 0, 1) := by decide +kernel
theorem dX8_filledShare_37 : decode cX8_filledShare 37 = .ok (.getfield 12, 3) := by decide +kernel
theorem dX8_filledShare_40 : decode cX8_filledShare 40 = .ok (.getfield 154, 3) := by decide +kernel
theorem dX8_filledShare_43 : decode cX8_filledShare 43 = .ok (.iconst 2, 1) := by decide +kernel
theorem dX8_filledShare_44 : decode cX8_filledShare 44 = .ok (.iaload, 1) := by decide +kernel
theorem dX8_filledShare_45 : decode cX8_filledShare 45 = .ok (.iadd, 1) := by decide +kernel
theorem dX8_filledShare_46 : decode cX8_filledShare 46 = .ok (.imul, 1) := by decide +kernel
theorem dX8_filledShare_47 : decode cX8_filledShare 47 = .ok (.istore_n 1, 1) := by decide +kernel
theorem dX8_filledShare_48 : decode cX8_filledShare 48 = .ok (.iload_n 1, 1) := by decide +kernel
theorem dX8_filledShare_49 : decode cX8_filledShare 49 = .ok (.ifCond .ne 5, 3) := by decide +kernel
theorem dX8_filledShare_52 : decode cX8_filledShare 52 = .ok (.dconst 0, 1) := by decide +kernel
theorem dX8_filledShare_53 : decode cX8_filledShare 53 = .ok (.dreturn, 1) := by decide +kernel
theorem dX8_filledShare_54 : decode cX8_filledShare 54 = .ok (.aload_n 0, 1) := by decide +kernel
theorem dX8_filledShare_55 : decode cX8_filledShare 55 = .ok (.getfield 12, 3) := by decide +kernel
theorem dX8_filledShare_58 : decode cX8_filledShare 58 = .ok (.invokevirtual 282, 3) := by decide +kernel
theorem dX8_filledShare_61 : decode cX8_filledShare 61 = .ok (.i2d, 1) := by decide +kernel
theorem dX8_filledShare_62 : decode cX8_filledShare 62 = .ok (.iload_n 1, 1) := by decide +kernel
theorem dX8_filledShare_63 : decode cX8_filledShare 63 = .ok (.i2d, 1) := by decide +kernel
theorem dX8_filledShare_64 : decode cX8_filledShare 64 = .ok (.ddiv, 1) := by decide +kernel
theorem dX8_filledShare_65 : decode cX8_filledShare 65 = .ok (.dreturn, 1) := by decide +kernel
def fX8_filledShare (μ : Mem) : Option (UInt64 × Mem) :=
  bd (fX8_spanOf μ 7 (μ 1 0)) fun r10 μ9 =>
  (ld 3 (μ9 9) (0 : Int32)).bind fun r11 =>
  (ld 3 (μ9 9) (1 : Int32)).bind fun r12 =>
  (ld 3 (μ9 9) (2 : Int32)).bind fun r13 =>
  if (r10 * ((r11 + r12) + r13)) = 0 then
  some (FP.dconst0, μ9)
  else
  bd (fX6_countLaid μ9) fun r15 μ14 =>
  (dop (FP.ddiv (FP.i2d r15) (FP.i2d (r10 * ((r11 + r12) + r13))))).bind fun r16 =>
  some (r16, μ14)
theorem ctX8_filledShare {l : Launch} {D : va_G} {cI cR : ClassId} {ad : Nat → Nat} {μ : Mem} {r : UInt64} {μ' : Mem} (hf : fX8_filledShare μ = some (r, μ')) : CT l yX8_filledShare cX8_filledShare 2 (some .double) 2 D cI cR ad shX NX [.ref (ad 0)] μ (some (.double r)) μ' :=
  ct_of (own := RX8) (ov := fun r => some (.double r)) (by decide +kernel) rfl (Nat.le_of_ble_eq_true rfl) (fun p e s m below meth c A0 E hr => by
    refine ll_lo (lo' := [some (.ref (ad 0)), none]) ⟨rfl, trivial⟩ ?_
    rw [fX8_filledShare]
    refine ll_aload_n E (pc := 0) dX8_filledShare_0 rfl ?_
    refine ll_getfr E (pc := 1) (o9 := 0) (ci := 8) (k9 := 0) (q := 1) dX8_filledShare_1 fl_X8_12 (Nat.le_of_ble_eq_true rfl) fx_0_0 ?_
    refine ll_getfr E (pc := 4) (o9 := 1) (ci := 6) (k9 := 6) (q := 7) dX8_filledShare_4 fl_X8_170 (Nat.le_of_ble_eq_true rfl) fx_1_6 ?_
    refine ll_aload_n E (pc := 7) dX8_filledShare_7 rfl ?_
    refine ll_getfr E (pc := 8) (o9 := 0) (ci := 8) (k9 := 0) (q := 1) dX8_filledShare_8 fl_X8_12 (Nat.le_of_ble_eq_true rfl) fx_0_0 ?_
    refine ll_getf E (pc := 11) (o9 := 1) (ci := 6) (k9 := 0) dX8_filledShare_11 fl_X8_81 (Nat.le_of_ble_eq_true rfl) fx_1_0 ?_
    refine ll_callSi E (pc := 14) (d := 1) [.ref (ad 7), .int (μ 1 0)] [] dX8_filledShare_14 cv_X8_188 (fun h => ctX8_spanOf px_7 h) rfl rfl (Nat.le_of_ble_eq_true rfl) ⟨(Nat.le_of_ble_eq_true rfl), (Nat.le_of_ble_eq_true rfl)⟩ ⟨(Nat.le_of_ble_eq_true rfl), (Nat.le_of_ble_eq_true rfl)⟩ ?_
    intro r10 μ9
    refine ll_aload_n E (pc := 17) dX8_filledShare_17 rfl ?_
    refine ll_getfr E (pc := 18) (o9 := 0) (ci := 8) (k9 := 0) (q := 1) dX8_filledShare_18 fl_X8_12 (Nat.le_of_ble_eq_true rfl) fx_0_0 ?_
    refine ll_getfr E (pc := 21) (o9 := 1) (ci := 6) (k9 := 8) (q := 9) dX8_filledShare_21 fl_X8_154 (Nat.le_of_ble_eq_true rfl) fx_1_8 ?_
    refine ll_iconst E (pc := 24) dX8_filledShare_24 kc_0 ?_
    refine ll_iald E (pc := 25) (a := 9) dX8_filledShare_25 (px_9).1 (px_9).2 ?_
    intro r11
    refine ll_aload_n E (pc := 26) dX8_filledShare_26 rfl ?_
    refine ll_getfr E (pc := 27) (o9 := 0) (ci := 8) (k9 := 0) (q := 1) dX8_filledShare_27 fl_X8_12 (Nat.le_of_ble_eq_true rfl) fx_0_0 ?_
    refine ll_getfr E (pc := 30) (o9 := 1) (ci := 6) (k9 := 8) (q := 9) dX8_filledShare_30 fl_X8_154 (Nat.le_of_ble_eq_true rfl) fx_1_8 ?_
    refine ll_iconst E (pc := 33) dX8_filledShare_33 kc_1 ?_
    refine ll_iald E (pc := 34) (a := 9) dX8_filledShare_34 (px_9).1 (px_9).2 ?_
    intro r12
    refine ll_iadd E (pc := 35) dX8_filledShare_35 ?_
    refine ll_aload_n E (pc := 36) dX8_filledShare_36 rfl ?_
    refine ll_getfr E (pc := 37) (o9 := 0) (ci := 8) (k9 := 0) (q := 1) dX8_filledShare_37 fl_X8_12 (Nat.le_of_ble_eq_true rfl) fx_0_0 ?_
    refine ll_getfr E (pc := 40) (o9 := 1) (ci := 6) (k9 := 8) (q := 9) dX8_filledShare_40 fl_X8_154 (Nat.le_of_ble_eq_true rfl) fx_1_8 ?_
    refine ll_iconst E (pc := 43) dX8_filledShare_43 kc_2 ?_
    refine ll_iald E (pc := 44) (a := 9) dX8_filledShare_44 (px_9).1 (px_9).2 ?_
    intro r13
    refine ll_iadd E (pc := 45) dX8_filledShare_45 ?_
    refine ll_imul E (pc := 46) dX8_filledShare_46 ?_
    refine ll_istore_n E (pc := 47) (lo' := [some (.ref (ad 0)), some (.int (r10 * ((r11 + r12) + r13)))]) dX8_filledShare_47 (Nat.le_of_ble_eq_true rfl) rfl rfl ?_
    refine ll_iload_n E (pc := 48) dX8_filledShare_48 rfl ?_
    refine ll_if_ne E (pc := 49) (tgt := 54) dX8_filledShare_49 rfl ?_ ?_
    · refine ll_aload_n E (pc := 54) dX8_filledShare_54 rfl ?_
      refine ll_getfr E (pc := 55) (o9 := 0) (ci := 8) (k9 := 0) (q := 1) dX8_filledShare_55 fl_X8_12 (Nat.le_of_ble_eq_true rfl) fx_0_0 ?_
      refine ll_callVi E (pc := 58) (d := 0) (ci := 6) (o9 := 1) [] [] dX8_filledShare_58 cv_X8_282 (fun h => ctX6_countLaid h) (Nat.le_of_ble_eq_true rfl) sx_1 ci_6 rfl rfl (Nat.le_of_ble_eq_true rfl) ⟨(Nat.le_of_ble_eq_true rfl), (Nat.le_of_ble_eq_true rfl)⟩ ⟨(Nat.le_of_ble_eq_true rfl), (Nat.le_of_ble_eq_true rfl)⟩ ?_
      intro r15 μ14
      refine ll_i2d E (pc := 61) dX8_filledShare_61 ?_
      refine ll_iload_n E (pc := 62) dX8_filledShare_62 rfl ?_
      refine ll_i2d E (pc := 63) dX8_filledShare_63 ?_
      refine ll_ddiv E (pc := 64) dX8_filledShare_64 ?_
      intro r16
      exact ll_dreturn E (pc := 65) hr dX8_filledShare_65
    · refine ll_dconst0 E (pc := 52) dX8_filledShare_52 ?_
      exact ll_dreturn E (pc := 53) hr dX8_filledShare_53) hf
theorem dX8_registerInOrder_0 : decode cX8_registerInOrder 0 = .ok (.iload_n 1, 1) := by decide +kernel
theorem dX8_registerInOrder_1 : decode cX8_registerInOrder 1 = .ok (.invokestatic 140, 3) := by decide +kernel
theorem dX8_registerInOrder_4 : decode cX8_registerInOrder 4 = .ok (.aload_n 0, 1) := by decide +kernel
theorem dX8_registerInOrder_5 : decode cX8_registerInOrder 5 = .ok (.getfield 64, 3) := by decide +kernel
theorem dX8_registerInOrder_8 : decode cX8_registerInOrder 8 = .ok (.aload_n 0, 1) := by decide +kernel
theorem dX8_registerInOrder_9 : decode cX8_registerInOrder 9 = .ok (.getfield 12, 3) := by decide +kernel
theorem dX8_registerInOrder_12 : decode cX8_registerInOrder 12 = .ok (.iconst 1, 1) := by decide +kernel
theorem dX8_registerInOrder_13 : decode cX8_registerInOrder 13 = .ok (.aload_n 0, 1) := by decide +kernel
theorem dX8_registerInOrder_14 : decode cX8_registerInOrder 14 = .ok (.getfield 68, 3) := by decide +kernel
theorem dX8_registerInOrder_17 : decode cX8_registerInOrder 17 = .ok (.invokevirtual 285, 3) := by decide +kernel
theorem dX8_registerInOrder_20 : decode cX8_registerInOrder 20 = .ok (.aload_n 0, 1) := by decide +kernel
theorem dX8_registerInOrder_21 : decode cX8_registerInOrder 21 = .ok (.getfield 68, 3) := by decide +kernel
theorem dX8_registerInOrder_24 : decode cX8_registerInOrder 24 = .ok (.iload_n 1, 1) := by decide +kernel
theorem dX8_registerInOrder_25 : decode cX8_registerInOrder 25 = .ok (.iaload, 1) := by decide +kernel
theorem dX8_registerInOrder_26 : decode cX8_registerInOrder 26 = .ok (.ireturn, 1) := by decide +kernel
def fX8_registerInOrder (μ : Mem) (a1 : Int32) : Option ((Int32 ⊕ Nat) × Mem) :=
  bx (fX8_checkRegister μ a1) fun _ μ6 =>
  bd (fX5_doInOrder μ6 (1 : Int32) 97) fun _ μ8 =>
  (ld 24 (μ8 97) a1).bind fun r10 =>
  some (.inl r10, μ8)
theorem cxX8_registerInOrder {l : Launch} {D : va_G} {cI cR : ClassId} {ad : Nat → Nat} {μ : Mem} {a1 : Int32} (hl9 : l.stackTraces = false) {r : Int32 ⊕ Nat} {μ' : Mem} (hf : fX8_registerInOrder μ a1 = some (r, μ')) : CX l yX8_registerInOrder cX8_registerInOrder 2 (some .int) 8 1 D cI cR ad shX NX [.ref (ad 0), .int a1] μ (r.elim (fun r => .inl (some (.int r))) .inr) μ' :=
  cx_of (own := RX8) (ov := fun (r : Int32 ⊕ Nat) => (r.elim (fun r => .inl (some (.int r))) .inr)) hl9 (by decide +kernel) rfl (Nat.le_of_ble_eq_true rfl) (fun p e s m below meth c A0 E X hr => by
    refine ll_lo (lo' := [some (.ref (ad 0)), some (.int a1)]) ⟨rfl, rfl, trivial⟩ ?_
    rw [fX8_registerInOrder]
    refine ll_iload_n E (pc := 0) dX8_registerInOrder_0 rfl ?_
    refine ll_xcallSv E X (pc := 1) (d := 7) (mc1 := 1) (mc := 1) [.int a1] [] dX8_registerInOrder_1 cv_X8_140 (fun h => cxX8_checkRegister X.1 h) rfl rfl (Nat.le_of_ble_eq_true rfl) ⟨(Nat.le_of_ble_eq_true rfl), (Nat.le_of_ble_eq_true rfl)⟩ ⟨(Nat.le_of_ble_eq_true rfl), (Nat.le_of_ble_eq_true rfl)⟩ ⟨(Nat.le_of_ble_eq_true rfl), (Nat.le_of_ble_eq_true rfl)⟩ ?_
    intro r7 μ6
    refine ll_aload_n E (pc := 4) dX8_registerInOrder_4 rfl ?_
    refine ll_getfr E (pc := 5) (o9 := 0) (ci := 8) (k9 := 11) (q := 92) dX8_registerInOrder_5 fl_X8_64 (Nat.le_of_ble_eq_true rfl) fx_0_11 ?_
    refine ll_aload_n E (pc := 8) dX8_registerInOrder_8 rfl ?_
    refine ll_getfr E (pc := 9) (o9 := 0) (ci := 8) (k9 := 0) (q := 1) dX8_registerInOrder_9 fl_X8_12 (Nat.le_of_ble_eq_true rfl) fx_0_0 ?_
    refine ll_iconst E (pc := 12) dX8_registerInOrder_12 kc_1 ?_
    refine ll_aload_n E (pc := 13) dX8_registerInOrder_13 rfl ?_
    refine ll_getfr E (pc := 14) (o9 := 0) (ci := 8) (k9 := 12) (q := 97) dX8_registerInOrder_14 fl_X8_68 (Nat.le_of_ble_eq_true rfl) fx_0_12 ?_
    refine ll_callVv E (pc := 17) (d := 3) (ci := 5) (o9 := 92) [.ref (ad 1), .int (1 : Int32), .ref (ad 97)] [] dX8_registerInOrder_17 cv_X8_285 (fun h => ctX5_doInOrder px_97 h) (Nat.le_of_ble_eq_true rfl) sx_92 ci_5 rfl rfl (Nat.le_of_ble_eq_true rfl) ⟨(Nat.le_of_ble_eq_true rfl), (Nat.le_of_ble_eq_true rfl)⟩ ⟨(Nat.le_of_ble_eq_true rfl), (Nat.le_of_ble_eq_true rfl)⟩ ?_
    intro r9 μ8
    refine ll_aload_n E (pc := 20) dX8_registerInOrder_20 rfl ?_
    refine ll_getfr E (pc := 21) (o9 := 0) (ci := 8) (k9 := 12) (q := 97) dX8_registerInOrder_21 fl_X8_68 (Nat.le_of_ble_eq_true rfl) fx_0_12 ?_
    refine ll_iload_n E (pc := 24) dX8_registerInOrder_24 rfl ?_
    refine ll_iald E (pc := 25) (a := 97) dX8_registerInOrder_25 (px_97).1 (px_97).2 ?_
    intro r10
    exact ll_xireturn E (pc := 26) hr dX8_registerInOrder_26 ⟨(Nat.le_of_ble_eq_true rfl), (Nat.le_of_ble_eq_true rfl)⟩) hf
theorem dX8_doBundles_0 : decode cX8_doBundles 0 = .ok (.aload_n 0, 1) := by decide +kernel
theorem dX8_doBundles_1 : decode cX8_doBundles 1 = .ok (.getfield 64, 3) := by decide +kernel
theorem dX8_doBundles_4 : decode cX8_doBundles 4 = .ok (.aload_n 0, 1) := by decide +kernel
theorem dX8_doBundles_5 : decode cX8_doBundles 5 = .ok (.getfield 12, 3) := by decide +kernel
theorem dX8_doBundles_8 : decode cX8_doBundles 8 = .ok (.aload_n 0, 1) := by decide +kernel
theorem dX8_doBundles_9 : decode cX8_doBundles 9 = .ok (.getfield 12, 3) := by decide +kernel
theorem dX8_doBundles_12 : decode cX8_doBundles 12 = .ok (.getfield 170, 3) := by decide +kernel
theorem dX8_doBundles_15 : decode cX8_doBundles 15 = .ok (.iconst 1, 1) := by decide +kernel
theorem dX8_doBundles_16 : decode cX8_doBundles 16 = .ok (.iconst 1, 1) := by decide +kernel
theorem dX8_doBundles_17 : decode cX8_doBundles 17 = .ok (.iload_n 1, 1) := by decide +kernel
theorem dX8_doBundles_18 : decode cX8_doBundles 18 = .ok (.aload_n 0, 1) := by decide +kernel
theorem dX8_doBundles_19 : decode cX8_doBundles 19 = .ok (.getfield 72, 3) := by decide +kernel
theorem dX8_doBundles_22 : decode cX8_doBundles 22 = .ok (.invokevirtual 415, 3) := by decide +kernel
theorem dX8_doBundles_25 : decode cX8_doBundles 25 = .ok (.return_, 1) := by decide +kernel
def fX8_doBundles (μ : Mem) (a1 : Int32) : Option (Unit × Mem) :=
  bd (fX5_doInTime μ 7 (1 : Int32) (1 : Int32) a1 98) fun _ μ3 =>
  some ((), μ3)
theorem ctX8_doBundles {l : Launch} {D : va_G} {cI cR : ClassId} {ad : Nat → Nat} {μ : Mem} {a1 : Int32} {r : Unit} {μ' : Mem} (hf : fX8_doBundles μ a1 = some (r, μ')) : CT l yX8_doBundles cX8_doBundles 2 none 5 D cI cR ad shX NX [.ref (ad 0), .int a1] μ none μ' :=
  ct_of (own := RX8) (ov := fun _ => none) (by decide +kernel) rfl (Nat.le_of_ble_eq_true rfl) (fun p e s m below meth c A0 E hr => by
    refine ll_lo (lo' := [some (.ref (ad 0)), some (.int a1)]) ⟨rfl, rfl, trivial⟩ ?_
    rw [fX8_doBundles]
    refine ll_aload_n E (pc := 0) dX8_doBundles_0 rfl ?_
    refine ll_getfr E (pc := 1) (o9 := 0) (ci := 8) (k9 := 11) (q := 92) dX8_doBundles_1 fl_X8_64 (Nat.le_of_ble_eq_true rfl) fx_0_11 ?_
    refine ll_aload_n E (pc := 4) dX8_doBundles_4 rfl ?_
    refine ll_getfr E (pc := 5) (o9 := 0) (ci := 8) (k9 := 0) (q := 1) dX8_doBundles_5 fl_X8_12 (Nat.le_of_ble_eq_true rfl) fx_0_0 ?_
    refine ll_aload_n E (pc := 8) dX8_doBundles_8 rfl ?_
    refine ll_getfr E (pc := 9) (o9 := 0) (ci := 8) (k9 := 0) (q := 1) dX8_doBundles_9 fl_X8_12 (Nat.le_of_ble_eq_true rfl) fx_0_0 ?_
    refine ll_getfr E (pc := 12) (o9 := 1) (ci := 6) (k9 := 6) (q := 7) dX8_doBundles_12 fl_X8_170 (Nat.le_of_ble_eq_true rfl) fx_1_6 ?_
    refine ll_iconst E (pc := 15) dX8_doBundles_15 kc_1 ?_
    refine ll_iconst E (pc := 16) dX8_doBundles_16 kc_1 ?_
    refine ll_iload_n E (pc := 17) dX8_doBundles_17 rfl ?_
    refine ll_aload_n E (pc := 18) dX8_doBundles_18 rfl ?_
    refine ll_getfr E (pc := 19) (o9 := 0) (ci := 8) (k9 := 13) (q := 98) dX8_doBundles_19 fl_X8_72 (Nat.le_of_ble_eq_true rfl) fx_0_13 ?_
    refine ll_callVv E (pc := 22) (d := 4) (ci := 5) (o9 := 92) [.ref (ad 1), .ref (ad 7), .int (1 : Int32), .int (1 : Int32), .int a1, .ref (ad 98)] [] dX8_doBundles_22 cv_X8_415 (fun h => ctX5_doInTime px_7 px_98 h) (Nat.le_of_ble_eq_true rfl) sx_92 ci_5 rfl rfl (Nat.le_of_ble_eq_true rfl) ⟨(Nat.le_of_ble_eq_true rfl), (Nat.le_of_ble_eq_true rfl)⟩ ⟨(Nat.le_of_ble_eq_true rfl), (Nat.le_of_ble_eq_true rfl)⟩ ?_
    intro r4 μ3
    exact ll_return E (pc := 25) hr dX8_doBundles_25) hf
theorem dX8_registerInBundles_0 : decode cX8_registerInBundles 0 = .ok (.iload_n 1, 1) := by decide +kernel
theorem dX8_registerInBundles_1 : decode cX8_registerInBundles 1 = .ok (.invokestatic 140, 3) := by decide +kernel
theorem dX8_registerInBundles_4 : decode cX8_registerInBundles 4 = .ok (.aload_n 0, 1) := by decide +kernel
theorem dX8_registerInBundles_5 : decode cX8_registerInBundles 5 = .ok (.sipush 205, 3) := by decide +kernel
theorem dX8_registerInBundles_8 : decode cX8_registerInBundles 8 = .ok (.invokevirtual 289, 3) := by decide +kernel
theorem dX8_registerInBundles_11 : decode cX8_registerInBundles 11 = .ok (.aload_n 0, 1) := by decide +kernel
theorem dX8_registerInBundles_12 : decode cX8_registerInBundles 12 = .ok (.getfield 72, 3) := by decide +kernel
theorem dX8_registerInBundles_15 : decode cX8_registerInBundles 15 = .ok (.iload_n 1, 1) := by decide +kernel
theorem dX8_registerInBundles_16 : decode cX8_registerInBundles 16 = .ok (.iaload, 1) := by decide +kernel
theorem dX8_registerInBundles_17 : decode cX8_registerInBundles 17 = .ok (.ireturn, 1) := by decide +kernel
def fX8_registerInBundles (μ : Mem) (a1 : Int32) : Option ((Int32 ⊕ Nat) × Mem) :=
  bx (fX8_checkRegister μ a1) fun _ μ6 =>
  bd (fX8_doBundles μ6 (205 : Int32)) fun _ μ8 =>
  (ld 24 (μ8 98) a1).bind fun r10 =>
  some (.inl r10, μ8)
theorem cxX8_registerInBundles {l : Launch} {D : va_G} {cI cR : ClassId} {ad : Nat → Nat} {μ : Mem} {a1 : Int32} (hl9 : l.stackTraces = false) {r : Int32 ⊕ Nat} {μ' : Mem} (hf : fX8_registerInBundles μ a1 = some (r, μ')) : CX l yX8_registerInBundles cX8_registerInBundles 2 (some .int) 8 1 D cI cR ad shX NX [.ref (ad 0), .int a1] μ (r.elim (fun r => .inl (some (.int r))) .inr) μ' :=
  cx_of (own := RX8) (ov := fun (r : Int32 ⊕ Nat) => (r.elim (fun r => .inl (some (.int r))) .inr)) hl9 (by decide +kernel) rfl (Nat.le_of_ble_eq_true rfl) (fun p e s m below meth c A0 E X hr => by
    refine ll_lo (lo' := [some (.ref (ad 0)), some (.int a1)]) ⟨rfl, rfl, trivial⟩ ?_
    rw [fX8_registerInBundles]
    refine ll_iload_n E (pc := 0) dX8_registerInBundles_0 rfl ?_
    refine ll_xcallSv E X (pc := 1) (d := 7) (mc1 := 1) (mc := 1) [.int a1] [] dX8_registerInBundles_1 cv_X8_140 (fun h => cxX8_checkRegister X.1 h) rfl rfl (Nat.le_of_ble_eq_true rfl) ⟨(Nat.le_of_ble_eq_true rfl), (Nat.le_of_ble_eq_true rfl)⟩ ⟨(Nat.le_of_ble_eq_true rfl), (Nat.le_of_ble_eq_true rfl)⟩ ⟨(Nat.le_of_ble_eq_true rfl), (Nat.le_of_ble_eq_true rfl)⟩ ?_
    intro r7 μ6
    refine ll_aload_n E (pc := 4) dX8_registerInBundles_4 rfl ?_
    refine ll_sipush E (pc := 5) dX8_registerInBundles_5 ks_205 ?_
    refine ll_callVv E (pc := 8) (d := 5) (ci := 8) (o9 := 0) [.int (205 : Int32)] [] dX8_registerInBundles_8 cv_X8_289 (fun h => ctX8_doBundles h) (Nat.le_of_ble_eq_true rfl) sx_0 ci_8 rfl rfl (Nat.le_of_ble_eq_true rfl) ⟨(Nat.le_of_ble_eq_true rfl), (Nat.le_of_ble_eq_true rfl)⟩ ⟨(Nat.le_of_ble_eq_true rfl), (Nat.le_of_ble_eq_true rfl)⟩ ?_
    intro r9 μ8
    refine ll_aload_n E (pc := 11) dX8_registerInBundles_11 rfl ?_
    refine ll_getfr E (pc := 12) (o9 := 0) (ci := 8) (k9 := 13) (q := 98) dX8_registerInBundles_12 fl_X8_72 (Nat.le_of_ble_eq_true rfl) fx_0_13 ?_
    refine ll_iload_n E (pc := 15) dX8_registerInBundles_15 rfl ?_
    refine ll_iald E (pc := 16) (a := 98) dX8_registerInBundles_16 (px_98).1 (px_98).2 ?_
    intro r10
    exact ll_xireturn E (pc := 17) hr dX8_registerInBundles_17 ⟨(Nat.le_of_ble_eq_true rfl), (Nat.le_of_ble_eq_true rfl)⟩) hf
theorem dX8_cellInOrder_0 : decode cX8_cellInOrder 0 = .ok (.iload_n 1, 1) := by decide +kernel
theorem dX8_cellInOrder_1 : decode cX8_cellInOrder 1 = .ok (.invokestatic 146, 3) := by decide +kernel
theorem dX8_cellInOrder_4 : decode cX8_cellInOrder 4 = .ok (.aload_n 0, 1) := by decide +kernel
theorem dX8_cellInOrder_5 : decode cX8_cellInOrder 5 = .ok (.getfield 64, 3) := by decide +kernel
theorem dX8_cellInOrder_8 : decode cX8_cellInOrder 8 = .ok (.aload_n 0, 1) := by decide +kernel
theorem dX8_cellInOrder_9 : decode cX8_cellInOrder 9 = .ok (.getfield 12, 3) := by decide +kernel
theorem dX8_cellInOrder_12 : decode cX8_cellInOrder 12 = .ok (.iconst 1, 1) := by decide +kernel
theorem dX8_cellInOrder_13 : decode cX8_cellInOrder 13 = .ok (.aload_n 0, 1) := by decide +kernel
theorem dX8_cellInOrder_14 : decode cX8_cellInOrder 14 = .ok (.getfield 68, 3) := by decide +kernel
theorem dX8_cellInOrder_17 : decode cX8_cellInOrder 17 = .ok (.invokevirtual 285, 3) := by decide +kernel
theorem dX8_cellInOrder_20 : decode cX8_cellInOrder 20 = .ok (.aload_n 0, 1) := by decide +kernel
theorem dX8_cellInOrder_21 : decode cX8_cellInOrder 21 = .ok (.getfield 68, 3) := by decide +kernel
theorem dX8_cellInOrder_24 : decode cX8_cellInOrder 24 = .ok (.bipush 12, 2) := by decide +kernel
theorem dX8_cellInOrder_26 : decode cX8_cellInOrder 26 = .ok (.iload_n 1, 1) := by decide +kernel
theorem dX8_cellInOrder_27 : decode cX8_cellInOrder 27 = .ok (.iadd, 1) := by decide +kernel
theorem dX8_cellInOrder_28 : decode cX8_cellInOrder 28 = .ok (.iaload, 1) := by decide +kernel
theorem dX8_cellInOrder_29 : decode cX8_cellInOrder 29 = .ok (.ireturn, 1) := by decide +kernel
def fX8_cellInOrder (μ : Mem) (a1 : Int32) : Option ((Int32 ⊕ Nat) × Mem) :=
  bx (fX8_checkCell μ a1) fun _ μ6 =>
  bd (fX5_doInOrder μ6 (1 : Int32) 97) fun _ μ8 =>
  (ld 24 (μ8 97) ((12 : Int32) + a1)).bind fun r10 =>
  some (.inl r10, μ8)
theorem cxX8_cellInOrder {l : Launch} {D : va_G} {cI cR : ClassId} {ad : Nat → Nat} {μ : Mem} {a1 : Int32} (hl9 : l.stackTraces = false) {r : Int32 ⊕ Nat} {μ' : Mem} (hf : fX8_cellInOrder μ a1 = some (r, μ')) : CX l yX8_cellInOrder cX8_cellInOrder 2 (some .int) 8 1 D cI cR ad shX NX [.ref (ad 0), .int a1] μ (r.elim (fun r => .inl (some (.int r))) .inr) μ' :=
  cx_of (own := RX8) (ov := fun (r : Int32 ⊕ Nat) => (r.elim (fun r => .inl (some (.int r))) .inr)) hl9 (by decide +kernel) rfl (Nat.le_of_ble_eq_true rfl) (fun p e s m below meth c A0 E X hr => by
    refine ll_lo (lo' := [some (.ref (ad 0)), some (.int a1)]) ⟨rfl, rfl, trivial⟩ ?_
    rw [fX8_cellInOrder]
    refine ll_iload_n E (pc := 0) dX8_cellInOrder_0 rfl ?_
    refine ll_xcallSv E X (pc := 1) (d := 7) (mc1 := 1) (mc := 1) [.int a1] [] dX8_cellInOrder_1 cv_X8_146 (fun h => cxX8_checkCell X.1 h) rfl rfl (Nat.le_of_ble_eq_true rfl) ⟨(Nat.le_of_ble_eq_true rfl), (Nat.le_of_ble_eq_true rfl)⟩ ⟨(Nat.le_of_ble_eq_true rfl), (Nat.le_of_ble_eq_true rfl)⟩ ⟨(Nat.le_of_ble_eq_true rfl), (Nat.le_of_ble_eq_true rfl)⟩ ?_
    intro r7 μ6
    refine ll_aload_n E (pc := 4) dX8_cellInOrder_4 rfl ?_
    refine ll_getfr E (pc := 5) (o9 := 0) (ci := 8) (k9 := 11) (q := 92) dX8_cellInOrder_5 fl_X8_64 (Nat.le_of_ble_eq_true rfl) fx_0_11 ?_
    refine ll_aload_n E (pc := 8) dX8_cellInOrder_8 rfl ?_
    refine ll_getfr E (pc := 9) (o9 := 0) (ci := 8) (k9 := 0) (q := 1) dX8_cellInOrder_9 fl_X8_12 (Nat.le_of_ble_eq_true rfl) fx_0_0 ?_
    refine ll_iconst E (pc := 12) dX8_cellInOrder_12 kc_1 ?_
    refine ll_aload_n E (pc := 13) dX8_cellInOrder_13 rfl ?_
    refine ll_getfr E (pc := 14) (o9 := 0) (ci := 8) (k9 := 12) (q := 97) dX8_cellInOrder_14 fl_X8_68 (Nat.le_of_ble_eq_true rfl) fx_0_12 ?_
    refine ll_callVv E (pc := 17) (d := 3) (ci := 5) (o9 := 92) [.ref (ad 1), .int (1 : Int32), .ref (ad 97)] [] dX8_cellInOrder_17 cv_X8_285 (fun h => ctX5_doInOrder px_97 h) (Nat.le_of_ble_eq_true rfl) sx_92 ci_5 rfl rfl (Nat.le_of_ble_eq_true rfl) ⟨(Nat.le_of_ble_eq_true rfl), (Nat.le_of_ble_eq_true rfl)⟩ ⟨(Nat.le_of_ble_eq_true rfl), (Nat.le_of_ble_eq_true rfl)⟩ ?_
    intro r9 μ8
    refine ll_aload_n E (pc := 20) dX8_cellInOrder_20 rfl ?_
    refine ll_getfr E (pc := 21) (o9 := 0) (ci := 8) (k9 := 12) (q := 97) dX8_cellInOrder_21 fl_X8_68 (Nat.le_of_ble_eq_true rfl) fx_0_12 ?_
    refine ll_bipush E (pc := 24) dX8_cellInOrder_24 kb_12 ?_
    refine ll_iload_n E (pc := 26) dX8_cellInOrder_26 rfl ?_
    refine ll_iadd E (pc := 27) dX8_cellInOrder_27 ?_
    refine ll_iald E (pc := 28) (a := 97) dX8_cellInOrder_28 (px_97).1 (px_97).2 ?_
    intro r10
    exact ll_xireturn E (pc := 29) hr dX8_cellInOrder_29 ⟨(Nat.le_of_ble_eq_true rfl), (Nat.le_of_ble_eq_true rfl)⟩) hf
theorem dX8_cellInBundles_0 : decode cX8_cellInBundles 0 = .ok (.iload_n 1, 1) := by decide +kernel
theorem dX8_cellInBundles_1 : decode cX8_cellInBundles 1 = .ok (.invokestatic 146, 3) := by decide +kernel
theorem dX8_cellInBundles_4 : decode cX8_cellInBundles 4 = .ok (.aload_n 0, 1) := by decide +kernel
theorem dX8_cellInBundles_5 : decode cX8_cellInBundles 5 = .ok (.sipush 205, 3) := by decide +kernel
theorem dX8_cellInBundles_8 : decode cX8_cellInBundles 8 = .ok (.invokevirtual 289, 3) := by decide +kernel
theorem dX8_cellInBundles_11 : decode cX8_cellInBundles 11 = .ok (.aload_n 0, 1) := by decide +kernel
theorem dX8_cellInBundles_12 : decode cX8_cellInBundles 12 = .ok (.getfield 72, 3) := by decide +kernel
theorem dX8_cellInBundles_15 : decode cX8_cellInBundles 15 = .ok (.bipush 12, 2) := by decide +kernel
theorem dX8_cellInBundles_17 : decode cX8_cellInBundles 17 = .ok (.iload_n 1, 1) := by decide +kernel
theorem dX8_cellInBundles_18 : decode cX8_cellInBundles 18 = .ok (.iadd, 1) := by decide +kernel
theorem dX8_cellInBundles_19 : decode cX8_cellInBundles 19 = .ok (.iaload, 1) := by decide +kernel
theorem dX8_cellInBundles_20 : decode cX8_cellInBundles 20 = .ok (.ireturn, 1) := by decide +kernel
def fX8_cellInBundles (μ : Mem) (a1 : Int32) : Option ((Int32 ⊕ Nat) × Mem) :=
  bx (fX8_checkCell μ a1) fun _ μ6 =>
  bd (fX8_doBundles μ6 (205 : Int32)) fun _ μ8 =>
  (ld 24 (μ8 98) ((12 : Int32) + a1)).bind fun r10 =>
  some (.inl r10, μ8)
theorem cxX8_cellInBundles {l : Launch} {D : va_G} {cI cR : ClassId} {ad : Nat → Nat} {μ : Mem} {a1 : Int32} (hl9 : l.stackTraces = false) {r : Int32 ⊕ Nat} {μ' : Mem} (hf : fX8_cellInBundles μ a1 = some (r, μ')) : CX l yX8_cellInBundles cX8_cellInBundles 2 (some .int) 8 1 D cI cR ad shX NX [.ref (ad 0), .int a1] μ (r.elim (fun r => .inl (some (.int r))) .inr) μ' :=
  cx_of (own := RX8) (ov := fun (r : Int32 ⊕ Nat) => (r.elim (fun r => .inl (some (.int r))) .inr)) hl9 (by decide +kernel) rfl (Nat.le_of_ble_eq_true rfl) (fun p e s m below meth c A0 E X hr => by
    refine ll_lo (lo' := [some (.ref (ad 0)), some (.int a1)]) ⟨rfl, rfl, trivial⟩ ?_
    rw [fX8_cellInBundles]
    refine ll_iload_n E (pc := 0) dX8_cellInBundles_0 rfl ?_
    refine ll_xcallSv E X (pc := 1) (d := 7) (mc1 := 1) (mc := 1) [.int a1] [] dX8_cellInBundles_1 cv_X8_146 (fun h => cxX8_checkCell X.1 h) rfl rfl (Nat.le_of_ble_eq_true rfl) ⟨(Nat.le_of_ble_eq_true rfl), (Nat.le_of_ble_eq_true rfl)⟩ ⟨(Nat.le_of_ble_eq_true rfl), (Nat.le_of_ble_eq_true rfl)⟩ ⟨(Nat.le_of_ble_eq_true rfl), (Nat.le_of_ble_eq_true rfl)⟩ ?_
    intro r7 μ6
    refine ll_aload_n E (pc := 4) dX8_cellInBundles_4 rfl ?_
    refine ll_sipush E (pc := 5) dX8_cellInBundles_5 ks_205 ?_
    refine ll_callVv E (pc := 8) (d := 5) (ci := 8) (o9 := 0) [.int (205 : Int32)] [] dX8_cellInBundles_8 cv_X8_289 (fun h => ctX8_doBundles h) (Nat.le_of_ble_eq_true rfl) sx_0 ci_8 rfl rfl (Nat.le_of_ble_eq_true rfl) ⟨(Nat.le_of_ble_eq_true rfl), (Nat.le_of_ble_eq_true rfl)⟩ ⟨(Nat.le_of_ble_eq_true rfl), (Nat.le_of_ble_eq_true rfl)⟩ ?_
    intro r9 μ8
    refine ll_aload_n E (pc := 11) dX8_cellInBundles_11 rfl ?_
    refine ll_getfr E (pc := 12) (o9 := 0) (ci := 8) (k9 := 13) (q := 98) dX8_cellInBundles_12 fl_X8_72 (Nat.le_of_ble_eq_true rfl) fx_0_13 ?_
    refine ll_bipush E (pc := 15) dX8_cellInBundles_15 kb_12 ?_
    refine ll_iload_n E (pc := 17) dX8_cellInBundles_17 rfl ?_
    refine ll_iadd E (pc := 18) dX8_cellInBundles_18 ?_
    refine ll_iald E (pc := 19) (a := 98) dX8_cellInBundles_19 (px_98).1 (px_98).2 ?_
    intro r10
    exact ll_xireturn E (pc := 20) hr dX8_cellInBundles_20 ⟨(Nat.le_of_ble_eq_true rfl), (Nat.le_of_ble_eq_true rfl)⟩) hf
theorem dX8_registerAt_0 : decode cX8_registerAt 0 = .ok (.iload_n 2, 1) := by decide +kernel
theorem dX8_registerAt_1 : decode cX8_registerAt 1 = .ok (.invokestatic 140, 3) := by decide +kernel
theorem dX8_registerAt_4 : decode cX8_registerAt 4 = .ok (.iload_n 1, 1) := by decide +kernel
theorem dX8_registerAt_5 : decode cX8_registerAt 5 = .ok (.ifCond .lt 10, 3) := by decide +kernel
theorem dX8_registerAt_8 : decode cX8_registerAt 8 = .ok (.iload_n 1, 1) := by decide +kernel
theorem dX8_registerAt_9 : decode cX8_registerAt 9 = .ok (.sipush 205, 3) := by decide +kernel
theorem dX8_registerAt_12 : decode cX8_registerAt 12 = .ok (.if_icmp .le 14, 3) := by decide +kernel
theorem dX8_registerAt_15 : decode cX8_registerAt 15 = .ok (.new 96, 3) := by decide +kernel
theorem dX8_registerAt_18 : decode cX8_registerAt 18 = .ok (.dup, 1) := by decide +kernel
theorem dX8_registerAt_19 : decode cX8_registerAt 19 = .ok (.ldc_w 292, 3) := by decide +kernel
theorem dX8_registerAt_22 : decode cX8_registerAt 22 = .ok (.invokespecial 100, 3) := by decide +kernel
theorem dX8_registerAt_25 : decode cX8_registerAt 25 = .ok (.athrow, 1) := by decide +kernel
theorem dX8_registerAt_26 : decode cX8_registerAt 26 = .ok (.aload_n 0, 1) := by decide +kernel
theorem dX8_registerAt_27 : decode cX8_registerAt 27 = .ok (.iload_n 1, 1) := by decide +kernel
theorem dX8_registerAt_28 : decode cX8_registerAt 28 = .ok (.invokevirtual 289, 3) := by decide +kernel
theorem dX8_registerAt_31 : decode cX8_registerAt 31 = .ok (.aload_n 0, 1) := by decide +kernel
theorem dX8_registerAt_32 : decode cX8_registerAt 32 = .ok (.getfield 72, 3) := by decide +kernel
theorem dX8_registerAt_35 : decode cX8_registerAt 35 = .ok (.iload_n 2, 1) := by decide +kernel
theorem dX8_registerAt_36 : decode cX8_registerAt 36 = .ok (.iaload, 1) := by decide +kernel
theorem dX8_registerAt_37 : decode cX8_registerAt 37 = .ok (.ireturn, 1) := by decide +kernel
def fX8_registerAt_L15  (μ : Mem) : Option ((Int32 ⊕ Nat) × Mem) :=
  some (.inr 2, μ)
def fX8_registerAt (μ : Mem) (a1 : Int32) (a2 : Int32) : Option ((Int32 ⊕ Nat) × Mem) :=
  bx (fX8_checkRegister μ a2) fun _ μ6 =>
  if a1 < 0 then
  fX8_registerAt_L15 μ6
  else
  if a1 ≤ (205 : Int32) then
  bd (fX8_doBundles μ6 a1) fun _ μ8 =>
  (ld 24 (μ8 98) a2).bind fun r10 =>
  some (.inl r10, μ8)
  else
  fX8_registerAt_L15 μ6
theorem kX8_registerAt_L15 {p : Program} {l : Launch} {e : Env} {s : State} {m : MethodId} {args : Array Value} {below : List Frame} {meth : Method} {c : Code} {D : va_G} {cI cR : ClassId} {ad : Nat → Nat} {A0 : Nat → Prop} (E : EV p s m args meth c cX8_registerAt 3 RX8 D cI cR ad shX NX A0) (X : EX9 l s c A0) (hr : meth.sig.returnType = (some .int))  (μ : Mem) : LL p l e (RX 8 2) s m args below meth c 3 D cI cR ad shX NX A0 (fun (r : Int32 ⊕ Nat) μ' => KX below args s D cI cR ad shX NX A0 2 (r.elim (fun r => .inl (some (.int r))) .inr) μ') (fX8_registerAt_L15 μ) 1 6 15 [none, none, none] [] μ := by
  rw [fX8_registerAt_L15]
  exact ll_throwW E (pc := 15) (k := 2) (tx := "bundle out of range") X (by decide) xw_2 (by decide +kernel) rfl dX8_registerAt_15 dX8_registerAt_18 dX8_registerAt_19 dX8_registerAt_22 dX8_registerAt_25 ⟨(Nat.le_of_ble_eq_true rfl), (Nat.le_of_ble_eq_true rfl)⟩ (Nat.le_of_ble_eq_true rfl) ⟨(Nat.le_of_ble_eq_true rfl), (Nat.le_of_ble_eq_true rfl)⟩ ⟨(Nat.le_of_ble_eq_true rfl), (Nat.le_of_ble_eq_true rfl)⟩
theorem cxX8_registerAt {l : Launch} {D : va_G} {cI cR : ClassId} {ad : Nat → Nat} {μ : Mem} {a1 : Int32} {a2 : Int32} (hl9 : l.stackTraces = false) {r : Int32 ⊕ Nat} {μ' : Mem} (hf : fX8_registerAt μ a1 a2 = some (r, μ')) : CX l yX8_registerAt cX8_registerAt 3 (some .int) 8 2 D cI cR ad shX NX [.ref (ad 0), .int a1, .int a2] μ (r.elim (fun r => .inl (some (.int r))) .inr) μ' :=
  cx_of (own := RX8) (ov := fun (r : Int32 ⊕ Nat) => (r.elim (fun r => .inl (some (.int r))) .inr)) hl9 (by decide +kernel) rfl (Nat.le_of_ble_eq_true rfl) (fun p e s m below meth c A0 E X hr => by
    refine ll_lo (lo' := [some (.ref (ad 0)), some (.int a1), some (.int a2)]) ⟨rfl, rfl, rfl, trivial⟩ ?_
    rw [fX8_registerAt]
    refine ll_iload_n E (pc := 0) dX8_registerAt_0 rfl ?_
    refine ll_xcallSv E X (pc := 1) (d := 7) (mc1 := 1) (mc := 2) [.int a2] [] dX8_registerAt_1 cv_X8_140 (fun h => cxX8_checkRegister X.1 h) rfl rfl (Nat.le_of_ble_eq_true rfl) ⟨(Nat.le_of_ble_eq_true rfl), (Nat.le_of_ble_eq_true rfl)⟩ ⟨(Nat.le_of_ble_eq_true rfl), (Nat.le_of_ble_eq_true rfl)⟩ ⟨(Nat.le_of_ble_eq_true rfl), (Nat.le_of_ble_eq_true rfl)⟩ ?_
    intro r7 μ6
    refine ll_iload_n E (pc := 4) dX8_registerAt_4 rfl ?_
    refine ll_if_lt E (pc := 5) (tgt := 15) dX8_registerAt_5 rfl ?_ ?_
    · exact ll_lo (lo' := [none, none, none]) trivial (kX8_registerAt_L15 E X hr μ6)
    · refine ll_iload_n E (pc := 8) dX8_registerAt_8 rfl ?_
      refine ll_sipush E (pc := 9) dX8_registerAt_9 ks_205 ?_
      refine ll_icmp_le E (pc := 12) (tgt := 26) dX8_registerAt_12 rfl ?_ ?_
      · refine ll_aload_n E (pc := 26) dX8_registerAt_26 rfl ?_
        refine ll_iload_n E (pc := 27) dX8_registerAt_27 rfl ?_
        refine ll_callVv E (pc := 28) (d := 5) (ci := 8) (o9 := 0) [.int a1] [] dX8_registerAt_28 cv_X8_289 (fun h => ctX8_doBundles h) (Nat.le_of_ble_eq_true rfl) sx_0 ci_8 rfl rfl (Nat.le_of_ble_eq_true rfl) ⟨(Nat.le_of_ble_eq_true rfl), (Nat.le_of_ble_eq_true rfl)⟩ ⟨(Nat.le_of_ble_eq_true rfl), (Nat.le_of_ble_eq_true rfl)⟩ ?_
        intro r9 μ8
        refine ll_aload_n E (pc := 31) dX8_registerAt_31 rfl ?_
        refine ll_getfr E (pc := 32) (o9 := 0) (ci := 8) (k9 := 13) (q := 98) dX8_registerAt_32 fl_X8_72 (Nat.le_of_ble_eq_true rfl) fx_0_13 ?_
        refine ll_iload_n E (pc := 35) dX8_registerAt_35 rfl ?_
        refine ll_iald E (pc := 36) (a := 98) dX8_registerAt_36 (px_98).1 (px_98).2 ?_
        intro r10
        exact ll_xireturn E (pc := 37) hr dX8_registerAt_37 ⟨(Nat.le_of_ble_eq_true rfl), (Nat.le_of_ble_eq_true rfl)⟩
      · exact ll_lo (lo' := [none, none, none]) trivial (kX8_registerAt_L15 E X hr μ6)) hf
theorem dX8_areAlike_0 : decode cX8_areAlike 0 = .ok (.iconst 0, 1) := by decide +kernel
theorem dX8_areAlike_1 : decode cX8_areAlike 1 = .ok (.istore_n 2, 1) := by decide +kernel
theorem dX8_areAlike_2 : decode cX8_areAlike 2 = .ok (.iload_n 2, 1) := by decide +kernel
theorem dX8_areAlike_3 : decode cX8_areAlike 3 = .ok (.bipush 24, 2) := by decide +kernel
theorem dX8_areAlike_5 : decode cX8_areAlike 5 = .ok (.if_icmp .ge 20, 3) := by decide +kernel
theorem dX8_areAlike_8 : decode cX8_areAlike 8 = .ok (.aload_n 0, 1) := by decide +kernel
theorem dX8_areAlike_9 : decode cX8_areAlike 9 = .ok (.iload_n 2, 1) := by decide +kernel
theorem dX8_areAlike_10 : decode cX8_areAlike 10 = .ok (.iaload, 1) := by decide +kernel
theorem dX8_areAlike_11 : decode cX8_areAlike 11 = .ok (.aload_n 1, 1) := by decide +kernel
theorem dX8_areAlike_12 : decode cX8_areAlike 12 = .ok (.iload_n 2, 1) := by decide +kernel
theorem dX8_areAlike_13 : decode cX8_areAlike 13 = .ok (.iaload, 1) := by decide +kernel
theorem dX8_areAlike_14 : decode cX8_areAlike 14 = .ok (.if_icmp .eq 5, 3) := by decide +kernel
theorem dX8_areAlike_17 : decode cX8_areAlike 17 = .ok (.iconst 0, 1) := by decide +kernel
theorem dX8_areAlike_18 : decode cX8_areAlike 18 = .ok (.ireturn, 1) := by decide +kernel
theorem dX8_areAlike_19 : decode cX8_areAlike 19 = .ok (.iinc 2 1, 3) := by decide +kernel
theorem dX8_areAlike_22 : decode cX8_areAlike 22 = .ok (.goto (-20), 3) := by decide +kernel
theorem dX8_areAlike_25 : decode cX8_areAlike 25 = .ok (.iconst 1, 1) := by decide +kernel
theorem dX8_areAlike_26 : decode cX8_areAlike 26 = .ok (.ireturn, 1) := by decide +kernel
def fX8_areAlike_L2 : Nat → Int32 → Mem → Option (Int32 × Mem)
  | 0, _, _ => none
  | n + 1, v2, μ =>   if (24 : Int32) ≤ v2 then
  some ((1 : Int32), μ)
  else
  (ld 24 (μ 97) v2).bind fun r3 =>
  (ld 24 (μ 98) v2).bind fun r4 =>
  if r3 = r4 then
  fX8_areAlike_L2 n (v2 + (1 : Int32)) μ
  else
  some ((0 : Int32), μ)
def fX8_areAlike (μ : Mem) : Option (Int32 × Mem) :=
  fX8_areAlike_L2 fu (0 : Int32) μ
theorem kX8_areAlike_L2 {p : Program} {l : Launch} {e : Env} {s : State} {m : MethodId} {args : Array Value} {below : List Frame} {meth : Method} {c : Code} {D : va_G} {cI cR : ClassId} {ad : Nat → Nat} {A0 : Nat → Prop} (E : EV p s m args meth c cX8_areAlike 3 RX8 D cI cR ad shX NX A0) (hr : meth.sig.returnType = (some .boolean)) (n : Nat) : ∀ (v2 : Int32) (μ : Mem), LL p l e (RM 0) s m args below meth c 3 D cI cR ad shX NX A0 (fun (r : Int32) μ' => KG below args s D cI cR ad shX NX A0 (some (.int r)) μ') (fX8_areAlike_L2 n v2 μ) 0 0 2 [some (.ref (ad 97)), some (.ref (ad 98)), some (.int v2)] [] μ := by
  induction n with
  | zero =>
    intros
    exact ll_none
  | succ n ih =>
    intro v2 μ
    rw [fX8_areAlike_L2]
    refine ll_iload_n E (pc := 2) dX8_areAlike_2 rfl ?_
    refine ll_bipush E (pc := 3) dX8_areAlike_3 kb_24 ?_
    refine ll_icmp_ge E (pc := 5) (tgt := 25) dX8_areAlike_5 rfl ?_ ?_
    · refine ll_iconst E (pc := 25) dX8_areAlike_25 kc_1 ?_
      exact ll_zreturn E (pc := 26) hr rfl dX8_areAlike_26
    · refine ll_aload_n E (pc := 8) dX8_areAlike_8 rfl ?_
      refine ll_iload_n E (pc := 9) dX8_areAlike_9 rfl ?_
      refine ll_iald E (pc := 10) (a := 97) dX8_areAlike_10 (px_97).1 (px_97).2 ?_
      intro r3
      refine ll_aload_n E (pc := 11) dX8_areAlike_11 rfl ?_
      refine ll_iload_n E (pc := 12) dX8_areAlike_12 rfl ?_
      refine ll_iald E (pc := 13) (a := 98) dX8_areAlike_13 (px_98).1 (px_98).2 ?_
      intro r4
      refine ll_icmp_eq E (pc := 14) (tgt := 19) dX8_areAlike_14 rfl ?_ ?_
      · refine ll_iinc E (pc := 19) (lo' := [some (.ref (ad 97)), some (.ref (ad 98)), some (.int (v2 + (1 : Int32)))]) dX8_areAlike_19 rfl kc_1 (Nat.le_of_ble_eq_true rfl) rfl rfl ?_
        refine ll_goto E (pc := 22) (tgt := 2) dX8_areAlike_22 rfl ?_
        exact ll_lo (lo' := [some (.ref (ad 97)), some (.ref (ad 98)), some (.int (v2 + (1 : Int32)))]) ⟨rfl, rfl, rfl, trivial⟩ (ih (v2 + (1 : Int32)) μ)
      · refine ll_iconst E (pc := 17) dX8_areAlike_17 kc_0 ?_
        exact ll_zreturn E (pc := 18) hr rfl dX8_areAlike_18
theorem ctX8_areAlike {l : Launch} {D : va_G} {cI cR : ClassId} {ad : Nat → Nat} {μ : Mem} {r : Int32} {μ' : Mem} (hf : fX8_areAlike μ = some (r, μ')) : CT l yX8_areAlike cX8_areAlike 3 (some .boolean) 0 D cI cR ad shX NX [.ref (ad 97), .ref (ad 98)] μ (some (.int r)) μ' :=
  ct_of (own := RX8) (ov := fun r => some (.int r)) (by decide +kernel) rfl (Nat.le_of_ble_eq_true rfl) (fun p e s m below meth c A0 E hr => by
    refine ll_lo (lo' := [some (.ref (ad 97)), some (.ref (ad 98)), none]) ⟨rfl, rfl, trivial⟩ ?_
    rw [fX8_areAlike]
    refine ll_iconst E (pc := 0) dX8_areAlike_0 kc_0 ?_
    refine ll_istore_n E (pc := 1) (lo' := [some (.ref (ad 97)), some (.ref (ad 98)), some (.int (0 : Int32))]) dX8_areAlike_1 (Nat.le_of_ble_eq_true rfl) rfl rfl ?_
    exact ll_lo (lo' := [some (.ref (ad 97)), some (.ref (ad 98)), some (.int (0 : Int32))]) ⟨rfl, rfl, rfl, trivial⟩ (kX8_areAlike_L2 E hr fu (0 : Int32) μ)) hf
theorem dX8_doesAgree_0 : decode cX8_doesAgree 0 = .ok (.aload_n 0, 1) := by decide +kernel
theorem dX8_doesAgree_1 : decode cX8_doesAgree 1 = .ok (.getfield 64, 3) := by decide +kernel
theorem dX8_doesAgree_4 : decode cX8_doesAgree 4 = .ok (.aload_n 0, 1) := by decide +kernel
theorem dX8_doesAgree_5 : decode cX8_doesAgree 5 = .ok (.getfield 12, 3) := by decide +kernel
theorem dX8_doesAgree_8 : decode cX8_doesAgree 8 = .ok (.iconst 1, 1) := by decide +kernel
theorem dX8_doesAgree_9 : decode cX8_doesAgree 9 = .ok (.aload_n 0, 1) := by decide +kernel
theorem dX8_doesAgree_10 : decode cX8_doesAgree 10 = .ok (.getfield 68, 3) := by decide +kernel
theorem dX8_doesAgree_13 : decode cX8_doesAgree 13 = .ok (.invokevirtual 285, 3) := by decide +kernel
theorem dX8_doesAgree_16 : decode cX8_doesAgree 16 = .ok (.aload_n 0, 1) := by decide +kernel
theorem dX8_doesAgree_17 : decode cX8_doesAgree 17 = .ok (.sipush 205, 3) := by decide +kernel
theorem dX8_doesAgree_20 : decode cX8_doesAgree 20 = .ok (.invokevirtual 289, 3) := by decide +kernel
theorem dX8_doesAgree_23 : decode cX8_doesAgree 23 = .ok (.aload_n 0, 1) := by decide +kernel
theorem dX8_doesAgree_24 : decode cX8_doesAgree 24 = .ok (.getfield 68, 3) := by decide +kernel
theorem dX8_doesAgree_27 : decode cX8_doesAgree 27 = .ok (.aload_n 0, 1) := by decide +kernel
theorem dX8_doesAgree_28 : decode cX8_doesAgree 28 = .ok (.getfield 72, 3) := by decide +kernel
theorem dX8_doesAgree_31 : decode cX8_doesAgree 31 = .ok (.invokestatic 294, 3) := by decide +kernel
theorem dX8_doesAgree_34 : decode cX8_doesAgree 34 = .ok (.ireturn, 1) := by decide +kernel
def fX8_doesAgree (μ : Mem) : Option (Int32 × Mem) :=
  bd (fX5_doInOrder μ (1 : Int32) 97) fun _ μ7 =>
  bd (fX8_doBundles μ7 (205 : Int32)) fun _ μ9 =>
  bd (fX8_areAlike μ9) fun r12 μ11 =>
  zret r12 μ11
theorem ctX8_doesAgree {l : Launch} {D : va_G} {cI cR : ClassId} {ad : Nat → Nat} {μ : Mem} {r : Int32} {μ' : Mem} (hf : fX8_doesAgree μ = some (r, μ')) : CT l yX8_doesAgree cX8_doesAgree 1 (some .boolean) 6 D cI cR ad shX NX [.ref (ad 0)] μ (some (.int r)) μ' :=
  ct_of (own := RX8) (ov := fun r => some (.int r)) (by decide +kernel) rfl (Nat.le_of_ble_eq_true rfl) (fun p e s m below meth c A0 E hr => by
    refine ll_lo (lo' := [some (.ref (ad 0))]) ⟨rfl, trivial⟩ ?_
    rw [fX8_doesAgree]
    refine ll_aload_n E (pc := 0) dX8_doesAgree_0 rfl ?_
    refine ll_getfr E (pc := 1) (o9 := 0) (ci := 8) (k9 := 11) (q := 92) dX8_doesAgree_1 fl_X8_64 (Nat.le_of_ble_eq_true rfl) fx_0_11 ?_
    refine ll_aload_n E (pc := 4) dX8_doesAgree_4 rfl ?_
    refine ll_getfr E (pc := 5) (o9 := 0) (ci := 8) (k9 := 0) (q := 1) dX8_doesAgree_5 fl_X8_12 (Nat.le_of_ble_eq_true rfl) fx_0_0 ?_
    refine ll_iconst E (pc := 8) dX8_doesAgree_8 kc_1 ?_
    refine ll_aload_n E (pc := 9) dX8_doesAgree_9 rfl ?_
    refine ll_getfr E (pc := 10) (o9 := 0) (ci := 8) (k9 := 12) (q := 97) dX8_doesAgree_10 fl_X8_68 (Nat.le_of_ble_eq_true rfl) fx_0_12 ?_
    refine ll_callVv E (pc := 13) (d := 3) (ci := 5) (o9 := 92) [.ref (ad 1), .int (1 : Int32), .ref (ad 97)] [] dX8_doesAgree_13 cv_X8_285 (fun h => ctX5_doInOrder px_97 h) (Nat.le_of_ble_eq_true rfl) sx_92 ci_5 rfl rfl (Nat.le_of_ble_eq_true rfl) ⟨(Nat.le_of_ble_eq_true rfl), (Nat.le_of_ble_eq_true rfl)⟩ ⟨(Nat.le_of_ble_eq_true rfl), (Nat.le_of_ble_eq_true rfl)⟩ ?_
    intro r8 μ7
    refine ll_aload_n E (pc := 16) dX8_doesAgree_16 rfl ?_
    refine ll_sipush E (pc := 17) dX8_doesAgree_17 ks_205 ?_
    refine ll_callVv E (pc := 20) (d := 5) (ci := 8) (o9 := 0) [.int (205 : Int32)] [] dX8_doesAgree_20 cv_X8_289 (fun h => ctX8_doBundles h) (Nat.le_of_ble_eq_true rfl) sx_0 ci_8 rfl rfl (Nat.le_of_ble_eq_true rfl) ⟨(Nat.le_of_ble_eq_true rfl), (Nat.le_of_ble_eq_true rfl)⟩ ⟨(Nat.le_of_ble_eq_true rfl), (Nat.le_of_ble_eq_true rfl)⟩ ?_
    intro r10 μ9
    refine ll_aload_n E (pc := 23) dX8_doesAgree_23 rfl ?_
    refine ll_getfr E (pc := 24) (o9 := 0) (ci := 8) (k9 := 12) (q := 97) dX8_doesAgree_24 fl_X8_68 (Nat.le_of_ble_eq_true rfl) fx_0_12 ?_
    refine ll_aload_n E (pc := 27) dX8_doesAgree_27 rfl ?_
    refine ll_getfr E (pc := 28) (o9 := 0) (ci := 8) (k9 := 13) (q := 98) dX8_doesAgree_28 fl_X8_72 (Nat.le_of_ble_eq_true rfl) fx_0_13 ?_
    refine ll_callSi E (pc := 31) (d := 0) [.ref (ad 97), .ref (ad 98)] [] dX8_doesAgree_31 cv_X8_294 (fun h => ctX8_areAlike h) rfl rfl (Nat.le_of_ble_eq_true rfl) ⟨(Nat.le_of_ble_eq_true rfl), (Nat.le_of_ble_eq_true rfl)⟩ ⟨(Nat.le_of_ble_eq_true rfl), (Nat.le_of_ble_eq_true rfl)⟩ ?_
    intro r12 μ11
    exact ll_zret E (pc := 34) hr dX8_doesAgree_34) hf
theorem dX8_beatByUnits_0 : decode cX8_beatByUnits 0 = .ok (.aload_n 0, 1) := by decide +kernel
theorem dX8_beatByUnits_1 : decode cX8_beatByUnits 1 = .ok (.getfield 12, 3) := by decide +kernel
theorem dX8_beatByUnits_4 : decode cX8_beatByUnits 4 = .ok (.invokevirtual 298, 3) := by decide +kernel
theorem dX8_beatByUnits_7 : decode cX8_beatByUnits 7 = .ok (.ireturn, 1) := by decide +kernel
def fX8_beatByUnits (μ : Mem) : Option (Int32 × Mem) :=
  bd (fX6_unitBeat μ) fun r4 μ3 =>
  some (r4, μ3)
theorem ctX8_beatByUnits {l : Launch} {D : va_G} {cI cR : ClassId} {ad : Nat → Nat} {μ : Mem} {r : Int32} {μ' : Mem} (hf : fX8_beatByUnits μ = some (r, μ')) : CT l yX8_beatByUnits cX8_beatByUnits 1 (some .int) 3 D cI cR ad shX NX [.ref (ad 0)] μ (some (.int r)) μ' :=
  ct_of (own := RX8) (ov := fun r => some (.int r)) (by decide +kernel) rfl (Nat.le_of_ble_eq_true rfl) (fun p e s m below meth c A0 E hr => by
    refine ll_lo (lo' := [some (.ref (ad 0))]) ⟨rfl, trivial⟩ ?_
    rw [fX8_beatByUnits]
    refine ll_aload_n E (pc := 0) dX8_beatByUnits_0 rfl ?_
    refine ll_getfr E (pc := 1) (o9 := 0) (ci := 8) (k9 := 0) (q := 1) dX8_beatByUnits_1 fl_X8_12 (Nat.le_of_ble_eq_true rfl) fx_0_0 ?_
    refine ll_callVi E (pc := 4) (d := 2) (ci := 6) (o9 := 1) [] [] dX8_beatByUnits_4 cv_X8_298 (fun h => ctX6_unitBeat h) (Nat.le_of_ble_eq_true rfl) sx_1 ci_6 rfl rfl (Nat.le_of_ble_eq_true rfl) ⟨(Nat.le_of_ble_eq_true rfl), (Nat.le_of_ble_eq_true rfl)⟩ ⟨(Nat.le_of_ble_eq_true rfl), (Nat.le_of_ble_eq_true rfl)⟩ ?_
    intro r4 μ3
    exact ll_ireturn E (pc := 7) hr dX8_beatByUnits_7) hf
theorem dX8_freshLoop_0 : decode cX8_freshLoop 0 = .ok (.aload_n 0, 1) := by decide +kernel
theorem dX8_freshLoop_1 : decode cX8_freshLoop 1 = .ok (.getfield 403, 3) := by decide +kernel
theorem dX8_freshLoop_4 : decode cX8_freshLoop 4 = .ok (.ifCond .ne 33, 3) := by decide +kernel
theorem dX8_freshLoop_7 : decode cX8_freshLoop 7 = .ok (.aload_n 0, 1) := by decide +kernel
theorem dX8_freshLoop_8 : decode cX8_freshLoop 8 = .ok (.invokevirtual 124, 3) := by decide +kernel
theorem dX8_freshLoop_11 : decode cX8_freshLoop 11 = .ok (.astore_n 1, 1) := by decide +kernel
theorem dX8_freshLoop_12 : decode cX8_freshLoop 12 = .ok (.aload_n 0, 1) := by decide +kernel
theorem dX8_freshLoop_13 : decode cX8_freshLoop 13 = .ok (.getfield 57, 3) := by decide +kernel
theorem dX8_freshLoop_16 : decode cX8_freshLoop 16 = .ok (.aload_n 0, 1) := by decide +kernel
theorem dX8_freshLoop_17 : decode cX8_freshLoop 17 = .ok (.getfield 12, 3) := by decide +kernel
theorem dX8_freshLoop_20 : decode cX8_freshLoop 20 = .ok (.aload_n 1, 1) := by decide +kernel
theorem dX8_freshLoop_21 : decode cX8_freshLoop 21 = .ok (.aload_n 0, 1) := by decide +kernel
theorem dX8_freshLoop_22 : decode cX8_freshLoop 22 = .ok (.getfield 50, 3) := by decide +kernel
theorem dX8_freshLoop_25 : decode cX8_freshLoop 25 = .ok (.aload_n 1, 1) := by decide +kernel
theorem dX8_freshLoop_26 : decode cX8_freshLoop 26 = .ok (.invokevirtual 409, 3) := by decide +kernel
theorem dX8_freshLoop_29 : decode cX8_freshLoop 29 = .ok (.invokevirtual 412, 3) := by decide +kernel
theorem dX8_freshLoop_32 : decode cX8_freshLoop 32 = .ok (.aload_n 0, 1) := by decide +kernel
theorem dX8_freshLoop_33 : decode cX8_freshLoop 33 = .ok (.iconst 1, 1) := by decide +kernel
theorem dX8_freshLoop_34 : decode cX8_freshLoop 34 = .ok (.putfield 403, 3) := by decide +kernel
theorem dX8_freshLoop_37 : decode cX8_freshLoop 37 = .ok (.aload_n 0, 1) := by decide +kernel
theorem dX8_freshLoop_38 : decode cX8_freshLoop 38 = .ok (.getfield 57, 3) := by decide +kernel
theorem dX8_freshLoop_41 : decode cX8_freshLoop 41 = .ok (.areturn, 1) := by decide +kernel
def fX8_freshLoop_L37  (μ : Mem) : Option (Unit × Mem) :=
  some ((), μ)
def fX8_freshLoop (μ : Mem) : Option (Unit × Mem) :=
  if (μ 0 10) = 0 then
  bd (fX8_freshLinks μ) fun _ μ8 =>
  bd (fX0_leastByTable μ8) fun r11 μ10 =>
  bd (fX3_makePlan μ10 r11) fun _ μ12 =>
  (pt μ12 0 10 (1 : Int32)).bind fun μ14 =>
  fX8_freshLoop_L37 μ14
  else
  fX8_freshLoop_L37 μ
theorem kX8_freshLoop_L37 {p : Program} {l : Launch} {e : Env} {s : State} {m : MethodId} {args : Array Value} {below : List Frame} {meth : Method} {c : Code} {D : va_G} {cI cR : ClassId} {ad : Nat → Nat} {A0 : Nat → Prop} (E : EV p s m args meth c cX8_freshLoop 2 RX8 D cI cR ad shX NX A0) (hr : meth.sig.returnType = (some (.object "BuntingBundles$LoopPlan")))  (μ : Mem) : LL p l e (RM 5) s m args below meth c 2 D cI cR ad shX NX A0 (fun (r : Unit) μ' => KG below args s D cI cR ad shX NX A0 (some (.ref (ad 89))) μ') (fX8_freshLoop_L37 μ) 0 0 37 [some (.ref (ad 0)), none] [] μ := by
  rw [fX8_freshLoop_L37]
  refine ll_aload_n E (pc := 37) dX8_freshLoop_37 rfl ?_
  refine ll_getfr E (pc := 38) (o9 := 0) (ci := 8) (k9 := 9) (q := 89) dX8_freshLoop_38 fl_X8_57 (Nat.le_of_ble_eq_true rfl) fx_0_9 ?_
  exact ll_areturn E (pc := 41) hr dX8_freshLoop_41
theorem ctX8_freshLoop {l : Launch} {D : va_G} {cI cR : ClassId} {ad : Nat → Nat} {μ : Mem} {r : Unit} {μ' : Mem} (hf : fX8_freshLoop μ = some (r, μ')) : CT l yX8_freshLoop cX8_freshLoop 2 (some (.object "BuntingBundles$LoopPlan")) 5 D cI cR ad shX NX [.ref (ad 0)] μ (some (.ref (ad 89))) μ' :=
  ct_of (own := RX8) (ov := fun _ => some (.ref (ad 89))) (by decide +kernel) rfl (Nat.le_of_ble_eq_true rfl) (fun p e s m below meth c A0 E hr => by
    refine ll_lo (lo' := [some (.ref (ad 0)), none]) ⟨rfl, trivial⟩ ?_
    rw [fX8_freshLoop]
    refine ll_aload_n E (pc := 0) dX8_freshLoop_0 rfl ?_
    refine ll_getf E (pc := 1) (o9 := 0) (ci := 8) (k9 := 10) dX8_freshLoop_1 fl_X8_403 (Nat.le_of_ble_eq_true rfl) fx_0_10 ?_
    refine ll_if_ne E (pc := 4) (tgt := 37) dX8_freshLoop_4 rfl ?_ ?_
    · exact ll_lo (lo' := [some (.ref (ad 0)), none]) ⟨rfl, trivial⟩ (kX8_freshLoop_L37 E hr μ)
    · refine ll_aload_n E (pc := 7) dX8_freshLoop_7 rfl ?_
      refine ll_callVr E (pc := 8) (d := 4) (ci := 8) (o9 := 0) [] [] dX8_freshLoop_8 cv_X8_124 (fun h => ctX8_freshLinks h) (Nat.le_of_ble_eq_true rfl) sx_0 ci_8 rfl rfl (Nat.le_of_ble_eq_true rfl) ⟨(Nat.le_of_ble_eq_true rfl), (Nat.le_of_ble_eq_true rfl)⟩ ⟨(Nat.le_of_ble_eq_true rfl), (Nat.le_of_ble_eq_true rfl)⟩ ?_
      intro r9 μ8
      refine ll_astore_n E (pc := 11) (lo' := [some (.ref (ad 0)), some (.ref (ad 75))]) dX8_freshLoop_11 (Nat.le_of_ble_eq_true rfl) rfl rfl ?_
      refine ll_aload_n E (pc := 12) dX8_freshLoop_12 rfl ?_
      refine ll_getfr E (pc := 13) (o9 := 0) (ci := 8) (k9 := 9) (q := 89) dX8_freshLoop_13 fl_X8_57 (Nat.le_of_ble_eq_true rfl) fx_0_9 ?_
      refine ll_aload_n E (pc := 16) dX8_freshLoop_16 rfl ?_
      refine ll_getfr E (pc := 17) (o9 := 0) (ci := 8) (k9 := 0) (q := 1) dX8_freshLoop_17 fl_X8_12 (Nat.le_of_ble_eq_true rfl) fx_0_0 ?_
      refine ll_aload_n E (pc := 20) dX8_freshLoop_20 rfl ?_
      refine ll_aload_n E (pc := 21) dX8_freshLoop_21 rfl ?_
      refine ll_getfr E (pc := 22) (o9 := 0) (ci := 8) (k9 := 8) (q := 86) dX8_freshLoop_22 fl_X8_50 (Nat.le_of_ble_eq_true rfl) fx_0_8 ?_
      refine ll_aload_n E (pc := 25) dX8_freshLoop_25 rfl ?_
      refine ll_callVi E (pc := 26) (d := 3) (ci := 0) (o9 := 86) [.ref (ad 75)] [.ref (ad 75), .ref (ad 1), .ref (ad 89)] dX8_freshLoop_26 cv_X8_409 (fun h => ctX0_leastByTable h) (Nat.le_of_ble_eq_true rfl) sx_86 ci_0 rfl rfl (Nat.le_of_ble_eq_true rfl) ⟨(Nat.le_of_ble_eq_true rfl), (Nat.le_of_ble_eq_true rfl)⟩ ⟨(Nat.le_of_ble_eq_true rfl), (Nat.le_of_ble_eq_true rfl)⟩ ?_
      intro r11 μ10
      refine ll_callVv E (pc := 29) (d := 4) (ci := 3) (o9 := 89) [.ref (ad 1), .ref (ad 75), .int r11] [] dX8_freshLoop_29 cv_X8_412 (fun h => ctX3_makePlan h) (Nat.le_of_ble_eq_true rfl) sx_89 ci_3 rfl rfl (Nat.le_of_ble_eq_true rfl) ⟨(Nat.le_of_ble_eq_true rfl), (Nat.le_of_ble_eq_true rfl)⟩ ⟨(Nat.le_of_ble_eq_true rfl), (Nat.le_of_ble_eq_true rfl)⟩ ?_
      intro r13 μ12
      refine ll_aload_n E (pc := 32) dX8_freshLoop_32 rfl ?_
      refine ll_iconst E (pc := 33) dX8_freshLoop_33 kc_1 ?_
      refine ll_put0 E (pc := 34) (o9 := 0) (ci := 8) (k9 := 10) dX8_freshLoop_34 fw_X8_403 (Nat.le_of_ble_eq_true rfl) fx_0_10 rfl rfl ?_
      intro μ14
      exact ll_lo (lo' := [some (.ref (ad 0)), none]) ⟨rfl, trivial⟩ (kX8_freshLoop_L37 E hr μ14)) hf
theorem dX8_beatByCircles_0 : decode cX8_beatByCircles 0 = .ok (.aload_n 0, 1) := by decide +kernel
theorem dX8_beatByCircles_1 : decode cX8_beatByCircles 1 = .ok (.invokevirtual 301, 3) := by decide +kernel
theorem dX8_beatByCircles_4 : decode cX8_beatByCircles 4 = .ok (.getfield 305, 3) := by decide +kernel
theorem dX8_beatByCircles_7 : decode cX8_beatByCircles 7 = .ok (.ireturn, 1) := by decide +kernel
def fX8_beatByCircles (μ : Mem) : Option (Int32 × Mem) :=
  bd (fX8_freshLoop μ) fun _ μ3 =>
  some ((μ3 89 2), μ3)
theorem ctX8_beatByCircles {l : Launch} {D : va_G} {cI cR : ClassId} {ad : Nat → Nat} {μ : Mem} {r : Int32} {μ' : Mem} (hf : fX8_beatByCircles μ = some (r, μ')) : CT l yX8_beatByCircles cX8_beatByCircles 1 (some .int) 6 D cI cR ad shX NX [.ref (ad 0)] μ (some (.int r)) μ' :=
  ct_of (own := RX8) (ov := fun r => some (.int r)) (by decide +kernel) rfl (Nat.le_of_ble_eq_true rfl) (fun p e s m below meth c A0 E hr => by
    refine ll_lo (lo' := [some (.ref (ad 0))]) ⟨rfl, trivial⟩ ?_
    rw [fX8_beatByCircles]
    refine ll_aload_n E (pc := 0) dX8_beatByCircles_0 rfl ?_
    refine ll_callVr E (pc := 1) (d := 5) (ci := 8) (o9 := 0) [] [] dX8_beatByCircles_1 cv_X8_301 (fun h => ctX8_freshLoop h) (Nat.le_of_ble_eq_true rfl) sx_0 ci_8 rfl rfl (Nat.le_of_ble_eq_true rfl) ⟨(Nat.le_of_ble_eq_true rfl), (Nat.le_of_ble_eq_true rfl)⟩ ⟨(Nat.le_of_ble_eq_true rfl), (Nat.le_of_ble_eq_true rfl)⟩ ?_
    intro r4 μ3
    refine ll_getf E (pc := 4) (o9 := 89) (ci := 3) (k9 := 2) dX8_beatByCircles_4 fl_X8_305 (Nat.le_of_ble_eq_true rfl) fx_89_2 ?_
    exact ll_ireturn E (pc := 7) hr dX8_beatByCircles_7) hf
theorem dX8_beatByRounds_0 : decode cX8_beatByRounds 0 = .ok (.aload_n 0, 1) := by decide +kernel
theorem dX8_beatByRounds_1 : decode cX8_beatByRounds 1 = .ok (.getfield 50, 3) := by decide +kernel
theorem dX8_beatByRounds_4 : decode cX8_beatByRounds 4 = .ok (.aload_n 0, 1) := by decide +kernel
theorem dX8_beatByRounds_5 : decode cX8_beatByRounds 5 = .ok (.invokevirtual 124, 3) := by decide +kernel
theorem dX8_beatByRounds_8 : decode cX8_beatByRounds 8 = .ok (.invokevirtual 308, 3) := by decide +kernel
theorem dX8_beatByRounds_11 : decode cX8_beatByRounds 11 = .ok (.ireturn, 1) := by decide +kernel
def fX8_beatByRounds (μ : Mem) : Option (Int32 × Mem) :=
  bd (fX8_freshLinks μ) fun _ μ5 =>
  bd (fX0_leastByPushes μ5) fun r8 μ7 =>
  some (r8, μ7)
theorem ctX8_beatByRounds {l : Launch} {D : va_G} {cI cR : ClassId} {ad : Nat → Nat} {μ : Mem} {r : Int32} {μ' : Mem} (hf : fX8_beatByRounds μ = some (r, μ')) : CT l yX8_beatByRounds cX8_beatByRounds 1 (some .int) 5 D cI cR ad shX NX [.ref (ad 0)] μ (some (.int r)) μ' :=
  ct_of (own := RX8) (ov := fun r => some (.int r)) (by decide +kernel) rfl (Nat.le_of_ble_eq_true rfl) (fun p e s m below meth c A0 E hr => by
    refine ll_lo (lo' := [some (.ref (ad 0))]) ⟨rfl, trivial⟩ ?_
    rw [fX8_beatByRounds]
    refine ll_aload_n E (pc := 0) dX8_beatByRounds_0 rfl ?_
    refine ll_getfr E (pc := 1) (o9 := 0) (ci := 8) (k9 := 8) (q := 86) dX8_beatByRounds_1 fl_X8_50 (Nat.le_of_ble_eq_true rfl) fx_0_8 ?_
    refine ll_aload_n E (pc := 4) dX8_beatByRounds_4 rfl ?_
    refine ll_callVr E (pc := 5) (d := 4) (ci := 8) (o9 := 0) [] [.ref (ad 86)] dX8_beatByRounds_5 cv_X8_124 (fun h => ctX8_freshLinks h) (Nat.le_of_ble_eq_true rfl) sx_0 ci_8 rfl rfl (Nat.le_of_ble_eq_true rfl) ⟨(Nat.le_of_ble_eq_true rfl), (Nat.le_of_ble_eq_true rfl)⟩ ⟨(Nat.le_of_ble_eq_true rfl), (Nat.le_of_ble_eq_true rfl)⟩ ?_
    intro r6 μ5
    refine ll_callVi E (pc := 8) (d := 4) (ci := 0) (o9 := 86) [.ref (ad 75)] [] dX8_beatByRounds_8 cv_X8_308 (fun h => ctX0_leastByPushes h) (Nat.le_of_ble_eq_true rfl) sx_86 ci_0 rfl rfl (Nat.le_of_ble_eq_true rfl) ⟨(Nat.le_of_ble_eq_true rfl), (Nat.le_of_ble_eq_true rfl)⟩ ⟨(Nat.le_of_ble_eq_true rfl), (Nat.le_of_ble_eq_true rfl)⟩ ?_
    intro r8 μ7
    exact ll_ireturn E (pc := 11) hr dX8_beatByRounds_11) hf
theorem dX8_beat_0 : decode cX8_beat 0 = .ok (.aload_n 0, 1) := by decide +kernel
theorem dX8_beat_1 : decode cX8_beat 1 = .ok (.invokevirtual 301, 3) := by decide +kernel
theorem dX8_beat_4 : decode cX8_beat 4 = .ok (.getfield 312, 3) := by decide +kernel
theorem dX8_beat_7 : decode cX8_beat 7 = .ok (.ireturn, 1) := by decide +kernel
def fX8_beat (μ : Mem) : Option (Int32 × Mem) :=
  bd (fX8_freshLoop μ) fun _ μ3 =>
  some ((μ3 89 3), μ3)
theorem ctX8_beat {l : Launch} {D : va_G} {cI cR : ClassId} {ad : Nat → Nat} {μ : Mem} {r : Int32} {μ' : Mem} (hf : fX8_beat μ = some (r, μ')) : CT l yX8_beat cX8_beat 1 (some .int) 6 D cI cR ad shX NX [.ref (ad 0)] μ (some (.int r)) μ' :=
  ct_of (own := RX8) (ov := fun r => some (.int r)) (by decide +kernel) rfl (Nat.le_of_ble_eq_true rfl) (fun p e s m below meth c A0 E hr => by
    refine ll_lo (lo' := [some (.ref (ad 0))]) ⟨rfl, trivial⟩ ?_
    rw [fX8_beat]
    refine ll_aload_n E (pc := 0) dX8_beat_0 rfl ?_
    refine ll_callVr E (pc := 1) (d := 5) (ci := 8) (o9 := 0) [] [] dX8_beat_1 cv_X8_301 (fun h => ctX8_freshLoop h) (Nat.le_of_ble_eq_true rfl) sx_0 ci_8 rfl rfl (Nat.le_of_ble_eq_true rfl) ⟨(Nat.le_of_ble_eq_true rfl), (Nat.le_of_ble_eq_true rfl)⟩ ⟨(Nat.le_of_ble_eq_true rfl), (Nat.le_of_ble_eq_true rfl)⟩ ?_
    intro r4 μ3
    refine ll_getf E (pc := 4) (o9 := 89) (ci := 3) (k9 := 3) dX8_beat_4 fl_X8_312 (Nat.le_of_ble_eq_true rfl) fx_89_3 ?_
    exact ll_ireturn E (pc := 7) hr dX8_beat_7) hf
theorem dX8_loopBundleOf_0 : decode cX8_loopBundleOf 0 = .ok (.aload_n 0, 1) := by decide +kernel
theorem dX8_loopBundleOf_1 : decode cX8_loopBundleOf 1 = .ok (.iload_n 1, 1) := by decide +kernel
theorem dX8_loopBundleOf_2 : decode cX8_loopBundleOf 2 = .ok (.invokevirtual 113, 3) := by decide +kernel
theorem dX8_loopBundleOf_5 : decode cX8_loopBundleOf 5 = .ok (.aload_n 0, 1) := by decide +kernel
theorem dX8_loopBundleOf_6 : decode cX8_loopBundleOf 6 = .ok (.invokevirtual 301, 3) := by decide +kernel
theorem dX8_loopBundleOf_9 : decode cX8_loopBundleOf 9 = .ok (.getfield 315, 3) := by decide +kernel
theorem dX8_loopBundleOf_12 : decode cX8_loopBundleOf 12 = .ok (.iload_n 1, 1) := by decide +kernel
theorem dX8_loopBundleOf_13 : decode cX8_loopBundleOf 13 = .ok (.iaload, 1) := by decide +kernel
theorem dX8_loopBundleOf_14 : decode cX8_loopBundleOf 14 = .ok (.ireturn, 1) := by decide +kernel
def fX8_loopBundleOf (μ : Mem) (a1 : Int32) : Option ((Int32 ⊕ Nat) × Mem) :=
  bx (fX8_checkStep μ a1) fun _ μ6 =>
  bd (fX8_freshLoop μ6) fun _ μ8 =>
  (ld 20 (μ8 90) a1).bind fun r10 =>
  some (.inl r10, μ8)
theorem cxX8_loopBundleOf {l : Launch} {D : va_G} {cI cR : ClassId} {ad : Nat → Nat} {μ : Mem} {a1 : Int32} (hl9 : l.stackTraces = false) {r : Int32 ⊕ Nat} {μ' : Mem} (hf : fX8_loopBundleOf μ a1 = some (r, μ')) : CX l yX8_loopBundleOf cX8_loopBundleOf 2 (some .int) 8 1 D cI cR ad shX NX [.ref (ad 0), .int a1] μ (r.elim (fun r => .inl (some (.int r))) .inr) μ' :=
  cx_of (own := RX8) (ov := fun (r : Int32 ⊕ Nat) => (r.elim (fun r => .inl (some (.int r))) .inr)) hl9 (by decide +kernel) rfl (Nat.le_of_ble_eq_true rfl) (fun p e s m below meth c A0 E X hr => by
    refine ll_lo (lo' := [some (.ref (ad 0)), some (.int a1)]) ⟨rfl, rfl, trivial⟩ ?_
    rw [fX8_loopBundleOf]
    refine ll_aload_n E (pc := 0) dX8_loopBundleOf_0 rfl ?_
    refine ll_iload_n E (pc := 1) dX8_loopBundleOf_1 rfl ?_
    refine ll_xcallVv E X (pc := 2) (d := 7) (mc1 := 1) (mc := 1) (ci := 8) (o9 := 0) [.int a1] [] dX8_loopBundleOf_2 cv_X8_113 (fun h => cxX8_checkStep X.1 h) (Nat.le_of_ble_eq_true rfl) sx_0 ci_8 rfl rfl (Nat.le_of_ble_eq_true rfl) ⟨(Nat.le_of_ble_eq_true rfl), (Nat.le_of_ble_eq_true rfl)⟩ ⟨(Nat.le_of_ble_eq_true rfl), (Nat.le_of_ble_eq_true rfl)⟩ ⟨(Nat.le_of_ble_eq_true rfl), (Nat.le_of_ble_eq_true rfl)⟩ ?_
    intro r7 μ6
    refine ll_aload_n E (pc := 5) dX8_loopBundleOf_5 rfl ?_
    refine ll_callVr E (pc := 6) (d := 5) (ci := 8) (o9 := 0) [] [] dX8_loopBundleOf_6 cv_X8_301 (fun h => ctX8_freshLoop h) (Nat.le_of_ble_eq_true rfl) sx_0 ci_8 rfl rfl (Nat.le_of_ble_eq_true rfl) ⟨(Nat.le_of_ble_eq_true rfl), (Nat.le_of_ble_eq_true rfl)⟩ ⟨(Nat.le_of_ble_eq_true rfl), (Nat.le_of_ble_eq_true rfl)⟩ ?_
    intro r9 μ8
    refine ll_getfr E (pc := 9) (o9 := 89) (ci := 3) (k9 := 0) (q := 90) dX8_loopBundleOf_9 fl_X8_315 (Nat.le_of_ble_eq_true rfl) fx_89_0 ?_
    refine ll_iload_n E (pc := 12) dX8_loopBundleOf_12 rfl ?_
    refine ll_iald E (pc := 13) (a := 90) dX8_loopBundleOf_13 (px_90).1 (px_90).2 ?_
    intro r10
    exact ll_xireturn E (pc := 14) hr dX8_loopBundleOf_14 ⟨(Nat.le_of_ble_eq_true rfl), (Nat.le_of_ble_eq_true rfl)⟩) hf
theorem dX8_jumpBundle_0 : decode cX8_jumpBundle 0 = .ok (.aload_n 0, 1) := by decide +kernel
theorem dX8_jumpBundle_1 : decode cX8_jumpBundle 1 = .ok (.invokevirtual 301, 3) := by decide +kernel
theorem dX8_jumpBundle_4 : decode cX8_jumpBundle 4 = .ok (.getfield 312, 3) := by decide +kernel
theorem dX8_jumpBundle_7 : decode cX8_jumpBundle 7 = .ok (.iconst 1, 1) := by decide +kernel
theorem dX8_jumpBundle_8 : decode cX8_jumpBundle 8 = .ok (.isub, 1) := by decide +kernel
theorem dX8_jumpBundle_9 : decode cX8_jumpBundle 9 = .ok (.aload_n 0, 1) := by decide +kernel
theorem dX8_jumpBundle_10 : decode cX8_jumpBundle 10 = .ok (.getfield 12, 3) := by decide +kernel
theorem dX8_jumpBundle_13 : decode cX8_jumpBundle 13 = .ok (.getfield 164, 3) := by decide +kernel
theorem dX8_jumpBundle_16 : decode cX8_jumpBundle 16 = .ok (.isub, 1) := by decide +kernel
theorem dX8_jumpBundle_17 : decode cX8_jumpBundle 17 = .ok (.ireturn, 1) := by decide +kernel
def fX8_jumpBundle (μ : Mem) : Option (Int32 × Mem) :=
  bd (fX8_freshLoop μ) fun _ μ3 =>
  some ((((μ3 89 3) - (1 : Int32)) - (μ3 1 10)), μ3)
theorem ctX8_jumpBundle {l : Launch} {D : va_G} {cI cR : ClassId} {ad : Nat → Nat} {μ : Mem} {r : Int32} {μ' : Mem} (hf : fX8_jumpBundle μ = some (r, μ')) : CT l yX8_jumpBundle cX8_jumpBundle 1 (some .int) 6 D cI cR ad shX NX [.ref (ad 0)] μ (some (.int r)) μ' :=
  ct_of (own := RX8) (ov := fun r => some (.int r)) (by decide +kernel) rfl (Nat.le_of_ble_eq_true rfl) (fun p e s m below meth c A0 E hr => by
    refine ll_lo (lo' := [some (.ref (ad 0))]) ⟨rfl, trivial⟩ ?_
    rw [fX8_jumpBundle]
    refine ll_aload_n E (pc := 0) dX8_jumpBundle_0 rfl ?_
    refine ll_callVr E (pc := 1) (d := 5) (ci := 8) (o9 := 0) [] [] dX8_jumpBundle_1 cv_X8_301 (fun h => ctX8_freshLoop h) (Nat.le_of_ble_eq_true rfl) sx_0 ci_8 rfl rfl (Nat.le_of_ble_eq_true rfl) ⟨(Nat.le_of_ble_eq_true rfl), (Nat.le_of_ble_eq_true rfl)⟩ ⟨(Nat.le_of_ble_eq_true rfl), (Nat.le_of_ble_eq_true rfl)⟩ ?_
    intro r4 μ3
    refine ll_getf E (pc := 4) (o9 := 89) (ci := 3) (k9 := 3) dX8_jumpBundle_4 fl_X8_312 (Nat.le_of_ble_eq_true rfl) fx_89_3 ?_
    refine ll_iconst E (pc := 7) dX8_jumpBundle_7 kc_1 ?_
    refine ll_isub E (pc := 8) dX8_jumpBundle_8 ?_
    refine ll_aload_n E (pc := 9) dX8_jumpBundle_9 rfl ?_
    refine ll_getfr E (pc := 10) (o9 := 0) (ci := 8) (k9 := 0) (q := 1) dX8_jumpBundle_10 fl_X8_12 (Nat.le_of_ble_eq_true rfl) fx_0_0 ?_
    refine ll_getf E (pc := 13) (o9 := 1) (ci := 6) (k9 := 10) dX8_jumpBundle_13 fl_X8_164 (Nat.le_of_ble_eq_true rfl) fx_1_10 ?_
    refine ll_isub E (pc := 16) dX8_jumpBundle_16 ?_
    exact ll_ireturn E (pc := 17) hr dX8_jumpBundle_17) hf
theorem dX8_overlapIn_0 : decode cX8_overlapIn 0 = .ok (.aload_n 0, 1) := by decide +kernel
theorem dX8_overlapIn_1 : decode cX8_overlapIn 1 = .ok (.getfield 12, 3) := by decide +kernel
theorem dX8_overlapIn_4 : decode cX8_overlapIn 4 = .ok (.getfield 81, 3) := by decide +kernel
theorem dX8_overlapIn_7 : decode cX8_overlapIn 7 = .ok (.ifCond .eq 11, 3) := by decide +kernel
theorem dX8_overlapIn_10 : decode cX8_overlapIn 10 = .ok (.aload_n 1, 1) := by decide +kernel
theorem dX8_overlapIn_11 : decode cX8_overlapIn 11 = .ok (.getfield 312, 3) := by decide +kernel
theorem dX8_overlapIn_14 : decode cX8_overlapIn 14 = .ok (.iconst 1, 1) := by decide +kernel
theorem dX8_overlapIn_15 : decode cX8_overlapIn 15 = .ok (.if_icmp .ge 5, 3) := by decide +kernel
theorem dX8_overlapIn_18 : decode cX8_overlapIn 18 = .ok (.iconst 0, 1) := by decide +kernel
theorem dX8_overlapIn_19 : decode cX8_overlapIn 19 = .ok (.ireturn, 1) := by decide +kernel
theorem dX8_overlapIn_20 : decode cX8_overlapIn 20 = .ok (.aload_n 1, 1) := by decide +kernel
theorem dX8_overlapIn_21 : decode cX8_overlapIn 21 = .ok (.getfield 315, 3) := by decide +kernel
theorem dX8_overlapIn_24 : decode cX8_overlapIn 24 = .ok (.aload_n 0, 1) := by decide +kernel
theorem dX8_overlapIn_25 : decode cX8_overlapIn 25 = .ok (.getfield 12, 3) := by decide +kernel
theorem dX8_overlapIn_28 : decode cX8_overlapIn 28 = .ok (.getfield 81, 3) := by decide +kernel
theorem dX8_overlapIn_31 : decode cX8_overlapIn 31 = .ok (.invokestatic 188, 3) := by decide +kernel
theorem dX8_overlapIn_34 : decode cX8_overlapIn 34 = .ok (.iconst 1, 1) := by decide +kernel
theorem dX8_overlapIn_35 : decode cX8_overlapIn 35 = .ok (.isub, 1) := by decide +kernel
theorem dX8_overlapIn_36 : decode cX8_overlapIn 36 = .ok (.aload_n 1, 1) := by decide +kernel
theorem dX8_overlapIn_37 : decode cX8_overlapIn 37 = .ok (.getfield 312, 3) := by decide +kernel
theorem dX8_overlapIn_40 : decode cX8_overlapIn 40 = .ok (.idiv, 1) := by decide +kernel
theorem dX8_overlapIn_41 : decode cX8_overlapIn 41 = .ok (.iconst 1, 1) := by decide +kernel
theorem dX8_overlapIn_42 : decode cX8_overlapIn 42 = .ok (.iadd, 1) := by decide +kernel
theorem dX8_overlapIn_43 : decode cX8_overlapIn 43 = .ok (.ireturn, 1) := by decide +kernel
def fX8_overlapIn (μ : Mem) : Option (Int32 × Mem) :=
  if (μ 1 0) = 0 then
  some ((0 : Int32), μ)
  else
  if (1 : Int32) ≤ (μ 89 3) then
  bd (fX8_spanOf μ 90 (μ 1 0)) fun r5 μ4 =>
  (dv (r5 - (1 : Int32)) (μ4 89 3)).bind fun r6 =>
  some ((r6 + (1 : Int32)), μ4)
  else
  some ((0 : Int32), μ)
theorem ctX8_overlapIn {l : Launch} {D : va_G} {cI cR : ClassId} {ad : Nat → Nat} {μ : Mem} {r : Int32} {μ' : Mem} (hf : fX8_overlapIn μ = some (r, μ')) : CT l yX8_overlapIn cX8_overlapIn 2 (some .int) 2 D cI cR ad shX NX [.ref (ad 0), .ref (ad 89)] μ (some (.int r)) μ' :=
  ct_of (own := RX8) (ov := fun r => some (.int r)) (by decide +kernel) rfl (Nat.le_of_ble_eq_true rfl) (fun p e s m below meth c A0 E hr => by
    refine ll_lo (lo' := [some (.ref (ad 0)), some (.ref (ad 89))]) ⟨rfl, rfl, trivial⟩ ?_
    rw [fX8_overlapIn]
    refine ll_aload_n E (pc := 0) dX8_overlapIn_0 rfl ?_
    refine ll_getfr E (pc := 1) (o9 := 0) (ci := 8) (k9 := 0) (q := 1) dX8_overlapIn_1 fl_X8_12 (Nat.le_of_ble_eq_true rfl) fx_0_0 ?_
    refine ll_getf E (pc := 4) (o9 := 1) (ci := 6) (k9 := 0) dX8_overlapIn_4 fl_X8_81 (Nat.le_of_ble_eq_true rfl) fx_1_0 ?_
    refine ll_if_eq E (pc := 7) (tgt := 18) dX8_overlapIn_7 rfl ?_ ?_
    · refine ll_iconst E (pc := 18) dX8_overlapIn_18 kc_0 ?_
      exact ll_ireturn E (pc := 19) hr dX8_overlapIn_19
    · refine ll_aload_n E (pc := 10) dX8_overlapIn_10 rfl ?_
      refine ll_getf E (pc := 11) (o9 := 89) (ci := 3) (k9 := 3) dX8_overlapIn_11 fl_X8_312 (Nat.le_of_ble_eq_true rfl) fx_89_3 ?_
      refine ll_iconst E (pc := 14) dX8_overlapIn_14 kc_1 ?_
      refine ll_icmp_ge E (pc := 15) (tgt := 20) dX8_overlapIn_15 rfl ?_ ?_
      · refine ll_aload_n E (pc := 20) dX8_overlapIn_20 rfl ?_
        refine ll_getfr E (pc := 21) (o9 := 89) (ci := 3) (k9 := 0) (q := 90) dX8_overlapIn_21 fl_X8_315 (Nat.le_of_ble_eq_true rfl) fx_89_0 ?_
        refine ll_aload_n E (pc := 24) dX8_overlapIn_24 rfl ?_
        refine ll_getfr E (pc := 25) (o9 := 0) (ci := 8) (k9 := 0) (q := 1) dX8_overlapIn_25 fl_X8_12 (Nat.le_of_ble_eq_true rfl) fx_0_0 ?_
        refine ll_getf E (pc := 28) (o9 := 1) (ci := 6) (k9 := 0) dX8_overlapIn_28 fl_X8_81 (Nat.le_of_ble_eq_true rfl) fx_1_0 ?_
        refine ll_callSi E (pc := 31) (d := 1) [.ref (ad 90), .int (μ 1 0)] [] dX8_overlapIn_31 cv_X8_188 (fun h => ctX8_spanOf px_90 h) rfl rfl (Nat.le_of_ble_eq_true rfl) ⟨(Nat.le_of_ble_eq_true rfl), (Nat.le_of_ble_eq_true rfl)⟩ ⟨(Nat.le_of_ble_eq_true rfl), (Nat.le_of_ble_eq_true rfl)⟩ ?_
        intro r5 μ4
        refine ll_iconst E (pc := 34) dX8_overlapIn_34 kc_1 ?_
        refine ll_isub E (pc := 35) dX8_overlapIn_35 ?_
        refine ll_aload_n E (pc := 36) dX8_overlapIn_36 rfl ?_
        refine ll_getf E (pc := 37) (o9 := 89) (ci := 3) (k9 := 3) dX8_overlapIn_37 fl_X8_312 (Nat.le_of_ble_eq_true rfl) fx_89_3 ?_
        refine ll_idiv E (pc := 40) dX8_overlapIn_40 ?_
        intro r6
        refine ll_iconst E (pc := 41) dX8_overlapIn_41 kc_1 ?_
        refine ll_iadd E (pc := 42) dX8_overlapIn_42 ?_
        exact ll_ireturn E (pc := 43) hr dX8_overlapIn_43
      · refine ll_iconst E (pc := 18) dX8_overlapIn_18 kc_0 ?_
        exact ll_ireturn E (pc := 19) hr dX8_overlapIn_19) hf
theorem dX8_overlap_0 : decode cX8_overlap 0 = .ok (.aload_n 0, 1) := by decide +kernel
theorem dX8_overlap_1 : decode cX8_overlap 1 = .ok (.aload_n 0, 1) := by decide +kernel
theorem dX8_overlap_2 : decode cX8_overlap 2 = .ok (.invokevirtual 301, 3) := by decide +kernel
theorem dX8_overlap_5 : decode cX8_overlap 5 = .ok (.invokevirtual 318, 3) := by decide +kernel
theorem dX8_overlap_8 : decode cX8_overlap 8 = .ok (.ireturn, 1) := by decide +kernel
def fX8_overlap (μ : Mem) : Option (Int32 × Mem) :=
  bd (fX8_freshLoop μ) fun _ μ5 =>
  bd (fX8_overlapIn μ5) fun r8 μ7 =>
  some (r8, μ7)
theorem ctX8_overlap {l : Launch} {D : va_G} {cI cR : ClassId} {ad : Nat → Nat} {μ : Mem} {r : Int32} {μ' : Mem} (hf : fX8_overlap μ = some (r, μ')) : CT l yX8_overlap cX8_overlap 1 (some .int) 6 D cI cR ad shX NX [.ref (ad 0)] μ (some (.int r)) μ' :=
  ct_of (own := RX8) (ov := fun r => some (.int r)) (by decide +kernel) rfl (Nat.le_of_ble_eq_true rfl) (fun p e s m below meth c A0 E hr => by
    refine ll_lo (lo' := [some (.ref (ad 0))]) ⟨rfl, trivial⟩ ?_
    rw [fX8_overlap]
    refine ll_aload_n E (pc := 0) dX8_overlap_0 rfl ?_
    refine ll_aload_n E (pc := 1) dX8_overlap_1 rfl ?_
    refine ll_callVr E (pc := 2) (d := 5) (ci := 8) (o9 := 0) [] [.ref (ad 0)] dX8_overlap_2 cv_X8_301 (fun h => ctX8_freshLoop h) (Nat.le_of_ble_eq_true rfl) sx_0 ci_8 rfl rfl (Nat.le_of_ble_eq_true rfl) ⟨(Nat.le_of_ble_eq_true rfl), (Nat.le_of_ble_eq_true rfl)⟩ ⟨(Nat.le_of_ble_eq_true rfl), (Nat.le_of_ble_eq_true rfl)⟩ ?_
    intro r6 μ5
    refine ll_callVi E (pc := 5) (d := 2) (ci := 8) (o9 := 0) [.ref (ad 89)] [] dX8_overlap_5 cv_X8_318 (fun h => ctX8_overlapIn h) (Nat.le_of_ble_eq_true rfl) sx_0 ci_8 rfl rfl (Nat.le_of_ble_eq_true rfl) ⟨(Nat.le_of_ble_eq_true rfl), (Nat.le_of_ble_eq_true rfl)⟩ ⟨(Nat.le_of_ble_eq_true rfl), (Nat.le_of_ble_eq_true rfl)⟩ ?_
    intro r8 μ7
    exact ll_ireturn E (pc := 8) hr dX8_overlap_8) hf
theorem dX8_checkRounds_0 : decode cX8_checkRounds 0 = .ok (.iload_n 0, 1) := by decide +kernel
theorem dX8_checkRounds_1 : decode cX8_checkRounds 1 = .ok (.ifCond .lt 9, 3) := by decide +kernel
theorem dX8_checkRounds_4 : decode cX8_checkRounds 4 = .ok (.iload_n 0, 1) := by decide +kernel
theorem dX8_checkRounds_5 : decode cX8_checkRounds 5 = .ok (.bipush 20, 2) := by decide +kernel
theorem dX8_checkRounds_7 : decode cX8_checkRounds 7 = .ok (.if_icmp .le 14, 3) := by decide +kernel
theorem dX8_checkRounds_10 : decode cX8_checkRounds 10 = .ok (.new 96, 3) := by decide +kernel
theorem dX8_checkRounds_13 : decode cX8_checkRounds 13 = .ok (.dup, 1) := by decide +kernel
theorem dX8_checkRounds_14 : decode cX8_checkRounds 14 = .ok (.ldc_w 393, 3) := by decide +kernel
theorem dX8_checkRounds_17 : decode cX8_checkRounds 17 = .ok (.invokespecial 100, 3) := by decide +kernel
theorem dX8_checkRounds_20 : decode cX8_checkRounds 20 = .ok (.athrow, 1) := by decide +kernel
theorem dX8_checkRounds_21 : decode cX8_checkRounds 21 = .ok (.return_, 1) := by decide +kernel
def fX8_checkRounds_L10  (μ : Mem) : Option ((Unit ⊕ Nat) × Mem) :=
  some (.inr 2, μ)
def fX8_checkRounds (μ : Mem) (a0 : Int32) : Option ((Unit ⊕ Nat) × Mem) :=
  if a0 < 0 then
  fX8_checkRounds_L10 μ
  else
  if a0 ≤ (20 : Int32) then
  some (.inl (), μ)
  else
  fX8_checkRounds_L10 μ
theorem kX8_checkRounds_L10 {p : Program} {l : Launch} {e : Env} {s : State} {m : MethodId} {args : Array Value} {below : List Frame} {meth : Method} {c : Code} {D : va_G} {cI cR : ClassId} {ad : Nat → Nat} {A0 : Nat → Prop} (E : EV p s m args meth c cX8_checkRounds 1 RX8 D cI cR ad shX NX A0) (X : EX9 l s c A0) (hr : meth.sig.returnType = none)  (μ : Mem) : LL p l e (RX 7 1) s m args below meth c 1 D cI cR ad shX NX A0 (fun (r : Unit ⊕ Nat) μ' => KX below args s D cI cR ad shX NX A0 1 (r.elim (fun _ => .inl (none)) .inr) μ') (fX8_checkRounds_L10 μ) 0 0 10 [none] [] μ := by
  rw [fX8_checkRounds_L10]
  exact ll_throwW E (pc := 10) (k := 2) (tx := "rounds out of range") X (by decide) xw_2 (by decide +kernel) rfl dX8_checkRounds_10 dX8_checkRounds_13 dX8_checkRounds_14 dX8_checkRounds_17 dX8_checkRounds_20 ⟨(Nat.le_of_ble_eq_true rfl), (Nat.le_of_ble_eq_true rfl)⟩ (Nat.le_of_ble_eq_true rfl) ⟨(Nat.le_of_ble_eq_true rfl), (Nat.le_of_ble_eq_true rfl)⟩ ⟨(Nat.le_of_ble_eq_true rfl), (Nat.le_of_ble_eq_true rfl)⟩
theorem cxX8_checkRounds {l : Launch} {D : va_G} {cI cR : ClassId} {ad : Nat → Nat} {μ : Mem} {a0 : Int32} (hl9 : l.stackTraces = false) {r : Unit ⊕ Nat} {μ' : Mem} (hf : fX8_checkRounds μ a0 = some (r, μ')) : CX l yX8_checkRounds cX8_checkRounds 1 none 7 1 D cI cR ad shX NX [.int a0] μ (r.elim (fun _ => .inl (none)) .inr) μ' :=
  cx_of (own := RX8) (ov := fun (r : Unit ⊕ Nat) => (r.elim (fun _ => .inl (none)) .inr)) hl9 (by decide +kernel) rfl (Nat.le_of_ble_eq_true rfl) (fun p e s m below meth c A0 E X hr => by
    refine ll_lo (lo' := [some (.int a0)]) ⟨rfl, trivial⟩ ?_
    rw [fX8_checkRounds]
    refine ll_iload_n E (pc := 0) dX8_checkRounds_0 rfl ?_
    refine ll_if_lt E (pc := 1) (tgt := 10) dX8_checkRounds_1 rfl ?_ ?_
    · exact ll_lo (lo' := [none]) trivial (kX8_checkRounds_L10 E X hr μ)
    · refine ll_iload_n E (pc := 4) dX8_checkRounds_4 rfl ?_
      refine ll_bipush E (pc := 5) dX8_checkRounds_5 kb_20 ?_
      refine ll_icmp_le E (pc := 7) (tgt := 21) dX8_checkRounds_7 rfl ?_ ?_
      · exact ll_xreturn E (pc := 21) hr dX8_checkRounds_21 ⟨(Nat.le_of_ble_eq_true rfl), (Nat.le_of_ble_eq_true rfl)⟩
      · exact ll_lo (lo' := [none]) trivial (kX8_checkRounds_L10 E X hr μ)) hf
theorem dX8_spanIn_0 : decode cX8_spanIn 0 = .ok (.aload_n 0, 1) := by decide +kernel
theorem dX8_spanIn_1 : decode cX8_spanIn 1 = .ok (.getfield 12, 3) := by decide +kernel
theorem dX8_spanIn_4 : decode cX8_spanIn 4 = .ok (.getfield 81, 3) := by decide +kernel
theorem dX8_spanIn_7 : decode cX8_spanIn 7 = .ok (.ifCond .eq 7, 3) := by decide +kernel
theorem dX8_spanIn_10 : decode cX8_spanIn 10 = .ok (.iload_n 2, 1) := by decide +kernel
theorem dX8_spanIn_11 : decode cX8_spanIn 11 = .ok (.ifCond .ne 5, 3) := by decide +kernel
theorem dX8_spanIn_14 : decode cX8_spanIn 14 = .ok (.iconst 0, 1) := by decide +kernel
theorem dX8_spanIn_15 : decode cX8_spanIn 15 = .ok (.ireturn, 1) := by decide +kernel
theorem dX8_spanIn_16 : decode cX8_spanIn 16 = .ok (.aload_n 1, 1) := by decide +kernel
theorem dX8_spanIn_17 : decode cX8_spanIn 17 = .ok (.getfield 315, 3) := by decide +kernel
theorem dX8_spanIn_20 : decode cX8_spanIn 20 = .ok (.aload_n 0, 1) := by decide +kernel
theorem dX8_spanIn_21 : decode cX8_spanIn 21 = .ok (.getfield 12, 3) := by decide +kernel
theorem dX8_spanIn_24 : decode cX8_spanIn 24 = .ok (.getfield 81, 3) := by decide +kernel
theorem dX8_spanIn_27 : decode cX8_spanIn 27 = .ok (.invokestatic 188, 3) := by decide +kernel
theorem dX8_spanIn_30 : decode cX8_spanIn 30 = .ok (.iload_n 2, 1) := by decide +kernel
theorem dX8_spanIn_31 : decode cX8_spanIn 31 = .ok (.iconst 1, 1) := by decide +kernel
theorem dX8_spanIn_32 : decode cX8_spanIn 32 = .ok (.isub, 1) := by decide +kernel
theorem dX8_spanIn_33 : decode cX8_spanIn 33 = .ok (.aload_n 1, 1) := by decide +kernel
theorem dX8_spanIn_34 : decode cX8_spanIn 34 = .ok (.getfield 312, 3) := by decide +kernel
theorem dX8_spanIn_37 : decode cX8_spanIn 37 = .ok (.imul, 1) := by decide +kernel
theorem dX8_spanIn_38 : decode cX8_spanIn 38 = .ok (.iadd, 1) := by decide +kernel
theorem dX8_spanIn_39 : decode cX8_spanIn 39 = .ok (.ireturn, 1) := by decide +kernel
def fX8_spanIn (μ : Mem) (a2 : Int32) : Option (Int32 × Mem) :=
  if (μ 1 0) = 0 then
  some ((0 : Int32), μ)
  else
  if a2 = 0 then
  some ((0 : Int32), μ)
  else
  bd (fX8_spanOf μ 90 (μ 1 0)) fun r4 μ3 =>
  some ((r4 + ((a2 - (1 : Int32)) * (μ3 89 3))), μ3)
theorem ctX8_spanIn {l : Launch} {D : va_G} {cI cR : ClassId} {ad : Nat → Nat} {μ : Mem} {a2 : Int32} {r : Int32} {μ' : Mem} (hf : fX8_spanIn μ a2 = some (r, μ')) : CT l yX8_spanIn cX8_spanIn 3 (some .int) 2 D cI cR ad shX NX [.ref (ad 0), .ref (ad 89), .int a2] μ (some (.int r)) μ' :=
  ct_of (own := RX8) (ov := fun r => some (.int r)) (by decide +kernel) rfl (Nat.le_of_ble_eq_true rfl) (fun p e s m below meth c A0 E hr => by
    refine ll_lo (lo' := [some (.ref (ad 0)), some (.ref (ad 89)), some (.int a2)]) ⟨rfl, rfl, rfl, trivial⟩ ?_
    rw [fX8_spanIn]
    refine ll_aload_n E (pc := 0) dX8_spanIn_0 rfl ?_
    refine ll_getfr E (pc := 1) (o9 := 0) (ci := 8) (k9 := 0) (q := 1) dX8_spanIn_1 fl_X8_12 (Nat.le_of_ble_eq_true rfl) fx_0_0 ?_
    refine ll_getf E (pc := 4) (o9 := 1) (ci := 6) (k9 := 0) dX8_spanIn_4 fl_X8_81 (Nat.le_of_ble_eq_true rfl) fx_1_0 ?_
    refine ll_if_eq E (pc := 7) (tgt := 14) dX8_spanIn_7 rfl ?_ ?_
    · refine ll_iconst E (pc := 14) dX8_spanIn_14 kc_0 ?_
      exact ll_ireturn E (pc := 15) hr dX8_spanIn_15
    · refine ll_iload_n E (pc := 10) dX8_spanIn_10 rfl ?_
      refine ll_if_ne E (pc := 11) (tgt := 16) dX8_spanIn_11 rfl ?_ ?_
      · refine ll_aload_n E (pc := 16) dX8_spanIn_16 rfl ?_
        refine ll_getfr E (pc := 17) (o9 := 89) (ci := 3) (k9 := 0) (q := 90) dX8_spanIn_17 fl_X8_315 (Nat.le_of_ble_eq_true rfl) fx_89_0 ?_
        refine ll_aload_n E (pc := 20) dX8_spanIn_20 rfl ?_
        refine ll_getfr E (pc := 21) (o9 := 0) (ci := 8) (k9 := 0) (q := 1) dX8_spanIn_21 fl_X8_12 (Nat.le_of_ble_eq_true rfl) fx_0_0 ?_
        refine ll_getf E (pc := 24) (o9 := 1) (ci := 6) (k9 := 0) dX8_spanIn_24 fl_X8_81 (Nat.le_of_ble_eq_true rfl) fx_1_0 ?_
        refine ll_callSi E (pc := 27) (d := 1) [.ref (ad 90), .int (μ 1 0)] [] dX8_spanIn_27 cv_X8_188 (fun h => ctX8_spanOf px_90 h) rfl rfl (Nat.le_of_ble_eq_true rfl) ⟨(Nat.le_of_ble_eq_true rfl), (Nat.le_of_ble_eq_true rfl)⟩ ⟨(Nat.le_of_ble_eq_true rfl), (Nat.le_of_ble_eq_true rfl)⟩ ?_
        intro r4 μ3
        refine ll_iload_n E (pc := 30) dX8_spanIn_30 rfl ?_
        refine ll_iconst E (pc := 31) dX8_spanIn_31 kc_1 ?_
        refine ll_isub E (pc := 32) dX8_spanIn_32 ?_
        refine ll_aload_n E (pc := 33) dX8_spanIn_33 rfl ?_
        refine ll_getf E (pc := 34) (o9 := 89) (ci := 3) (k9 := 3) dX8_spanIn_34 fl_X8_312 (Nat.le_of_ble_eq_true rfl) fx_89_3 ?_
        refine ll_imul E (pc := 37) dX8_spanIn_37 ?_
        refine ll_iadd E (pc := 38) dX8_spanIn_38 ?_
        exact ll_ireturn E (pc := 39) hr dX8_spanIn_39
      · refine ll_iconst E (pc := 14) dX8_spanIn_14 kc_0 ?_
        exact ll_ireturn E (pc := 15) hr dX8_spanIn_15) hf
theorem dX8_loopBundles_0 : decode cX8_loopBundles 0 = .ok (.iload_n 1, 1) := by decide +kernel
theorem dX8_loopBundles_1 : decode cX8_loopBundles 1 = .ok (.invokestatic 322, 3) := by decide +kernel
theorem dX8_loopBundles_4 : decode cX8_loopBundles 4 = .ok (.aload_n 0, 1) := by decide +kernel
theorem dX8_loopBundles_5 : decode cX8_loopBundles 5 = .ok (.aload_n 0, 1) := by decide +kernel
theorem dX8_loopBundles_6 : decode cX8_loopBundles 6 = .ok (.invokevirtual 301, 3) := by decide +kernel
theorem dX8_loopBundles_9 : decode cX8_loopBundles 9 = .ok (.iload_n 1, 1) := by decide +kernel
theorem dX8_loopBundles_10 : decode cX8_loopBundles 10 = .ok (.invokevirtual 325, 3) := by decide +kernel
theorem dX8_loopBundles_13 : decode cX8_loopBundles 13 = .ok (.ireturn, 1) := by decide +kernel
def fX8_loopBundles (μ : Mem) (a1 : Int32) : Option ((Int32 ⊕ Nat) × Mem) :=
  bx (fX8_checkRounds μ a1) fun _ μ7 =>
  bd (fX8_freshLoop μ7) fun _ μ9 =>
  bd (fX8_spanIn μ9 a1) fun r12 μ11 =>
  some (.inl r12, μ11)
theorem cxX8_loopBundles {l : Launch} {D : va_G} {cI cR : ClassId} {ad : Nat → Nat} {μ : Mem} {a1 : Int32} (hl9 : l.stackTraces = false) {r : Int32 ⊕ Nat} {μ' : Mem} (hf : fX8_loopBundles μ a1 = some (r, μ')) : CX l yX8_loopBundles cX8_loopBundles 2 (some .int) 8 1 D cI cR ad shX NX [.ref (ad 0), .int a1] μ (r.elim (fun r => .inl (some (.int r))) .inr) μ' :=
  cx_of (own := RX8) (ov := fun (r : Int32 ⊕ Nat) => (r.elim (fun r => .inl (some (.int r))) .inr)) hl9 (by decide +kernel) rfl (Nat.le_of_ble_eq_true rfl) (fun p e s m below meth c A0 E X hr => by
    refine ll_lo (lo' := [some (.ref (ad 0)), some (.int a1)]) ⟨rfl, rfl, trivial⟩ ?_
    rw [fX8_loopBundles]
    refine ll_iload_n E (pc := 0) dX8_loopBundles_0 rfl ?_
    refine ll_xcallSv E X (pc := 1) (d := 7) (mc1 := 1) (mc := 1) [.int a1] [] dX8_loopBundles_1 cv_X8_322 (fun h => cxX8_checkRounds X.1 h) rfl rfl (Nat.le_of_ble_eq_true rfl) ⟨(Nat.le_of_ble_eq_true rfl), (Nat.le_of_ble_eq_true rfl)⟩ ⟨(Nat.le_of_ble_eq_true rfl), (Nat.le_of_ble_eq_true rfl)⟩ ⟨(Nat.le_of_ble_eq_true rfl), (Nat.le_of_ble_eq_true rfl)⟩ ?_
    intro r8 μ7
    refine ll_aload_n E (pc := 4) dX8_loopBundles_4 rfl ?_
    refine ll_aload_n E (pc := 5) dX8_loopBundles_5 rfl ?_
    refine ll_callVr E (pc := 6) (d := 5) (ci := 8) (o9 := 0) [] [.ref (ad 0)] dX8_loopBundles_6 cv_X8_301 (fun h => ctX8_freshLoop h) (Nat.le_of_ble_eq_true rfl) sx_0 ci_8 rfl rfl (Nat.le_of_ble_eq_true rfl) ⟨(Nat.le_of_ble_eq_true rfl), (Nat.le_of_ble_eq_true rfl)⟩ ⟨(Nat.le_of_ble_eq_true rfl), (Nat.le_of_ble_eq_true rfl)⟩ ?_
    intro r10 μ9
    refine ll_iload_n E (pc := 9) dX8_loopBundles_9 rfl ?_
    refine ll_callVi E (pc := 10) (d := 2) (ci := 8) (o9 := 0) [.ref (ad 89), .int a1] [] dX8_loopBundles_10 cv_X8_325 (fun h => ctX8_spanIn h) (Nat.le_of_ble_eq_true rfl) sx_0 ci_8 rfl rfl (Nat.le_of_ble_eq_true rfl) ⟨(Nat.le_of_ble_eq_true rfl), (Nat.le_of_ble_eq_true rfl)⟩ ⟨(Nat.le_of_ble_eq_true rfl), (Nat.le_of_ble_eq_true rfl)⟩ ?_
    intro r12 μ11
    exact ll_xireturn E (pc := 13) hr dX8_loopBundles_13 ⟨(Nat.le_of_ble_eq_true rfl), (Nat.le_of_ble_eq_true rfl)⟩) hf
theorem dX8_doLoop_0 : decode cX8_doLoop 0 = .ok (.aload_n 0, 1) := by decide +kernel
theorem dX8_doLoop_1 : decode cX8_doLoop 1 = .ok (.aload_n 1, 1) := by decide +kernel
theorem dX8_doLoop_2 : decode cX8_doLoop 2 = .ok (.iload_n 2, 1) := by decide +kernel
theorem dX8_doLoop_3 : decode cX8_doLoop 3 = .ok (.invokevirtual 325, 3) := by decide +kernel
theorem dX8_doLoop_6 : decode cX8_doLoop 6 = .ok (.bipush 6, 2) := by decide +kernel
theorem dX8_doLoop_8 : decode cX8_doLoop 8 = .ok (.iadd, 1) := by decide +kernel
theorem dX8_doLoop_9 : decode cX8_doLoop 9 = .ok (.istore_n 3, 1) := by decide +kernel
theorem dX8_doLoop_10 : decode cX8_doLoop 10 = .ok (.aload_n 0, 1) := by decide +kernel
theorem dX8_doLoop_11 : decode cX8_doLoop 11 = .ok (.getfield 64, 3) := by decide +kernel
theorem dX8_doLoop_14 : decode cX8_doLoop 14 = .ok (.aload_n 0, 1) := by decide +kernel
theorem dX8_doLoop_15 : decode cX8_doLoop 15 = .ok (.getfield 12, 3) := by decide +kernel
theorem dX8_doLoop_18 : decode cX8_doLoop 18 = .ok (.aload_n 1, 1) := by decide +kernel
theorem dX8_doLoop_19 : decode cX8_doLoop 19 = .ok (.getfield 315, 3) := by decide +kernel
theorem dX8_doLoop_22 : decode cX8_doLoop 22 = .ok (.aload_n 1, 1) := by decide +kernel
theorem dX8_doLoop_23 : decode cX8_doLoop 23 = .ok (.getfield 312, 3) := by decide +kernel
theorem dX8_doLoop_26 : decode cX8_doLoop 26 = .ok (.iload_n 2, 1) := by decide +kernel
theorem dX8_doLoop_27 : decode cX8_doLoop 27 = .ok (.iload_n 3, 1) := by decide +kernel
theorem dX8_doLoop_28 : decode cX8_doLoop 28 = .ok (.aload_n 0, 1) := by decide +kernel
theorem dX8_doLoop_29 : decode cX8_doLoop 29 = .ok (.getfield 75, 3) := by decide +kernel
theorem dX8_doLoop_32 : decode cX8_doLoop 32 = .ok (.invokevirtual 415, 3) := by decide +kernel
theorem dX8_doLoop_35 : decode cX8_doLoop 35 = .ok (.return_, 1) := by decide +kernel
def fX8_doLoop (μ : Mem) (a2 : Int32) : Option (Unit × Mem) :=
  bd (fX8_spanIn μ a2) fun r6 μ5 =>
  bd (fX5_doInTime μ5 90 (μ5 89 3) a2 (r6 + (6 : Int32)) 99) fun _ μ7 =>
  some ((), μ7)
theorem ctX8_doLoop {l : Launch} {D : va_G} {cI cR : ClassId} {ad : Nat → Nat} {μ : Mem} {a2 : Int32} {r : Unit} {μ' : Mem} (hf : fX8_doLoop μ a2 = some (r, μ')) : CT l yX8_doLoop cX8_doLoop 4 none 5 D cI cR ad shX NX [.ref (ad 0), .ref (ad 89), .int a2] μ none μ' :=
  ct_of (own := RX8) (ov := fun _ => none) (by decide +kernel) rfl (Nat.le_of_ble_eq_true rfl) (fun p e s m below meth c A0 E hr => by
    refine ll_lo (lo' := [some (.ref (ad 0)), some (.ref (ad 89)), some (.int a2), none]) ⟨rfl, rfl, rfl, trivial⟩ ?_
    rw [fX8_doLoop]
    refine ll_aload_n E (pc := 0) dX8_doLoop_0 rfl ?_
    refine ll_aload_n E (pc := 1) dX8_doLoop_1 rfl ?_
    refine ll_iload_n E (pc := 2) dX8_doLoop_2 rfl ?_
    refine ll_callVi E (pc := 3) (d := 2) (ci := 8) (o9 := 0) [.ref (ad 89), .int a2] [] dX8_doLoop_3 cv_X8_325 (fun h => ctX8_spanIn h) (Nat.le_of_ble_eq_true rfl) sx_0 ci_8 rfl rfl (Nat.le_of_ble_eq_true rfl) ⟨(Nat.le_of_ble_eq_true rfl), (Nat.le_of_ble_eq_true rfl)⟩ ⟨(Nat.le_of_ble_eq_true rfl), (Nat.le_of_ble_eq_true rfl)⟩ ?_
    intro r6 μ5
    refine ll_bipush E (pc := 6) dX8_doLoop_6 kb_6 ?_
    refine ll_iadd E (pc := 8) dX8_doLoop_8 ?_
    refine ll_istore_n E (pc := 9) (lo' := [some (.ref (ad 0)), some (.ref (ad 89)), some (.int a2), some (.int (r6 + (6 : Int32)))]) dX8_doLoop_9 (Nat.le_of_ble_eq_true rfl) rfl rfl ?_
    refine ll_aload_n E (pc := 10) dX8_doLoop_10 rfl ?_
    refine ll_getfr E (pc := 11) (o9 := 0) (ci := 8) (k9 := 11) (q := 92) dX8_doLoop_11 fl_X8_64 (Nat.le_of_ble_eq_true rfl) fx_0_11 ?_
    refine ll_aload_n E (pc := 14) dX8_doLoop_14 rfl ?_
    refine ll_getfr E (pc := 15) (o9 := 0) (ci := 8) (k9 := 0) (q := 1) dX8_doLoop_15 fl_X8_12 (Nat.le_of_ble_eq_true rfl) fx_0_0 ?_
    refine ll_aload_n E (pc := 18) dX8_doLoop_18 rfl ?_
    refine ll_getfr E (pc := 19) (o9 := 89) (ci := 3) (k9 := 0) (q := 90) dX8_doLoop_19 fl_X8_315 (Nat.le_of_ble_eq_true rfl) fx_89_0 ?_
    refine ll_aload_n E (pc := 22) dX8_doLoop_22 rfl ?_
    refine ll_getf E (pc := 23) (o9 := 89) (ci := 3) (k9 := 3) dX8_doLoop_23 fl_X8_312 (Nat.le_of_ble_eq_true rfl) fx_89_3 ?_
    refine ll_iload_n E (pc := 26) dX8_doLoop_26 rfl ?_
    refine ll_iload_n E (pc := 27) dX8_doLoop_27 rfl ?_
    refine ll_aload_n E (pc := 28) dX8_doLoop_28 rfl ?_
    refine ll_getfr E (pc := 29) (o9 := 0) (ci := 8) (k9 := 14) (q := 99) dX8_doLoop_29 fl_X8_75 (Nat.le_of_ble_eq_true rfl) fx_0_14 ?_
    refine ll_callVv E (pc := 32) (d := 4) (ci := 5) (o9 := 92) [.ref (ad 1), .ref (ad 90), .int (μ5 89 3), .int a2, .int (r6 + (6 : Int32)), .ref (ad 99)] [] dX8_doLoop_32 cv_X8_415 (fun h => ctX5_doInTime px_90 px_99 h) (Nat.le_of_ble_eq_true rfl) sx_92 ci_5 rfl rfl (Nat.le_of_ble_eq_true rfl) ⟨(Nat.le_of_ble_eq_true rfl), (Nat.le_of_ble_eq_true rfl)⟩ ⟨(Nat.le_of_ble_eq_true rfl), (Nat.le_of_ble_eq_true rfl)⟩ ?_
    intro r8 μ7
    exact ll_return E (pc := 35) hr dX8_doLoop_35) hf
theorem dX8_registerInLoop_0 : decode cX8_registerInLoop 0 = .ok (.iload_n 2, 1) := by decide +kernel
theorem dX8_registerInLoop_1 : decode cX8_registerInLoop 1 = .ok (.invokestatic 140, 3) := by decide +kernel
theorem dX8_registerInLoop_4 : decode cX8_registerInLoop 4 = .ok (.iload_n 1, 1) := by decide +kernel
theorem dX8_registerInLoop_5 : decode cX8_registerInLoop 5 = .ok (.invokestatic 322, 3) := by decide +kernel
theorem dX8_registerInLoop_8 : decode cX8_registerInLoop 8 = .ok (.aload_n 0, 1) := by decide +kernel
theorem dX8_registerInLoop_9 : decode cX8_registerInLoop 9 = .ok (.aload_n 0, 1) := by decide +kernel
theorem dX8_registerInLoop_10 : decode cX8_registerInLoop 10 = .ok (.invokevirtual 301, 3) := by decide +kernel
theorem dX8_registerInLoop_13 : decode cX8_registerInLoop 13 = .ok (.iload_n 1, 1) := by decide +kernel
theorem dX8_registerInLoop_14 : decode cX8_registerInLoop 14 = .ok (.invokevirtual 329, 3) := by decide +kernel
theorem dX8_registerInLoop_17 : decode cX8_registerInLoop 17 = .ok (.aload_n 0, 1) := by decide +kernel
theorem dX8_registerInLoop_18 : decode cX8_registerInLoop 18 = .ok (.getfield 75, 3) := by decide +kernel
theorem dX8_registerInLoop_21 : decode cX8_registerInLoop 21 = .ok (.iload_n 2, 1) := by decide +kernel
theorem dX8_registerInLoop_22 : decode cX8_registerInLoop 22 = .ok (.iaload, 1) := by decide +kernel
theorem dX8_registerInLoop_23 : decode cX8_registerInLoop 23 = .ok (.ireturn, 1) := by decide +kernel
def fX8_registerInLoop (μ : Mem) (a1 : Int32) (a2 : Int32) : Option ((Int32 ⊕ Nat) × Mem) :=
  bx (fX8_checkRegister μ a2) fun _ μ10 =>
  bx (fX8_checkRounds μ10 a1) fun _ μ12 =>
  bd (fX8_freshLoop μ12) fun _ μ14 =>
  bd (fX8_doLoop μ14 a1) fun _ μ16 =>
  (ld 24 (μ16 99) a2).bind fun r18 =>
  some (.inl r18, μ16)
theorem cxX8_registerInLoop {l : Launch} {D : va_G} {cI cR : ClassId} {ad : Nat → Nat} {μ : Mem} {a1 : Int32} {a2 : Int32} (hl9 : l.stackTraces = false) {r : Int32 ⊕ Nat} {μ' : Mem} (hf : fX8_registerInLoop μ a1 a2 = some (r, μ')) : CX l yX8_registerInLoop cX8_registerInLoop 3 (some .int) 8 2 D cI cR ad shX NX [.ref (ad 0), .int a1, .int a2] μ (r.elim (fun r => .inl (some (.int r))) .inr) μ' :=
  cx_of (own := RX8) (ov := fun (r : Int32 ⊕ Nat) => (r.elim (fun r => .inl (some (.int r))) .inr)) hl9 (by decide +kernel) rfl (Nat.le_of_ble_eq_true rfl) (fun p e s m below meth c A0 E X hr => by
    refine ll_lo (lo' := [some (.ref (ad 0)), some (.int a1), some (.int a2)]) ⟨rfl, rfl, rfl, trivial⟩ ?_
    rw [fX8_registerInLoop]
    refine ll_iload_n E (pc := 0) dX8_registerInLoop_0 rfl ?_
    refine ll_xcallSv E X (pc := 1) (d := 7) (mc1 := 1) (mc := 2) [.int a2] [] dX8_registerInLoop_1 cv_X8_140 (fun h => cxX8_checkRegister X.1 h) rfl rfl (Nat.le_of_ble_eq_true rfl) ⟨(Nat.le_of_ble_eq_true rfl), (Nat.le_of_ble_eq_true rfl)⟩ ⟨(Nat.le_of_ble_eq_true rfl), (Nat.le_of_ble_eq_true rfl)⟩ ⟨(Nat.le_of_ble_eq_true rfl), (Nat.le_of_ble_eq_true rfl)⟩ ?_
    intro r11 μ10
    refine ll_iload_n E (pc := 4) dX8_registerInLoop_4 rfl ?_
    refine ll_xcallSv E X (pc := 5) (d := 7) (mc1 := 1) (mc := 2) [.int a1] [] dX8_registerInLoop_5 cv_X8_322 (fun h => cxX8_checkRounds X.1 h) rfl rfl (Nat.le_of_ble_eq_true rfl) ⟨(Nat.le_of_ble_eq_true rfl), (Nat.le_of_ble_eq_true rfl)⟩ ⟨(Nat.le_of_ble_eq_true rfl), (Nat.le_of_ble_eq_true rfl)⟩ ⟨(Nat.le_of_ble_eq_true rfl), (Nat.le_of_ble_eq_true rfl)⟩ ?_
    intro r13 μ12
    refine ll_aload_n E (pc := 8) dX8_registerInLoop_8 rfl ?_
    refine ll_aload_n E (pc := 9) dX8_registerInLoop_9 rfl ?_
    refine ll_callVr E (pc := 10) (d := 5) (ci := 8) (o9 := 0) [] [.ref (ad 0)] dX8_registerInLoop_10 cv_X8_301 (fun h => ctX8_freshLoop h) (Nat.le_of_ble_eq_true rfl) sx_0 ci_8 rfl rfl (Nat.le_of_ble_eq_true rfl) ⟨(Nat.le_of_ble_eq_true rfl), (Nat.le_of_ble_eq_true rfl)⟩ ⟨(Nat.le_of_ble_eq_true rfl), (Nat.le_of_ble_eq_true rfl)⟩ ?_
    intro r15 μ14
    refine ll_iload_n E (pc := 13) dX8_registerInLoop_13 rfl ?_
    refine ll_callVv E (pc := 14) (d := 5) (ci := 8) (o9 := 0) [.ref (ad 89), .int a1] [] dX8_registerInLoop_14 cv_X8_329 (fun h => ctX8_doLoop h) (Nat.le_of_ble_eq_true rfl) sx_0 ci_8 rfl rfl (Nat.le_of_ble_eq_true rfl) ⟨(Nat.le_of_ble_eq_true rfl), (Nat.le_of_ble_eq_true rfl)⟩ ⟨(Nat.le_of_ble_eq_true rfl), (Nat.le_of_ble_eq_true rfl)⟩ ?_
    intro r17 μ16
    refine ll_aload_n E (pc := 17) dX8_registerInLoop_17 rfl ?_
    refine ll_getfr E (pc := 18) (o9 := 0) (ci := 8) (k9 := 14) (q := 99) dX8_registerInLoop_18 fl_X8_75 (Nat.le_of_ble_eq_true rfl) fx_0_14 ?_
    refine ll_iload_n E (pc := 21) dX8_registerInLoop_21 rfl ?_
    refine ll_iald E (pc := 22) (a := 99) dX8_registerInLoop_22 (px_99).1 (px_99).2 ?_
    intro r18
    exact ll_xireturn E (pc := 23) hr dX8_registerInLoop_23 ⟨(Nat.le_of_ble_eq_true rfl), (Nat.le_of_ble_eq_true rfl)⟩) hf
theorem dX8_registerInRounds_0 : decode cX8_registerInRounds 0 = .ok (.iload_n 2, 1) := by decide +kernel
theorem dX8_registerInRounds_1 : decode cX8_registerInRounds 1 = .ok (.invokestatic 140, 3) := by decide +kernel
theorem dX8_registerInRounds_4 : decode cX8_registerInRounds 4 = .ok (.iload_n 1, 1) := by decide +kernel
theorem dX8_registerInRounds_5 : decode cX8_registerInRounds 5 = .ok (.invokestatic 322, 3) := by decide +kernel
theorem dX8_registerInRounds_8 : decode cX8_registerInRounds 8 = .ok (.aload_n 0, 1) := by decide +kernel
theorem dX8_registerInRounds_9 : decode cX8_registerInRounds 9 = .ok (.getfield 64, 3) := by decide +kernel
theorem dX8_registerInRounds_12 : decode cX8_registerInRounds 12 = .ok (.aload_n 0, 1) := by decide +kernel
theorem dX8_registerInRounds_13 : decode cX8_registerInRounds 13 = .ok (.getfield 12, 3) := by decide +kernel
theorem dX8_registerInRounds_16 : decode cX8_registerInRounds 16 = .ok (.iload_n 1, 1) := by decide +kernel
theorem dX8_registerInRounds_17 : decode cX8_registerInRounds 17 = .ok (.aload_n 0, 1) := by decide +kernel
theorem dX8_registerInRounds_18 : decode cX8_registerInRounds 18 = .ok (.getfield 78, 3) := by decide +kernel
theorem dX8_registerInRounds_21 : decode cX8_registerInRounds 21 = .ok (.invokevirtual 285, 3) := by decide +kernel
theorem dX8_registerInRounds_24 : decode cX8_registerInRounds 24 = .ok (.aload_n 0, 1) := by decide +kernel
theorem dX8_registerInRounds_25 : decode cX8_registerInRounds 25 = .ok (.getfield 78, 3) := by decide +kernel
theorem dX8_registerInRounds_28 : decode cX8_registerInRounds 28 = .ok (.iload_n 2, 1) := by decide +kernel
theorem dX8_registerInRounds_29 : decode cX8_registerInRounds 29 = .ok (.iaload, 1) := by decide +kernel
theorem dX8_registerInRounds_30 : decode cX8_registerInRounds 30 = .ok (.ireturn, 1) := by decide +kernel
def fX8_registerInRounds (μ : Mem) (a1 : Int32) (a2 : Int32) : Option ((Int32 ⊕ Nat) × Mem) :=
  bx (fX8_checkRegister μ a2) fun _ μ8 =>
  bx (fX8_checkRounds μ8 a1) fun _ μ10 =>
  bd (fX5_doInOrder μ10 a1 100) fun _ μ12 =>
  (ld 24 (μ12 100) a2).bind fun r14 =>
  some (.inl r14, μ12)
theorem cxX8_registerInRounds {l : Launch} {D : va_G} {cI cR : ClassId} {ad : Nat → Nat} {μ : Mem} {a1 : Int32} {a2 : Int32} (hl9 : l.stackTraces = false) {r : Int32 ⊕ Nat} {μ' : Mem} (hf : fX8_registerInRounds μ a1 a2 = some (r, μ')) : CX l yX8_registerInRounds cX8_registerInRounds 3 (some .int) 8 2 D cI cR ad shX NX [.ref (ad 0), .int a1, .int a2] μ (r.elim (fun r => .inl (some (.int r))) .inr) μ' :=
  cx_of (own := RX8) (ov := fun (r : Int32 ⊕ Nat) => (r.elim (fun r => .inl (some (.int r))) .inr)) hl9 (by decide +kernel) rfl (Nat.le_of_ble_eq_true rfl) (fun p e s m below meth c A0 E X hr => by
    refine ll_lo (lo' := [some (.ref (ad 0)), some (.int a1), some (.int a2)]) ⟨rfl, rfl, rfl, trivial⟩ ?_
    rw [fX8_registerInRounds]
    refine ll_iload_n E (pc := 0) dX8_registerInRounds_0 rfl ?_
    refine ll_xcallSv E X (pc := 1) (d := 7) (mc1 := 1) (mc := 2) [.int a2] [] dX8_registerInRounds_1 cv_X8_140 (fun h => cxX8_checkRegister X.1 h) rfl rfl (Nat.le_of_ble_eq_true rfl) ⟨(Nat.le_of_ble_eq_true rfl), (Nat.le_of_ble_eq_true rfl)⟩ ⟨(Nat.le_of_ble_eq_true rfl), (Nat.le_of_ble_eq_true rfl)⟩ ⟨(Nat.le_of_ble_eq_true rfl), (Nat.le_of_ble_eq_true rfl)⟩ ?_
    intro r9 μ8
    refine ll_iload_n E (pc := 4) dX8_registerInRounds_4 rfl ?_
    refine ll_xcallSv E X (pc := 5) (d := 7) (mc1 := 1) (mc := 2) [.int a1] [] dX8_registerInRounds_5 cv_X8_322 (fun h => cxX8_checkRounds X.1 h) rfl rfl (Nat.le_of_ble_eq_true rfl) ⟨(Nat.le_of_ble_eq_true rfl), (Nat.le_of_ble_eq_true rfl)⟩ ⟨(Nat.le_of_ble_eq_true rfl), (Nat.le_of_ble_eq_true rfl)⟩ ⟨(Nat.le_of_ble_eq_true rfl), (Nat.le_of_ble_eq_true rfl)⟩ ?_
    intro r11 μ10
    refine ll_aload_n E (pc := 8) dX8_registerInRounds_8 rfl ?_
    refine ll_getfr E (pc := 9) (o9 := 0) (ci := 8) (k9 := 11) (q := 92) dX8_registerInRounds_9 fl_X8_64 (Nat.le_of_ble_eq_true rfl) fx_0_11 ?_
    refine ll_aload_n E (pc := 12) dX8_registerInRounds_12 rfl ?_
    refine ll_getfr E (pc := 13) (o9 := 0) (ci := 8) (k9 := 0) (q := 1) dX8_registerInRounds_13 fl_X8_12 (Nat.le_of_ble_eq_true rfl) fx_0_0 ?_
    refine ll_iload_n E (pc := 16) dX8_registerInRounds_16 rfl ?_
    refine ll_aload_n E (pc := 17) dX8_registerInRounds_17 rfl ?_
    refine ll_getfr E (pc := 18) (o9 := 0) (ci := 8) (k9 := 15) (q := 100) dX8_registerInRounds_18 fl_X8_78 (Nat.le_of_ble_eq_true rfl) fx_0_15 ?_
    refine ll_callVv E (pc := 21) (d := 3) (ci := 5) (o9 := 92) [.ref (ad 1), .int a1, .ref (ad 100)] [] dX8_registerInRounds_21 cv_X8_285 (fun h => ctX5_doInOrder px_100 h) (Nat.le_of_ble_eq_true rfl) sx_92 ci_5 rfl rfl (Nat.le_of_ble_eq_true rfl) ⟨(Nat.le_of_ble_eq_true rfl), (Nat.le_of_ble_eq_true rfl)⟩ ⟨(Nat.le_of_ble_eq_true rfl), (Nat.le_of_ble_eq_true rfl)⟩ ?_
    intro r13 μ12
    refine ll_aload_n E (pc := 24) dX8_registerInRounds_24 rfl ?_
    refine ll_getfr E (pc := 25) (o9 := 0) (ci := 8) (k9 := 15) (q := 100) dX8_registerInRounds_25 fl_X8_78 (Nat.le_of_ble_eq_true rfl) fx_0_15 ?_
    refine ll_iload_n E (pc := 28) dX8_registerInRounds_28 rfl ?_
    refine ll_iald E (pc := 29) (a := 100) dX8_registerInRounds_29 (px_100).1 (px_100).2 ?_
    intro r14
    exact ll_xireturn E (pc := 30) hr dX8_registerInRounds_30 ⟨(Nat.le_of_ble_eq_true rfl), (Nat.le_of_ble_eq_true rfl)⟩) hf
theorem dX8_cellInLoop_0 : decode cX8_cellInLoop 0 = .ok (.iload_n 2, 1) := by decide +kernel
theorem dX8_cellInLoop_1 : decode cX8_cellInLoop 1 = .ok (.invokestatic 146, 3) := by decide +kernel
theorem dX8_cellInLoop_4 : decode cX8_cellInLoop 4 = .ok (.iload_n 1, 1) := by decide +kernel
theorem dX8_cellInLoop_5 : decode cX8_cellInLoop 5 = .ok (.invokestatic 322, 3) := by decide +kernel
theorem dX8_cellInLoop_8 : decode cX8_cellInLoop 8 = .ok (.aload_n 0, 1) := by decide +kernel
theorem dX8_cellInLoop_9 : decode cX8_cellInLoop 9 = .ok (.aload_n 0, 1) := by decide +kernel
theorem dX8_cellInLoop_10 : decode cX8_cellInLoop 10 = .ok (.invokevirtual 301, 3) := by decide +kernel
theorem dX8_cellInLoop_13 : decode cX8_cellInLoop 13 = .ok (.iload_n 1, 1) := by decide +kernel
theorem dX8_cellInLoop_14 : decode cX8_cellInLoop 14 = .ok (.invokevirtual 329, 3) := by decide +kernel
theorem dX8_cellInLoop_17 : decode cX8_cellInLoop 17 = .ok (.aload_n 0, 1) := by decide +kernel
theorem dX8_cellInLoop_18 : decode cX8_cellInLoop 18 = .ok (.getfield 75, 3) := by decide +kernel
theorem dX8_cellInLoop_21 : decode cX8_cellInLoop 21 = .ok (.bipush 12, 2) := by decide +kernel
theorem dX8_cellInLoop_23 : decode cX8_cellInLoop 23 = .ok (.iload_n 2, 1) := by decide +kernel
theorem dX8_cellInLoop_24 : decode cX8_cellInLoop 24 = .ok (.iadd, 1) := by decide +kernel
theorem dX8_cellInLoop_25 : decode cX8_cellInLoop 25 = .ok (.iaload, 1) := by decide +kernel
theorem dX8_cellInLoop_26 : decode cX8_cellInLoop 26 = .ok (.ireturn, 1) := by decide +kernel
def fX8_cellInLoop (μ : Mem) (a1 : Int32) (a2 : Int32) : Option ((Int32 ⊕ Nat) × Mem) :=
  bx (fX8_checkCell μ a2) fun _ μ10 =>
  bx (fX8_checkRounds μ10 a1) fun _ μ12 =>
  bd (fX8_freshLoop μ12) fun _ μ14 =>
  bd (fX8_doLoop μ14 a1) fun _ μ16 =>
  (ld 24 (μ16 99) ((12 : Int32) + a2)).bind fun r18 =>
  some (.inl r18, μ16)
theorem cxX8_cellInLoop {l : Launch} {D : va_G} {cI cR : ClassId} {ad : Nat → Nat} {μ : Mem} {a1 : Int32} {a2 : Int32} (hl9 : l.stackTraces = false) {r : Int32 ⊕ Nat} {μ' : Mem} (hf : fX8_cellInLoop μ a1 a2 = some (r, μ')) : CX l yX8_cellInLoop cX8_cellInLoop 3 (some .int) 8 2 D cI cR ad shX NX [.ref (ad 0), .int a1, .int a2] μ (r.elim (fun r => .inl (some (.int r))) .inr) μ' :=
  cx_of (own := RX8) (ov := fun (r : Int32 ⊕ Nat) => (r.elim (fun r => .inl (some (.int r))) .inr)) hl9 (by decide +kernel) rfl (Nat.le_of_ble_eq_true rfl) (fun p e s m below meth c A0 E X hr => by
    refine ll_lo (lo' := [some (.ref (ad 0)), some (.int a1), some (.int a2)]) ⟨rfl, rfl, rfl, trivial⟩ ?_
    rw [fX8_cellInLoop]
    refine ll_iload_n E (pc := 0) dX8_cellInLoop_0 rfl ?_
    refine ll_xcallSv E X (pc := 1) (d := 7) (mc1 := 1) (mc := 2) [.int a2] [] dX8_cellInLoop_1 cv_X8_146 (fun h => cxX8_checkCell X.1 h) rfl rfl (Nat.le_of_ble_eq_true rfl) ⟨(Nat.le_of_ble_eq_true rfl), (Nat.le_of_ble_eq_true rfl)⟩ ⟨(Nat.le_of_ble_eq_true rfl), (Nat.le_of_ble_eq_true rfl)⟩ ⟨(Nat.le_of_ble_eq_true rfl), (Nat.le_of_ble_eq_true rfl)⟩ ?_
    intro r11 μ10
    refine ll_iload_n E (pc := 4) dX8_cellInLoop_4 rfl ?_
    refine ll_xcallSv E X (pc := 5) (d := 7) (mc1 := 1) (mc := 2) [.int a1] [] dX8_cellInLoop_5 cv_X8_322 (fun h => cxX8_checkRounds X.1 h) rfl rfl (Nat.le_of_ble_eq_true rfl) ⟨(Nat.le_of_ble_eq_true rfl), (Nat.le_of_ble_eq_true rfl)⟩ ⟨(Nat.le_of_ble_eq_true rfl), (Nat.le_of_ble_eq_true rfl)⟩ ⟨(Nat.le_of_ble_eq_true rfl), (Nat.le_of_ble_eq_true rfl)⟩ ?_
    intro r13 μ12
    refine ll_aload_n E (pc := 8) dX8_cellInLoop_8 rfl ?_
    refine ll_aload_n E (pc := 9) dX8_cellInLoop_9 rfl ?_
    refine ll_callVr E (pc := 10) (d := 5) (ci := 8) (o9 := 0) [] [.ref (ad 0)] dX8_cellInLoop_10 cv_X8_301 (fun h => ctX8_freshLoop h) (Nat.le_of_ble_eq_true rfl) sx_0 ci_8 rfl rfl (Nat.le_of_ble_eq_true rfl) ⟨(Nat.le_of_ble_eq_true rfl), (Nat.le_of_ble_eq_true rfl)⟩ ⟨(Nat.le_of_ble_eq_true rfl), (Nat.le_of_ble_eq_true rfl)⟩ ?_
    intro r15 μ14
    refine ll_iload_n E (pc := 13) dX8_cellInLoop_13 rfl ?_
    refine ll_callVv E (pc := 14) (d := 5) (ci := 8) (o9 := 0) [.ref (ad 89), .int a1] [] dX8_cellInLoop_14 cv_X8_329 (fun h => ctX8_doLoop h) (Nat.le_of_ble_eq_true rfl) sx_0 ci_8 rfl rfl (Nat.le_of_ble_eq_true rfl) ⟨(Nat.le_of_ble_eq_true rfl), (Nat.le_of_ble_eq_true rfl)⟩ ⟨(Nat.le_of_ble_eq_true rfl), (Nat.le_of_ble_eq_true rfl)⟩ ?_
    intro r17 μ16
    refine ll_aload_n E (pc := 17) dX8_cellInLoop_17 rfl ?_
    refine ll_getfr E (pc := 18) (o9 := 0) (ci := 8) (k9 := 14) (q := 99) dX8_cellInLoop_18 fl_X8_75 (Nat.le_of_ble_eq_true rfl) fx_0_14 ?_
    refine ll_bipush E (pc := 21) dX8_cellInLoop_21 kb_12 ?_
    refine ll_iload_n E (pc := 23) dX8_cellInLoop_23 rfl ?_
    refine ll_iadd E (pc := 24) dX8_cellInLoop_24 ?_
    refine ll_iald E (pc := 25) (a := 99) dX8_cellInLoop_25 (px_99).1 (px_99).2 ?_
    intro r18
    exact ll_xireturn E (pc := 26) hr dX8_cellInLoop_26 ⟨(Nat.le_of_ble_eq_true rfl), (Nat.le_of_ble_eq_true rfl)⟩) hf
theorem dX8_hashOfStep_0 : decode cX8_hashOfStep 0 = .ok (.lload_n 1, 1) := by decide +kernel
theorem dX8_hashOfStep_1 : decode cX8_hashOfStep 1 = .ok (.aload_n 0, 1) := by decide +kernel
theorem dX8_hashOfStep_2 : decode cX8_hashOfStep 2 = .ok (.getfield 12, 3) := by decide +kernel
theorem dX8_hashOfStep_5 : decode cX8_hashOfStep 5 = .ok (.getfield 241, 3) := by decide +kernel
theorem dX8_hashOfStep_8 : decode cX8_hashOfStep 8 = .ok (.iload_n 3, 1) := by decide +kernel
theorem dX8_hashOfStep_9 : decode cX8_hashOfStep 9 = .ok (.iaload, 1) := by decide +kernel
theorem dX8_hashOfStep_10 : decode cX8_hashOfStep 10 = .ok (.i2l, 1) := by decide +kernel
theorem dX8_hashOfStep_11 : decode cX8_hashOfStep 11 = .ok (.invokestatic 335, 3) := by decide +kernel
theorem dX8_hashOfStep_14 : decode cX8_hashOfStep 14 = .ok (.lstore 6, 2) := by decide +kernel
theorem dX8_hashOfStep_16 : decode cX8_hashOfStep 16 = .ok (.lload 6, 2) := by decide +kernel
theorem dX8_hashOfStep_18 : decode cX8_hashOfStep 18 = .ok (.aload_n 0, 1) := by decide +kernel
theorem dX8_hashOfStep_19 : decode cX8_hashOfStep 19 = .ok (.getfield 12, 3) := by decide +kernel
theorem dX8_hashOfStep_22 : decode cX8_hashOfStep 22 = .ok (.iload_n 3, 1) := by decide +kernel
theorem dX8_hashOfStep_23 : decode cX8_hashOfStep 23 = .ok (.invokevirtual 244, 3) := by decide +kernel
theorem dX8_hashOfStep_26 : decode cX8_hashOfStep 26 = .ok (.i2l, 1) := by decide +kernel
theorem dX8_hashOfStep_27 : decode cX8_hashOfStep 27 = .ok (.invokestatic 335, 3) := by decide +kernel
theorem dX8_hashOfStep_30 : decode cX8_hashOfStep 30 = .ok (.lstore 6, 2) := by decide +kernel
theorem dX8_hashOfStep_32 : decode cX8_hashOfStep 32 = .ok (.lload 6, 2) := by decide +kernel
theorem dX8_hashOfStep_34 : decode cX8_hashOfStep 34 = .ok (.aload_n 0, 1) := by decide +kernel
theorem dX8_hashOfStep_35 : decode cX8_hashOfStep 35 = .ok (.getfield 12, 3) := by decide +kernel
theorem dX8_hashOfStep_38 : decode cX8_hashOfStep 38 = .ok (.iload_n 3, 1) := by decide +kernel
theorem dX8_hashOfStep_39 : decode cX8_hashOfStep 39 = .ok (.invokevirtual 248, 3) := by decide +kernel
theorem dX8_hashOfStep_42 : decode cX8_hashOfStep 42 = .ok (.i2l, 1) := by decide +kernel
theorem dX8_hashOfStep_43 : decode cX8_hashOfStep 43 = .ok (.invokestatic 335, 3) := by decide +kernel
theorem dX8_hashOfStep_46 : decode cX8_hashOfStep 46 = .ok (.lstore 6, 2) := by decide +kernel
theorem dX8_hashOfStep_48 : decode cX8_hashOfStep 48 = .ok (.lload 6, 2) := by decide +kernel
theorem dX8_hashOfStep_50 : decode cX8_hashOfStep 50 = .ok (.aload_n 0, 1) := by decide +kernel
theorem dX8_hashOfStep_51 : decode cX8_hashOfStep 51 = .ok (.getfield 12, 3) := by decide +kernel
theorem dX8_hashOfStep_54 : decode cX8_hashOfStep 54 = .ok (.iload_n 3, 1) := by decide +kernel
theorem dX8_hashOfStep_55 : decode cX8_hashOfStep 55 = .ok (.invokevirtual 251, 3) := by decide +kernel
theorem dX8_hashOfStep_58 : decode cX8_hashOfStep 58 = .ok (.i2l, 1) := by decide +kernel
theorem dX8_hashOfStep_59 : decode cX8_hashOfStep 59 = .ok (.invokestatic 335, 3) := by decide +kernel
theorem dX8_hashOfStep_62 : decode cX8_hashOfStep 62 = .ok (.lstore 6, 2) := by decide +kernel
theorem dX8_hashOfStep_64 : decode cX8_hashOfStep 64 = .ok (.lload 6, 2) := by decide +kernel
theorem dX8_hashOfStep_66 : decode cX8_hashOfStep 66 = .ok (.aload 4, 2) := by decide +kernel
theorem dX8_hashOfStep_68 : decode cX8_hashOfStep 68 = .ok (.getfield 257, 3) := by decide +kernel
theorem dX8_hashOfStep_71 : decode cX8_hashOfStep 71 = .ok (.iload_n 3, 1) := by decide +kernel
theorem dX8_hashOfStep_72 : decode cX8_hashOfStep 72 = .ok (.iaload, 1) := by decide +kernel
theorem dX8_hashOfStep_73 : decode cX8_hashOfStep 73 = .ok (.i2l, 1) := by decide +kernel
theorem dX8_hashOfStep_74 : decode cX8_hashOfStep 74 = .ok (.invokestatic 335, 3) := by decide +kernel
theorem dX8_hashOfStep_77 : decode cX8_hashOfStep 77 = .ok (.lstore 6, 2) := by decide +kernel
theorem dX8_hashOfStep_79 : decode cX8_hashOfStep 79 = .ok (.lload 6, 2) := by decide +kernel
theorem dX8_hashOfStep_81 : decode cX8_hashOfStep 81 = .ok (.aload 4, 2) := by decide +kernel
theorem dX8_hashOfStep_83 : decode cX8_hashOfStep 83 = .ok (.getfield 260, 3) := by decide +kernel
theorem dX8_hashOfStep_86 : decode cX8_hashOfStep 86 = .ok (.iload_n 3, 1) := by decide +kernel
theorem dX8_hashOfStep_87 : decode cX8_hashOfStep 87 = .ok (.iaload, 1) := by decide +kernel
theorem dX8_hashOfStep_88 : decode cX8_hashOfStep 88 = .ok (.i2l, 1) := by decide +kernel
theorem dX8_hashOfStep_89 : decode cX8_hashOfStep 89 = .ok (.invokestatic 335, 3) := by decide +kernel
theorem dX8_hashOfStep_92 : decode cX8_hashOfStep 92 = .ok (.lstore 6, 2) := by decide +kernel
theorem dX8_hashOfStep_94 : decode cX8_hashOfStep 94 = .ok (.lload 6, 2) := by decide +kernel
theorem dX8_hashOfStep_96 : decode cX8_hashOfStep 96 = .ok (.aload_n 0, 1) := by decide +kernel
theorem dX8_hashOfStep_97 : decode cX8_hashOfStep 97 = .ok (.getfield 12, 3) := by decide +kernel
theorem dX8_hashOfStep_100 : decode cX8_hashOfStep 100 = .ok (.getfield 170, 3) := by decide +kernel
theorem dX8_hashOfStep_103 : decode cX8_hashOfStep 103 = .ok (.iload_n 3, 1) := by decide +kernel
theorem dX8_hashOfStep_104 : decode cX8_hashOfStep 104 = .ok (.iaload, 1) := by decide +kernel
theorem dX8_hashOfStep_105 : decode cX8_hashOfStep 105 = .ok (.i2l, 1) := by decide +kernel
theorem dX8_hashOfStep_106 : decode cX8_hashOfStep 106 = .ok (.invokestatic 335, 3) := by decide +kernel
theorem dX8_hashOfStep_109 : decode cX8_hashOfStep 109 = .ok (.lstore 6, 2) := by decide +kernel
theorem dX8_hashOfStep_111 : decode cX8_hashOfStep 111 = .ok (.lload 6, 2) := by decide +kernel
theorem dX8_hashOfStep_113 : decode cX8_hashOfStep 113 = .ok (.aload 5, 2) := by decide +kernel
theorem dX8_hashOfStep_115 : decode cX8_hashOfStep 115 = .ok (.getfield 315, 3) := by decide +kernel
theorem dX8_hashOfStep_118 : decode cX8_hashOfStep 118 = .ok (.iload_n 3, 1) := by decide +kernel
theorem dX8_hashOfStep_119 : decode cX8_hashOfStep 119 = .ok (.iaload, 1) := by decide +kernel
theorem dX8_hashOfStep_120 : decode cX8_hashOfStep 120 = .ok (.i2l, 1) := by decide +kernel
theorem dX8_hashOfStep_121 : decode cX8_hashOfStep 121 = .ok (.invokestatic 335, 3) := by decide +kernel
theorem dX8_hashOfStep_124 : decode cX8_hashOfStep 124 = .ok (.lstore 6, 2) := by decide +kernel
theorem dX8_hashOfStep_126 : decode cX8_hashOfStep 126 = .ok (.iconst 0, 1) := by decide +kernel
theorem dX8_hashOfStep_127 : decode cX8_hashOfStep 127 = .ok (.istore 8, 2) := by decide +kernel
theorem dX8_hashOfStep_129 : decode cX8_hashOfStep 129 = .ok (.iload 8, 2) := by decide +kernel
theorem dX8_hashOfStep_131 : decode cX8_hashOfStep 131 = .ok (.aload_n 0, 1) := by decide +kernel
theorem dX8_hashOfStep_132 : decode cX8_hashOfStep 132 = .ok (.getfield 12, 3) := by decide +kernel
theorem dX8_hashOfStep_135 : decode cX8_hashOfStep 135 = .ok (.getfield 81, 3) := by decide +kernel
theorem dX8_hashOfStep_138 : decode cX8_hashOfStep 138 = .ok (.if_icmp .ge 41, 3) := by decide +kernel
theorem dX8_hashOfStep_141 : decode cX8_hashOfStep 141 = .ok (.lload 6, 2) := by decide +kernel
theorem dX8_hashOfStep_143 : decode cX8_hashOfStep 143 = .ok (.aload 4, 2) := by decide +kernel
theorem dX8_hashOfStep_145 : decode cX8_hashOfStep 145 = .ok (.iload_n 3, 1) := by decide +kernel
theorem dX8_hashOfStep_146 : decode cX8_hashOfStep 146 = .ok (.iload 8, 2) := by decide +kernel
theorem dX8_hashOfStep_148 : decode cX8_hashOfStep 148 = .ok (.invokevirtual 137, 3) := by decide +kernel
theorem dX8_hashOfStep_151 : decode cX8_hashOfStep 151 = .ok (.i2l, 1) := by decide +kernel
theorem dX8_hashOfStep_152 : decode cX8_hashOfStep 152 = .ok (.invokestatic 335, 3) := by decide +kernel
theorem dX8_hashOfStep_155 : decode cX8_hashOfStep 155 = .ok (.lstore 6, 2) := by decide +kernel
theorem dX8_hashOfStep_157 : decode cX8_hashOfStep 157 = .ok (.lload 6, 2) := by decide +kernel
theorem dX8_hashOfStep_159 : decode cX8_hashOfStep 159 = .ok (.aload 4, 2) := by decide +kernel
theorem dX8_hashOfStep_161 : decode cX8_hashOfStep 161 = .ok (.iload_n 3, 1) := by decide +kernel
theorem dX8_hashOfStep_162 : decode cX8_hashOfStep 162 = .ok (.iload 8, 2) := by decide +kernel
theorem dX8_hashOfStep_164 : decode cX8_hashOfStep 164 = .ok (.invokevirtual 254, 3) := by decide +kernel
theorem dX8_hashOfStep_167 : decode cX8_hashOfStep 167 = .ok (.i2l, 1) := by decide +kernel
theorem dX8_hashOfStep_168 : decode cX8_hashOfStep 168 = .ok (.invokestatic 335, 3) := by decide +kernel
theorem dX8_hashOfStep_171 : decode cX8_hashOfStep 171 = .ok (.lstore 6, 2) := by decide +kernel
theorem dX8_hashOfStep_173 : decode cX8_hashOfStep 173 = .ok (.iinc 8 1, 3) := by decide +kernel
theorem dX8_hashOfStep_176 : decode cX8_hashOfStep 176 = .ok (.goto (-47), 3) := by decide +kernel
theorem dX8_hashOfStep_179 : decode cX8_hashOfStep 179 = .ok (.lload 6, 2) := by decide +kernel
theorem dX8_hashOfStep_181 : decode cX8_hashOfStep 181 = .ok (.lreturn, 1) := by decide +kernel
def fX8_hashOfStep_L129 : Nat → Int32 → Int64 → Int32 → Mem → Option (Int64 × Mem)
  | 0, _, _, _, _ => none
  | n + 1, v3, v6, v8, μ =>   if (μ 1 0) ≤ v8 then
  some (v6, μ)
  else
  bd (fX2_nearOf μ v3 v8) fun r37 μ36 =>
  bd (fX8_mixed μ36 v6 (Int32.toInt64 r37)) fun r39 μ38 =>
  bd (fX2_overOf μ38 v3 v8) fun r41 μ40 =>
  bd (fX8_mixed μ40 r39 (Int32.toInt64 r41)) fun r43 μ42 =>
  fX8_hashOfStep_L129 n v3 r43 (v8 + (1 : Int32)) μ42
def fX8_hashOfStep (μ : Mem) (a1 : Int64) (a3 : Int32) : Option (Int64 × Mem) :=
  (ld 20 (μ 2) a3).bind fun r44 =>
  bd (fX8_mixed μ a1 (Int32.toInt64 r44)) fun r46 μ45 =>
  bd (fX6_readsOf μ45 a3) fun r48 μ47 =>
  bd (fX8_mixed μ47 r46 (Int32.toInt64 r48)) fun r50 μ49 =>
  bd (fX6_writesOf μ49 a3) fun r52 μ51 =>
  bd (fX8_mixed μ51 r50 (Int32.toInt64 r52)) fun r54 μ53 =>
  bd (fX6_lengthOf μ53 a3) fun r56 μ55 =>
  bd (fX8_mixed μ55 r54 (Int32.toInt64 r56)) fun r58 μ57 =>
  (ld 20 (μ57 81) a3).bind fun r59 =>
  bd (fX8_mixed μ57 r58 (Int32.toInt64 r59)) fun r61 μ60 =>
  (ld 20 (μ60 82) a3).bind fun r62 =>
  bd (fX8_mixed μ60 r61 (Int32.toInt64 r62)) fun r64 μ63 =>
  (ld 20 (μ63 7) a3).bind fun r65 =>
  bd (fX8_mixed μ63 r64 (Int32.toInt64 r65)) fun r67 μ66 =>
  (ld 20 (μ66 90) a3).bind fun r68 =>
  bd (fX8_mixed μ66 r67 (Int32.toInt64 r68)) fun r70 μ69 =>
  fX8_hashOfStep_L129 fu a3 r70 (0 : Int32) μ69
theorem kX8_hashOfStep_L129 {p : Program} {l : Launch} {e : Env} {s : State} {m : MethodId} {args : Array Value} {below : List Frame} {meth : Method} {c : Code} {D : va_G} {cI cR : ClassId} {ad : Nat → Nat} {A0 : Nat → Prop} (E : EV p s m args meth c cX8_hashOfStep 9 RX8 D cI cR ad shX NX A0) (hr : meth.sig.returnType = (some .long)) (n : Nat) : ∀ (v3 : Int32) (v6 : Int64) (v8 : Int32) (μ : Mem), LL p l e (RM 3) s m args below meth c 9 D cI cR ad shX NX A0 (fun (r : Int64) μ' => KG below args s D cI cR ad shX NX A0 (some (.long r)) μ') (fX8_hashOfStep_L129 n v3 v6 v8 μ) 0 0 129 [some (.ref (ad 0)), none, none, some (.int v3), some (.ref (ad 75)), none, some (.long v6), none, some (.int v8)] [] μ := by
  induction n with
  | zero =>
    intros
    exact ll_none
  | succ n ih =>
    intro v3 v6 v8 μ
    rw [fX8_hashOfStep_L129]
    refine ll_iload E (pc := 129) dX8_hashOfStep_129 rfl ?_
    refine ll_aload_n E (pc := 131) dX8_hashOfStep_131 rfl ?_
    refine ll_getfr E (pc := 132) (o9 := 0) (ci := 8) (k9 := 0) (q := 1) dX8_hashOfStep_132 fl_X8_12 (Nat.le_of_ble_eq_true rfl) fx_0_0 ?_
    refine ll_getf E (pc := 135) (o9 := 1) (ci := 6) (k9 := 0) dX8_hashOfStep_135 fl_X8_81 (Nat.le_of_ble_eq_true rfl) fx_1_0 ?_
    refine ll_icmp_ge E (pc := 138) (tgt := 179) dX8_hashOfStep_138 rfl ?_ ?_
    · refine ll_lload E (pc := 179) dX8_hashOfStep_179 rfl ?_
      exact ll_lreturn E (pc := 181) hr dX8_hashOfStep_181
    · refine ll_lload E (pc := 141) dX8_hashOfStep_141 rfl ?_
      refine ll_aload E (pc := 143) dX8_hashOfStep_143 rfl ?_
      refine ll_iload_n E (pc := 145) dX8_hashOfStep_145 rfl ?_
      refine ll_iload E (pc := 146) dX8_hashOfStep_146 rfl ?_
      refine ll_callVi E (pc := 148) (d := 0) (ci := 2) (o9 := 75) [.int v3, .int v8] [.long v6] dX8_hashOfStep_148 cv_X8_137 (fun h => ctX2_nearOf h) (Nat.le_of_ble_eq_true rfl) sx_75 ci_2 rfl rfl (Nat.le_of_ble_eq_true rfl) ⟨(Nat.le_of_ble_eq_true rfl), (Nat.le_of_ble_eq_true rfl)⟩ ⟨(Nat.le_of_ble_eq_true rfl), (Nat.le_of_ble_eq_true rfl)⟩ ?_
      intro r37 μ36
      refine ll_i2l E (pc := 151) dX8_hashOfStep_151 ?_
      refine ll_callSj E (pc := 152) (d := 0) [.long v6, .long (Int32.toInt64 r37)] [] dX8_hashOfStep_152 cv_X8_335 (fun h => ctX8_mixed h) rfl rfl (Nat.le_of_ble_eq_true rfl) ⟨(Nat.le_of_ble_eq_true rfl), (Nat.le_of_ble_eq_true rfl)⟩ ⟨(Nat.le_of_ble_eq_true rfl), (Nat.le_of_ble_eq_true rfl)⟩ ?_
      intro r39 μ38
      refine ll_lstore E (pc := 155) (lo' := [some (.ref (ad 0)), none, none, some (.int v3), some (.ref (ad 75)), none, some (.long r39), none, some (.int v8)]) dX8_hashOfStep_155 (Nat.le_of_ble_eq_true rfl) rfl rfl ?_
      refine ll_lload E (pc := 157) dX8_hashOfStep_157 rfl ?_
      refine ll_aload E (pc := 159) dX8_hashOfStep_159 rfl ?_
      refine ll_iload_n E (pc := 161) dX8_hashOfStep_161 rfl ?_
      refine ll_iload E (pc := 162) dX8_hashOfStep_162 rfl ?_
      refine ll_callVi E (pc := 164) (d := 0) (ci := 2) (o9 := 75) [.int v3, .int v8] [.long r39] dX8_hashOfStep_164 cv_X8_254 (fun h => ctX2_overOf h) (Nat.le_of_ble_eq_true rfl) sx_75 ci_2 rfl rfl (Nat.le_of_ble_eq_true rfl) ⟨(Nat.le_of_ble_eq_true rfl), (Nat.le_of_ble_eq_true rfl)⟩ ⟨(Nat.le_of_ble_eq_true rfl), (Nat.le_of_ble_eq_true rfl)⟩ ?_
      intro r41 μ40
      refine ll_i2l E (pc := 167) dX8_hashOfStep_167 ?_
      refine ll_callSj E (pc := 168) (d := 0) [.long r39, .long (Int32.toInt64 r41)] [] dX8_hashOfStep_168 cv_X8_335 (fun h => ctX8_mixed h) rfl rfl (Nat.le_of_ble_eq_true rfl) ⟨(Nat.le_of_ble_eq_true rfl), (Nat.le_of_ble_eq_true rfl)⟩ ⟨(Nat.le_of_ble_eq_true rfl), (Nat.le_of_ble_eq_true rfl)⟩ ?_
      intro r43 μ42
      refine ll_lstore E (pc := 171) (lo' := [some (.ref (ad 0)), none, none, some (.int v3), some (.ref (ad 75)), none, some (.long r43), none, some (.int v8)]) dX8_hashOfStep_171 (Nat.le_of_ble_eq_true rfl) rfl rfl ?_
      refine ll_iinc E (pc := 173) (lo' := [some (.ref (ad 0)), none, none, some (.int v3), some (.ref (ad 75)), none, some (.long r43), none, some (.int (v8 + (1 : Int32)))]) dX8_hashOfStep_173 rfl kc_1 (Nat.le_of_ble_eq_true rfl) rfl rfl ?_
      refine ll_goto E (pc := 176) (tgt := 129) dX8_hashOfStep_176 rfl ?_
      exact ll_lo (lo' := [some (.ref (ad 0)), none, none, some (.int v3), some (.ref (ad 75)), none, some (.long r43), none, some (.int (v8 + (1 : Int32)))]) ⟨rfl, rfl, rfl, rfl, rfl, trivial⟩ (ih v3 r43 (v8 + (1 : Int32)) μ42)
theorem ctX8_hashOfStep {l : Launch} {D : va_G} {cI cR : ClassId} {ad : Nat → Nat} {μ : Mem} {a1 : Int64} {a3 : Int32} {r : Int64} {μ' : Mem} (hf : fX8_hashOfStep μ a1 a3 = some (r, μ')) : CT l yX8_hashOfStep cX8_hashOfStep 9 (some .long) 3 D cI cR ad shX NX [.ref (ad 0), .long a1, .int a3, .ref (ad 75), .ref (ad 89)] μ (some (.long r)) μ' :=
  ct_of (own := RX8) (ov := fun r => some (.long r)) (by decide +kernel) rfl (Nat.le_of_ble_eq_true rfl) (fun p e s m below meth c A0 E hr => by
    refine ll_lo (lo' := [some (.ref (ad 0)), some (.long a1), none, some (.int a3), some (.ref (ad 75)), some (.ref (ad 89)), none, none, none]) ⟨rfl, rfl, rfl, rfl, rfl, trivial⟩ ?_
    rw [fX8_hashOfStep]
    refine ll_lload_n E (pc := 0) dX8_hashOfStep_0 rfl ?_
    refine ll_aload_n E (pc := 1) dX8_hashOfStep_1 rfl ?_
    refine ll_getfr E (pc := 2) (o9 := 0) (ci := 8) (k9 := 0) (q := 1) dX8_hashOfStep_2 fl_X8_12 (Nat.le_of_ble_eq_true rfl) fx_0_0 ?_
    refine ll_getfr E (pc := 5) (o9 := 1) (ci := 6) (k9 := 1) (q := 2) dX8_hashOfStep_5 fl_X8_241 (Nat.le_of_ble_eq_true rfl) fx_1_1 ?_
    refine ll_iload_n E (pc := 8) dX8_hashOfStep_8 rfl ?_
    refine ll_iald E (pc := 9) (a := 2) dX8_hashOfStep_9 (px_2).1 (px_2).2 ?_
    intro r44
    refine ll_i2l E (pc := 10) dX8_hashOfStep_10 ?_
    refine ll_callSj E (pc := 11) (d := 0) [.long a1, .long (Int32.toInt64 r44)] [] dX8_hashOfStep_11 cv_X8_335 (fun h => ctX8_mixed h) rfl rfl (Nat.le_of_ble_eq_true rfl) ⟨(Nat.le_of_ble_eq_true rfl), (Nat.le_of_ble_eq_true rfl)⟩ ⟨(Nat.le_of_ble_eq_true rfl), (Nat.le_of_ble_eq_true rfl)⟩ ?_
    intro r46 μ45
    refine ll_lstore E (pc := 14) (lo' := [some (.ref (ad 0)), some (.long a1), none, some (.int a3), some (.ref (ad 75)), some (.ref (ad 89)), some (.long r46), none, none]) dX8_hashOfStep_14 (Nat.le_of_ble_eq_true rfl) rfl rfl ?_
    refine ll_lload E (pc := 16) dX8_hashOfStep_16 rfl ?_
    refine ll_aload_n E (pc := 18) dX8_hashOfStep_18 rfl ?_
    refine ll_getfr E (pc := 19) (o9 := 0) (ci := 8) (k9 := 0) (q := 1) dX8_hashOfStep_19 fl_X8_12 (Nat.le_of_ble_eq_true rfl) fx_0_0 ?_
    refine ll_iload_n E (pc := 22) dX8_hashOfStep_22 rfl ?_
    refine ll_callVi E (pc := 23) (d := 0) (ci := 6) (o9 := 1) [.int a3] [.long r46] dX8_hashOfStep_23 cv_X8_244 (fun h => ctX6_readsOf h) (Nat.le_of_ble_eq_true rfl) sx_1 ci_6 rfl rfl (Nat.le_of_ble_eq_true rfl) ⟨(Nat.le_of_ble_eq_true rfl), (Nat.le_of_ble_eq_true rfl)⟩ ⟨(Nat.le_of_ble_eq_true rfl), (Nat.le_of_ble_eq_true rfl)⟩ ?_
    intro r48 μ47
    refine ll_i2l E (pc := 26) dX8_hashOfStep_26 ?_
    refine ll_callSj E (pc := 27) (d := 0) [.long r46, .long (Int32.toInt64 r48)] [] dX8_hashOfStep_27 cv_X8_335 (fun h => ctX8_mixed h) rfl rfl (Nat.le_of_ble_eq_true rfl) ⟨(Nat.le_of_ble_eq_true rfl), (Nat.le_of_ble_eq_true rfl)⟩ ⟨(Nat.le_of_ble_eq_true rfl), (Nat.le_of_ble_eq_true rfl)⟩ ?_
    intro r50 μ49
    refine ll_lstore E (pc := 30) (lo' := [some (.ref (ad 0)), some (.long a1), none, some (.int a3), some (.ref (ad 75)), some (.ref (ad 89)), some (.long r50), none, none]) dX8_hashOfStep_30 (Nat.le_of_ble_eq_true rfl) rfl rfl ?_
    refine ll_lload E (pc := 32) dX8_hashOfStep_32 rfl ?_
    refine ll_aload_n E (pc := 34) dX8_hashOfStep_34 rfl ?_
    refine ll_getfr E (pc := 35) (o9 := 0) (ci := 8) (k9 := 0) (q := 1) dX8_hashOfStep_35 fl_X8_12 (Nat.le_of_ble_eq_true rfl) fx_0_0 ?_
    refine ll_iload_n E (pc := 38) dX8_hashOfStep_38 rfl ?_
    refine ll_callVi E (pc := 39) (d := 0) (ci := 6) (o9 := 1) [.int a3] [.long r50] dX8_hashOfStep_39 cv_X8_248 (fun h => ctX6_writesOf h) (Nat.le_of_ble_eq_true rfl) sx_1 ci_6 rfl rfl (Nat.le_of_ble_eq_true rfl) ⟨(Nat.le_of_ble_eq_true rfl), (Nat.le_of_ble_eq_true rfl)⟩ ⟨(Nat.le_of_ble_eq_true rfl), (Nat.le_of_ble_eq_true rfl)⟩ ?_
    intro r52 μ51
    refine ll_i2l E (pc := 42) dX8_hashOfStep_42 ?_
    refine ll_callSj E (pc := 43) (d := 0) [.long r50, .long (Int32.toInt64 r52)] [] dX8_hashOfStep_43 cv_X8_335 (fun h => ctX8_mixed h) rfl rfl (Nat.le_of_ble_eq_true rfl) ⟨(Nat.le_of_ble_eq_true rfl), (Nat.le_of_ble_eq_true rfl)⟩ ⟨(Nat.le_of_ble_eq_true rfl), (Nat.le_of_ble_eq_true rfl)⟩ ?_
    intro r54 μ53
    refine ll_lstore E (pc := 46) (lo' := [some (.ref (ad 0)), some (.long a1), none, some (.int a3), some (.ref (ad 75)), some (.ref (ad 89)), some (.long r54), none, none]) dX8_hashOfStep_46 (Nat.le_of_ble_eq_true rfl) rfl rfl ?_
    refine ll_lload E (pc := 48) dX8_hashOfStep_48 rfl ?_
    refine ll_aload_n E (pc := 50) dX8_hashOfStep_50 rfl ?_
    refine ll_getfr E (pc := 51) (o9 := 0) (ci := 8) (k9 := 0) (q := 1) dX8_hashOfStep_51 fl_X8_12 (Nat.le_of_ble_eq_true rfl) fx_0_0 ?_
    refine ll_iload_n E (pc := 54) dX8_hashOfStep_54 rfl ?_
    refine ll_callVi E (pc := 55) (d := 2) (ci := 6) (o9 := 1) [.int a3] [.long r54] dX8_hashOfStep_55 cv_X8_251 (fun h => ctX6_lengthOf h) (Nat.le_of_ble_eq_true rfl) sx_1 ci_6 rfl rfl (Nat.le_of_ble_eq_true rfl) ⟨(Nat.le_of_ble_eq_true rfl), (Nat.le_of_ble_eq_true rfl)⟩ ⟨(Nat.le_of_ble_eq_true rfl), (Nat.le_of_ble_eq_true rfl)⟩ ?_
    intro r56 μ55
    refine ll_i2l E (pc := 58) dX8_hashOfStep_58 ?_
    refine ll_callSj E (pc := 59) (d := 0) [.long r54, .long (Int32.toInt64 r56)] [] dX8_hashOfStep_59 cv_X8_335 (fun h => ctX8_mixed h) rfl rfl (Nat.le_of_ble_eq_true rfl) ⟨(Nat.le_of_ble_eq_true rfl), (Nat.le_of_ble_eq_true rfl)⟩ ⟨(Nat.le_of_ble_eq_true rfl), (Nat.le_of_ble_eq_true rfl)⟩ ?_
    intro r58 μ57
    refine ll_lstore E (pc := 62) (lo' := [some (.ref (ad 0)), some (.long a1), none, some (.int a3), some (.ref (ad 75)), some (.ref (ad 89)), some (.long r58), none, none]) dX8_hashOfStep_62 (Nat.le_of_ble_eq_true rfl) rfl rfl ?_
    refine ll_lload E (pc := 64) dX8_hashOfStep_64 rfl ?_
    refine ll_aload E (pc := 66) dX8_hashOfStep_66 rfl ?_
    refine ll_getfr E (pc := 68) (o9 := 75) (ci := 2) (k9 := 6) (q := 81) dX8_hashOfStep_68 fl_X8_257 (Nat.le_of_ble_eq_true rfl) fx_75_6 ?_
    refine ll_iload_n E (pc := 71) dX8_hashOfStep_71 rfl ?_
    refine ll_iald E (pc := 72) (a := 81) dX8_hashOfStep_72 (px_81).1 (px_81).2 ?_
    intro r59
    refine ll_i2l E (pc := 73) dX8_hashOfStep_73 ?_
    refine ll_callSj E (pc := 74) (d := 0) [.long r58, .long (Int32.toInt64 r59)] [] dX8_hashOfStep_74 cv_X8_335 (fun h => ctX8_mixed h) rfl rfl (Nat.le_of_ble_eq_true rfl) ⟨(Nat.le_of_ble_eq_true rfl), (Nat.le_of_ble_eq_true rfl)⟩ ⟨(Nat.le_of_ble_eq_true rfl), (Nat.le_of_ble_eq_true rfl)⟩ ?_
    intro r61 μ60
    refine ll_lstore E (pc := 77) (lo' := [some (.ref (ad 0)), some (.long a1), none, some (.int a3), some (.ref (ad 75)), some (.ref (ad 89)), some (.long r61), none, none]) dX8_hashOfStep_77 (Nat.le_of_ble_eq_true rfl) rfl rfl ?_
    refine ll_lload E (pc := 79) dX8_hashOfStep_79 rfl ?_
    refine ll_aload E (pc := 81) dX8_hashOfStep_81 rfl ?_
    refine ll_getfr E (pc := 83) (o9 := 75) (ci := 2) (k9 := 7) (q := 82) dX8_hashOfStep_83 fl_X8_260 (Nat.le_of_ble_eq_true rfl) fx_75_7 ?_
    refine ll_iload_n E (pc := 86) dX8_hashOfStep_86 rfl ?_
    refine ll_iald E (pc := 87) (a := 82) dX8_hashOfStep_87 (px_82).1 (px_82).2 ?_
    intro r62
    refine ll_i2l E (pc := 88) dX8_hashOfStep_88 ?_
    refine ll_callSj E (pc := 89) (d := 0) [.long r61, .long (Int32.toInt64 r62)] [] dX8_hashOfStep_89 cv_X8_335 (fun h => ctX8_mixed h) rfl rfl (Nat.le_of_ble_eq_true rfl) ⟨(Nat.le_of_ble_eq_true rfl), (Nat.le_of_ble_eq_true rfl)⟩ ⟨(Nat.le_of_ble_eq_true rfl), (Nat.le_of_ble_eq_true rfl)⟩ ?_
    intro r64 μ63
    refine ll_lstore E (pc := 92) (lo' := [some (.ref (ad 0)), some (.long a1), none, some (.int a3), some (.ref (ad 75)), some (.ref (ad 89)), some (.long r64), none, none]) dX8_hashOfStep_92 (Nat.le_of_ble_eq_true rfl) rfl rfl ?_
    refine ll_lload E (pc := 94) dX8_hashOfStep_94 rfl ?_
    refine ll_aload_n E (pc := 96) dX8_hashOfStep_96 rfl ?_
    refine ll_getfr E (pc := 97) (o9 := 0) (ci := 8) (k9 := 0) (q := 1) dX8_hashOfStep_97 fl_X8_12 (Nat.le_of_ble_eq_true rfl) fx_0_0 ?_
    refine ll_getfr E (pc := 100) (o9 := 1) (ci := 6) (k9 := 6) (q := 7) dX8_hashOfStep_100 fl_X8_170 (Nat.le_of_ble_eq_true rfl) fx_1_6 ?_
    refine ll_iload_n E (pc := 103) dX8_hashOfStep_103 rfl ?_
    refine ll_iald E (pc := 104) (a := 7) dX8_hashOfStep_104 (px_7).1 (px_7).2 ?_
    intro r65
    refine ll_i2l E (pc := 105) dX8_hashOfStep_105 ?_
    refine ll_callSj E (pc := 106) (d := 0) [.long r64, .long (Int32.toInt64 r65)] [] dX8_hashOfStep_106 cv_X8_335 (fun h => ctX8_mixed h) rfl rfl (Nat.le_of_ble_eq_true rfl) ⟨(Nat.le_of_ble_eq_true rfl), (Nat.le_of_ble_eq_true rfl)⟩ ⟨(Nat.le_of_ble_eq_true rfl), (Nat.le_of_ble_eq_true rfl)⟩ ?_
    intro r67 μ66
    refine ll_lstore E (pc := 109) (lo' := [some (.ref (ad 0)), some (.long a1), none, some (.int a3), some (.ref (ad 75)), some (.ref (ad 89)), some (.long r67), none, none]) dX8_hashOfStep_109 (Nat.le_of_ble_eq_true rfl) rfl rfl ?_
    refine ll_lload E (pc := 111) dX8_hashOfStep_111 rfl ?_
    refine ll_aload E (pc := 113) dX8_hashOfStep_113 rfl ?_
    refine ll_getfr E (pc := 115) (o9 := 89) (ci := 3) (k9 := 0) (q := 90) dX8_hashOfStep_115 fl_X8_315 (Nat.le_of_ble_eq_true rfl) fx_89_0 ?_
    refine ll_iload_n E (pc := 118) dX8_hashOfStep_118 rfl ?_
    refine ll_iald E (pc := 119) (a := 90) dX8_hashOfStep_119 (px_90).1 (px_90).2 ?_
    intro r68
    refine ll_i2l E (pc := 120) dX8_hashOfStep_120 ?_
    refine ll_callSj E (pc := 121) (d := 0) [.long r67, .long (Int32.toInt64 r68)] [] dX8_hashOfStep_121 cv_X8_335 (fun h => ctX8_mixed h) rfl rfl (Nat.le_of_ble_eq_true rfl) ⟨(Nat.le_of_ble_eq_true rfl), (Nat.le_of_ble_eq_true rfl)⟩ ⟨(Nat.le_of_ble_eq_true rfl), (Nat.le_of_ble_eq_true rfl)⟩ ?_
    intro r70 μ69
    refine ll_lstore E (pc := 124) (lo' := [some (.ref (ad 0)), some (.long a1), none, some (.int a3), some (.ref (ad 75)), some (.ref (ad 89)), some (.long r70), none, none]) dX8_hashOfStep_124 (Nat.le_of_ble_eq_true rfl) rfl rfl ?_
    refine ll_iconst E (pc := 126) dX8_hashOfStep_126 kc_0 ?_
    refine ll_istore E (pc := 127) (lo' := [some (.ref (ad 0)), some (.long a1), none, some (.int a3), some (.ref (ad 75)), some (.ref (ad 89)), some (.long r70), none, some (.int (0 : Int32))]) dX8_hashOfStep_127 (Nat.le_of_ble_eq_true rfl) rfl rfl ?_
    exact ll_lo (lo' := [some (.ref (ad 0)), none, none, some (.int a3), some (.ref (ad 75)), none, some (.long r70), none, some (.int (0 : Int32))]) ⟨rfl, rfl, rfl, rfl, rfl, trivial⟩ (kX8_hashOfStep_L129 E hr fu a3 r70 (0 : Int32) μ69)) hf
theorem dX8_hashOfRegisters_0 : decode cX8_hashOfRegisters 0 = .ok (.lload_n 1, 1) := by decide +kernel
theorem dX8_hashOfRegisters_1 : decode cX8_hashOfRegisters 1 = .ok (.lstore_n 3, 1) := by decide +kernel
theorem dX8_hashOfRegisters_2 : decode cX8_hashOfRegisters 2 = .ok (.iconst 0, 1) := by decide +kernel
theorem dX8_hashOfRegisters_3 : decode cX8_hashOfRegisters 3 = .ok (.istore 5, 2) := by decide +kernel
theorem dX8_hashOfRegisters_5 : decode cX8_hashOfRegisters 5 = .ok (.iload 5, 2) := by decide +kernel
theorem dX8_hashOfRegisters_7 : decode cX8_hashOfRegisters 7 = .ok (.bipush 12, 2) := by decide +kernel
theorem dX8_hashOfRegisters_9 : decode cX8_hashOfRegisters 9 = .ok (.if_icmp .ge 61, 3) := by decide +kernel
theorem dX8_hashOfRegisters_12 : decode cX8_hashOfRegisters 12 = .ok (.lload_n 3, 1) := by decide +kernel
theorem dX8_hashOfRegisters_13 : decode cX8_hashOfRegisters 13 = .ok (.aload_n 0, 1) := by decide +kernel
theorem dX8_hashOfRegisters_14 : decode cX8_hashOfRegisters 14 = .ok (.getfield 68, 3) := by decide +kernel
theorem dX8_hashOfRegisters_17 : decode cX8_hashOfRegisters 17 = .ok (.iload 5, 2) := by decide +kernel
theorem dX8_hashOfRegisters_19 : decode cX8_hashOfRegisters 19 = .ok (.iaload, 1) := by decide +kernel
theorem dX8_hashOfRegisters_20 : decode cX8_hashOfRegisters 20 = .ok (.i2l, 1) := by decide +kernel
theorem dX8_hashOfRegisters_21 : decode cX8_hashOfRegisters 21 = .ok (.invokestatic 335, 3) := by decide +kernel
theorem dX8_hashOfRegisters_24 : decode cX8_hashOfRegisters 24 = .ok (.lstore_n 3, 1) := by decide +kernel
theorem dX8_hashOfRegisters_25 : decode cX8_hashOfRegisters 25 = .ok (.lload_n 3, 1) := by decide +kernel
theorem dX8_hashOfRegisters_26 : decode cX8_hashOfRegisters 26 = .ok (.aload_n 0, 1) := by decide +kernel
theorem dX8_hashOfRegisters_27 : decode cX8_hashOfRegisters 27 = .ok (.getfield 72, 3) := by decide +kernel
theorem dX8_hashOfRegisters_30 : decode cX8_hashOfRegisters 30 = .ok (.iload 5, 2) := by decide +kernel
theorem dX8_hashOfRegisters_32 : decode cX8_hashOfRegisters 32 = .ok (.iaload, 1) := by decide +kernel
theorem dX8_hashOfRegisters_33 : decode cX8_hashOfRegisters 33 = .ok (.i2l, 1) := by decide +kernel
theorem dX8_hashOfRegisters_34 : decode cX8_hashOfRegisters 34 = .ok (.invokestatic 335, 3) := by decide +kernel
theorem dX8_hashOfRegisters_37 : decode cX8_hashOfRegisters 37 = .ok (.lstore_n 3, 1) := by decide +kernel
theorem dX8_hashOfRegisters_38 : decode cX8_hashOfRegisters 38 = .ok (.lload_n 3, 1) := by decide +kernel
theorem dX8_hashOfRegisters_39 : decode cX8_hashOfRegisters 39 = .ok (.aload_n 0, 1) := by decide +kernel
theorem dX8_hashOfRegisters_40 : decode cX8_hashOfRegisters 40 = .ok (.getfield 75, 3) := by decide +kernel
theorem dX8_hashOfRegisters_43 : decode cX8_hashOfRegisters 43 = .ok (.iload 5, 2) := by decide +kernel
theorem dX8_hashOfRegisters_45 : decode cX8_hashOfRegisters 45 = .ok (.iaload, 1) := by decide +kernel
theorem dX8_hashOfRegisters_46 : decode cX8_hashOfRegisters 46 = .ok (.i2l, 1) := by decide +kernel
theorem dX8_hashOfRegisters_47 : decode cX8_hashOfRegisters 47 = .ok (.invokestatic 335, 3) := by decide +kernel
theorem dX8_hashOfRegisters_50 : decode cX8_hashOfRegisters 50 = .ok (.lstore_n 3, 1) := by decide +kernel
theorem dX8_hashOfRegisters_51 : decode cX8_hashOfRegisters 51 = .ok (.lload_n 3, 1) := by decide +kernel
theorem dX8_hashOfRegisters_52 : decode cX8_hashOfRegisters 52 = .ok (.aload_n 0, 1) := by decide +kernel
theorem dX8_hashOfRegisters_53 : decode cX8_hashOfRegisters 53 = .ok (.getfield 78, 3) := by decide +kernel
theorem dX8_hashOfRegisters_56 : decode cX8_hashOfRegisters 56 = .ok (.iload 5, 2) := by decide +kernel
theorem dX8_hashOfRegisters_58 : decode cX8_hashOfRegisters 58 = .ok (.iaload, 1) := by decide +kernel
theorem dX8_hashOfRegisters_59 : decode cX8_hashOfRegisters 59 = .ok (.i2l, 1) := by decide +kernel
theorem dX8_hashOfRegisters_60 : decode cX8_hashOfRegisters 60 = .ok (.invokestatic 335, 3) := by decide +kernel
theorem dX8_hashOfRegisters_63 : decode cX8_hashOfRegisters 63 = .ok (.lstore_n 3, 1) := by decide +kernel
theorem dX8_hashOfRegisters_64 : decode cX8_hashOfRegisters 64 = .ok (.iinc 5 1, 3) := by decide +kernel
theorem dX8_hashOfRegisters_67 : decode cX8_hashOfRegisters 67 = .ok (.goto (-62), 3) := by decide +kernel
theorem dX8_hashOfRegisters_70 : decode cX8_hashOfRegisters 70 = .ok (.lload_n 3, 1) := by decide +kernel
theorem dX8_hashOfRegisters_71 : decode cX8_hashOfRegisters 71 = .ok (.lreturn, 1) := by decide +kernel
def fX8_hashOfRegisters_L5 : Nat → Int64 → Int32 → Mem → Option (Int64 × Mem)
  | 0, _, _, _ => none
  | n + 1, v3, v5, μ =>   if (12 : Int32) ≤ v5 then
  some (v3, μ)
  else
  (ld 24 (μ 97) v5).bind fun r13 =>
  bd (fX8_mixed μ v3 (Int32.toInt64 r13)) fun r15 μ14 =>
  (ld 24 (μ14 98) v5).bind fun r16 =>
  bd (fX8_mixed μ14 r15 (Int32.toInt64 r16)) fun r18 μ17 =>
  (ld 24 (μ17 99) v5).bind fun r19 =>
  bd (fX8_mixed μ17 r18 (Int32.toInt64 r19)) fun r21 μ20 =>
  (ld 24 (μ20 100) v5).bind fun r22 =>
  bd (fX8_mixed μ20 r21 (Int32.toInt64 r22)) fun r24 μ23 =>
  fX8_hashOfRegisters_L5 n r24 (v5 + (1 : Int32)) μ23
def fX8_hashOfRegisters (μ : Mem) (a1 : Int64) : Option (Int64 × Mem) :=
  fX8_hashOfRegisters_L5 fu a1 (0 : Int32) μ
theorem kX8_hashOfRegisters_L5 {p : Program} {l : Launch} {e : Env} {s : State} {m : MethodId} {args : Array Value} {below : List Frame} {meth : Method} {c : Code} {D : va_G} {cI cR : ClassId} {ad : Nat → Nat} {A0 : Nat → Prop} (E : EV p s m args meth c cX8_hashOfRegisters 6 RX8 D cI cR ad shX NX A0) (hr : meth.sig.returnType = (some .long)) (n : Nat) : ∀ (v3 : Int64) (v5 : Int32) (μ : Mem), LL p l e (RM 1) s m args below meth c 6 D cI cR ad shX NX A0 (fun (r : Int64) μ' => KG below args s D cI cR ad shX NX A0 (some (.long r)) μ') (fX8_hashOfRegisters_L5 n v3 v5 μ) 0 0 5 [some (.ref (ad 0)), none, none, some (.long v3), none, some (.int v5)] [] μ := by
  induction n with
  | zero =>
    intros
    exact ll_none
  | succ n ih =>
    intro v3 v5 μ
    rw [fX8_hashOfRegisters_L5]
    refine ll_iload E (pc := 5) dX8_hashOfRegisters_5 rfl ?_
    refine ll_bipush E (pc := 7) dX8_hashOfRegisters_7 kb_12 ?_
    refine ll_icmp_ge E (pc := 9) (tgt := 70) dX8_hashOfRegisters_9 rfl ?_ ?_
    · refine ll_lload_n E (pc := 70) dX8_hashOfRegisters_70 rfl ?_
      exact ll_lreturn E (pc := 71) hr dX8_hashOfRegisters_71
    · refine ll_lload_n E (pc := 12) dX8_hashOfRegisters_12 rfl ?_
      refine ll_aload_n E (pc := 13) dX8_hashOfRegisters_13 rfl ?_
      refine ll_getfr E (pc := 14) (o9 := 0) (ci := 8) (k9 := 12) (q := 97) dX8_hashOfRegisters_14 fl_X8_68 (Nat.le_of_ble_eq_true rfl) fx_0_12 ?_
      refine ll_iload E (pc := 17) dX8_hashOfRegisters_17 rfl ?_
      refine ll_iald E (pc := 19) (a := 97) dX8_hashOfRegisters_19 (px_97).1 (px_97).2 ?_
      intro r13
      refine ll_i2l E (pc := 20) dX8_hashOfRegisters_20 ?_
      refine ll_callSj E (pc := 21) (d := 0) [.long v3, .long (Int32.toInt64 r13)] [] dX8_hashOfRegisters_21 cv_X8_335 (fun h => ctX8_mixed h) rfl rfl (Nat.le_of_ble_eq_true rfl) ⟨(Nat.le_of_ble_eq_true rfl), (Nat.le_of_ble_eq_true rfl)⟩ ⟨(Nat.le_of_ble_eq_true rfl), (Nat.le_of_ble_eq_true rfl)⟩ ?_
      intro r15 μ14
      refine ll_lstore_n E (pc := 24) (lo' := [some (.ref (ad 0)), none, none, some (.long r15), none, some (.int v5)]) dX8_hashOfRegisters_24 (Nat.le_of_ble_eq_true rfl) rfl rfl ?_
      refine ll_lload_n E (pc := 25) dX8_hashOfRegisters_25 rfl ?_
      refine ll_aload_n E (pc := 26) dX8_hashOfRegisters_26 rfl ?_
      refine ll_getfr E (pc := 27) (o9 := 0) (ci := 8) (k9 := 13) (q := 98) dX8_hashOfRegisters_27 fl_X8_72 (Nat.le_of_ble_eq_true rfl) fx_0_13 ?_
      refine ll_iload E (pc := 30) dX8_hashOfRegisters_30 rfl ?_
      refine ll_iald E (pc := 32) (a := 98) dX8_hashOfRegisters_32 (px_98).1 (px_98).2 ?_
      intro r16
      refine ll_i2l E (pc := 33) dX8_hashOfRegisters_33 ?_
      refine ll_callSj E (pc := 34) (d := 0) [.long r15, .long (Int32.toInt64 r16)] [] dX8_hashOfRegisters_34 cv_X8_335 (fun h => ctX8_mixed h) rfl rfl (Nat.le_of_ble_eq_true rfl) ⟨(Nat.le_of_ble_eq_true rfl), (Nat.le_of_ble_eq_true rfl)⟩ ⟨(Nat.le_of_ble_eq_true rfl), (Nat.le_of_ble_eq_true rfl)⟩ ?_
      intro r18 μ17
      refine ll_lstore_n E (pc := 37) (lo' := [some (.ref (ad 0)), none, none, some (.long r18), none, some (.int v5)]) dX8_hashOfRegisters_37 (Nat.le_of_ble_eq_true rfl) rfl rfl ?_
      refine ll_lload_n E (pc := 38) dX8_hashOfRegisters_38 rfl ?_
      refine ll_aload_n E (pc := 39) dX8_hashOfRegisters_39 rfl ?_
      refine ll_getfr E (pc := 40) (o9 := 0) (ci := 8) (k9 := 14) (q := 99) dX8_hashOfRegisters_40 fl_X8_75 (Nat.le_of_ble_eq_true rfl) fx_0_14 ?_
      refine ll_iload E (pc := 43) dX8_hashOfRegisters_43 rfl ?_
      refine ll_iald E (pc := 45) (a := 99) dX8_hashOfRegisters_45 (px_99).1 (px_99).2 ?_
      intro r19
      refine ll_i2l E (pc := 46) dX8_hashOfRegisters_46 ?_
      refine ll_callSj E (pc := 47) (d := 0) [.long r18, .long (Int32.toInt64 r19)] [] dX8_hashOfRegisters_47 cv_X8_335 (fun h => ctX8_mixed h) rfl rfl (Nat.le_of_ble_eq_true rfl) ⟨(Nat.le_of_ble_eq_true rfl), (Nat.le_of_ble_eq_true rfl)⟩ ⟨(Nat.le_of_ble_eq_true rfl), (Nat.le_of_ble_eq_true rfl)⟩ ?_
      intro r21 μ20
      refine ll_lstore_n E (pc := 50) (lo' := [some (.ref (ad 0)), none, none, some (.long r21), none, some (.int v5)]) dX8_hashOfRegisters_50 (Nat.le_of_ble_eq_true rfl) rfl rfl ?_
      refine ll_lload_n E (pc := 51) dX8_hashOfRegisters_51 rfl ?_
      refine ll_aload_n E (pc := 52) dX8_hashOfRegisters_52 rfl ?_
      refine ll_getfr E (pc := 53) (o9 := 0) (ci := 8) (k9 := 15) (q := 100) dX8_hashOfRegisters_53 fl_X8_78 (Nat.le_of_ble_eq_true rfl) fx_0_15 ?_
      refine ll_iload E (pc := 56) dX8_hashOfRegisters_56 rfl ?_
      refine ll_iald E (pc := 58) (a := 100) dX8_hashOfRegisters_58 (px_100).1 (px_100).2 ?_
      intro r22
      refine ll_i2l E (pc := 59) dX8_hashOfRegisters_59 ?_
      refine ll_callSj E (pc := 60) (d := 0) [.long r21, .long (Int32.toInt64 r22)] [] dX8_hashOfRegisters_60 cv_X8_335 (fun h => ctX8_mixed h) rfl rfl (Nat.le_of_ble_eq_true rfl) ⟨(Nat.le_of_ble_eq_true rfl), (Nat.le_of_ble_eq_true rfl)⟩ ⟨(Nat.le_of_ble_eq_true rfl), (Nat.le_of_ble_eq_true rfl)⟩ ?_
      intro r24 μ23
      refine ll_lstore_n E (pc := 63) (lo' := [some (.ref (ad 0)), none, none, some (.long r24), none, some (.int v5)]) dX8_hashOfRegisters_63 (Nat.le_of_ble_eq_true rfl) rfl rfl ?_
      refine ll_iinc E (pc := 64) (lo' := [some (.ref (ad 0)), none, none, some (.long r24), none, some (.int (v5 + (1 : Int32)))]) dX8_hashOfRegisters_64 rfl kc_1 (Nat.le_of_ble_eq_true rfl) rfl rfl ?_
      refine ll_goto E (pc := 67) (tgt := 5) dX8_hashOfRegisters_67 rfl ?_
      exact ll_lo (lo' := [some (.ref (ad 0)), none, none, some (.long r24), none, some (.int (v5 + (1 : Int32)))]) ⟨rfl, rfl, rfl, trivial⟩ (ih r24 (v5 + (1 : Int32)) μ23)
theorem ctX8_hashOfRegisters {l : Launch} {D : va_G} {cI cR : ClassId} {ad : Nat → Nat} {μ : Mem} {a1 : Int64} {r : Int64} {μ' : Mem} (hf : fX8_hashOfRegisters μ a1 = some (r, μ')) : CT l yX8_hashOfRegisters cX8_hashOfRegisters 6 (some .long) 1 D cI cR ad shX NX [.ref (ad 0), .long a1] μ (some (.long r)) μ' :=
  ct_of (own := RX8) (ov := fun r => some (.long r)) (by decide +kernel) rfl (Nat.le_of_ble_eq_true rfl) (fun p e s m below meth c A0 E hr => by
    refine ll_lo (lo' := [some (.ref (ad 0)), some (.long a1), none, none, none, none]) ⟨rfl, rfl, trivial⟩ ?_
    rw [fX8_hashOfRegisters]
    refine ll_lload_n E (pc := 0) dX8_hashOfRegisters_0 rfl ?_
    refine ll_lstore_n E (pc := 1) (lo' := [some (.ref (ad 0)), some (.long a1), none, some (.long a1), none, none]) dX8_hashOfRegisters_1 (Nat.le_of_ble_eq_true rfl) rfl rfl ?_
    refine ll_iconst E (pc := 2) dX8_hashOfRegisters_2 kc_0 ?_
    refine ll_istore E (pc := 3) (lo' := [some (.ref (ad 0)), some (.long a1), none, some (.long a1), none, some (.int (0 : Int32))]) dX8_hashOfRegisters_3 (Nat.le_of_ble_eq_true rfl) rfl rfl ?_
    exact ll_lo (lo' := [some (.ref (ad 0)), none, none, some (.long a1), none, some (.int (0 : Int32))]) ⟨rfl, rfl, rfl, trivial⟩ (kX8_hashOfRegisters_L5 E hr fu a1 (0 : Int32) μ)) hf
theorem dX8_hashOfCells_0 : decode cX8_hashOfCells 0 = .ok (.lload_n 1, 1) := by decide +kernel
theorem dX8_hashOfCells_1 : decode cX8_hashOfCells 1 = .ok (.lstore_n 3, 1) := by decide +kernel
theorem dX8_hashOfCells_2 : decode cX8_hashOfCells 2 = .ok (.bipush 12, 2) := by decide +kernel
theorem dX8_hashOfCells_4 : decode cX8_hashOfCells 4 = .ok (.istore 5, 2) := by decide +kernel
theorem dX8_hashOfCells_6 : decode cX8_hashOfCells 6 = .ok (.iload 5, 2) := by decide +kernel
theorem dX8_hashOfCells_8 : decode cX8_hashOfCells 8 = .ok (.bipush 24, 2) := by decide +kernel
theorem dX8_hashOfCells_10 : decode cX8_hashOfCells 10 = .ok (.if_icmp .ge 48, 3) := by decide +kernel
theorem dX8_hashOfCells_13 : decode cX8_hashOfCells 13 = .ok (.lload_n 3, 1) := by decide +kernel
theorem dX8_hashOfCells_14 : decode cX8_hashOfCells 14 = .ok (.aload_n 0, 1) := by decide +kernel
theorem dX8_hashOfCells_15 : decode cX8_hashOfCells 15 = .ok (.getfield 68, 3) := by decide +kernel
theorem dX8_hashOfCells_18 : decode cX8_hashOfCells 18 = .ok (.iload 5, 2) := by decide +kernel
theorem dX8_hashOfCells_20 : decode cX8_hashOfCells 20 = .ok (.iaload, 1) := by decide +kernel
theorem dX8_hashOfCells_21 : decode cX8_hashOfCells 21 = .ok (.i2l, 1) := by decide +kernel
theorem dX8_hashOfCells_22 : decode cX8_hashOfCells 22 = .ok (.invokestatic 335, 3) := by decide +kernel
theorem dX8_hashOfCells_25 : decode cX8_hashOfCells 25 = .ok (.lstore_n 3, 1) := by decide +kernel
theorem dX8_hashOfCells_26 : decode cX8_hashOfCells 26 = .ok (.lload_n 3, 1) := by decide +kernel
theorem dX8_hashOfCells_27 : decode cX8_hashOfCells 27 = .ok (.aload_n 0, 1) := by decide +kernel
theorem dX8_hashOfCells_28 : decode cX8_hashOfCells 28 = .ok (.getfield 72, 3) := by decide +kernel
theorem dX8_hashOfCells_31 : decode cX8_hashOfCells 31 = .ok (.iload 5, 2) := by decide +kernel
theorem dX8_hashOfCells_33 : decode cX8_hashOfCells 33 = .ok (.iaload, 1) := by decide +kernel
theorem dX8_hashOfCells_34 : decode cX8_hashOfCells 34 = .ok (.i2l, 1) := by decide +kernel
theorem dX8_hashOfCells_35 : decode cX8_hashOfCells 35 = .ok (.invokestatic 335, 3) := by decide +kernel
theorem dX8_hashOfCells_38 : decode cX8_hashOfCells 38 = .ok (.lstore_n 3, 1) := by decide +kernel
theorem dX8_hashOfCells_39 : decode cX8_hashOfCells 39 = .ok (.lload_n 3, 1) := by decide +kernel
theorem dX8_hashOfCells_40 : decode cX8_hashOfCells 40 = .ok (.aload_n 0, 1) := by decide +kernel
theorem dX8_hashOfCells_41 : decode cX8_hashOfCells 41 = .ok (.getfield 75, 3) := by decide +kernel
theorem dX8_hashOfCells_44 : decode cX8_hashOfCells 44 = .ok (.iload 5, 2) := by decide +kernel
theorem dX8_hashOfCells_46 : decode cX8_hashOfCells 46 = .ok (.iaload, 1) := by decide +kernel
theorem dX8_hashOfCells_47 : decode cX8_hashOfCells 47 = .ok (.i2l, 1) := by decide +kernel
theorem dX8_hashOfCells_48 : decode cX8_hashOfCells 48 = .ok (.invokestatic 335, 3) := by decide +kernel
theorem dX8_hashOfCells_51 : decode cX8_hashOfCells 51 = .ok (.lstore_n 3, 1) := by decide +kernel
theorem dX8_hashOfCells_52 : decode cX8_hashOfCells 52 = .ok (.iinc 5 1, 3) := by decide +kernel
theorem dX8_hashOfCells_55 : decode cX8_hashOfCells 55 = .ok (.goto (-49), 3) := by decide +kernel
theorem dX8_hashOfCells_58 : decode cX8_hashOfCells 58 = .ok (.lload_n 3, 1) := by decide +kernel
theorem dX8_hashOfCells_59 : decode cX8_hashOfCells 59 = .ok (.lreturn, 1) := by decide +kernel
def fX8_hashOfCells_L6 : Nat → Int64 → Int32 → Mem → Option (Int64 × Mem)
  | 0, _, _, _ => none
  | n + 1, v3, v5, μ =>   if (24 : Int32) ≤ v5 then
  some (v3, μ)
  else
  (ld 24 (μ 97) v5).bind fun r10 =>
  bd (fX8_mixed μ v3 (Int32.toInt64 r10)) fun r12 μ11 =>
  (ld 24 (μ11 98) v5).bind fun r13 =>
  bd (fX8_mixed μ11 r12 (Int32.toInt64 r13)) fun r15 μ14 =>
  (ld 24 (μ14 99) v5).bind fun r16 =>
  bd (fX8_mixed μ14 r15 (Int32.toInt64 r16)) fun r18 μ17 =>
  fX8_hashOfCells_L6 n r18 (v5 + (1 : Int32)) μ17
def fX8_hashOfCells (μ : Mem) (a1 : Int64) : Option (Int64 × Mem) :=
  fX8_hashOfCells_L6 fu a1 (12 : Int32) μ
theorem kX8_hashOfCells_L6 {p : Program} {l : Launch} {e : Env} {s : State} {m : MethodId} {args : Array Value} {below : List Frame} {meth : Method} {c : Code} {D : va_G} {cI cR : ClassId} {ad : Nat → Nat} {A0 : Nat → Prop} (E : EV p s m args meth c cX8_hashOfCells 6 RX8 D cI cR ad shX NX A0) (hr : meth.sig.returnType = (some .long)) (n : Nat) : ∀ (v3 : Int64) (v5 : Int32) (μ : Mem), LL p l e (RM 1) s m args below meth c 6 D cI cR ad shX NX A0 (fun (r : Int64) μ' => KG below args s D cI cR ad shX NX A0 (some (.long r)) μ') (fX8_hashOfCells_L6 n v3 v5 μ) 0 0 6 [some (.ref (ad 0)), none, none, some (.long v3), none, some (.int v5)] [] μ := by
  induction n with
  | zero =>
    intros
    exact ll_none
  | succ n ih =>
    intro v3 v5 μ
    rw [fX8_hashOfCells_L6]
    refine ll_iload E (pc := 6) dX8_hashOfCells_6 rfl ?_
    refine ll_bipush E (pc := 8) dX8_hashOfCells_8 kb_24 ?_
    refine ll_icmp_ge E (pc := 10) (tgt := 58) dX8_hashOfCells_10 rfl ?_ ?_
    · refine ll_lload_n E (pc := 58) dX8_hashOfCells_58 rfl ?_
      exact ll_lreturn E (pc := 59) hr dX8_hashOfCells_59
    · refine ll_lload_n E (pc := 13) dX8_hashOfCells_13 rfl ?_
      refine ll_aload_n E (pc := 14) dX8_hashOfCells_14 rfl ?_
      refine ll_getfr E (pc := 15) (o9 := 0) (ci := 8) (k9 := 12) (q := 97) dX8_hashOfCells_15 fl_X8_68 (Nat.le_of_ble_eq_true rfl) fx_0_12 ?_
      refine ll_iload E (pc := 18) dX8_hashOfCells_18 rfl ?_
      refine ll_iald E (pc := 20) (a := 97) dX8_hashOfCells_20 (px_97).1 (px_97).2 ?_
      intro r10
      refine ll_i2l E (pc := 21) dX8_hashOfCells_21 ?_
      refine ll_callSj E (pc := 22) (d := 0) [.long v3, .long (Int32.toInt64 r10)] [] dX8_hashOfCells_22 cv_X8_335 (fun h => ctX8_mixed h) rfl rfl (Nat.le_of_ble_eq_true rfl) ⟨(Nat.le_of_ble_eq_true rfl), (Nat.le_of_ble_eq_true rfl)⟩ ⟨(Nat.le_of_ble_eq_true rfl), (Nat.le_of_ble_eq_true rfl)⟩ ?_
      intro r12 μ11
      refine ll_lstore_n E (pc := 25) (lo' := [some (.ref (ad 0)), none, none, some (.long r12), none, some (.int v5)]) dX8_hashOfCells_25 (Nat.le_of_ble_eq_true rfl) rfl rfl ?_
      refine ll_lload_n E (pc := 26) dX8_hashOfCells_26 rfl ?_
      refine ll_aload_n E (pc := 27) dX8_hashOfCells_27 rfl ?_
      refine ll_getfr E (pc := 28) (o9 := 0) (ci := 8) (k9 := 13) (q := 98) dX8_hashOfCells_28 fl_X8_72 (Nat.le_of_ble_eq_true rfl) fx_0_13 ?_
      refine ll_iload E (pc := 31) dX8_hashOfCells_31 rfl ?_
      refine ll_iald E (pc := 33) (a := 98) dX8_hashOfCells_33 (px_98).1 (px_98).2 ?_
      intro r13
      refine ll_i2l E (pc := 34) dX8_hashOfCells_34 ?_
      refine ll_callSj E (pc := 35) (d := 0) [.long r12, .long (Int32.toInt64 r13)] [] dX8_hashOfCells_35 cv_X8_335 (fun h => ctX8_mixed h) rfl rfl (Nat.le_of_ble_eq_true rfl) ⟨(Nat.le_of_ble_eq_true rfl), (Nat.le_of_ble_eq_true rfl)⟩ ⟨(Nat.le_of_ble_eq_true rfl), (Nat.le_of_ble_eq_true rfl)⟩ ?_
      intro r15 μ14
      refine ll_lstore_n E (pc := 38) (lo' := [some (.ref (ad 0)), none, none, some (.long r15), none, some (.int v5)]) dX8_hashOfCells_38 (Nat.le_of_ble_eq_true rfl) rfl rfl ?_
      refine ll_lload_n E (pc := 39) dX8_hashOfCells_39 rfl ?_
      refine ll_aload_n E (pc := 40) dX8_hashOfCells_40 rfl ?_
      refine ll_getfr E (pc := 41) (o9 := 0) (ci := 8) (k9 := 14) (q := 99) dX8_hashOfCells_41 fl_X8_75 (Nat.le_of_ble_eq_true rfl) fx_0_14 ?_
      refine ll_iload E (pc := 44) dX8_hashOfCells_44 rfl ?_
      refine ll_iald E (pc := 46) (a := 99) dX8_hashOfCells_46 (px_99).1 (px_99).2 ?_
      intro r16
      refine ll_i2l E (pc := 47) dX8_hashOfCells_47 ?_
      refine ll_callSj E (pc := 48) (d := 0) [.long r15, .long (Int32.toInt64 r16)] [] dX8_hashOfCells_48 cv_X8_335 (fun h => ctX8_mixed h) rfl rfl (Nat.le_of_ble_eq_true rfl) ⟨(Nat.le_of_ble_eq_true rfl), (Nat.le_of_ble_eq_true rfl)⟩ ⟨(Nat.le_of_ble_eq_true rfl), (Nat.le_of_ble_eq_true rfl)⟩ ?_
      intro r18 μ17
      refine ll_lstore_n E (pc := 51) (lo' := [some (.ref (ad 0)), none, none, some (.long r18), none, some (.int v5)]) dX8_hashOfCells_51 (Nat.le_of_ble_eq_true rfl) rfl rfl ?_
      refine ll_iinc E (pc := 52) (lo' := [some (.ref (ad 0)), none, none, some (.long r18), none, some (.int (v5 + (1 : Int32)))]) dX8_hashOfCells_52 rfl kc_1 (Nat.le_of_ble_eq_true rfl) rfl rfl ?_
      refine ll_goto E (pc := 55) (tgt := 6) dX8_hashOfCells_55 rfl ?_
      exact ll_lo (lo' := [some (.ref (ad 0)), none, none, some (.long r18), none, some (.int (v5 + (1 : Int32)))]) ⟨rfl, rfl, rfl, trivial⟩ (ih r18 (v5 + (1 : Int32)) μ17)
theorem ctX8_hashOfCells {l : Launch} {D : va_G} {cI cR : ClassId} {ad : Nat → Nat} {μ : Mem} {a1 : Int64} {r : Int64} {μ' : Mem} (hf : fX8_hashOfCells μ a1 = some (r, μ')) : CT l yX8_hashOfCells cX8_hashOfCells 6 (some .long) 1 D cI cR ad shX NX [.ref (ad 0), .long a1] μ (some (.long r)) μ' :=
  ct_of (own := RX8) (ov := fun r => some (.long r)) (by decide +kernel) rfl (Nat.le_of_ble_eq_true rfl) (fun p e s m below meth c A0 E hr => by
    refine ll_lo (lo' := [some (.ref (ad 0)), some (.long a1), none, none, none, none]) ⟨rfl, rfl, trivial⟩ ?_
    rw [fX8_hashOfCells]
    refine ll_lload_n E (pc := 0) dX8_hashOfCells_0 rfl ?_
    refine ll_lstore_n E (pc := 1) (lo' := [some (.ref (ad 0)), some (.long a1), none, some (.long a1), none, none]) dX8_hashOfCells_1 (Nat.le_of_ble_eq_true rfl) rfl rfl ?_
    refine ll_bipush E (pc := 2) dX8_hashOfCells_2 kb_12 ?_
    refine ll_istore E (pc := 4) (lo' := [some (.ref (ad 0)), some (.long a1), none, some (.long a1), none, some (.int (12 : Int32))]) dX8_hashOfCells_4 (Nat.le_of_ble_eq_true rfl) rfl rfl ?_
    exact ll_lo (lo' := [some (.ref (ad 0)), none, none, some (.long a1), none, some (.int (12 : Int32))]) ⟨rfl, rfl, rfl, trivial⟩ (kX8_hashOfCells_L6 E hr fu a1 (12 : Int32) μ)) hf
theorem dX8_bitsOf_0 : decode cX8_bitsOf 0 = .ok (.dload_n 0, 1) := by decide +kernel
theorem dX8_bitsOf_1 : decode cX8_bitsOf 1 = .ok (.dconst 0, 1) := by decide +kernel
theorem dX8_bitsOf_2 : decode cX8_bitsOf 2 = .ok (.dcmp .l, 1) := by decide +kernel
theorem dX8_bitsOf_3 : decode cX8_bitsOf 3 = .ok (.ifCond .gt 5, 3) := by decide +kernel
theorem dX8_bitsOf_6 : decode cX8_bitsOf 6 = .ok (.lconst 0, 1) := by decide +kernel
theorem dX8_bitsOf_7 : decode cX8_bitsOf 7 = .ok (.lreturn, 1) := by decide +kernel
theorem dX8_bitsOf_8 : decode cX8_bitsOf 8 = .ok (.dload_n 0, 1) := by decide +kernel
theorem dX8_bitsOf_9 : decode cX8_bitsOf 9 = .ok (.dstore_n 2, 1) := by decide +kernel
theorem dX8_bitsOf_10 : decode cX8_bitsOf 10 = .ok (.ldc2_w 381, 3) := by decide +kernel
theorem dX8_bitsOf_13 : decode cX8_bitsOf 13 = .ok (.lstore 4, 2) := by decide +kernel
theorem dX8_bitsOf_15 : decode cX8_bitsOf 15 = .ok (.iconst 0, 1) := by decide +kernel
theorem dX8_bitsOf_16 : decode cX8_bitsOf 16 = .ok (.istore 6, 2) := by decide +kernel
theorem dX8_bitsOf_18 : decode cX8_bitsOf 18 = .ok (.iload 6, 2) := by decide +kernel
theorem dX8_bitsOf_20 : decode cX8_bitsOf 20 = .ok (.sipush 1100, 3) := by decide +kernel
theorem dX8_bitsOf_23 : decode cX8_bitsOf 23 = .ok (.if_icmp .ge 29, 3) := by decide +kernel
theorem dX8_bitsOf_26 : decode cX8_bitsOf 26 = .ok (.dload_n 2, 1) := by decide +kernel
theorem dX8_bitsOf_27 : decode cX8_bitsOf 27 = .ok (.ldc2_w 383, 3) := by decide +kernel
theorem dX8_bitsOf_30 : decode cX8_bitsOf 30 = .ok (.dcmp .l, 1) := by decide +kernel
theorem dX8_bitsOf_31 : decode cX8_bitsOf 31 = .ok (.ifCond .lt 21, 3) := by decide +kernel
theorem dX8_bitsOf_34 : decode cX8_bitsOf 34 = .ok (.dload_n 2, 1) := by decide +kernel
theorem dX8_bitsOf_35 : decode cX8_bitsOf 35 = .ok (.ldc2_w 383, 3) := by decide +kernel
theorem dX8_bitsOf_38 : decode cX8_bitsOf 38 = .ok (.ddiv, 1) := by decide +kernel
theorem dX8_bitsOf_39 : decode cX8_bitsOf 39 = .ok (.dstore_n 2, 1) := by decide +kernel
theorem dX8_bitsOf_40 : decode cX8_bitsOf 40 = .ok (.lload 4, 2) := by decide +kernel
theorem dX8_bitsOf_42 : decode cX8_bitsOf 42 = .ok (.lconst 1, 1) := by decide +kernel
theorem dX8_bitsOf_43 : decode cX8_bitsOf 43 = .ok (.ladd, 1) := by decide +kernel
theorem dX8_bitsOf_44 : decode cX8_bitsOf 44 = .ok (.lstore 4, 2) := by decide +kernel
theorem dX8_bitsOf_46 : decode cX8_bitsOf 46 = .ok (.iinc 6 1, 3) := by decide +kernel
theorem dX8_bitsOf_49 : decode cX8_bitsOf 49 = .ok (.goto (-31), 3) := by decide +kernel
theorem dX8_bitsOf_52 : decode cX8_bitsOf 52 = .ok (.iconst 0, 1) := by decide +kernel
theorem dX8_bitsOf_53 : decode cX8_bitsOf 53 = .ok (.istore 6, 2) := by decide +kernel
theorem dX8_bitsOf_55 : decode cX8_bitsOf 55 = .ok (.iload 6, 2) := by decide +kernel
theorem dX8_bitsOf_57 : decode cX8_bitsOf 57 = .ok (.sipush 1100, 3) := by decide +kernel
theorem dX8_bitsOf_60 : decode cX8_bitsOf 60 = .ok (.if_icmp .ge 27, 3) := by decide +kernel
theorem dX8_bitsOf_63 : decode cX8_bitsOf 63 = .ok (.dload_n 2, 1) := by decide +kernel
theorem dX8_bitsOf_64 : decode cX8_bitsOf 64 = .ok (.dconst 1, 1) := by decide +kernel
theorem dX8_bitsOf_65 : decode cX8_bitsOf 65 = .ok (.dcmp .g, 1) := by decide +kernel
theorem dX8_bitsOf_66 : decode cX8_bitsOf 66 = .ok (.ifCond .ge 21, 3) := by decide +kernel
theorem dX8_bitsOf_69 : decode cX8_bitsOf 69 = .ok (.dload_n 2, 1) := by decide +kernel
theorem dX8_bitsOf_70 : decode cX8_bitsOf 70 = .ok (.ldc2_w 383, 3) := by decide +kernel
theorem dX8_bitsOf_73 : decode cX8_bitsOf 73 = .ok (.dmul, 1) := by decide +kernel
theorem dX8_bitsOf_74 : decode cX8_bitsOf 74 = .ok (.dstore_n 2, 1) := by decide +kernel
theorem dX8_bitsOf_75 : decode cX8_bitsOf 75 = .ok (.lload 4, 2) := by decide +kernel
theorem dX8_bitsOf_77 : decode cX8_bitsOf 77 = .ok (.lconst 1, 1) := by decide +kernel
theorem dX8_bitsOf_78 : decode cX8_bitsOf 78 = .ok (.lsub, 1) := by decide +kernel
theorem dX8_bitsOf_79 : decode cX8_bitsOf 79 = .ok (.lstore 4, 2) := by decide +kernel
theorem dX8_bitsOf_81 : decode cX8_bitsOf 81 = .ok (.iinc 6 1, 3) := by decide +kernel
theorem dX8_bitsOf_84 : decode cX8_bitsOf 84 = .ok (.goto (-29), 3) := by decide +kernel
theorem dX8_bitsOf_87 : decode cX8_bitsOf 87 = .ok (.lload 4, 2) := by decide +kernel
theorem dX8_bitsOf_89 : decode cX8_bitsOf 89 = .ok (.bipush 52, 2) := by decide +kernel
theorem dX8_bitsOf_91 : decode cX8_bitsOf 91 = .ok (.lshl, 1) := by decide +kernel
theorem dX8_bitsOf_92 : decode cX8_bitsOf 92 = .ok (.dload_n 2, 1) := by decide +kernel
theorem dX8_bitsOf_93 : decode cX8_bitsOf 93 = .ok (.dconst 1, 1) := by decide +kernel
theorem dX8_bitsOf_94 : decode cX8_bitsOf 94 = .ok (.dsub, 1) := by decide +kernel
theorem dX8_bitsOf_95 : decode cX8_bitsOf 95 = .ok (.ldc2_w 385, 3) := by decide +kernel
theorem dX8_bitsOf_98 : decode cX8_bitsOf 98 = .ok (.dmul, 1) := by decide +kernel
theorem dX8_bitsOf_99 : decode cX8_bitsOf 99 = .ok (.d2l, 1) := by decide +kernel
theorem dX8_bitsOf_100 : decode cX8_bitsOf 100 = .ok (.ladd, 1) := by decide +kernel
theorem dX8_bitsOf_101 : decode cX8_bitsOf 101 = .ok (.lreturn, 1) := by decide +kernel
def fX8_bitsOf_L87 (v2 : UInt64) (v4 : Int64) (μ : Mem) : Option (Int64 × Mem) :=
  (dop (FP.dsub v2 FP.dconst1)).bind fun r5 =>
  (dop (FP.dmul r5 (4841369599423283200 : UInt64))).bind fun r6 =>
  some (((v4 <<< ((52 : Int32).toInt64 &&& 63)) + (FP.d2l r6)), μ)
def fX8_bitsOf_L55 : Nat → UInt64 → Int64 → Int32 → Mem → Option (Int64 × Mem)
  | 0, _, _, _, _ => none
  | n + 1, v2, v4, v6, μ =>   if (1100 : Int32) ≤ v6 then
  fX8_bitsOf_L87 v2 v4 μ
  else
  if 0 ≤ (Op.cmpValue (FP.dcmp v2 FP.dconst1) .g) then
  fX8_bitsOf_L87 v2 v4 μ
  else
  (dop (FP.dmul v2 (4611686018427387904 : UInt64))).bind fun r7 =>
  fX8_bitsOf_L55 n r7 (v4 - (1 : Int64)) (v6 + (1 : Int32)) μ
def fX8_bitsOf_L52 (v2 : UInt64) (v4 : Int64) (μ : Mem) : Option (Int64 × Mem) :=
  fX8_bitsOf_L55 fu v2 v4 (0 : Int32) μ
def fX8_bitsOf_L18 : Nat → UInt64 → Int64 → Int32 → Mem → Option (Int64 × Mem)
  | 0, _, _, _, _ => none
  | n + 1, v2, v4, v6, μ =>   if (1100 : Int32) ≤ v6 then
  fX8_bitsOf_L52 v2 v4 μ
  else
  if (Op.cmpValue (FP.dcmp v2 (4611686018427387904 : UInt64)) .l) < 0 then
  fX8_bitsOf_L52 v2 v4 μ
  else
  (dop (FP.ddiv v2 (4611686018427387904 : UInt64))).bind fun r8 =>
  fX8_bitsOf_L18 n r8 (v4 + (1 : Int64)) (v6 + (1 : Int32)) μ
def fX8_bitsOf (μ : Mem) (a0 : UInt64) : Option (Int64 × Mem) :=
  if 0 < (Op.cmpValue (FP.dcmp a0 FP.dconst0) .l) then
  fX8_bitsOf_L18 fu a0 (1023 : Int64) (0 : Int32) μ
  else
  some ((0 : Int64), μ)
theorem kX8_bitsOf_L87 {p : Program} {l : Launch} {e : Env} {s : State} {m : MethodId} {args : Array Value} {below : List Frame} {meth : Method} {c : Code} {D : va_G} {cI cR : ClassId} {ad : Nat → Nat} {A0 : Nat → Prop} (E : EV p s m args meth c cX8_bitsOf 7 RX8 D cI cR ad shX NX A0) (hr : meth.sig.returnType = (some .long)) (v2 : UInt64) (v4 : Int64) (μ : Mem) : LL p l e (RM 0) s m args below meth c 7 D cI cR ad shX NX A0 (fun (r : Int64) μ' => KG below args s D cI cR ad shX NX A0 (some (.long r)) μ') (fX8_bitsOf_L87 v2 v4 μ) 0 0 87 [none, none, some (.double v2), none, some (.long v4), none, none] [] μ := by
  rw [fX8_bitsOf_L87]
  refine ll_lload E (pc := 87) dX8_bitsOf_87 rfl ?_
  refine ll_bipush E (pc := 89) dX8_bitsOf_89 kb_52 ?_
  refine ll_lshl E (pc := 91) dX8_bitsOf_91 ?_
  refine ll_dload_n E (pc := 92) dX8_bitsOf_92 rfl ?_
  refine ll_dconst1 E (pc := 93) dX8_bitsOf_93 ?_
  refine ll_dsub E (pc := 94) dX8_bitsOf_94 ?_
  intro r5
  refine ll_ldc2d E (pc := 95) dX8_bitsOf_95 kw_X8_385 ?_
  refine ll_dmul E (pc := 98) dX8_bitsOf_98 ?_
  intro r6
  refine ll_d2l E (pc := 99) dX8_bitsOf_99 ?_
  refine ll_ladd E (pc := 100) dX8_bitsOf_100 ?_
  exact ll_lreturn E (pc := 101) hr dX8_bitsOf_101
theorem kX8_bitsOf_L55 {p : Program} {l : Launch} {e : Env} {s : State} {m : MethodId} {args : Array Value} {below : List Frame} {meth : Method} {c : Code} {D : va_G} {cI cR : ClassId} {ad : Nat → Nat} {A0 : Nat → Prop} (E : EV p s m args meth c cX8_bitsOf 7 RX8 D cI cR ad shX NX A0) (hr : meth.sig.returnType = (some .long)) (n : Nat) : ∀ (v2 : UInt64) (v4 : Int64) (v6 : Int32) (μ : Mem), LL p l e (RM 0) s m args below meth c 7 D cI cR ad shX NX A0 (fun (r : Int64) μ' => KG below args s D cI cR ad shX NX A0 (some (.long r)) μ') (fX8_bitsOf_L55 n v2 v4 v6 μ) 0 0 55 [none, none, some (.double v2), none, some (.long v4), none, some (.int v6)] [] μ := by
  induction n with
  | zero =>
    intros
    exact ll_none
  | succ n ih =>
    intro v2 v4 v6 μ
    rw [fX8_bitsOf_L55]
    refine ll_iload E (pc := 55) dX8_bitsOf_55 rfl ?_
    refine ll_sipush E (pc := 57) dX8_bitsOf_57 ks_1100 ?_
    refine ll_icmp_ge E (pc := 60) (tgt := 87) dX8_bitsOf_60 rfl ?_ ?_
    · exact ll_lo (lo' := [none, none, some (.double v2), none, some (.long v4), none, none]) ⟨rfl, rfl, trivial⟩ (kX8_bitsOf_L87 E hr v2 v4 μ)
    · refine ll_dload_n E (pc := 63) dX8_bitsOf_63 rfl ?_
      refine ll_dconst1 E (pc := 64) dX8_bitsOf_64 ?_
      refine ll_dcmp E (pc := 65) dX8_bitsOf_65 ?_
      refine ll_if_ge E (pc := 66) (tgt := 87) dX8_bitsOf_66 rfl ?_ ?_
      · exact ll_lo (lo' := [none, none, some (.double v2), none, some (.long v4), none, none]) ⟨rfl, rfl, trivial⟩ (kX8_bitsOf_L87 E hr v2 v4 μ)
      · refine ll_dload_n E (pc := 69) dX8_bitsOf_69 rfl ?_
        refine ll_ldc2d E (pc := 70) dX8_bitsOf_70 kw_X8_383 ?_
        refine ll_dmul E (pc := 73) dX8_bitsOf_73 ?_
        intro r7
        refine ll_dstore_n E (pc := 74) (lo' := [none, none, some (.double r7), none, some (.long v4), none, some (.int v6)]) dX8_bitsOf_74 (Nat.le_of_ble_eq_true rfl) rfl rfl ?_
        refine ll_lload E (pc := 75) dX8_bitsOf_75 rfl ?_
        refine ll_lconst E (pc := 77) (v := 1) dX8_bitsOf_77 rfl ?_
        refine ll_lsub E (pc := 78) dX8_bitsOf_78 ?_
        refine ll_lstore E (pc := 79) (lo' := [none, none, some (.double r7), none, some (.long (v4 - (1 : Int64))), none, some (.int v6)]) dX8_bitsOf_79 (Nat.le_of_ble_eq_true rfl) rfl rfl ?_
        refine ll_iinc E (pc := 81) (lo' := [none, none, some (.double r7), none, some (.long (v4 - (1 : Int64))), none, some (.int (v6 + (1 : Int32)))]) dX8_bitsOf_81 rfl kc_1 (Nat.le_of_ble_eq_true rfl) rfl rfl ?_
        refine ll_goto E (pc := 84) (tgt := 55) dX8_bitsOf_84 rfl ?_
        exact ll_lo (lo' := [none, none, some (.double r7), none, some (.long (v4 - (1 : Int64))), none, some (.int (v6 + (1 : Int32)))]) ⟨rfl, rfl, rfl, trivial⟩ (ih r7 (v4 - (1 : Int64)) (v6 + (1 : Int32)) μ)
theorem kX8_bitsOf_L52 {p : Program} {l : Launch} {e : Env} {s : State} {m : MethodId} {args : Array Value} {below : List Frame} {meth : Method} {c : Code} {D : va_G} {cI cR : ClassId} {ad : Nat → Nat} {A0 : Nat → Prop} (E : EV p s m args meth c cX8_bitsOf 7 RX8 D cI cR ad shX NX A0) (hr : meth.sig.returnType = (some .long)) (v2 : UInt64) (v4 : Int64) (μ : Mem) : LL p l e (RM 0) s m args below meth c 7 D cI cR ad shX NX A0 (fun (r : Int64) μ' => KG below args s D cI cR ad shX NX A0 (some (.long r)) μ') (fX8_bitsOf_L52 v2 v4 μ) 0 0 52 [none, none, some (.double v2), none, some (.long v4), none, none] [] μ := by
  rw [fX8_bitsOf_L52]
  refine ll_iconst E (pc := 52) dX8_bitsOf_52 kc_0 ?_
  refine ll_istore E (pc := 53) (lo' := [none, none, some (.double v2), none, some (.long v4), none, some (.int (0 : Int32))]) dX8_bitsOf_53 (Nat.le_of_ble_eq_true rfl) rfl rfl ?_
  exact ll_lo (lo' := [none, none, some (.double v2), none, some (.long v4), none, some (.int (0 : Int32))]) ⟨rfl, rfl, rfl, trivial⟩ (kX8_bitsOf_L55 E hr fu v2 v4 (0 : Int32) μ)
theorem kX8_bitsOf_L18 {p : Program} {l : Launch} {e : Env} {s : State} {m : MethodId} {args : Array Value} {below : List Frame} {meth : Method} {c : Code} {D : va_G} {cI cR : ClassId} {ad : Nat → Nat} {A0 : Nat → Prop} (E : EV p s m args meth c cX8_bitsOf 7 RX8 D cI cR ad shX NX A0) (hr : meth.sig.returnType = (some .long)) (n : Nat) : ∀ (v2 : UInt64) (v4 : Int64) (v6 : Int32) (μ : Mem), LL p l e (RM 0) s m args below meth c 7 D cI cR ad shX NX A0 (fun (r : Int64) μ' => KG below args s D cI cR ad shX NX A0 (some (.long r)) μ') (fX8_bitsOf_L18 n v2 v4 v6 μ) 0 0 18 [none, none, some (.double v2), none, some (.long v4), none, some (.int v6)] [] μ := by
  induction n with
  | zero =>
    intros
    exact ll_none
  | succ n ih =>
    intro v2 v4 v6 μ
    rw [fX8_bitsOf_L18]
    refine ll_iload E (pc := 18) dX8_bitsOf_18 rfl ?_
    refine ll_sipush E (pc := 20) dX8_bitsOf_20 ks_1100 ?_
    refine ll_icmp_ge E (pc := 23) (tgt := 52) dX8_bitsOf_23 rfl ?_ ?_
    · exact ll_lo (lo' := [none, none, some (.double v2), none, some (.long v4), none, none]) ⟨rfl, rfl, trivial⟩ (kX8_bitsOf_L52 E hr v2 v4 μ)
    · refine ll_dload_n E (pc := 26) dX8_bitsOf_26 rfl ?_
      refine ll_ldc2d E (pc := 27) dX8_bitsOf_27 kw_X8_383 ?_
      refine ll_dcmp E (pc := 30) dX8_bitsOf_30 ?_
      refine ll_if_lt E (pc := 31) (tgt := 52) dX8_bitsOf_31 rfl ?_ ?_
      · exact ll_lo (lo' := [none, none, some (.double v2), none, some (.long v4), none, none]) ⟨rfl, rfl, trivial⟩ (kX8_bitsOf_L52 E hr v2 v4 μ)
      · refine ll_dload_n E (pc := 34) dX8_bitsOf_34 rfl ?_
        refine ll_ldc2d E (pc := 35) dX8_bitsOf_35 kw_X8_383 ?_
        refine ll_ddiv E (pc := 38) dX8_bitsOf_38 ?_
        intro r8
        refine ll_dstore_n E (pc := 39) (lo' := [none, none, some (.double r8), none, some (.long v4), none, some (.int v6)]) dX8_bitsOf_39 (Nat.le_of_ble_eq_true rfl) rfl rfl ?_
        refine ll_lload E (pc := 40) dX8_bitsOf_40 rfl ?_
        refine ll_lconst E (pc := 42) (v := 1) dX8_bitsOf_42 rfl ?_
        refine ll_ladd E (pc := 43) dX8_bitsOf_43 ?_
        refine ll_lstore E (pc := 44) (lo' := [none, none, some (.double r8), none, some (.long (v4 + (1 : Int64))), none, some (.int v6)]) dX8_bitsOf_44 (Nat.le_of_ble_eq_true rfl) rfl rfl ?_
        refine ll_iinc E (pc := 46) (lo' := [none, none, some (.double r8), none, some (.long (v4 + (1 : Int64))), none, some (.int (v6 + (1 : Int32)))]) dX8_bitsOf_46 rfl kc_1 (Nat.le_of_ble_eq_true rfl) rfl rfl ?_
        refine ll_goto E (pc := 49) (tgt := 18) dX8_bitsOf_49 rfl ?_
        exact ll_lo (lo' := [none, none, some (.double r8), none, some (.long (v4 + (1 : Int64))), none, some (.int (v6 + (1 : Int32)))]) ⟨rfl, rfl, rfl, trivial⟩ (ih r8 (v4 + (1 : Int64)) (v6 + (1 : Int32)) μ)
theorem ctX8_bitsOf {l : Launch} {D : va_G} {cI cR : ClassId} {ad : Nat → Nat} {μ : Mem} {a0 : UInt64} {r : Int64} {μ' : Mem} (hf : fX8_bitsOf μ a0 = some (r, μ')) : CT l yX8_bitsOf cX8_bitsOf 7 (some .long) 0 D cI cR ad shX NX [.double a0] μ (some (.long r)) μ' :=
  ct_of (own := RX8) (ov := fun r => some (.long r)) (by decide +kernel) rfl (Nat.le_of_ble_eq_true rfl) (fun p e s m below meth c A0 E hr => by
    refine ll_lo (lo' := [some (.double a0), none, none, none, none, none, none]) ⟨rfl, trivial⟩ ?_
    rw [fX8_bitsOf]
    refine ll_dload_n E (pc := 0) dX8_bitsOf_0 rfl ?_
    refine ll_dconst0 E (pc := 1) dX8_bitsOf_1 ?_
    refine ll_dcmp E (pc := 2) dX8_bitsOf_2 ?_
    refine ll_if_gt E (pc := 3) (tgt := 8) dX8_bitsOf_3 rfl ?_ ?_
    · refine ll_dload_n E (pc := 8) dX8_bitsOf_8 rfl ?_
      refine ll_dstore_n E (pc := 9) (lo' := [some (.double a0), none, some (.double a0), none, none, none, none]) dX8_bitsOf_9 (Nat.le_of_ble_eq_true rfl) rfl rfl ?_
      refine ll_ldc2 E (pc := 10) dX8_bitsOf_10 kw_X8_381 ?_
      refine ll_lstore E (pc := 13) (lo' := [some (.double a0), none, some (.double a0), none, some (.long (1023 : Int64)), none, none]) dX8_bitsOf_13 (Nat.le_of_ble_eq_true rfl) rfl rfl ?_
      refine ll_iconst E (pc := 15) dX8_bitsOf_15 kc_0 ?_
      refine ll_istore E (pc := 16) (lo' := [some (.double a0), none, some (.double a0), none, some (.long (1023 : Int64)), none, some (.int (0 : Int32))]) dX8_bitsOf_16 (Nat.le_of_ble_eq_true rfl) rfl rfl ?_
      exact ll_lo (lo' := [none, none, some (.double a0), none, some (.long (1023 : Int64)), none, some (.int (0 : Int32))]) ⟨rfl, rfl, rfl, trivial⟩ (kX8_bitsOf_L18 E hr fu a0 (1023 : Int64) (0 : Int32) μ)
    · refine ll_lconst E (pc := 6) (v := 0) dX8_bitsOf_6 rfl ?_
      exact ll_lreturn E (pc := 7) hr dX8_bitsOf_7) hf
theorem dX8_digest_0 : decode cX8_digest 0 = .ok (.aload_n 0, 1) := by decide +kernel
theorem dX8_digest_1 : decode cX8_digest 1 = .ok (.invokevirtual 124, 3) := by decide +kernel
theorem dX8_digest_4 : decode cX8_digest 4 = .ok (.astore_n 1, 1) := by decide +kernel
theorem dX8_digest_5 : decode cX8_digest 5 = .ok (.aload_n 0, 1) := by decide +kernel
theorem dX8_digest_6 : decode cX8_digest 6 = .ok (.invokevirtual 301, 3) := by decide +kernel
theorem dX8_digest_9 : decode cX8_digest 9 = .ok (.astore_n 2, 1) := by decide +kernel
theorem dX8_digest_10 : decode cX8_digest 10 = .ok (.aload_n 0, 1) := by decide +kernel
theorem dX8_digest_11 : decode cX8_digest 11 = .ok (.getfield 64, 3) := by decide +kernel
theorem dX8_digest_14 : decode cX8_digest 14 = .ok (.aload_n 0, 1) := by decide +kernel
theorem dX8_digest_15 : decode cX8_digest 15 = .ok (.getfield 12, 3) := by decide +kernel
theorem dX8_digest_18 : decode cX8_digest 18 = .ok (.iconst 1, 1) := by decide +kernel
theorem dX8_digest_19 : decode cX8_digest 19 = .ok (.aload_n 0, 1) := by decide +kernel
theorem dX8_digest_20 : decode cX8_digest 20 = .ok (.getfield 68, 3) := by decide +kernel
theorem dX8_digest_23 : decode cX8_digest 23 = .ok (.invokevirtual 285, 3) := by decide +kernel
theorem dX8_digest_26 : decode cX8_digest 26 = .ok (.aload_n 0, 1) := by decide +kernel
theorem dX8_digest_27 : decode cX8_digest 27 = .ok (.sipush 205, 3) := by decide +kernel
theorem dX8_digest_30 : decode cX8_digest 30 = .ok (.invokevirtual 289, 3) := by decide +kernel
theorem dX8_digest_33 : decode cX8_digest 33 = .ok (.ldc2_w 333, 3) := by decide +kernel
theorem dX8_digest_36 : decode cX8_digest 36 = .ok (.aload_n 0, 1) := by decide +kernel
theorem dX8_digest_37 : decode cX8_digest 37 = .ok (.getfield 12, 3) := by decide +kernel
theorem dX8_digest_40 : decode cX8_digest 40 = .ok (.getfield 81, 3) := by decide +kernel
theorem dX8_digest_43 : decode cX8_digest 43 = .ok (.i2l, 1) := by decide +kernel
theorem dX8_digest_44 : decode cX8_digest 44 = .ok (.invokestatic 335, 3) := by decide +kernel
theorem dX8_digest_47 : decode cX8_digest 47 = .ok (.lstore_n 3, 1) := by decide +kernel
theorem dX8_digest_48 : decode cX8_digest 48 = .ok (.lload_n 3, 1) := by decide +kernel
theorem dX8_digest_49 : decode cX8_digest 49 = .ok (.aload_n 1, 1) := by decide +kernel
theorem dX8_digest_50 : decode cX8_digest 50 = .ok (.invokevirtual 263, 3) := by decide +kernel
theorem dX8_digest_53 : decode cX8_digest 53 = .ok (.i2l, 1) := by decide +kernel
theorem dX8_digest_54 : decode cX8_digest 54 = .ok (.invokestatic 335, 3) := by decide +kernel
theorem dX8_digest_57 : decode cX8_digest 57 = .ok (.lstore_n 3, 1) := by decide +kernel
theorem dX8_digest_58 : decode cX8_digest 58 = .ok (.lload_n 3, 1) := by decide +kernel
theorem dX8_digest_59 : decode cX8_digest 59 = .ok (.aload_n 1, 1) := by decide +kernel
theorem dX8_digest_60 : decode cX8_digest 60 = .ok (.invokevirtual 266, 3) := by decide +kernel
theorem dX8_digest_63 : decode cX8_digest 63 = .ok (.i2l, 1) := by decide +kernel
theorem dX8_digest_64 : decode cX8_digest 64 = .ok (.invokestatic 335, 3) := by decide +kernel
theorem dX8_digest_67 : decode cX8_digest 67 = .ok (.lstore_n 3, 1) := by decide +kernel
theorem dX8_digest_68 : decode cX8_digest 68 = .ok (.lload_n 3, 1) := by decide +kernel
theorem dX8_digest_69 : decode cX8_digest 69 = .ok (.aload_n 0, 1) := by decide +kernel
theorem dX8_digest_70 : decode cX8_digest 70 = .ok (.invokevirtual 339, 3) := by decide +kernel
theorem dX8_digest_73 : decode cX8_digest 73 = .ok (.i2l, 1) := by decide +kernel
theorem dX8_digest_74 : decode cX8_digest 74 = .ok (.invokestatic 335, 3) := by decide +kernel
theorem dX8_digest_77 : decode cX8_digest 77 = .ok (.lstore_n 3, 1) := by decide +kernel
theorem dX8_digest_78 : decode cX8_digest 78 = .ok (.lload_n 3, 1) := by decide +kernel
theorem dX8_digest_79 : decode cX8_digest 79 = .ok (.aload_n 0, 1) := by decide +kernel
theorem dX8_digest_80 : decode cX8_digest 80 = .ok (.invokevirtual 342, 3) := by decide +kernel
theorem dX8_digest_83 : decode cX8_digest 83 = .ok (.i2l, 1) := by decide +kernel
theorem dX8_digest_84 : decode cX8_digest 84 = .ok (.invokestatic 335, 3) := by decide +kernel
theorem dX8_digest_87 : decode cX8_digest 87 = .ok (.lstore_n 3, 1) := by decide +kernel
theorem dX8_digest_88 : decode cX8_digest 88 = .ok (.lload_n 3, 1) := by decide +kernel
theorem dX8_digest_89 : decode cX8_digest 89 = .ok (.aload_n 0, 1) := by decide +kernel
theorem dX8_digest_90 : decode cX8_digest 90 = .ok (.invokevirtual 345, 3) := by decide +kernel
theorem dX8_digest_93 : decode cX8_digest 93 = .ok (.i2l, 1) := by decide +kernel
theorem dX8_digest_94 : decode cX8_digest 94 = .ok (.invokestatic 335, 3) := by decide +kernel
theorem dX8_digest_97 : decode cX8_digest 97 = .ok (.lstore_n 3, 1) := by decide +kernel
theorem dX8_digest_98 : decode cX8_digest 98 = .ok (.lload_n 3, 1) := by decide +kernel
theorem dX8_digest_99 : decode cX8_digest 99 = .ok (.aload_n 0, 1) := by decide +kernel
theorem dX8_digest_100 : decode cX8_digest 100 = .ok (.invokevirtual 348, 3) := by decide +kernel
theorem dX8_digest_103 : decode cX8_digest 103 = .ok (.i2l, 1) := by decide +kernel
theorem dX8_digest_104 : decode cX8_digest 104 = .ok (.invokestatic 335, 3) := by decide +kernel
theorem dX8_digest_107 : decode cX8_digest 107 = .ok (.lstore_n 3, 1) := by decide +kernel
theorem dX8_digest_108 : decode cX8_digest 108 = .ok (.lload_n 3, 1) := by decide +kernel
theorem dX8_digest_109 : decode cX8_digest 109 = .ok (.aload_n 0, 1) := by decide +kernel
theorem dX8_digest_110 : decode cX8_digest 110 = .ok (.getfield 68, 3) := by decide +kernel
theorem dX8_digest_113 : decode cX8_digest 113 = .ok (.aload_n 0, 1) := by decide +kernel
theorem dX8_digest_114 : decode cX8_digest 114 = .ok (.getfield 72, 3) := by decide +kernel
theorem dX8_digest_117 : decode cX8_digest 117 = .ok (.invokestatic 294, 3) := by decide +kernel
theorem dX8_digest_120 : decode cX8_digest 120 = .ok (.ifCond .eq 7, 3) := by decide +kernel
theorem dX8_digest_123 : decode cX8_digest 123 = .ok (.lconst 1, 1) := by decide +kernel
theorem dX8_digest_124 : decode cX8_digest 124 = .ok (.goto 4, 3) := by decide +kernel
theorem dX8_digest_127 : decode cX8_digest 127 = .ok (.lconst 0, 1) := by decide +kernel
theorem dX8_digest_128 : decode cX8_digest 128 = .ok (.invokestatic 335, 3) := by decide +kernel
theorem dX8_digest_131 : decode cX8_digest 131 = .ok (.lstore_n 3, 1) := by decide +kernel
theorem dX8_digest_132 : decode cX8_digest 132 = .ok (.lload_n 3, 1) := by decide +kernel
theorem dX8_digest_133 : decode cX8_digest 133 = .ok (.aload_n 0, 1) := by decide +kernel
theorem dX8_digest_134 : decode cX8_digest 134 = .ok (.invokevirtual 351, 3) := by decide +kernel
theorem dX8_digest_137 : decode cX8_digest 137 = .ok (.i2l, 1) := by decide +kernel
theorem dX8_digest_138 : decode cX8_digest 138 = .ok (.invokestatic 335, 3) := by decide +kernel
theorem dX8_digest_141 : decode cX8_digest 141 = .ok (.lstore_n 3, 1) := by decide +kernel
theorem dX8_digest_142 : decode cX8_digest 142 = .ok (.lload_n 3, 1) := by decide +kernel
theorem dX8_digest_143 : decode cX8_digest 143 = .ok (.aload_n 2, 1) := by decide +kernel
theorem dX8_digest_144 : decode cX8_digest 144 = .ok (.getfield 305, 3) := by decide +kernel
theorem dX8_digest_147 : decode cX8_digest 147 = .ok (.i2l, 1) := by decide +kernel
theorem dX8_digest_148 : decode cX8_digest 148 = .ok (.invokestatic 335, 3) := by decide +kernel
theorem dX8_digest_151 : decode cX8_digest 151 = .ok (.lstore_n 3, 1) := by decide +kernel
theorem dX8_digest_152 : decode cX8_digest 152 = .ok (.lload_n 3, 1) := by decide +kernel
theorem dX8_digest_153 : decode cX8_digest 153 = .ok (.aload_n 0, 1) := by decide +kernel
theorem dX8_digest_154 : decode cX8_digest 154 = .ok (.invokevirtual 354, 3) := by decide +kernel
theorem dX8_digest_157 : decode cX8_digest 157 = .ok (.i2l, 1) := by decide +kernel
theorem dX8_digest_158 : decode cX8_digest 158 = .ok (.invokestatic 335, 3) := by decide +kernel
theorem dX8_digest_161 : decode cX8_digest 161 = .ok (.lstore_n 3, 1) := by decide +kernel
theorem dX8_digest_162 : decode cX8_digest 162 = .ok (.lload_n 3, 1) := by decide +kernel
theorem dX8_digest_163 : decode cX8_digest 163 = .ok (.aload_n 2, 1) := by decide +kernel
theorem dX8_digest_164 : decode cX8_digest 164 = .ok (.getfield 312, 3) := by decide +kernel
theorem dX8_digest_167 : decode cX8_digest 167 = .ok (.i2l, 1) := by decide +kernel
theorem dX8_digest_168 : decode cX8_digest 168 = .ok (.invokestatic 335, 3) := by decide +kernel
theorem dX8_digest_171 : decode cX8_digest 171 = .ok (.lstore_n 3, 1) := by decide +kernel
theorem dX8_digest_172 : decode cX8_digest 172 = .ok (.lload_n 3, 1) := by decide +kernel
theorem dX8_digest_173 : decode cX8_digest 173 = .ok (.aload_n 2, 1) := by decide +kernel
theorem dX8_digest_174 : decode cX8_digest 174 = .ok (.getfield 312, 3) := by decide +kernel
theorem dX8_digest_177 : decode cX8_digest 177 = .ok (.iconst 1, 1) := by decide +kernel
theorem dX8_digest_178 : decode cX8_digest 178 = .ok (.isub, 1) := by decide +kernel
theorem dX8_digest_179 : decode cX8_digest 179 = .ok (.aload_n 0, 1) := by decide +kernel
theorem dX8_digest_180 : decode cX8_digest 180 = .ok (.getfield 12, 3) := by decide +kernel
theorem dX8_digest_183 : decode cX8_digest 183 = .ok (.getfield 164, 3) := by decide +kernel
theorem dX8_digest_186 : decode cX8_digest 186 = .ok (.isub, 1) := by decide +kernel
theorem dX8_digest_187 : decode cX8_digest 187 = .ok (.i2l, 1) := by decide +kernel
theorem dX8_digest_188 : decode cX8_digest 188 = .ok (.invokestatic 335, 3) := by decide +kernel
theorem dX8_digest_191 : decode cX8_digest 191 = .ok (.lstore_n 3, 1) := by decide +kernel
theorem dX8_digest_192 : decode cX8_digest 192 = .ok (.lload_n 3, 1) := by decide +kernel
theorem dX8_digest_193 : decode cX8_digest 193 = .ok (.aload_n 0, 1) := by decide +kernel
theorem dX8_digest_194 : decode cX8_digest 194 = .ok (.aload_n 2, 1) := by decide +kernel
theorem dX8_digest_195 : decode cX8_digest 195 = .ok (.invokevirtual 318, 3) := by decide +kernel
theorem dX8_digest_198 : decode cX8_digest 198 = .ok (.i2l, 1) := by decide +kernel
theorem dX8_digest_199 : decode cX8_digest 199 = .ok (.invokestatic 335, 3) := by decide +kernel
theorem dX8_digest_202 : decode cX8_digest 202 = .ok (.lstore_n 3, 1) := by decide +kernel
theorem dX8_digest_203 : decode cX8_digest 203 = .ok (.iconst 0, 1) := by decide +kernel
theorem dX8_digest_204 : decode cX8_digest 204 = .ok (.istore 5, 2) := by decide +kernel
theorem dX8_digest_206 : decode cX8_digest 206 = .ok (.iload 5, 2) := by decide +kernel
theorem dX8_digest_208 : decode cX8_digest 208 = .ok (.aload_n 0, 1) := by decide +kernel
theorem dX8_digest_209 : decode cX8_digest 209 = .ok (.getfield 12, 3) := by decide +kernel
theorem dX8_digest_212 : decode cX8_digest 212 = .ok (.getfield 81, 3) := by decide +kernel
theorem dX8_digest_215 : decode cX8_digest 215 = .ok (.if_icmp .ge 19, 3) := by decide +kernel
theorem dX8_digest_218 : decode cX8_digest 218 = .ok (.aload_n 0, 1) := by decide +kernel
theorem dX8_digest_219 : decode cX8_digest 219 = .ok (.lload_n 3, 1) := by decide +kernel
theorem dX8_digest_220 : decode cX8_digest 220 = .ok (.iload 5, 2) := by decide +kernel
theorem dX8_digest_222 : decode cX8_digest 222 = .ok (.aload_n 1, 1) := by decide +kernel
theorem dX8_digest_223 : decode cX8_digest 223 = .ok (.aload_n 2, 1) := by decide +kernel
theorem dX8_digest_224 : decode cX8_digest 224 = .ok (.invokevirtual 357, 3) := by decide +kernel
theorem dX8_digest_227 : decode cX8_digest 227 = .ok (.lstore_n 3, 1) := by decide +kernel
theorem dX8_digest_228 : decode cX8_digest 228 = .ok (.iinc 5 1, 3) := by decide +kernel
theorem dX8_digest_231 : decode cX8_digest 231 = .ok (.goto (-25), 3) := by decide +kernel
theorem dX8_digest_234 : decode cX8_digest 234 = .ok (.aload_n 0, 1) := by decide +kernel
theorem dX8_digest_235 : decode cX8_digest 235 = .ok (.invokevirtual 339, 3) := by decide +kernel
theorem dX8_digest_238 : decode cX8_digest 238 = .ok (.istore 5, 2) := by decide +kernel
theorem dX8_digest_240 : decode cX8_digest 240 = .ok (.iconst 0, 1) := by decide +kernel
theorem dX8_digest_241 : decode cX8_digest 241 = .ok (.istore 6, 2) := by decide +kernel
theorem dX8_digest_243 : decode cX8_digest 243 = .ok (.iload 6, 2) := by decide +kernel
theorem dX8_digest_245 : decode cX8_digest 245 = .ok (.iload 5, 2) := by decide +kernel
theorem dX8_digest_247 : decode cX8_digest 247 = .ok (.if_icmp .ge 24, 3) := by decide +kernel
theorem dX8_digest_250 : decode cX8_digest 250 = .ok (.lload_n 3, 1) := by decide +kernel
theorem dX8_digest_251 : decode cX8_digest 251 = .ok (.aload_n 0, 1) := by decide +kernel
theorem dX8_digest_252 : decode cX8_digest 252 = .ok (.getfield 12, 3) := by decide +kernel
theorem dX8_digest_255 : decode cX8_digest 255 = .ok (.iload 6, 2) := by decide +kernel
theorem dX8_digest_257 : decode cX8_digest 257 = .ok (.invokevirtual 269, 3) := by decide +kernel
theorem dX8_digest_260 : decode cX8_digest 260 = .ok (.i2l, 1) := by decide +kernel
theorem dX8_digest_261 : decode cX8_digest 261 = .ok (.invokestatic 335, 3) := by decide +kernel
theorem dX8_digest_264 : decode cX8_digest 264 = .ok (.lstore_n 3, 1) := by decide +kernel
theorem dX8_digest_265 : decode cX8_digest 265 = .ok (.iinc 6 1, 3) := by decide +kernel
theorem dX8_digest_268 : decode cX8_digest 268 = .ok (.goto (-25), 3) := by decide +kernel
theorem dX8_digest_271 : decode cX8_digest 271 = .ok (.aload_n 0, 1) := by decide +kernel
theorem dX8_digest_272 : decode cX8_digest 272 = .ok (.aload_n 2, 1) := by decide +kernel
theorem dX8_digest_273 : decode cX8_digest 273 = .ok (.iconst 3, 1) := by decide +kernel
theorem dX8_digest_274 : decode cX8_digest 274 = .ok (.invokevirtual 329, 3) := by decide +kernel
theorem dX8_digest_277 : decode cX8_digest 277 = .ok (.aload_n 0, 1) := by decide +kernel
theorem dX8_digest_278 : decode cX8_digest 278 = .ok (.getfield 64, 3) := by decide +kernel
theorem dX8_digest_281 : decode cX8_digest 281 = .ok (.aload_n 0, 1) := by decide +kernel
theorem dX8_digest_282 : decode cX8_digest 282 = .ok (.getfield 12, 3) := by decide +kernel
theorem dX8_digest_285 : decode cX8_digest 285 = .ok (.iconst 3, 1) := by decide +kernel
theorem dX8_digest_286 : decode cX8_digest 286 = .ok (.aload_n 0, 1) := by decide +kernel
theorem dX8_digest_287 : decode cX8_digest 287 = .ok (.getfield 78, 3) := by decide +kernel
theorem dX8_digest_290 : decode cX8_digest 290 = .ok (.invokevirtual 285, 3) := by decide +kernel
theorem dX8_digest_293 : decode cX8_digest 293 = .ok (.aload_n 0, 1) := by decide +kernel
theorem dX8_digest_294 : decode cX8_digest 294 = .ok (.lload_n 3, 1) := by decide +kernel
theorem dX8_digest_295 : decode cX8_digest 295 = .ok (.invokevirtual 361, 3) := by decide +kernel
theorem dX8_digest_298 : decode cX8_digest 298 = .ok (.lstore_n 3, 1) := by decide +kernel
theorem dX8_digest_299 : decode cX8_digest 299 = .ok (.aload_n 0, 1) := by decide +kernel
theorem dX8_digest_300 : decode cX8_digest 300 = .ok (.aload_n 2, 1) := by decide +kernel
theorem dX8_digest_301 : decode cX8_digest 301 = .ok (.iconst 2, 1) := by decide +kernel
theorem dX8_digest_302 : decode cX8_digest 302 = .ok (.invokevirtual 329, 3) := by decide +kernel
theorem dX8_digest_305 : decode cX8_digest 305 = .ok (.aload_n 0, 1) := by decide +kernel
theorem dX8_digest_306 : decode cX8_digest 306 = .ok (.lload_n 3, 1) := by decide +kernel
theorem dX8_digest_307 : decode cX8_digest 307 = .ok (.invokevirtual 365, 3) := by decide +kernel
theorem dX8_digest_310 : decode cX8_digest 310 = .ok (.lstore_n 3, 1) := by decide +kernel
theorem dX8_digest_311 : decode cX8_digest 311 = .ok (.lload_n 3, 1) := by decide +kernel
theorem dX8_digest_312 : decode cX8_digest 312 = .ok (.aload_n 0, 1) := by decide +kernel
theorem dX8_digest_313 : decode cX8_digest 313 = .ok (.aload_n 2, 1) := by decide +kernel
theorem dX8_digest_314 : decode cX8_digest 314 = .ok (.iconst 4, 1) := by decide +kernel
theorem dX8_digest_315 : decode cX8_digest 315 = .ok (.invokevirtual 325, 3) := by decide +kernel
theorem dX8_digest_318 : decode cX8_digest 318 = .ok (.i2l, 1) := by decide +kernel
theorem dX8_digest_319 : decode cX8_digest 319 = .ok (.invokestatic 335, 3) := by decide +kernel
theorem dX8_digest_322 : decode cX8_digest 322 = .ok (.lstore_n 3, 1) := by decide +kernel
theorem dX8_digest_323 : decode cX8_digest 323 = .ok (.lload_n 3, 1) := by decide +kernel
theorem dX8_digest_324 : decode cX8_digest 324 = .ok (.aload_n 0, 1) := by decide +kernel
theorem dX8_digest_325 : decode cX8_digest 325 = .ok (.getfield 19, 3) := by decide +kernel
theorem dX8_digest_328 : decode cX8_digest 328 = .ok (.getfield 221, 3) := by decide +kernel
theorem dX8_digest_331 : decode cX8_digest 331 = .ok (.i2l, 1) := by decide +kernel
theorem dX8_digest_332 : decode cX8_digest 332 = .ok (.invokestatic 335, 3) := by decide +kernel
theorem dX8_digest_335 : decode cX8_digest 335 = .ok (.lstore_n 3, 1) := by decide +kernel
theorem dX8_digest_336 : decode cX8_digest 336 = .ok (.lload_n 3, 1) := by decide +kernel
theorem dX8_digest_337 : decode cX8_digest 337 = .ok (.aload_n 0, 1) := by decide +kernel
theorem dX8_digest_338 : decode cX8_digest 338 = .ok (.invokevirtual 368, 3) := by decide +kernel
theorem dX8_digest_341 : decode cX8_digest 341 = .ok (.invokestatic 372, 3) := by decide +kernel
theorem dX8_digest_344 : decode cX8_digest 344 = .ok (.invokestatic 335, 3) := by decide +kernel
theorem dX8_digest_347 : decode cX8_digest 347 = .ok (.lstore_n 3, 1) := by decide +kernel
theorem dX8_digest_348 : decode cX8_digest 348 = .ok (.lload_n 3, 1) := by decide +kernel
theorem dX8_digest_349 : decode cX8_digest 349 = .ok (.aload_n 0, 1) := by decide +kernel
theorem dX8_digest_350 : decode cX8_digest 350 = .ok (.getfield 235, 3) := by decide +kernel
theorem dX8_digest_353 : decode cX8_digest 353 = .ok (.ifCond .eq 7, 3) := by decide +kernel
theorem dX8_digest_356 : decode cX8_digest 356 = .ok (.lconst 1, 1) := by decide +kernel
theorem dX8_digest_357 : decode cX8_digest 357 = .ok (.goto 4, 3) := by decide +kernel
theorem dX8_digest_360 : decode cX8_digest 360 = .ok (.lconst 0, 1) := by decide +kernel
theorem dX8_digest_361 : decode cX8_digest 361 = .ok (.invokestatic 335, 3) := by decide +kernel
theorem dX8_digest_364 : decode cX8_digest 364 = .ok (.lstore_n 3, 1) := by decide +kernel
theorem dX8_digest_365 : decode cX8_digest 365 = .ok (.aload_n 0, 1) := by decide +kernel
theorem dX8_digest_366 : decode cX8_digest 366 = .ok (.getfield 29, 3) := by decide +kernel
theorem dX8_digest_369 : decode cX8_digest 369 = .ok (.lload_n 3, 1) := by decide +kernel
theorem dX8_digest_370 : decode cX8_digest 370 = .ok (.invokevirtual 376, 3) := by decide +kernel
theorem dX8_digest_373 : decode cX8_digest 373 = .ok (.lreturn, 1) := by decide +kernel
def fX8_digest_L361 (s0 : Int64) (s1 : Int64) (μ : Mem) : Option (Int64 × Mem) :=
  bd (fX8_mixed μ s1 s0) fun r92 μ91 =>
  bd (fX7_hashOfSigns μ91 r92) fun r94 μ93 =>
  some (r94, μ93)
def fX8_digest_L243 : Nat → Int64 → Int32 → Int32 → Mem → Option (Int64 × Mem)
  | 0, _, _, _, _ => none
  | n + 1, v3, v5, v6, μ =>   if v5 ≤ v6 then
  bd (fX8_doLoop μ (3 : Int32)) fun _ μ95 =>
  bd (fX5_doInOrder μ95 (3 : Int32) 100) fun _ μ97 =>
  bd (fX8_hashOfRegisters μ97 v3) fun r100 μ99 =>
  bd (fX8_doLoop μ99 (2 : Int32)) fun _ μ101 =>
  bd (fX8_hashOfCells μ101 r100) fun r104 μ103 =>
  bd (fX8_spanIn μ103 (4 : Int32)) fun r106 μ105 =>
  bd (fX8_mixed μ105 r104 (Int32.toInt64 r106)) fun r108 μ107 =>
  bd (fX8_mixed μ107 r108 (Int32.toInt64 (μ107 11 1))) fun r110 μ109 =>
  bd (fX8_filledShare μ109) fun r112 μ111 =>
  bd (fX8_bitsOf μ111 r112) fun r114 μ113 =>
  bd (fX8_mixed μ113 r110 r114) fun r116 μ115 =>
  if (μ115 0 3) = 0 then
  fX8_digest_L361 (0 : Int64) r116 μ115
  else
  fX8_digest_L361 (1 : Int64) r116 μ115
  else
  bd (fX6_setLaidIn μ v6) fun r118 μ117 =>
  bd (fX8_mixed μ117 v3 (Int32.toInt64 r118)) fun r120 μ119 =>
  fX8_digest_L243 n r120 v5 (v6 + (1 : Int32)) μ119
def fX8_digest_L206 : Nat → Int64 → Int32 → Mem → Option (Int64 × Mem)
  | 0, _, _, _ => none
  | n + 1, v3, v5, μ =>   if (μ 1 0) ≤ v5 then
  bd (fX8_bundles μ) fun r122 μ121 =>
  fX8_digest_L243 fu v3 r122 (0 : Int32) μ121
  else
  bd (fX8_hashOfStep μ v3 v5) fun r124 μ123 =>
  fX8_digest_L206 n r124 (v5 + (1 : Int32)) μ123
def fX8_digest_L128 (s0 : Int64) (s1 : Int64) (μ : Mem) : Option (Int64 × Mem) :=
  bd (fX8_mixed μ s1 s0) fun r126 μ125 =>
  bd (fX8_beatByUnits μ125) fun r128 μ127 =>
  bd (fX8_mixed μ127 r126 (Int32.toInt64 r128)) fun r130 μ129 =>
  bd (fX8_mixed μ129 r130 (Int32.toInt64 (μ129 89 2))) fun r132 μ131 =>
  bd (fX8_beatByRounds μ131) fun r134 μ133 =>
  bd (fX8_mixed μ133 r132 (Int32.toInt64 r134)) fun r136 μ135 =>
  bd (fX8_mixed μ135 r136 (Int32.toInt64 (μ135 89 3))) fun r138 μ137 =>
  bd (fX8_mixed μ137 r138 (Int32.toInt64 (((μ137 89 3) - (1 : Int32)) - (μ137 1 10)))) fun r140 μ139 =>
  bd (fX8_overlapIn μ139) fun r142 μ141 =>
  bd (fX8_mixed μ141 r140 (Int32.toInt64 r142)) fun r144 μ143 =>
  fX8_digest_L206 fu r144 (0 : Int32) μ143
def fX8_digest (μ : Mem) : Option (Int64 × Mem) :=
  bd (fX8_freshLinks μ) fun _ μ145 =>
  bd (fX8_freshLoop μ145) fun _ μ147 =>
  bd (fX5_doInOrder μ147 (1 : Int32) 97) fun _ μ149 =>
  bd (fX8_doBundles μ149 (205 : Int32)) fun _ μ151 =>
  bd (fX8_mixed μ151 (4643 : Int64) (Int32.toInt64 (μ151 1 0))) fun r154 μ153 =>
  bd (fX2_greatestHeight μ153) fun r156 μ155 =>
  bd (fX8_mixed μ155 r154 (Int32.toInt64 r156)) fun r158 μ157 =>
  bd (fX2_lastResult μ157) fun r160 μ159 =>
  bd (fX8_mixed μ159 r158 (Int32.toInt64 r160)) fun r162 μ161 =>
  bd (fX8_bundles μ161) fun r164 μ163 =>
  bd (fX8_mixed μ163 r162 (Int32.toInt64 r164)) fun r166 μ165 =>
  bd (fX8_whyWrong μ165) fun r168 μ167 =>
  bd (fX8_mixed μ167 r166 (Int32.toInt64 r168)) fun r170 μ169 =>
  bd (fX8_wrongAt μ169) fun r172 μ171 =>
  bd (fX8_mixed μ171 r170 (Int32.toInt64 r172)) fun r174 μ173 =>
  bd (fX8_wouldPack μ173) fun r176 μ175 =>
  bd (fX8_mixed μ175 r174 (Int32.toInt64 r176)) fun r178 μ177 =>
  bd (fX8_areAlike μ177) fun r180 μ179 =>
  if r180 = 0 then
  fX8_digest_L128 (0 : Int64) r178 μ179
  else
  fX8_digest_L128 (1 : Int64) r178 μ179
theorem kX8_digest_L361 {p : Program} {l : Launch} {e : Env} {s : State} {m : MethodId} {args : Array Value} {below : List Frame} {meth : Method} {c : Code} {D : va_G} {cI cR : ClassId} {ad : Nat → Nat} {A0 : Nat → Prop} (E : EV p s m args meth c cX8_digest 7 RX8 D cI cR ad shX NX A0) (hr : meth.sig.returnType = (some .long)) (s0 : Int64) (s1 : Int64) (μ : Mem) : LL p l e (RM 6) s m args below meth c 7 D cI cR ad shX NX A0 (fun (r : Int64) μ' => KG below args s D cI cR ad shX NX A0 (some (.long r)) μ') (fX8_digest_L361 s0 s1 μ) 0 0 361 [some (.ref (ad 0)), none, none, none, none, none, none] [.long s0, .long s1] μ := by
  rw [fX8_digest_L361]
  refine ll_callSj E (pc := 361) (d := 0) [.long s1, .long s0] [] dX8_digest_361 cv_X8_335 (fun h => ctX8_mixed h) rfl rfl (Nat.le_of_ble_eq_true rfl) ⟨(Nat.le_of_ble_eq_true rfl), (Nat.le_of_ble_eq_true rfl)⟩ ⟨(Nat.le_of_ble_eq_true rfl), (Nat.le_of_ble_eq_true rfl)⟩ ?_
  intro r92 μ91
  refine ll_lstore_n E (pc := 364) (lo' := [some (.ref (ad 0)), none, none, some (.long r92), none, none, none]) dX8_digest_364 (Nat.le_of_ble_eq_true rfl) rfl rfl ?_
  refine ll_aload_n E (pc := 365) dX8_digest_365 rfl ?_
  refine ll_getfr E (pc := 366) (o9 := 0) (ci := 8) (k9 := 4) (q := 73) dX8_digest_366 fl_X8_29 (Nat.le_of_ble_eq_true rfl) fx_0_4 ?_
  refine ll_lload_n E (pc := 369) dX8_digest_369 rfl ?_
  refine ll_callVj E (pc := 370) (d := 1) (ci := 7) (o9 := 73) [.long r92] [] dX8_digest_370 cv_X8_376 (fun h => ctX7_hashOfSigns h) (Nat.le_of_ble_eq_true rfl) sx_73 ci_7 rfl rfl (Nat.le_of_ble_eq_true rfl) ⟨(Nat.le_of_ble_eq_true rfl), (Nat.le_of_ble_eq_true rfl)⟩ ⟨(Nat.le_of_ble_eq_true rfl), (Nat.le_of_ble_eq_true rfl)⟩ ?_
  intro r94 μ93
  exact ll_lreturn E (pc := 373) hr dX8_digest_373
theorem kX8_digest_L243 {p : Program} {l : Launch} {e : Env} {s : State} {m : MethodId} {args : Array Value} {below : List Frame} {meth : Method} {c : Code} {D : va_G} {cI cR : ClassId} {ad : Nat → Nat} {A0 : Nat → Prop} (E : EV p s m args meth c cX8_digest 7 RX8 D cI cR ad shX NX A0) (hr : meth.sig.returnType = (some .long)) (n : Nat) : ∀ (v3 : Int64) (v5 : Int32) (v6 : Int32) (μ : Mem), LL p l e (RM 6) s m args below meth c 7 D cI cR ad shX NX A0 (fun (r : Int64) μ' => KG below args s D cI cR ad shX NX A0 (some (.long r)) μ') (fX8_digest_L243 n v3 v5 v6 μ) 0 0 243 [some (.ref (ad 0)), none, some (.ref (ad 89)), some (.long v3), none, some (.int v5), some (.int v6)] [] μ := by
  induction n with
  | zero =>
    intros
    exact ll_none
  | succ n ih =>
    intro v3 v5 v6 μ
    rw [fX8_digest_L243]
    refine ll_iload E (pc := 243) dX8_digest_243 rfl ?_
    refine ll_iload E (pc := 245) dX8_digest_245 rfl ?_
    refine ll_icmp_ge E (pc := 247) (tgt := 271) dX8_digest_247 rfl ?_ ?_
    · refine ll_aload_n E (pc := 271) dX8_digest_271 rfl ?_
      refine ll_aload_n E (pc := 272) dX8_digest_272 rfl ?_
      refine ll_iconst E (pc := 273) dX8_digest_273 kc_3 ?_
      refine ll_callVv E (pc := 274) (d := 5) (ci := 8) (o9 := 0) [.ref (ad 89), .int (3 : Int32)] [] dX8_digest_274 cv_X8_329 (fun h => ctX8_doLoop h) (Nat.le_of_ble_eq_true rfl) sx_0 ci_8 rfl rfl (Nat.le_of_ble_eq_true rfl) ⟨(Nat.le_of_ble_eq_true rfl), (Nat.le_of_ble_eq_true rfl)⟩ ⟨(Nat.le_of_ble_eq_true rfl), (Nat.le_of_ble_eq_true rfl)⟩ ?_
      intro r96 μ95
      refine ll_aload_n E (pc := 277) dX8_digest_277 rfl ?_
      refine ll_getfr E (pc := 278) (o9 := 0) (ci := 8) (k9 := 11) (q := 92) dX8_digest_278 fl_X8_64 (Nat.le_of_ble_eq_true rfl) fx_0_11 ?_
      refine ll_aload_n E (pc := 281) dX8_digest_281 rfl ?_
      refine ll_getfr E (pc := 282) (o9 := 0) (ci := 8) (k9 := 0) (q := 1) dX8_digest_282 fl_X8_12 (Nat.le_of_ble_eq_true rfl) fx_0_0 ?_
      refine ll_iconst E (pc := 285) dX8_digest_285 kc_3 ?_
      refine ll_aload_n E (pc := 286) dX8_digest_286 rfl ?_
      refine ll_getfr E (pc := 287) (o9 := 0) (ci := 8) (k9 := 15) (q := 100) dX8_digest_287 fl_X8_78 (Nat.le_of_ble_eq_true rfl) fx_0_15 ?_
      refine ll_callVv E (pc := 290) (d := 3) (ci := 5) (o9 := 92) [.ref (ad 1), .int (3 : Int32), .ref (ad 100)] [] dX8_digest_290 cv_X8_285 (fun h => ctX5_doInOrder px_100 h) (Nat.le_of_ble_eq_true rfl) sx_92 ci_5 rfl rfl (Nat.le_of_ble_eq_true rfl) ⟨(Nat.le_of_ble_eq_true rfl), (Nat.le_of_ble_eq_true rfl)⟩ ⟨(Nat.le_of_ble_eq_true rfl), (Nat.le_of_ble_eq_true rfl)⟩ ?_
      intro r98 μ97
      refine ll_aload_n E (pc := 293) dX8_digest_293 rfl ?_
      refine ll_lload_n E (pc := 294) dX8_digest_294 rfl ?_
      refine ll_callVj E (pc := 295) (d := 1) (ci := 8) (o9 := 0) [.long v3] [] dX8_digest_295 cv_X8_361 (fun h => ctX8_hashOfRegisters h) (Nat.le_of_ble_eq_true rfl) sx_0 ci_8 rfl rfl (Nat.le_of_ble_eq_true rfl) ⟨(Nat.le_of_ble_eq_true rfl), (Nat.le_of_ble_eq_true rfl)⟩ ⟨(Nat.le_of_ble_eq_true rfl), (Nat.le_of_ble_eq_true rfl)⟩ ?_
      intro r100 μ99
      refine ll_lstore_n E (pc := 298) (lo' := [some (.ref (ad 0)), none, some (.ref (ad 89)), some (.long r100), none, some (.int v5), some (.int v6)]) dX8_digest_298 (Nat.le_of_ble_eq_true rfl) rfl rfl ?_
      refine ll_aload_n E (pc := 299) dX8_digest_299 rfl ?_
      refine ll_aload_n E (pc := 300) dX8_digest_300 rfl ?_
      refine ll_iconst E (pc := 301) dX8_digest_301 kc_2 ?_
      refine ll_callVv E (pc := 302) (d := 5) (ci := 8) (o9 := 0) [.ref (ad 89), .int (2 : Int32)] [] dX8_digest_302 cv_X8_329 (fun h => ctX8_doLoop h) (Nat.le_of_ble_eq_true rfl) sx_0 ci_8 rfl rfl (Nat.le_of_ble_eq_true rfl) ⟨(Nat.le_of_ble_eq_true rfl), (Nat.le_of_ble_eq_true rfl)⟩ ⟨(Nat.le_of_ble_eq_true rfl), (Nat.le_of_ble_eq_true rfl)⟩ ?_
      intro r102 μ101
      refine ll_aload_n E (pc := 305) dX8_digest_305 rfl ?_
      refine ll_lload_n E (pc := 306) dX8_digest_306 rfl ?_
      refine ll_callVj E (pc := 307) (d := 1) (ci := 8) (o9 := 0) [.long r100] [] dX8_digest_307 cv_X8_365 (fun h => ctX8_hashOfCells h) (Nat.le_of_ble_eq_true rfl) sx_0 ci_8 rfl rfl (Nat.le_of_ble_eq_true rfl) ⟨(Nat.le_of_ble_eq_true rfl), (Nat.le_of_ble_eq_true rfl)⟩ ⟨(Nat.le_of_ble_eq_true rfl), (Nat.le_of_ble_eq_true rfl)⟩ ?_
      intro r104 μ103
      refine ll_lstore_n E (pc := 310) (lo' := [some (.ref (ad 0)), none, some (.ref (ad 89)), some (.long r104), none, some (.int v5), some (.int v6)]) dX8_digest_310 (Nat.le_of_ble_eq_true rfl) rfl rfl ?_
      refine ll_lload_n E (pc := 311) dX8_digest_311 rfl ?_
      refine ll_aload_n E (pc := 312) dX8_digest_312 rfl ?_
      refine ll_aload_n E (pc := 313) dX8_digest_313 rfl ?_
      refine ll_iconst E (pc := 314) dX8_digest_314 kc_4 ?_
      refine ll_callVi E (pc := 315) (d := 2) (ci := 8) (o9 := 0) [.ref (ad 89), .int (4 : Int32)] [.long r104] dX8_digest_315 cv_X8_325 (fun h => ctX8_spanIn h) (Nat.le_of_ble_eq_true rfl) sx_0 ci_8 rfl rfl (Nat.le_of_ble_eq_true rfl) ⟨(Nat.le_of_ble_eq_true rfl), (Nat.le_of_ble_eq_true rfl)⟩ ⟨(Nat.le_of_ble_eq_true rfl), (Nat.le_of_ble_eq_true rfl)⟩ ?_
      intro r106 μ105
      refine ll_i2l E (pc := 318) dX8_digest_318 ?_
      refine ll_callSj E (pc := 319) (d := 0) [.long r104, .long (Int32.toInt64 r106)] [] dX8_digest_319 cv_X8_335 (fun h => ctX8_mixed h) rfl rfl (Nat.le_of_ble_eq_true rfl) ⟨(Nat.le_of_ble_eq_true rfl), (Nat.le_of_ble_eq_true rfl)⟩ ⟨(Nat.le_of_ble_eq_true rfl), (Nat.le_of_ble_eq_true rfl)⟩ ?_
      intro r108 μ107
      refine ll_lstore_n E (pc := 322) (lo' := [some (.ref (ad 0)), none, some (.ref (ad 89)), some (.long r108), none, some (.int v5), some (.int v6)]) dX8_digest_322 (Nat.le_of_ble_eq_true rfl) rfl rfl ?_
      refine ll_lload_n E (pc := 323) dX8_digest_323 rfl ?_
      refine ll_aload_n E (pc := 324) dX8_digest_324 rfl ?_
      refine ll_getfr E (pc := 325) (o9 := 0) (ci := 8) (k9 := 1) (q := 11) dX8_digest_325 fl_X8_19 (Nat.le_of_ble_eq_true rfl) fx_0_1 ?_
      refine ll_getf E (pc := 328) (o9 := 11) (ci := 1) (k9 := 1) dX8_digest_328 fl_X8_221 (Nat.le_of_ble_eq_true rfl) fx_11_1 ?_
      refine ll_i2l E (pc := 331) dX8_digest_331 ?_
      refine ll_callSj E (pc := 332) (d := 0) [.long r108, .long (Int32.toInt64 (μ107 11 1))] [] dX8_digest_332 cv_X8_335 (fun h => ctX8_mixed h) rfl rfl (Nat.le_of_ble_eq_true rfl) ⟨(Nat.le_of_ble_eq_true rfl), (Nat.le_of_ble_eq_true rfl)⟩ ⟨(Nat.le_of_ble_eq_true rfl), (Nat.le_of_ble_eq_true rfl)⟩ ?_
      intro r110 μ109
      refine ll_lstore_n E (pc := 335) (lo' := [some (.ref (ad 0)), none, some (.ref (ad 89)), some (.long r110), none, some (.int v5), some (.int v6)]) dX8_digest_335 (Nat.le_of_ble_eq_true rfl) rfl rfl ?_
      refine ll_lload_n E (pc := 336) dX8_digest_336 rfl ?_
      refine ll_aload_n E (pc := 337) dX8_digest_337 rfl ?_
      refine ll_callVd E (pc := 338) (d := 2) (ci := 8) (o9 := 0) [] [.long r110] dX8_digest_338 cv_X8_368 (fun h => ctX8_filledShare h) (Nat.le_of_ble_eq_true rfl) sx_0 ci_8 rfl rfl (Nat.le_of_ble_eq_true rfl) ⟨(Nat.le_of_ble_eq_true rfl), (Nat.le_of_ble_eq_true rfl)⟩ ⟨(Nat.le_of_ble_eq_true rfl), (Nat.le_of_ble_eq_true rfl)⟩ ?_
      intro r112 μ111
      refine ll_callSj E (pc := 341) (d := 0) [.double r112] [.long r110] dX8_digest_341 cv_X8_372 (fun h => ctX8_bitsOf h) rfl rfl (Nat.le_of_ble_eq_true rfl) ⟨(Nat.le_of_ble_eq_true rfl), (Nat.le_of_ble_eq_true rfl)⟩ ⟨(Nat.le_of_ble_eq_true rfl), (Nat.le_of_ble_eq_true rfl)⟩ ?_
      intro r114 μ113
      refine ll_callSj E (pc := 344) (d := 0) [.long r110, .long r114] [] dX8_digest_344 cv_X8_335 (fun h => ctX8_mixed h) rfl rfl (Nat.le_of_ble_eq_true rfl) ⟨(Nat.le_of_ble_eq_true rfl), (Nat.le_of_ble_eq_true rfl)⟩ ⟨(Nat.le_of_ble_eq_true rfl), (Nat.le_of_ble_eq_true rfl)⟩ ?_
      intro r116 μ115
      refine ll_lstore_n E (pc := 347) (lo' := [some (.ref (ad 0)), none, some (.ref (ad 89)), some (.long r116), none, some (.int v5), some (.int v6)]) dX8_digest_347 (Nat.le_of_ble_eq_true rfl) rfl rfl ?_
      refine ll_lload_n E (pc := 348) dX8_digest_348 rfl ?_
      refine ll_aload_n E (pc := 349) dX8_digest_349 rfl ?_
      refine ll_getf E (pc := 350) (o9 := 0) (ci := 8) (k9 := 3) dX8_digest_350 fl_X8_235 (Nat.le_of_ble_eq_true rfl) fx_0_3 ?_
      refine ll_if_eq E (pc := 353) (tgt := 360) dX8_digest_353 rfl ?_ ?_
      · refine ll_lconst E (pc := 360) (v := 0) dX8_digest_360 rfl ?_
        exact ll_lo (lo' := [some (.ref (ad 0)), none, none, none, none, none, none]) ⟨rfl, trivial⟩ (kX8_digest_L361 E hr (0 : Int64) r116 μ115)
      · refine ll_lconst E (pc := 356) (v := 1) dX8_digest_356 rfl ?_
        refine ll_goto E (pc := 357) (tgt := 361) dX8_digest_357 rfl ?_
        exact ll_lo (lo' := [some (.ref (ad 0)), none, none, none, none, none, none]) ⟨rfl, trivial⟩ (kX8_digest_L361 E hr (1 : Int64) r116 μ115)
    · refine ll_lload_n E (pc := 250) dX8_digest_250 rfl ?_
      refine ll_aload_n E (pc := 251) dX8_digest_251 rfl ?_
      refine ll_getfr E (pc := 252) (o9 := 0) (ci := 8) (k9 := 0) (q := 1) dX8_digest_252 fl_X8_12 (Nat.le_of_ble_eq_true rfl) fx_0_0 ?_
      refine ll_iload E (pc := 255) dX8_digest_255 rfl ?_
      refine ll_callVi E (pc := 257) (d := 0) (ci := 6) (o9 := 1) [.int v6] [.long v3] dX8_digest_257 cv_X8_269 (fun h => ctX6_setLaidIn h) (Nat.le_of_ble_eq_true rfl) sx_1 ci_6 rfl rfl (Nat.le_of_ble_eq_true rfl) ⟨(Nat.le_of_ble_eq_true rfl), (Nat.le_of_ble_eq_true rfl)⟩ ⟨(Nat.le_of_ble_eq_true rfl), (Nat.le_of_ble_eq_true rfl)⟩ ?_
      intro r118 μ117
      refine ll_i2l E (pc := 260) dX8_digest_260 ?_
      refine ll_callSj E (pc := 261) (d := 0) [.long v3, .long (Int32.toInt64 r118)] [] dX8_digest_261 cv_X8_335 (fun h => ctX8_mixed h) rfl rfl (Nat.le_of_ble_eq_true rfl) ⟨(Nat.le_of_ble_eq_true rfl), (Nat.le_of_ble_eq_true rfl)⟩ ⟨(Nat.le_of_ble_eq_true rfl), (Nat.le_of_ble_eq_true rfl)⟩ ?_
      intro r120 μ119
      refine ll_lstore_n E (pc := 264) (lo' := [some (.ref (ad 0)), none, some (.ref (ad 89)), some (.long r120), none, some (.int v5), some (.int v6)]) dX8_digest_264 (Nat.le_of_ble_eq_true rfl) rfl rfl ?_
      refine ll_iinc E (pc := 265) (lo' := [some (.ref (ad 0)), none, some (.ref (ad 89)), some (.long r120), none, some (.int v5), some (.int (v6 + (1 : Int32)))]) dX8_digest_265 rfl kc_1 (Nat.le_of_ble_eq_true rfl) rfl rfl ?_
      refine ll_goto E (pc := 268) (tgt := 243) dX8_digest_268 rfl ?_
      exact ll_lo (lo' := [some (.ref (ad 0)), none, some (.ref (ad 89)), some (.long r120), none, some (.int v5), some (.int (v6 + (1 : Int32)))]) ⟨rfl, rfl, rfl, rfl, rfl, trivial⟩ (ih r120 v5 (v6 + (1 : Int32)) μ119)
theorem kX8_digest_L206 {p : Program} {l : Launch} {e : Env} {s : State} {m : MethodId} {args : Array Value} {below : List Frame} {meth : Method} {c : Code} {D : va_G} {cI cR : ClassId} {ad : Nat → Nat} {A0 : Nat → Prop} (E : EV p s m args meth c cX8_digest 7 RX8 D cI cR ad shX NX A0) (hr : meth.sig.returnType = (some .long)) (n : Nat) : ∀ (v3 : Int64) (v5 : Int32) (μ : Mem), LL p l e (RM 6) s m args below meth c 7 D cI cR ad shX NX A0 (fun (r : Int64) μ' => KG below args s D cI cR ad shX NX A0 (some (.long r)) μ') (fX8_digest_L206 n v3 v5 μ) 0 0 206 [some (.ref (ad 0)), some (.ref (ad 75)), some (.ref (ad 89)), some (.long v3), none, some (.int v5), none] [] μ := by
  induction n with
  | zero =>
    intros
    exact ll_none
  | succ n ih =>
    intro v3 v5 μ
    rw [fX8_digest_L206]
    refine ll_iload E (pc := 206) dX8_digest_206 rfl ?_
    refine ll_aload_n E (pc := 208) dX8_digest_208 rfl ?_
    refine ll_getfr E (pc := 209) (o9 := 0) (ci := 8) (k9 := 0) (q := 1) dX8_digest_209 fl_X8_12 (Nat.le_of_ble_eq_true rfl) fx_0_0 ?_
    refine ll_getf E (pc := 212) (o9 := 1) (ci := 6) (k9 := 0) dX8_digest_212 fl_X8_81 (Nat.le_of_ble_eq_true rfl) fx_1_0 ?_
    refine ll_icmp_ge E (pc := 215) (tgt := 234) dX8_digest_215 rfl ?_ ?_
    · refine ll_aload_n E (pc := 234) dX8_digest_234 rfl ?_
      refine ll_callVi E (pc := 235) (d := 2) (ci := 8) (o9 := 0) [] [] dX8_digest_235 cv_X8_339 (fun h => ctX8_bundles h) (Nat.le_of_ble_eq_true rfl) sx_0 ci_8 rfl rfl (Nat.le_of_ble_eq_true rfl) ⟨(Nat.le_of_ble_eq_true rfl), (Nat.le_of_ble_eq_true rfl)⟩ ⟨(Nat.le_of_ble_eq_true rfl), (Nat.le_of_ble_eq_true rfl)⟩ ?_
      intro r122 μ121
      refine ll_istore E (pc := 238) (lo' := [some (.ref (ad 0)), some (.ref (ad 75)), some (.ref (ad 89)), some (.long v3), none, some (.int r122), none]) dX8_digest_238 (Nat.le_of_ble_eq_true rfl) rfl rfl ?_
      refine ll_iconst E (pc := 240) dX8_digest_240 kc_0 ?_
      refine ll_istore E (pc := 241) (lo' := [some (.ref (ad 0)), some (.ref (ad 75)), some (.ref (ad 89)), some (.long v3), none, some (.int r122), some (.int (0 : Int32))]) dX8_digest_241 (Nat.le_of_ble_eq_true rfl) rfl rfl ?_
      exact ll_lo (lo' := [some (.ref (ad 0)), none, some (.ref (ad 89)), some (.long v3), none, some (.int r122), some (.int (0 : Int32))]) ⟨rfl, rfl, rfl, rfl, rfl, trivial⟩ (kX8_digest_L243 E hr fu v3 r122 (0 : Int32) μ121)
    · refine ll_aload_n E (pc := 218) dX8_digest_218 rfl ?_
      refine ll_lload_n E (pc := 219) dX8_digest_219 rfl ?_
      refine ll_iload E (pc := 220) dX8_digest_220 rfl ?_
      refine ll_aload_n E (pc := 222) dX8_digest_222 rfl ?_
      refine ll_aload_n E (pc := 223) dX8_digest_223 rfl ?_
      refine ll_callVj E (pc := 224) (d := 3) (ci := 8) (o9 := 0) [.long v3, .int v5, .ref (ad 75), .ref (ad 89)] [] dX8_digest_224 cv_X8_357 (fun h => ctX8_hashOfStep h) (Nat.le_of_ble_eq_true rfl) sx_0 ci_8 rfl rfl (Nat.le_of_ble_eq_true rfl) ⟨(Nat.le_of_ble_eq_true rfl), (Nat.le_of_ble_eq_true rfl)⟩ ⟨(Nat.le_of_ble_eq_true rfl), (Nat.le_of_ble_eq_true rfl)⟩ ?_
      intro r124 μ123
      refine ll_lstore_n E (pc := 227) (lo' := [some (.ref (ad 0)), some (.ref (ad 75)), some (.ref (ad 89)), some (.long r124), none, some (.int v5), none]) dX8_digest_227 (Nat.le_of_ble_eq_true rfl) rfl rfl ?_
      refine ll_iinc E (pc := 228) (lo' := [some (.ref (ad 0)), some (.ref (ad 75)), some (.ref (ad 89)), some (.long r124), none, some (.int (v5 + (1 : Int32))), none]) dX8_digest_228 rfl kc_1 (Nat.le_of_ble_eq_true rfl) rfl rfl ?_
      refine ll_goto E (pc := 231) (tgt := 206) dX8_digest_231 rfl ?_
      exact ll_lo (lo' := [some (.ref (ad 0)), some (.ref (ad 75)), some (.ref (ad 89)), some (.long r124), none, some (.int (v5 + (1 : Int32))), none]) ⟨rfl, rfl, rfl, rfl, rfl, trivial⟩ (ih r124 (v5 + (1 : Int32)) μ123)
theorem kX8_digest_L128 {p : Program} {l : Launch} {e : Env} {s : State} {m : MethodId} {args : Array Value} {below : List Frame} {meth : Method} {c : Code} {D : va_G} {cI cR : ClassId} {ad : Nat → Nat} {A0 : Nat → Prop} (E : EV p s m args meth c cX8_digest 7 RX8 D cI cR ad shX NX A0) (hr : meth.sig.returnType = (some .long)) (s0 : Int64) (s1 : Int64) (μ : Mem) : LL p l e (RM 6) s m args below meth c 7 D cI cR ad shX NX A0 (fun (r : Int64) μ' => KG below args s D cI cR ad shX NX A0 (some (.long r)) μ') (fX8_digest_L128 s0 s1 μ) 0 0 128 [some (.ref (ad 0)), some (.ref (ad 75)), some (.ref (ad 89)), none, none, none, none] [.long s0, .long s1] μ := by
  rw [fX8_digest_L128]
  refine ll_callSj E (pc := 128) (d := 0) [.long s1, .long s0] [] dX8_digest_128 cv_X8_335 (fun h => ctX8_mixed h) rfl rfl (Nat.le_of_ble_eq_true rfl) ⟨(Nat.le_of_ble_eq_true rfl), (Nat.le_of_ble_eq_true rfl)⟩ ⟨(Nat.le_of_ble_eq_true rfl), (Nat.le_of_ble_eq_true rfl)⟩ ?_
  intro r126 μ125
  refine ll_lstore_n E (pc := 131) (lo' := [some (.ref (ad 0)), some (.ref (ad 75)), some (.ref (ad 89)), some (.long r126), none, none, none]) dX8_digest_131 (Nat.le_of_ble_eq_true rfl) rfl rfl ?_
  refine ll_lload_n E (pc := 132) dX8_digest_132 rfl ?_
  refine ll_aload_n E (pc := 133) dX8_digest_133 rfl ?_
  refine ll_callVi E (pc := 134) (d := 3) (ci := 8) (o9 := 0) [] [.long r126] dX8_digest_134 cv_X8_351 (fun h => ctX8_beatByUnits h) (Nat.le_of_ble_eq_true rfl) sx_0 ci_8 rfl rfl (Nat.le_of_ble_eq_true rfl) ⟨(Nat.le_of_ble_eq_true rfl), (Nat.le_of_ble_eq_true rfl)⟩ ⟨(Nat.le_of_ble_eq_true rfl), (Nat.le_of_ble_eq_true rfl)⟩ ?_
  intro r128 μ127
  refine ll_i2l E (pc := 137) dX8_digest_137 ?_
  refine ll_callSj E (pc := 138) (d := 0) [.long r126, .long (Int32.toInt64 r128)] [] dX8_digest_138 cv_X8_335 (fun h => ctX8_mixed h) rfl rfl (Nat.le_of_ble_eq_true rfl) ⟨(Nat.le_of_ble_eq_true rfl), (Nat.le_of_ble_eq_true rfl)⟩ ⟨(Nat.le_of_ble_eq_true rfl), (Nat.le_of_ble_eq_true rfl)⟩ ?_
  intro r130 μ129
  refine ll_lstore_n E (pc := 141) (lo' := [some (.ref (ad 0)), some (.ref (ad 75)), some (.ref (ad 89)), some (.long r130), none, none, none]) dX8_digest_141 (Nat.le_of_ble_eq_true rfl) rfl rfl ?_
  refine ll_lload_n E (pc := 142) dX8_digest_142 rfl ?_
  refine ll_aload_n E (pc := 143) dX8_digest_143 rfl ?_
  refine ll_getf E (pc := 144) (o9 := 89) (ci := 3) (k9 := 2) dX8_digest_144 fl_X8_305 (Nat.le_of_ble_eq_true rfl) fx_89_2 ?_
  refine ll_i2l E (pc := 147) dX8_digest_147 ?_
  refine ll_callSj E (pc := 148) (d := 0) [.long r130, .long (Int32.toInt64 (μ129 89 2))] [] dX8_digest_148 cv_X8_335 (fun h => ctX8_mixed h) rfl rfl (Nat.le_of_ble_eq_true rfl) ⟨(Nat.le_of_ble_eq_true rfl), (Nat.le_of_ble_eq_true rfl)⟩ ⟨(Nat.le_of_ble_eq_true rfl), (Nat.le_of_ble_eq_true rfl)⟩ ?_
  intro r132 μ131
  refine ll_lstore_n E (pc := 151) (lo' := [some (.ref (ad 0)), some (.ref (ad 75)), some (.ref (ad 89)), some (.long r132), none, none, none]) dX8_digest_151 (Nat.le_of_ble_eq_true rfl) rfl rfl ?_
  refine ll_lload_n E (pc := 152) dX8_digest_152 rfl ?_
  refine ll_aload_n E (pc := 153) dX8_digest_153 rfl ?_
  refine ll_callVi E (pc := 154) (d := 5) (ci := 8) (o9 := 0) [] [.long r132] dX8_digest_154 cv_X8_354 (fun h => ctX8_beatByRounds h) (Nat.le_of_ble_eq_true rfl) sx_0 ci_8 rfl rfl (Nat.le_of_ble_eq_true rfl) ⟨(Nat.le_of_ble_eq_true rfl), (Nat.le_of_ble_eq_true rfl)⟩ ⟨(Nat.le_of_ble_eq_true rfl), (Nat.le_of_ble_eq_true rfl)⟩ ?_
  intro r134 μ133
  refine ll_i2l E (pc := 157) dX8_digest_157 ?_
  refine ll_callSj E (pc := 158) (d := 0) [.long r132, .long (Int32.toInt64 r134)] [] dX8_digest_158 cv_X8_335 (fun h => ctX8_mixed h) rfl rfl (Nat.le_of_ble_eq_true rfl) ⟨(Nat.le_of_ble_eq_true rfl), (Nat.le_of_ble_eq_true rfl)⟩ ⟨(Nat.le_of_ble_eq_true rfl), (Nat.le_of_ble_eq_true rfl)⟩ ?_
  intro r136 μ135
  refine ll_lstore_n E (pc := 161) (lo' := [some (.ref (ad 0)), some (.ref (ad 75)), some (.ref (ad 89)), some (.long r136), none, none, none]) dX8_digest_161 (Nat.le_of_ble_eq_true rfl) rfl rfl ?_
  refine ll_lload_n E (pc := 162) dX8_digest_162 rfl ?_
  refine ll_aload_n E (pc := 163) dX8_digest_163 rfl ?_
  refine ll_getf E (pc := 164) (o9 := 89) (ci := 3) (k9 := 3) dX8_digest_164 fl_X8_312 (Nat.le_of_ble_eq_true rfl) fx_89_3 ?_
  refine ll_i2l E (pc := 167) dX8_digest_167 ?_
  refine ll_callSj E (pc := 168) (d := 0) [.long r136, .long (Int32.toInt64 (μ135 89 3))] [] dX8_digest_168 cv_X8_335 (fun h => ctX8_mixed h) rfl rfl (Nat.le_of_ble_eq_true rfl) ⟨(Nat.le_of_ble_eq_true rfl), (Nat.le_of_ble_eq_true rfl)⟩ ⟨(Nat.le_of_ble_eq_true rfl), (Nat.le_of_ble_eq_true rfl)⟩ ?_
  intro r138 μ137
  refine ll_lstore_n E (pc := 171) (lo' := [some (.ref (ad 0)), some (.ref (ad 75)), some (.ref (ad 89)), some (.long r138), none, none, none]) dX8_digest_171 (Nat.le_of_ble_eq_true rfl) rfl rfl ?_
  refine ll_lload_n E (pc := 172) dX8_digest_172 rfl ?_
  refine ll_aload_n E (pc := 173) dX8_digest_173 rfl ?_
  refine ll_getf E (pc := 174) (o9 := 89) (ci := 3) (k9 := 3) dX8_digest_174 fl_X8_312 (Nat.le_of_ble_eq_true rfl) fx_89_3 ?_
  refine ll_iconst E (pc := 177) dX8_digest_177 kc_1 ?_
  refine ll_isub E (pc := 178) dX8_digest_178 ?_
  refine ll_aload_n E (pc := 179) dX8_digest_179 rfl ?_
  refine ll_getfr E (pc := 180) (o9 := 0) (ci := 8) (k9 := 0) (q := 1) dX8_digest_180 fl_X8_12 (Nat.le_of_ble_eq_true rfl) fx_0_0 ?_
  refine ll_getf E (pc := 183) (o9 := 1) (ci := 6) (k9 := 10) dX8_digest_183 fl_X8_164 (Nat.le_of_ble_eq_true rfl) fx_1_10 ?_
  refine ll_isub E (pc := 186) dX8_digest_186 ?_
  refine ll_i2l E (pc := 187) dX8_digest_187 ?_
  refine ll_callSj E (pc := 188) (d := 0) [.long r138, .long (Int32.toInt64 (((μ137 89 3) - (1 : Int32)) - (μ137 1 10)))] [] dX8_digest_188 cv_X8_335 (fun h => ctX8_mixed h) rfl rfl (Nat.le_of_ble_eq_true rfl) ⟨(Nat.le_of_ble_eq_true rfl), (Nat.le_of_ble_eq_true rfl)⟩ ⟨(Nat.le_of_ble_eq_true rfl), (Nat.le_of_ble_eq_true rfl)⟩ ?_
  intro r140 μ139
  refine ll_lstore_n E (pc := 191) (lo' := [some (.ref (ad 0)), some (.ref (ad 75)), some (.ref (ad 89)), some (.long r140), none, none, none]) dX8_digest_191 (Nat.le_of_ble_eq_true rfl) rfl rfl ?_
  refine ll_lload_n E (pc := 192) dX8_digest_192 rfl ?_
  refine ll_aload_n E (pc := 193) dX8_digest_193 rfl ?_
  refine ll_aload_n E (pc := 194) dX8_digest_194 rfl ?_
  refine ll_callVi E (pc := 195) (d := 2) (ci := 8) (o9 := 0) [.ref (ad 89)] [.long r140] dX8_digest_195 cv_X8_318 (fun h => ctX8_overlapIn h) (Nat.le_of_ble_eq_true rfl) sx_0 ci_8 rfl rfl (Nat.le_of_ble_eq_true rfl) ⟨(Nat.le_of_ble_eq_true rfl), (Nat.le_of_ble_eq_true rfl)⟩ ⟨(Nat.le_of_ble_eq_true rfl), (Nat.le_of_ble_eq_true rfl)⟩ ?_
  intro r142 μ141
  refine ll_i2l E (pc := 198) dX8_digest_198 ?_
  refine ll_callSj E (pc := 199) (d := 0) [.long r140, .long (Int32.toInt64 r142)] [] dX8_digest_199 cv_X8_335 (fun h => ctX8_mixed h) rfl rfl (Nat.le_of_ble_eq_true rfl) ⟨(Nat.le_of_ble_eq_true rfl), (Nat.le_of_ble_eq_true rfl)⟩ ⟨(Nat.le_of_ble_eq_true rfl), (Nat.le_of_ble_eq_true rfl)⟩ ?_
  intro r144 μ143
  refine ll_lstore_n E (pc := 202) (lo' := [some (.ref (ad 0)), some (.ref (ad 75)), some (.ref (ad 89)), some (.long r144), none, none, none]) dX8_digest_202 (Nat.le_of_ble_eq_true rfl) rfl rfl ?_
  refine ll_iconst E (pc := 203) dX8_digest_203 kc_0 ?_
  refine ll_istore E (pc := 204) (lo' := [some (.ref (ad 0)), some (.ref (ad 75)), some (.ref (ad 89)), some (.long r144), none, some (.int (0 : Int32)), none]) dX8_digest_204 (Nat.le_of_ble_eq_true rfl) rfl rfl ?_
  exact ll_lo (lo' := [some (.ref (ad 0)), some (.ref (ad 75)), some (.ref (ad 89)), some (.long r144), none, some (.int (0 : Int32)), none]) ⟨rfl, rfl, rfl, rfl, rfl, trivial⟩ (kX8_digest_L206 E hr fu r144 (0 : Int32) μ143)
theorem ctX8_digest {l : Launch} {D : va_G} {cI cR : ClassId} {ad : Nat → Nat} {μ : Mem} {r : Int64} {μ' : Mem} (hf : fX8_digest μ = some (r, μ')) : CT l yX8_digest cX8_digest 7 (some .long) 6 D cI cR ad shX NX [.ref (ad 0)] μ (some (.long r)) μ' :=
  ct_of (own := RX8) (ov := fun r => some (.long r)) (by decide +kernel) rfl (Nat.le_of_ble_eq_true rfl) (fun p e s m below meth c A0 E hr => by
    refine ll_lo (lo' := [some (.ref (ad 0)), none, none, none, none, none, none]) ⟨rfl, trivial⟩ ?_
    rw [fX8_digest]
    refine ll_aload_n E (pc := 0) dX8_digest_0 rfl ?_
    refine ll_callVr E (pc := 1) (d := 4) (ci := 8) (o9 := 0) [] [] dX8_digest_1 cv_X8_124 (fun h => ctX8_freshLinks h) (Nat.le_of_ble_eq_true rfl) sx_0 ci_8 rfl rfl (Nat.le_of_ble_eq_true rfl) ⟨(Nat.le_of_ble_eq_true rfl), (Nat.le_of_ble_eq_true rfl)⟩ ⟨(Nat.le_of_ble_eq_true rfl), (Nat.le_of_ble_eq_true rfl)⟩ ?_
    intro r146 μ145
    refine ll_astore_n E (pc := 4) (lo' := [some (.ref (ad 0)), some (.ref (ad 75)), none, none, none, none, none]) dX8_digest_4 (Nat.le_of_ble_eq_true rfl) rfl rfl ?_
    refine ll_aload_n E (pc := 5) dX8_digest_5 rfl ?_
    refine ll_callVr E (pc := 6) (d := 5) (ci := 8) (o9 := 0) [] [] dX8_digest_6 cv_X8_301 (fun h => ctX8_freshLoop h) (Nat.le_of_ble_eq_true rfl) sx_0 ci_8 rfl rfl (Nat.le_of_ble_eq_true rfl) ⟨(Nat.le_of_ble_eq_true rfl), (Nat.le_of_ble_eq_true rfl)⟩ ⟨(Nat.le_of_ble_eq_true rfl), (Nat.le_of_ble_eq_true rfl)⟩ ?_
    intro r148 μ147
    refine ll_astore_n E (pc := 9) (lo' := [some (.ref (ad 0)), some (.ref (ad 75)), some (.ref (ad 89)), none, none, none, none]) dX8_digest_9 (Nat.le_of_ble_eq_true rfl) rfl rfl ?_
    refine ll_aload_n E (pc := 10) dX8_digest_10 rfl ?_
    refine ll_getfr E (pc := 11) (o9 := 0) (ci := 8) (k9 := 11) (q := 92) dX8_digest_11 fl_X8_64 (Nat.le_of_ble_eq_true rfl) fx_0_11 ?_
    refine ll_aload_n E (pc := 14) dX8_digest_14 rfl ?_
    refine ll_getfr E (pc := 15) (o9 := 0) (ci := 8) (k9 := 0) (q := 1) dX8_digest_15 fl_X8_12 (Nat.le_of_ble_eq_true rfl) fx_0_0 ?_
    refine ll_iconst E (pc := 18) dX8_digest_18 kc_1 ?_
    refine ll_aload_n E (pc := 19) dX8_digest_19 rfl ?_
    refine ll_getfr E (pc := 20) (o9 := 0) (ci := 8) (k9 := 12) (q := 97) dX8_digest_20 fl_X8_68 (Nat.le_of_ble_eq_true rfl) fx_0_12 ?_
    refine ll_callVv E (pc := 23) (d := 3) (ci := 5) (o9 := 92) [.ref (ad 1), .int (1 : Int32), .ref (ad 97)] [] dX8_digest_23 cv_X8_285 (fun h => ctX5_doInOrder px_97 h) (Nat.le_of_ble_eq_true rfl) sx_92 ci_5 rfl rfl (Nat.le_of_ble_eq_true rfl) ⟨(Nat.le_of_ble_eq_true rfl), (Nat.le_of_ble_eq_true rfl)⟩ ⟨(Nat.le_of_ble_eq_true rfl), (Nat.le_of_ble_eq_true rfl)⟩ ?_
    intro r150 μ149
    refine ll_aload_n E (pc := 26) dX8_digest_26 rfl ?_
    refine ll_sipush E (pc := 27) dX8_digest_27 ks_205 ?_
    refine ll_callVv E (pc := 30) (d := 5) (ci := 8) (o9 := 0) [.int (205 : Int32)] [] dX8_digest_30 cv_X8_289 (fun h => ctX8_doBundles h) (Nat.le_of_ble_eq_true rfl) sx_0 ci_8 rfl rfl (Nat.le_of_ble_eq_true rfl) ⟨(Nat.le_of_ble_eq_true rfl), (Nat.le_of_ble_eq_true rfl)⟩ ⟨(Nat.le_of_ble_eq_true rfl), (Nat.le_of_ble_eq_true rfl)⟩ ?_
    intro r152 μ151
    refine ll_ldc2 E (pc := 33) dX8_digest_33 kw_X8_333 ?_
    refine ll_aload_n E (pc := 36) dX8_digest_36 rfl ?_
    refine ll_getfr E (pc := 37) (o9 := 0) (ci := 8) (k9 := 0) (q := 1) dX8_digest_37 fl_X8_12 (Nat.le_of_ble_eq_true rfl) fx_0_0 ?_
    refine ll_getf E (pc := 40) (o9 := 1) (ci := 6) (k9 := 0) dX8_digest_40 fl_X8_81 (Nat.le_of_ble_eq_true rfl) fx_1_0 ?_
    refine ll_i2l E (pc := 43) dX8_digest_43 ?_
    refine ll_callSj E (pc := 44) (d := 0) [.long (4643 : Int64), .long (Int32.toInt64 (μ151 1 0))] [] dX8_digest_44 cv_X8_335 (fun h => ctX8_mixed h) rfl rfl (Nat.le_of_ble_eq_true rfl) ⟨(Nat.le_of_ble_eq_true rfl), (Nat.le_of_ble_eq_true rfl)⟩ ⟨(Nat.le_of_ble_eq_true rfl), (Nat.le_of_ble_eq_true rfl)⟩ ?_
    intro r154 μ153
    refine ll_lstore_n E (pc := 47) (lo' := [some (.ref (ad 0)), some (.ref (ad 75)), some (.ref (ad 89)), some (.long r154), none, none, none]) dX8_digest_47 (Nat.le_of_ble_eq_true rfl) rfl rfl ?_
    refine ll_lload_n E (pc := 48) dX8_digest_48 rfl ?_
    refine ll_aload_n E (pc := 49) dX8_digest_49 rfl ?_
    refine ll_callVi E (pc := 50) (d := 1) (ci := 2) (o9 := 75) [] [.long r154] dX8_digest_50 cv_X8_263 (fun h => ctX2_greatestHeight h) (Nat.le_of_ble_eq_true rfl) sx_75 ci_2 rfl rfl (Nat.le_of_ble_eq_true rfl) ⟨(Nat.le_of_ble_eq_true rfl), (Nat.le_of_ble_eq_true rfl)⟩ ⟨(Nat.le_of_ble_eq_true rfl), (Nat.le_of_ble_eq_true rfl)⟩ ?_
    intro r156 μ155
    refine ll_i2l E (pc := 53) dX8_digest_53 ?_
    refine ll_callSj E (pc := 54) (d := 0) [.long r154, .long (Int32.toInt64 r156)] [] dX8_digest_54 cv_X8_335 (fun h => ctX8_mixed h) rfl rfl (Nat.le_of_ble_eq_true rfl) ⟨(Nat.le_of_ble_eq_true rfl), (Nat.le_of_ble_eq_true rfl)⟩ ⟨(Nat.le_of_ble_eq_true rfl), (Nat.le_of_ble_eq_true rfl)⟩ ?_
    intro r158 μ157
    refine ll_lstore_n E (pc := 57) (lo' := [some (.ref (ad 0)), some (.ref (ad 75)), some (.ref (ad 89)), some (.long r158), none, none, none]) dX8_digest_57 (Nat.le_of_ble_eq_true rfl) rfl rfl ?_
    refine ll_lload_n E (pc := 58) dX8_digest_58 rfl ?_
    refine ll_aload_n E (pc := 59) dX8_digest_59 rfl ?_
    refine ll_callVi E (pc := 60) (d := 1) (ci := 2) (o9 := 75) [] [.long r158] dX8_digest_60 cv_X8_266 (fun h => ctX2_lastResult h) (Nat.le_of_ble_eq_true rfl) sx_75 ci_2 rfl rfl (Nat.le_of_ble_eq_true rfl) ⟨(Nat.le_of_ble_eq_true rfl), (Nat.le_of_ble_eq_true rfl)⟩ ⟨(Nat.le_of_ble_eq_true rfl), (Nat.le_of_ble_eq_true rfl)⟩ ?_
    intro r160 μ159
    refine ll_i2l E (pc := 63) dX8_digest_63 ?_
    refine ll_callSj E (pc := 64) (d := 0) [.long r158, .long (Int32.toInt64 r160)] [] dX8_digest_64 cv_X8_335 (fun h => ctX8_mixed h) rfl rfl (Nat.le_of_ble_eq_true rfl) ⟨(Nat.le_of_ble_eq_true rfl), (Nat.le_of_ble_eq_true rfl)⟩ ⟨(Nat.le_of_ble_eq_true rfl), (Nat.le_of_ble_eq_true rfl)⟩ ?_
    intro r162 μ161
    refine ll_lstore_n E (pc := 67) (lo' := [some (.ref (ad 0)), some (.ref (ad 75)), some (.ref (ad 89)), some (.long r162), none, none, none]) dX8_digest_67 (Nat.le_of_ble_eq_true rfl) rfl rfl ?_
    refine ll_lload_n E (pc := 68) dX8_digest_68 rfl ?_
    refine ll_aload_n E (pc := 69) dX8_digest_69 rfl ?_
    refine ll_callVi E (pc := 70) (d := 2) (ci := 8) (o9 := 0) [] [.long r162] dX8_digest_70 cv_X8_339 (fun h => ctX8_bundles h) (Nat.le_of_ble_eq_true rfl) sx_0 ci_8 rfl rfl (Nat.le_of_ble_eq_true rfl) ⟨(Nat.le_of_ble_eq_true rfl), (Nat.le_of_ble_eq_true rfl)⟩ ⟨(Nat.le_of_ble_eq_true rfl), (Nat.le_of_ble_eq_true rfl)⟩ ?_
    intro r164 μ163
    refine ll_i2l E (pc := 73) dX8_digest_73 ?_
    refine ll_callSj E (pc := 74) (d := 0) [.long r162, .long (Int32.toInt64 r164)] [] dX8_digest_74 cv_X8_335 (fun h => ctX8_mixed h) rfl rfl (Nat.le_of_ble_eq_true rfl) ⟨(Nat.le_of_ble_eq_true rfl), (Nat.le_of_ble_eq_true rfl)⟩ ⟨(Nat.le_of_ble_eq_true rfl), (Nat.le_of_ble_eq_true rfl)⟩ ?_
    intro r166 μ165
    refine ll_lstore_n E (pc := 77) (lo' := [some (.ref (ad 0)), some (.ref (ad 75)), some (.ref (ad 89)), some (.long r166), none, none, none]) dX8_digest_77 (Nat.le_of_ble_eq_true rfl) rfl rfl ?_
    refine ll_lload_n E (pc := 78) dX8_digest_78 rfl ?_
    refine ll_aload_n E (pc := 79) dX8_digest_79 rfl ?_
    refine ll_callVi E (pc := 80) (d := 5) (ci := 8) (o9 := 0) [] [.long r166] dX8_digest_80 cv_X8_342 (fun h => ctX8_whyWrong h) (Nat.le_of_ble_eq_true rfl) sx_0 ci_8 rfl rfl (Nat.le_of_ble_eq_true rfl) ⟨(Nat.le_of_ble_eq_true rfl), (Nat.le_of_ble_eq_true rfl)⟩ ⟨(Nat.le_of_ble_eq_true rfl), (Nat.le_of_ble_eq_true rfl)⟩ ?_
    intro r168 μ167
    refine ll_i2l E (pc := 83) dX8_digest_83 ?_
    refine ll_callSj E (pc := 84) (d := 0) [.long r166, .long (Int32.toInt64 r168)] [] dX8_digest_84 cv_X8_335 (fun h => ctX8_mixed h) rfl rfl (Nat.le_of_ble_eq_true rfl) ⟨(Nat.le_of_ble_eq_true rfl), (Nat.le_of_ble_eq_true rfl)⟩ ⟨(Nat.le_of_ble_eq_true rfl), (Nat.le_of_ble_eq_true rfl)⟩ ?_
    intro r170 μ169
    refine ll_lstore_n E (pc := 87) (lo' := [some (.ref (ad 0)), some (.ref (ad 75)), some (.ref (ad 89)), some (.long r170), none, none, none]) dX8_digest_87 (Nat.le_of_ble_eq_true rfl) rfl rfl ?_
    refine ll_lload_n E (pc := 88) dX8_digest_88 rfl ?_
    refine ll_aload_n E (pc := 89) dX8_digest_89 rfl ?_
    refine ll_callVi E (pc := 90) (d := 5) (ci := 8) (o9 := 0) [] [.long r170] dX8_digest_90 cv_X8_345 (fun h => ctX8_wrongAt h) (Nat.le_of_ble_eq_true rfl) sx_0 ci_8 rfl rfl (Nat.le_of_ble_eq_true rfl) ⟨(Nat.le_of_ble_eq_true rfl), (Nat.le_of_ble_eq_true rfl)⟩ ⟨(Nat.le_of_ble_eq_true rfl), (Nat.le_of_ble_eq_true rfl)⟩ ?_
    intro r172 μ171
    refine ll_i2l E (pc := 93) dX8_digest_93 ?_
    refine ll_callSj E (pc := 94) (d := 0) [.long r170, .long (Int32.toInt64 r172)] [] dX8_digest_94 cv_X8_335 (fun h => ctX8_mixed h) rfl rfl (Nat.le_of_ble_eq_true rfl) ⟨(Nat.le_of_ble_eq_true rfl), (Nat.le_of_ble_eq_true rfl)⟩ ⟨(Nat.le_of_ble_eq_true rfl), (Nat.le_of_ble_eq_true rfl)⟩ ?_
    intro r174 μ173
    refine ll_lstore_n E (pc := 97) (lo' := [some (.ref (ad 0)), some (.ref (ad 75)), some (.ref (ad 89)), some (.long r174), none, none, none]) dX8_digest_97 (Nat.le_of_ble_eq_true rfl) rfl rfl ?_
    refine ll_lload_n E (pc := 98) dX8_digest_98 rfl ?_
    refine ll_aload_n E (pc := 99) dX8_digest_99 rfl ?_
    refine ll_callVi E (pc := 100) (d := 5) (ci := 8) (o9 := 0) [] [.long r174] dX8_digest_100 cv_X8_348 (fun h => ctX8_wouldPack h) (Nat.le_of_ble_eq_true rfl) sx_0 ci_8 rfl rfl (Nat.le_of_ble_eq_true rfl) ⟨(Nat.le_of_ble_eq_true rfl), (Nat.le_of_ble_eq_true rfl)⟩ ⟨(Nat.le_of_ble_eq_true rfl), (Nat.le_of_ble_eq_true rfl)⟩ ?_
    intro r176 μ175
    refine ll_i2l E (pc := 103) dX8_digest_103 ?_
    refine ll_callSj E (pc := 104) (d := 0) [.long r174, .long (Int32.toInt64 r176)] [] dX8_digest_104 cv_X8_335 (fun h => ctX8_mixed h) rfl rfl (Nat.le_of_ble_eq_true rfl) ⟨(Nat.le_of_ble_eq_true rfl), (Nat.le_of_ble_eq_true rfl)⟩ ⟨(Nat.le_of_ble_eq_true rfl), (Nat.le_of_ble_eq_true rfl)⟩ ?_
    intro r178 μ177
    refine ll_lstore_n E (pc := 107) (lo' := [some (.ref (ad 0)), some (.ref (ad 75)), some (.ref (ad 89)), some (.long r178), none, none, none]) dX8_digest_107 (Nat.le_of_ble_eq_true rfl) rfl rfl ?_
    refine ll_lload_n E (pc := 108) dX8_digest_108 rfl ?_
    refine ll_aload_n E (pc := 109) dX8_digest_109 rfl ?_
    refine ll_getfr E (pc := 110) (o9 := 0) (ci := 8) (k9 := 12) (q := 97) dX8_digest_110 fl_X8_68 (Nat.le_of_ble_eq_true rfl) fx_0_12 ?_
    refine ll_aload_n E (pc := 113) dX8_digest_113 rfl ?_
    refine ll_getfr E (pc := 114) (o9 := 0) (ci := 8) (k9 := 13) (q := 98) dX8_digest_114 fl_X8_72 (Nat.le_of_ble_eq_true rfl) fx_0_13 ?_
    refine ll_callSi E (pc := 117) (d := 0) [.ref (ad 97), .ref (ad 98)] [.long r178] dX8_digest_117 cv_X8_294 (fun h => ctX8_areAlike h) rfl rfl (Nat.le_of_ble_eq_true rfl) ⟨(Nat.le_of_ble_eq_true rfl), (Nat.le_of_ble_eq_true rfl)⟩ ⟨(Nat.le_of_ble_eq_true rfl), (Nat.le_of_ble_eq_true rfl)⟩ ?_
    intro r180 μ179
    refine ll_if_eq E (pc := 120) (tgt := 127) dX8_digest_120 rfl ?_ ?_
    · refine ll_lconst E (pc := 127) (v := 0) dX8_digest_127 rfl ?_
      exact ll_lo (lo' := [some (.ref (ad 0)), some (.ref (ad 75)), some (.ref (ad 89)), none, none, none, none]) ⟨rfl, rfl, rfl, trivial⟩ (kX8_digest_L128 E hr (0 : Int64) r178 μ179)
    · refine ll_lconst E (pc := 123) (v := 1) dX8_digest_123 rfl ?_
      refine ll_goto E (pc := 124) (tgt := 128) dX8_digest_124 rfl ?_
      exact ll_lo (lo' := [some (.ref (ad 0)), some (.ref (ad 75)), some (.ref (ad 89)), none, none, none, none]) ⟨rfl, rfl, rfl, trivial⟩ (kX8_digest_L128 E hr (1 : Int64) r178 μ179)) hf
