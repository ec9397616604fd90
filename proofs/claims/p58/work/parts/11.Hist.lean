theorem dX1_dropOldest_0 : decode cX1_dropOldest 0 = .ok (.aload_n 0, 1) := by decide +kernel
theorem dX1_dropOldest_1 : decode cX1_dropOldest 1 = .ok (.getfield 11, 3) := by decide +kernel
theorem dX1_dropOldest_4 : decode cX1_dropOldest 4 = .ok (.iconst 0, 1) := by decide +kernel
theorem dX1_dropOldest_5 : decode cX1_dropOldest 5 = .ok (.aaload, 1) := by decide +kernel
theorem dX1_dropOldest_6 : decode cX1_dropOldest 6 = .ok (.astore_n 1, 1) := by decide +kernel
theorem dX1_dropOldest_7 : decode cX1_dropOldest 7 = .ok (.iconst 1, 1) := by decide +kernel
theorem dX1_dropOldest_8 : decode cX1_dropOldest 8 = .ok (.istore_n 2, 1) := by decide +kernel
theorem dX1_dropOldest_9 : decode cX1_dropOldest 9 = .ok (.iload_n 2, 1) := by decide +kernel
theorem dX1_dropOldest_10 : decode cX1_dropOldest 10 = .ok (.iconst 5, 1) := by decide +kernel
theorem dX1_dropOldest_11 : decode cX1_dropOldest 11 = .ok (.if_icmp .ge 23, 3) := by decide +kernel
theorem dX1_dropOldest_14 : decode cX1_dropOldest 14 = .ok (.aload_n 0, 1) := by decide +kernel
theorem dX1_dropOldest_15 : decode cX1_dropOldest 15 = .ok (.getfield 11, 3) := by decide +kernel
theorem dX1_dropOldest_18 : decode cX1_dropOldest 18 = .ok (.iload_n 2, 1) := by decide +kernel
theorem dX1_dropOldest_19 : decode cX1_dropOldest 19 = .ok (.iconst 1, 1) := by decide +kernel
theorem dX1_dropOldest_20 : decode cX1_dropOldest 20 = .ok (.isub, 1) := by decide +kernel
theorem dX1_dropOldest_21 : decode cX1_dropOldest 21 = .ok (.aload_n 0, 1) := by decide +kernel
theorem dX1_dropOldest_22 : decode cX1_dropOldest 22 = .ok (.getfield 11, 3) := by decide +kernel
theorem dX1_dropOldest_25 : decode cX1_dropOldest 25 = .ok (.iload_n 2, 1) := by decide +kernel
theorem dX1_dropOldest_26 : decode cX1_dropOldest 26 = .ok (.aaload, 1) := by decide +kernel
theorem dX1_dropOldest_27 : decode cX1_dropOldest 27 = .ok (.aastore, 1) := by decide +kernel
theorem dX1_dropOldest_28 : decode cX1_dropOldest 28 = .ok (.iinc 2 1, 3) := by decide +kernel
theorem dX1_dropOldest_31 : decode cX1_dropOldest 31 = .ok (.goto (-22), 3) := by decide +kernel
theorem dX1_dropOldest_34 : decode cX1_dropOldest 34 = .ok (.aload_n 0, 1) := by decide +kernel
theorem dX1_dropOldest_35 : decode cX1_dropOldest 35 = .ok (.getfield 11, 3) := by decide +kernel
theorem dX1_dropOldest_38 : decode cX1_dropOldest 38 = .ok (.iconst 4, 1) := by decide +kernel
theorem dX1_dropOldest_39 : decode cX1_dropOldest 39 = .ok (.aload_n 1, 1) := by decide +kernel
theorem dX1_dropOldest_40 : decode cX1_dropOldest 40 = .ok (.aastore, 1) := by decide +kernel
theorem dX1_dropOldest_41 : decode cX1_dropOldest 41 = .ok (.aload_n 0, 1) := by decide +kernel
theorem dX1_dropOldest_42 : decode cX1_dropOldest 42 = .ok (.iconst 4, 1) := by decide +kernel
theorem dX1_dropOldest_43 : decode cX1_dropOldest 43 = .ok (.putfield 18, 3) := by decide +kernel
theorem dX1_dropOldest_46 : decode cX1_dropOldest 46 = .ok (.return_, 1) := by decide +kernel
def fX1_dropOldest_L9 : Nat → Nat → Int32 → Mem → Option (Unit × Mem)
  | 0, _, _, _ => none
  | n + 1, v1, v2, μ =>   if (5 : Int32) ≤ v2 then
  (astr 5 μ 12 (4 : Int32) v1).bind fun μ6 =>
  (pt μ6 11 1 (4 : Int32)).bind fun μ7 =>
  some ((), μ7)
  else
  (ldr 5 oks (μ 12) v2).bind fun q8 =>
  (astr 5 μ 12 (v2 - (1 : Int32)) q8).bind fun μ9 =>
  fX1_dropOldest_L9 n v1 (v2 + (1 : Int32)) μ9
def fX1_dropOldest (μ : Mem) : Option (Unit × Mem) :=
  (ldr 5 oks (μ 12) (0 : Int32)).bind fun q10 =>
  fX1_dropOldest_L9 fu q10 (1 : Int32) μ
theorem kX1_dropOldest_L9 {p : Program} {l : Launch} {e : Env} {s : State} {m : MethodId} {args : Array Value} {below : List Frame} {meth : Method} {c : Code} {D : va_G} {cI cR : ClassId} {ad : Nat → Nat} {A0 : Nat → Prop} (E : EV p s m args meth c cX1_dropOldest 3 RX1 D cI cR ad shX NX A0) (hr : meth.sig.returnType = none) (n : Nat) : ∀ (v1 : Nat) (hv1 : Pst v1) (v2 : Int32) (μ : Mem), LL p l e (RM 0) s m args below meth c 3 D cI cR ad shX NX A0 (fun (r : Unit) μ' => KG below args s D cI cR ad shX NX A0 none μ') (fX1_dropOldest_L9 n v1 v2 μ) 0 0 9 [some (.ref (ad 11)), some (.ref (ad v1)), some (.int v2)] [] μ := by
  induction n with
  | zero =>
    intros
    exact ll_none
  | succ n ih =>
    intro v1 hv1 v2 μ
    rw [fX1_dropOldest_L9]
    refine ll_iload_n E (pc := 9) dX1_dropOldest_9 rfl ?_
    refine ll_iconst E (pc := 10) dX1_dropOldest_10 kc_5 ?_
    refine ll_icmp_ge E (pc := 11) (tgt := 34) dX1_dropOldest_11 rfl ?_ ?_
    · refine ll_aload_n E (pc := 34) dX1_dropOldest_34 rfl ?_
      refine ll_getfr E (pc := 35) (o9 := 11) (ci := 1) (k9 := 0) (q := 12) dX1_dropOldest_35 fl_X1_11 (Nat.le_of_ble_eq_true rfl) fx_11_0 ?_
      refine ll_iconst E (pc := 38) dX1_dropOldest_38 kc_4 ?_
      refine ll_aload_n E (pc := 39) dX1_dropOldest_39 rfl ?_
      refine ll_aast E (pc := 40) (a := 12) (q := v1) dX1_dropOldest_40 (Nat.le_of_ble_eq_true rfl) pr_12 (pst_lt hv1) (pst_s hv1) ?_
      intro μ6
      refine ll_aload_n E (pc := 41) dX1_dropOldest_41 rfl ?_
      refine ll_iconst E (pc := 42) dX1_dropOldest_42 kc_4 ?_
      refine ll_putf E (pc := 43) (o9 := 11) (ci := 1) (k9 := 1) dX1_dropOldest_43 fw_X1_18 (Nat.le_of_ble_eq_true rfl) fx_11_1 ?_
      intro μ7
      exact ll_return E (pc := 46) hr dX1_dropOldest_46
    · refine ll_aload_n E (pc := 14) dX1_dropOldest_14 rfl ?_
      refine ll_getfr E (pc := 15) (o9 := 11) (ci := 1) (k9 := 0) (q := 12) dX1_dropOldest_15 fl_X1_11 (Nat.le_of_ble_eq_true rfl) fx_11_0 ?_
      refine ll_iload_n E (pc := 18) dX1_dropOldest_18 rfl ?_
      refine ll_iconst E (pc := 19) dX1_dropOldest_19 kc_1 ?_
      refine ll_isub E (pc := 20) dX1_dropOldest_20 ?_
      refine ll_aload_n E (pc := 21) dX1_dropOldest_21 rfl ?_
      refine ll_getfr E (pc := 22) (o9 := 11) (ci := 1) (k9 := 0) (q := 12) dX1_dropOldest_22 fl_X1_11 (Nat.le_of_ble_eq_true rfl) fx_11_0 ?_
      refine ll_iload_n E (pc := 25) dX1_dropOldest_25 rfl ?_
      refine ll_aald E (pc := 26) (a := 12) (ok := oks) dX1_dropOldest_26 (Nat.le_of_ble_eq_true rfl) pr_12 ?_
      intro q8 hq8
      refine ll_aast E (pc := 27) (a := 12) (q := q8) dX1_dropOldest_27 (Nat.le_of_ble_eq_true rfl) pr_12 (pst_lt (pst_of hq8)) (pst_s (pst_of hq8)) ?_
      intro μ9
      refine ll_iinc E (pc := 28) (lo' := [some (.ref (ad 11)), some (.ref (ad v1)), some (.int (v2 + (1 : Int32)))]) dX1_dropOldest_28 rfl kc_1 (Nat.le_of_ble_eq_true rfl) rfl rfl ?_
      refine ll_goto E (pc := 31) (tgt := 9) dX1_dropOldest_31 rfl ?_
      exact ll_lo (lo' := [some (.ref (ad 11)), some (.ref (ad v1)), some (.int (v2 + (1 : Int32)))]) ⟨rfl, rfl, rfl, trivial⟩ (ih v1 hv1 (v2 + (1 : Int32)) μ9)
theorem ctX1_dropOldest {l : Launch} {D : va_G} {cI cR : ClassId} {ad : Nat → Nat} {μ : Mem} {r : Unit} {μ' : Mem} (hf : fX1_dropOldest μ = some (r, μ')) : CT l yX1_dropOldest cX1_dropOldest 3 none 0 D cI cR ad shX NX [.ref (ad 11)] μ none μ' :=
  ct_of (own := RX1) (ov := fun _ => none) (by decide +kernel) rfl (Nat.le_of_ble_eq_true rfl) (fun p e s m below meth c A0 E hr => by
    refine ll_lo (lo' := [some (.ref (ad 11)), none, none]) ⟨rfl, trivial⟩ ?_
    rw [fX1_dropOldest]
    refine ll_aload_n E (pc := 0) dX1_dropOldest_0 rfl ?_
    refine ll_getfr E (pc := 1) (o9 := 11) (ci := 1) (k9 := 0) (q := 12) dX1_dropOldest_1 fl_X1_11 (Nat.le_of_ble_eq_true rfl) fx_11_0 ?_
    refine ll_iconst E (pc := 4) dX1_dropOldest_4 kc_0 ?_
    refine ll_aald E (pc := 5) (a := 12) (ok := oks) dX1_dropOldest_5 (Nat.le_of_ble_eq_true rfl) pr_12 ?_
    intro q10 hq10
    refine ll_astore_n E (pc := 6) (lo' := [some (.ref (ad 11)), some (.ref (ad q10)), none]) dX1_dropOldest_6 (Nat.le_of_ble_eq_true rfl) rfl rfl ?_
    refine ll_iconst E (pc := 7) dX1_dropOldest_7 kc_1 ?_
    refine ll_istore_n E (pc := 8) (lo' := [some (.ref (ad 11)), some (.ref (ad q10)), some (.int (1 : Int32))]) dX1_dropOldest_8 (Nat.le_of_ble_eq_true rfl) rfl rfl ?_
    exact ll_lo (lo' := [some (.ref (ad 11)), some (.ref (ad q10)), some (.int (1 : Int32))]) ⟨rfl, rfl, rfl, trivial⟩ (kX1_dropOldest_L9 E hr fu q10 (pst_of hq10) (1 : Int32) μ)) hf
theorem dX1_push_0 : decode cX1_push 0 = .ok (.aload_n 0, 1) := by decide +kernel
theorem dX1_push_1 : decode cX1_push 1 = .ok (.getfield 18, 3) := by decide +kernel
theorem dX1_push_4 : decode cX1_push 4 = .ok (.iconst 5, 1) := by decide +kernel
theorem dX1_push_5 : decode cX1_push 5 = .ok (.if_icmp .lt 7, 3) := by decide +kernel
theorem dX1_push_8 : decode cX1_push 8 = .ok (.aload_n 0, 1) := by decide +kernel
theorem dX1_push_9 : decode cX1_push 9 = .ok (.invokevirtual 22, 3) := by decide +kernel
theorem dX1_push_12 : decode cX1_push 12 = .ok (.aload_n 0, 1) := by decide +kernel
theorem dX1_push_13 : decode cX1_push 13 = .ok (.getfield 11, 3) := by decide +kernel
theorem dX1_push_16 : decode cX1_push 16 = .ok (.aload_n 0, 1) := by decide +kernel
theorem dX1_push_17 : decode cX1_push 17 = .ok (.getfield 18, 3) := by decide +kernel
theorem dX1_push_20 : decode cX1_push 20 = .ok (.aaload, 1) := by decide +kernel
theorem dX1_push_21 : decode cX1_push 21 = .ok (.astore_n 2, 1) := by decide +kernel
theorem dX1_push_22 : decode cX1_push 22 = .ok (.aload_n 2, 1) := by decide +kernel
theorem dX1_push_23 : decode cX1_push 23 = .ok (.ifnull 8, 3) := by decide +kernel
theorem dX1_push_26 : decode cX1_push 26 = .ok (.aload_n 2, 1) := by decide +kernel
theorem dX1_push_27 : decode cX1_push 27 = .ok (.aload_n 1, 1) := by decide +kernel
theorem dX1_push_28 : decode cX1_push 28 = .ok (.invokevirtual 25, 3) := by decide +kernel
theorem dX1_push_31 : decode cX1_push 31 = .ok (.aload_n 0, 1) := by decide +kernel
theorem dX1_push_32 : decode cX1_push 32 = .ok (.dup, 1) := by decide +kernel
theorem dX1_push_33 : decode cX1_push 33 = .ok (.getfield 18, 3) := by decide +kernel
theorem dX1_push_36 : decode cX1_push 36 = .ok (.iconst 1, 1) := by decide +kernel
theorem dX1_push_37 : decode cX1_push 37 = .ok (.iadd, 1) := by decide +kernel
theorem dX1_push_38 : decode cX1_push 38 = .ok (.putfield 18, 3) := by decide +kernel
theorem dX1_push_41 : decode cX1_push 41 = .ok (.return_, 1) := by decide +kernel
def fX1_push_L12  (μ : Mem) : Option (Unit × Mem) :=
  (ldr 5 oks (μ 12) (μ 11 1)).bind fun q7 =>
  bd (fX6_copyFrom μ q7 1) fun _ μ8 =>
  (pt μ8 11 1 ((μ8 11 1) + (1 : Int32))).bind fun μ10 =>
  some ((), μ10)
def fX1_push (μ : Mem) : Option (Unit × Mem) :=
  if (μ 11 1) < (5 : Int32) then
  fX1_push_L12 μ
  else
  bd (fX1_dropOldest μ) fun _ μ11 =>
  fX1_push_L12 μ11
theorem kX1_push_L12 {p : Program} {l : Launch} {e : Env} {s : State} {m : MethodId} {args : Array Value} {below : List Frame} {meth : Method} {c : Code} {D : va_G} {cI cR : ClassId} {ad : Nat → Nat} {A0 : Nat → Prop} (E : EV p s m args meth c cX1_push 3 RX1 D cI cR ad shX NX A0) (hr : meth.sig.returnType = none)  (μ : Mem) : LL p l e (RM 2) s m args below meth c 3 D cI cR ad shX NX A0 (fun (r : Unit) μ' => KG below args s D cI cR ad shX NX A0 none μ') (fX1_push_L12 μ) 0 0 12 [some (.ref (ad 11)), some (.ref (ad 1)), none] [] μ := by
  rw [fX1_push_L12]
  refine ll_aload_n E (pc := 12) dX1_push_12 rfl ?_
  refine ll_getfr E (pc := 13) (o9 := 11) (ci := 1) (k9 := 0) (q := 12) dX1_push_13 fl_X1_11 (Nat.le_of_ble_eq_true rfl) fx_11_0 ?_
  refine ll_aload_n E (pc := 16) dX1_push_16 rfl ?_
  refine ll_getf E (pc := 17) (o9 := 11) (ci := 1) (k9 := 1) dX1_push_17 fl_X1_18 (Nat.le_of_ble_eq_true rfl) fx_11_1 ?_
  refine ll_aald E (pc := 20) (a := 12) (ok := oks) dX1_push_20 (Nat.le_of_ble_eq_true rfl) pr_12 ?_
  intro q7 hq7
  refine ll_astore_n E (pc := 21) (lo' := [some (.ref (ad 11)), some (.ref (ad 1)), some (.ref (ad q7))]) dX1_push_21 (Nat.le_of_ble_eq_true rfl) rfl rfl ?_
  refine ll_aload_n E (pc := 22) dX1_push_22 rfl ?_
  refine ll_ifnull E (pc := 23) dX1_push_23 ?_
  refine ll_aload_n E (pc := 26) dX1_push_26 rfl ?_
  refine ll_aload_n E (pc := 27) dX1_push_27 rfl ?_
  refine ll_callVv E (pc := 28) (d := 1) (ci := 6) (o9 := q7) [.ref (ad 1)] [] dX1_push_28 cv_X1_25 (fun h => ctX6_copyFrom (pst_of hq7) (pst_c 1 rfl) h) (pst_lt (pst_of hq7)) (pst_s (pst_of hq7)) ci_6 rfl rfl (Nat.le_of_ble_eq_true rfl) ⟨(Nat.le_of_ble_eq_true rfl), (Nat.le_of_ble_eq_true rfl)⟩ ⟨(Nat.le_of_ble_eq_true rfl), (Nat.le_of_ble_eq_true rfl)⟩ ?_
  intro r9 μ8
  refine ll_aload_n E (pc := 31) dX1_push_31 rfl ?_
  refine ll_dup E (pc := 32) dX1_push_32 rfl ?_
  refine ll_getf E (pc := 33) (o9 := 11) (ci := 1) (k9 := 1) dX1_push_33 fl_X1_18 (Nat.le_of_ble_eq_true rfl) fx_11_1 ?_
  refine ll_iconst E (pc := 36) dX1_push_36 kc_1 ?_
  refine ll_iadd E (pc := 37) dX1_push_37 ?_
  refine ll_putf E (pc := 38) (o9 := 11) (ci := 1) (k9 := 1) dX1_push_38 fw_X1_18 (Nat.le_of_ble_eq_true rfl) fx_11_1 ?_
  intro μ10
  exact ll_return E (pc := 41) hr dX1_push_41
theorem ctX1_push {l : Launch} {D : va_G} {cI cR : ClassId} {ad : Nat → Nat} {μ : Mem} {r : Unit} {μ' : Mem} (hf : fX1_push μ = some (r, μ')) : CT l yX1_push cX1_push 3 none 2 D cI cR ad shX NX [.ref (ad 11), .ref (ad 1)] μ none μ' :=
  ct_of (own := RX1) (ov := fun _ => none) (by decide +kernel) rfl (Nat.le_of_ble_eq_true rfl) (fun p e s m below meth c A0 E hr => by
    refine ll_lo (lo' := [some (.ref (ad 11)), some (.ref (ad 1)), none]) ⟨rfl, rfl, trivial⟩ ?_
    rw [fX1_push]
    refine ll_aload_n E (pc := 0) dX1_push_0 rfl ?_
    refine ll_getf E (pc := 1) (o9 := 11) (ci := 1) (k9 := 1) dX1_push_1 fl_X1_18 (Nat.le_of_ble_eq_true rfl) fx_11_1 ?_
    refine ll_iconst E (pc := 4) dX1_push_4 kc_5 ?_
    refine ll_icmp_lt E (pc := 5) (tgt := 12) dX1_push_5 rfl ?_ ?_
    · exact ll_lo (lo' := [some (.ref (ad 11)), some (.ref (ad 1)), none]) ⟨rfl, rfl, trivial⟩ (kX1_push_L12 E hr μ)
    · refine ll_aload_n E (pc := 8) dX1_push_8 rfl ?_
      refine ll_callVv E (pc := 9) (d := 0) (ci := 1) (o9 := 11) [] [] dX1_push_9 cv_X1_22 (fun h => ctX1_dropOldest h) (Nat.le_of_ble_eq_true rfl) sx_11 ci_1 rfl rfl (Nat.le_of_ble_eq_true rfl) ⟨(Nat.le_of_ble_eq_true rfl), (Nat.le_of_ble_eq_true rfl)⟩ ⟨(Nat.le_of_ble_eq_true rfl), (Nat.le_of_ble_eq_true rfl)⟩ ?_
      intro r12 μ11
      exact ll_lo (lo' := [some (.ref (ad 11)), some (.ref (ad 1)), none]) ⟨rfl, rfl, trivial⟩ (kX1_push_L12 E hr μ11)) hf
theorem dX1_popInto_0 : decode cX1_popInto 0 = .ok (.aload_n 0, 1) := by decide +kernel
theorem dX1_popInto_1 : decode cX1_popInto 1 = .ok (.getfield 18, 3) := by decide +kernel
theorem dX1_popInto_4 : decode cX1_popInto 4 = .ok (.ifCond .le 11, 3) := by decide +kernel
theorem dX1_popInto_7 : decode cX1_popInto 7 = .ok (.aload_n 0, 1) := by decide +kernel
theorem dX1_popInto_8 : decode cX1_popInto 8 = .ok (.getfield 18, 3) := by decide +kernel
theorem dX1_popInto_11 : decode cX1_popInto 11 = .ok (.iconst 5, 1) := by decide +kernel
theorem dX1_popInto_12 : decode cX1_popInto 12 = .ok (.if_icmp .le 4, 3) := by decide +kernel
theorem dX1_popInto_15 : decode cX1_popInto 15 = .ok (.return_, 1) := by decide +kernel
theorem dX1_popInto_16 : decode cX1_popInto 16 = .ok (.aload_n 0, 1) := by decide +kernel
theorem dX1_popInto_17 : decode cX1_popInto 17 = .ok (.dup, 1) := by decide +kernel
theorem dX1_popInto_18 : decode cX1_popInto 18 = .ok (.getfield 18, 3) := by decide +kernel
theorem dX1_popInto_21 : decode cX1_popInto 21 = .ok (.iconst 1, 1) := by decide +kernel
theorem dX1_popInto_22 : decode cX1_popInto 22 = .ok (.isub, 1) := by decide +kernel
theorem dX1_popInto_23 : decode cX1_popInto 23 = .ok (.putfield 18, 3) := by decide +kernel
theorem dX1_popInto_26 : decode cX1_popInto 26 = .ok (.aload_n 0, 1) := by decide +kernel
theorem dX1_popInto_27 : decode cX1_popInto 27 = .ok (.getfield 11, 3) := by decide +kernel
theorem dX1_popInto_30 : decode cX1_popInto 30 = .ok (.aload_n 0, 1) := by decide +kernel
theorem dX1_popInto_31 : decode cX1_popInto 31 = .ok (.getfield 18, 3) := by decide +kernel
theorem dX1_popInto_34 : decode cX1_popInto 34 = .ok (.aaload, 1) := by decide +kernel
theorem dX1_popInto_35 : decode cX1_popInto 35 = .ok (.astore_n 2, 1) := by decide +kernel
theorem dX1_popInto_36 : decode cX1_popInto 36 = .ok (.aload_n 2, 1) := by decide +kernel
theorem dX1_popInto_37 : decode cX1_popInto 37 = .ok (.ifnull 8, 3) := by decide +kernel
theorem dX1_popInto_40 : decode cX1_popInto 40 = .ok (.aload_n 1, 1) := by decide +kernel
theorem dX1_popInto_41 : decode cX1_popInto 41 = .ok (.aload_n 2, 1) := by decide +kernel
theorem dX1_popInto_42 : decode cX1_popInto 42 = .ok (.invokevirtual 25, 3) := by decide +kernel
theorem dX1_popInto_45 : decode cX1_popInto 45 = .ok (.return_, 1) := by decide +kernel
def fX1_popInto (μ : Mem) : Option (Unit × Mem) :=
  if (μ 11 1) ≤ 0 then
  some ((), μ)
  else
  if (μ 11 1) ≤ (5 : Int32) then
  (pt μ 11 1 ((μ 11 1) - (1 : Int32))).bind fun μ5 =>
  (ldr 5 oks (μ5 12) (μ5 11 1)).bind fun q6 =>
  bd (fX6_copyFrom μ5 1 q6) fun _ μ7 =>
  some ((), μ7)
  else
  some ((), μ)
theorem ctX1_popInto {l : Launch} {D : va_G} {cI cR : ClassId} {ad : Nat → Nat} {μ : Mem} {r : Unit} {μ' : Mem} (hf : fX1_popInto μ = some (r, μ')) : CT l yX1_popInto cX1_popInto 3 none 2 D cI cR ad shX NX [.ref (ad 11), .ref (ad 1)] μ none μ' :=
  ct_of (own := RX1) (ov := fun _ => none) (by decide +kernel) rfl (Nat.le_of_ble_eq_true rfl) (fun p e s m below meth c A0 E hr => by
    refine ll_lo (lo' := [some (.ref (ad 11)), some (.ref (ad 1)), none]) ⟨rfl, rfl, trivial⟩ ?_
    rw [fX1_popInto]
    refine ll_aload_n E (pc := 0) dX1_popInto_0 rfl ?_
    refine ll_getf E (pc := 1) (o9 := 11) (ci := 1) (k9 := 1) dX1_popInto_1 fl_X1_18 (Nat.le_of_ble_eq_true rfl) fx_11_1 ?_
    refine ll_if_le E (pc := 4) (tgt := 15) dX1_popInto_4 rfl ?_ ?_
    · exact ll_return E (pc := 15) hr dX1_popInto_15
    · refine ll_aload_n E (pc := 7) dX1_popInto_7 rfl ?_
      refine ll_getf E (pc := 8) (o9 := 11) (ci := 1) (k9 := 1) dX1_popInto_8 fl_X1_18 (Nat.le_of_ble_eq_true rfl) fx_11_1 ?_
      refine ll_iconst E (pc := 11) dX1_popInto_11 kc_5 ?_
      refine ll_icmp_le E (pc := 12) (tgt := 16) dX1_popInto_12 rfl ?_ ?_
      · refine ll_aload_n E (pc := 16) dX1_popInto_16 rfl ?_
        refine ll_dup E (pc := 17) dX1_popInto_17 rfl ?_
        refine ll_getf E (pc := 18) (o9 := 11) (ci := 1) (k9 := 1) dX1_popInto_18 fl_X1_18 (Nat.le_of_ble_eq_true rfl) fx_11_1 ?_
        refine ll_iconst E (pc := 21) dX1_popInto_21 kc_1 ?_
        refine ll_isub E (pc := 22) dX1_popInto_22 ?_
        refine ll_putf E (pc := 23) (o9 := 11) (ci := 1) (k9 := 1) dX1_popInto_23 fw_X1_18 (Nat.le_of_ble_eq_true rfl) fx_11_1 ?_
        intro μ5
        refine ll_aload_n E (pc := 26) dX1_popInto_26 rfl ?_
        refine ll_getfr E (pc := 27) (o9 := 11) (ci := 1) (k9 := 0) (q := 12) dX1_popInto_27 fl_X1_11 (Nat.le_of_ble_eq_true rfl) fx_11_0 ?_
        refine ll_aload_n E (pc := 30) dX1_popInto_30 rfl ?_
        refine ll_getf E (pc := 31) (o9 := 11) (ci := 1) (k9 := 1) dX1_popInto_31 fl_X1_18 (Nat.le_of_ble_eq_true rfl) fx_11_1 ?_
        refine ll_aald E (pc := 34) (a := 12) (ok := oks) dX1_popInto_34 (Nat.le_of_ble_eq_true rfl) pr_12 ?_
        intro q6 hq6
        refine ll_astore_n E (pc := 35) (lo' := [some (.ref (ad 11)), some (.ref (ad 1)), some (.ref (ad q6))]) dX1_popInto_35 (Nat.le_of_ble_eq_true rfl) rfl rfl ?_
        refine ll_aload_n E (pc := 36) dX1_popInto_36 rfl ?_
        refine ll_ifnull E (pc := 37) dX1_popInto_37 ?_
        refine ll_aload_n E (pc := 40) dX1_popInto_40 rfl ?_
        refine ll_aload_n E (pc := 41) dX1_popInto_41 rfl ?_
        refine ll_callVv E (pc := 42) (d := 1) (ci := 6) (o9 := 1) [.ref (ad q6)] [] dX1_popInto_42 cv_X1_25 (fun h => ctX6_copyFrom (pst_c 1 rfl) (pst_of hq6) h) (Nat.le_of_ble_eq_true rfl) sx_1 ci_6 rfl rfl (Nat.le_of_ble_eq_true rfl) ⟨(Nat.le_of_ble_eq_true rfl), (Nat.le_of_ble_eq_true rfl)⟩ ⟨(Nat.le_of_ble_eq_true rfl), (Nat.le_of_ble_eq_true rfl)⟩ ?_
        intro r8 μ7
        exact ll_return E (pc := 45) hr dX1_popInto_45
      · exact ll_return E (pc := 15) hr dX1_popInto_15) hf
theorem dX8_mixed_0 : decode cX8_mixed 0 = .ok (.ldc2_w 379, 3) := by decide +kernel
theorem dX8_mixed_3 : decode cX8_mixed 3 = .ok (.lload_n 0, 1) := by decide +kernel
theorem dX8_mixed_4 : decode cX8_mixed 4 = .ok (.lmul, 1) := by decide +kernel
theorem dX8_mixed_5 : decode cX8_mixed 5 = .ok (.lload_n 2, 1) := by decide +kernel
theorem dX8_mixed_6 : decode cX8_mixed 6 = .ok (.ladd, 1) := by decide +kernel
theorem dX8_mixed_7 : decode cX8_mixed 7 = .ok (.lreturn, 1) := by decide +kernel
def fX8_mixed (μ : Mem) (a0 : Int64) (a2 : Int64) : Option (Int64 × Mem) :=
  some ((((31 : Int64) * a0) + a2), μ)
theorem ctX8_mixed {l : Launch} {D : va_G} {cI cR : ClassId} {ad : Nat → Nat} {μ : Mem} {a0 : Int64} {a2 : Int64} {r : Int64} {μ' : Mem} (hf : fX8_mixed μ a0 a2 = some (r, μ')) : CT l yX8_mixed cX8_mixed 4 (some .long) 0 D cI cR ad shX NX [.long a0, .long a2] μ (some (.long r)) μ' :=
  ct_of (own := RX8) (ov := fun r => some (.long r)) (by decide +kernel) rfl (Nat.le_of_ble_eq_true rfl) (fun p e s m below meth c A0 E hr => by
    refine ll_lo (lo' := [some (.long a0), none, some (.long a2), none]) ⟨rfl, rfl, trivial⟩ ?_
    rw [fX8_mixed]
    refine ll_ldc2 E (pc := 0) dX8_mixed_0 kw_X8_379 ?_
    refine ll_lload_n E (pc := 3) dX8_mixed_3 rfl ?_
    refine ll_lmul E (pc := 4) dX8_mixed_4 ?_
    refine ll_lload_n E (pc := 5) dX8_mixed_5 rfl ?_
    refine ll_ladd E (pc := 6) dX8_mixed_6 ?_
    exact ll_lreturn E (pc := 7) hr dX8_mixed_7) hf
theorem dJ9_floorMod_7cf53_0 : decode cJ9_floorMod_7cf53 0 = .ok (.iload_n 0, 1) := by decide +kernel
theorem dJ9_floorMod_7cf53_1 : decode cJ9_floorMod_7cf53 1 = .ok (.iload_n 1, 1) := by decide +kernel
theorem dJ9_floorMod_7cf53_2 : decode cJ9_floorMod_7cf53 2 = .ok (.irem, 1) := by decide +kernel
theorem dJ9_floorMod_7cf53_3 : decode cJ9_floorMod_7cf53 3 = .ok (.istore_n 2, 1) := by decide +kernel
theorem dJ9_floorMod_7cf53_4 : decode cJ9_floorMod_7cf53 4 = .ok (.iload_n 0, 1) := by decide +kernel
theorem dJ9_floorMod_7cf53_5 : decode cJ9_floorMod_7cf53 5 = .ok (.iload_n 1, 1) := by decide +kernel
theorem dJ9_floorMod_7cf53_6 : decode cJ9_floorMod_7cf53 6 = .ok (.ixor, 1) := by decide +kernel
theorem dJ9_floorMod_7cf53_7 : decode cJ9_floorMod_7cf53 7 = .ok (.ifCond .ge 11, 3) := by decide +kernel
theorem dJ9_floorMod_7cf53_10 : decode cJ9_floorMod_7cf53 10 = .ok (.iload_n 2, 1) := by decide +kernel
theorem dJ9_floorMod_7cf53_11 : decode cJ9_floorMod_7cf53 11 = .ok (.ifCond .eq 7, 3) := by decide +kernel
theorem dJ9_floorMod_7cf53_14 : decode cJ9_floorMod_7cf53 14 = .ok (.iload_n 2, 1) := by decide +kernel
theorem dJ9_floorMod_7cf53_15 : decode cJ9_floorMod_7cf53 15 = .ok (.iload_n 1, 1) := by decide +kernel
theorem dJ9_floorMod_7cf53_16 : decode cJ9_floorMod_7cf53 16 = .ok (.iadd, 1) := by decide +kernel
theorem dJ9_floorMod_7cf53_17 : decode cJ9_floorMod_7cf53 17 = .ok (.ireturn, 1) := by decide +kernel
theorem dJ9_floorMod_7cf53_18 : decode cJ9_floorMod_7cf53 18 = .ok (.iload_n 2, 1) := by decide +kernel
theorem dJ9_floorMod_7cf53_19 : decode cJ9_floorMod_7cf53 19 = .ok (.ireturn, 1) := by decide +kernel
def fJ9_floorMod_7cf53 (μ : Mem) (a0 : Int32) (a1 : Int32) : Option (Int32 × Mem) :=
  (rmd a0 a1).bind fun r2 =>
  if 0 ≤ (a0 ^^^ a1) then
  some (r2, μ)
  else
  if r2 = 0 then
  some (r2, μ)
  else
  some ((r2 + a1), μ)
theorem ctJ9_floorMod_7cf53 {l : Launch} {D : va_G} {cI cR : ClassId} {ad : Nat → Nat} {μ : Mem} {a0 : Int32} {a1 : Int32} {r : Int32} {μ' : Mem} (hf : fJ9_floorMod_7cf53 μ a0 a1 = some (r, μ')) : CT l yJ9_floorMod_7cf53 cJ9_floorMod_7cf53 3 (some .int) 0 D cI cR ad shX NX [.int a0, .int a1] μ (some (.int r)) μ' :=
  ct_of (own := RJ9) (ov := fun r => some (.int r)) (by decide +kernel) rfl (Nat.le_of_ble_eq_true rfl) (fun p e s m below meth c A0 E hr => by
    refine ll_lo (lo' := [some (.int a0), some (.int a1), none]) ⟨rfl, rfl, trivial⟩ ?_
    rw [fJ9_floorMod_7cf53]
    refine ll_iload_n E (pc := 0) dJ9_floorMod_7cf53_0 rfl ?_
    refine ll_iload_n E (pc := 1) dJ9_floorMod_7cf53_1 rfl ?_
    refine ll_irem E (pc := 2) dJ9_floorMod_7cf53_2 ?_
    intro r2
    refine ll_istore_n E (pc := 3) (lo' := [some (.int a0), some (.int a1), some (.int r2)]) dJ9_floorMod_7cf53_3 (Nat.le_of_ble_eq_true rfl) rfl rfl ?_
    refine ll_iload_n E (pc := 4) dJ9_floorMod_7cf53_4 rfl ?_
    refine ll_iload_n E (pc := 5) dJ9_floorMod_7cf53_5 rfl ?_
    refine ll_ixor E (pc := 6) dJ9_floorMod_7cf53_6 ?_
    refine ll_if_ge E (pc := 7) (tgt := 18) dJ9_floorMod_7cf53_7 rfl ?_ ?_
    · refine ll_iload_n E (pc := 18) dJ9_floorMod_7cf53_18 rfl ?_
      exact ll_ireturn E (pc := 19) hr dJ9_floorMod_7cf53_19
    · refine ll_iload_n E (pc := 10) dJ9_floorMod_7cf53_10 rfl ?_
      refine ll_if_eq E (pc := 11) (tgt := 18) dJ9_floorMod_7cf53_11 rfl ?_ ?_
      · refine ll_iload_n E (pc := 18) dJ9_floorMod_7cf53_18 rfl ?_
        exact ll_ireturn E (pc := 19) hr dJ9_floorMod_7cf53_19
      · refine ll_iload_n E (pc := 14) dJ9_floorMod_7cf53_14 rfl ?_
        refine ll_iload_n E (pc := 15) dJ9_floorMod_7cf53_15 rfl ?_
        refine ll_iadd E (pc := 16) dJ9_floorMod_7cf53_16 ?_
        exact ll_ireturn E (pc := 17) hr dJ9_floorMod_7cf53_17) hf
theorem dJ9_floorMod_f86c9_0 : decode cJ9_floorMod_f86c9 0 = .ok (.lload_n 0, 1) := by decide +kernel
theorem dJ9_floorMod_f86c9_1 : decode cJ9_floorMod_f86c9 1 = .ok (.lload_n 2, 1) := by decide +kernel
theorem dJ9_floorMod_f86c9_2 : decode cJ9_floorMod_f86c9 2 = .ok (.lrem, 1) := by decide +kernel
theorem dJ9_floorMod_f86c9_3 : decode cJ9_floorMod_f86c9 3 = .ok (.lstore 4, 2) := by decide +kernel
theorem dJ9_floorMod_f86c9_5 : decode cJ9_floorMod_f86c9 5 = .ok (.lload_n 0, 1) := by decide +kernel
theorem dJ9_floorMod_f86c9_6 : decode cJ9_floorMod_f86c9 6 = .ok (.lload_n 2, 1) := by decide +kernel
theorem dJ9_floorMod_f86c9_7 : decode cJ9_floorMod_f86c9 7 = .ok (.lxor, 1) := by decide +kernel
theorem dJ9_floorMod_f86c9_8 : decode cJ9_floorMod_f86c9 8 = .ok (.lconst 0, 1) := by decide +kernel
theorem dJ9_floorMod_f86c9_9 : decode cJ9_floorMod_f86c9 9 = .ok (.lcmp, 1) := by decide +kernel
theorem dJ9_floorMod_f86c9_10 : decode cJ9_floorMod_f86c9 10 = .ok (.ifCond .ge 15, 3) := by decide +kernel
theorem dJ9_floorMod_f86c9_13 : decode cJ9_floorMod_f86c9 13 = .ok (.lload 4, 2) := by decide +kernel
theorem dJ9_floorMod_f86c9_15 : decode cJ9_floorMod_f86c9 15 = .ok (.lconst 0, 1) := by decide +kernel
theorem dJ9_floorMod_f86c9_16 : decode cJ9_floorMod_f86c9 16 = .ok (.lcmp, 1) := by decide +kernel
theorem dJ9_floorMod_f86c9_17 : decode cJ9_floorMod_f86c9 17 = .ok (.ifCond .eq 8, 3) := by decide +kernel
theorem dJ9_floorMod_f86c9_20 : decode cJ9_floorMod_f86c9 20 = .ok (.lload 4, 2) := by decide +kernel
theorem dJ9_floorMod_f86c9_22 : decode cJ9_floorMod_f86c9 22 = .ok (.lload_n 2, 1) := by decide +kernel
theorem dJ9_floorMod_f86c9_23 : decode cJ9_floorMod_f86c9 23 = .ok (.ladd, 1) := by decide +kernel
theorem dJ9_floorMod_f86c9_24 : decode cJ9_floorMod_f86c9 24 = .ok (.lreturn, 1) := by decide +kernel
theorem dJ9_floorMod_f86c9_25 : decode cJ9_floorMod_f86c9 25 = .ok (.lload 4, 2) := by decide +kernel
theorem dJ9_floorMod_f86c9_27 : decode cJ9_floorMod_f86c9 27 = .ok (.lreturn, 1) := by decide +kernel
def fJ9_floorMod_f86c9 (μ : Mem) (a0 : Int64) (a2 : Int64) : Option (Int64 × Mem) :=
  (lrmd a0 a2).bind fun r2 =>
  if 0 ≤ (lg_cmp (a0 ^^^ a2) (0 : Int64)) then
  some (r2, μ)
  else
  if (lg_cmp r2 (0 : Int64)) = 0 then
  some (r2, μ)
  else
  some ((r2 + a2), μ)
theorem ctJ9_floorMod_f86c9 {l : Launch} {D : va_G} {cI cR : ClassId} {ad : Nat → Nat} {μ : Mem} {a0 : Int64} {a2 : Int64} {r : Int64} {μ' : Mem} (hf : fJ9_floorMod_f86c9 μ a0 a2 = some (r, μ')) : CT l yJ9_floorMod_f86c9 cJ9_floorMod_f86c9 6 (some .long) 0 D cI cR ad shX NX [.long a0, .long a2] μ (some (.long r)) μ' :=
  ct_of (own := RJ9) (ov := fun r => some (.long r)) (by decide +kernel) rfl (Nat.le_of_ble_eq_true rfl) (fun p e s m below meth c A0 E hr => by
    refine ll_lo (lo' := [some (.long a0), none, some (.long a2), none, none, none]) ⟨rfl, rfl, trivial⟩ ?_
    rw [fJ9_floorMod_f86c9]
    refine ll_lload_n E (pc := 0) dJ9_floorMod_f86c9_0 rfl ?_
    refine ll_lload_n E (pc := 1) dJ9_floorMod_f86c9_1 rfl ?_
    refine ll_lrem E (pc := 2) dJ9_floorMod_f86c9_2 ?_
    intro r2
    refine ll_lstore E (pc := 3) (lo' := [some (.long a0), none, some (.long a2), none, some (.long r2), none]) dJ9_floorMod_f86c9_3 (Nat.le_of_ble_eq_true rfl) rfl rfl ?_
    refine ll_lload_n E (pc := 5) dJ9_floorMod_f86c9_5 rfl ?_
    refine ll_lload_n E (pc := 6) dJ9_floorMod_f86c9_6 rfl ?_
    refine ll_lxor E (pc := 7) dJ9_floorMod_f86c9_7 ?_
    refine ll_lconst E (pc := 8) (v := 0) dJ9_floorMod_f86c9_8 rfl ?_
    refine ll_lcmp E (pc := 9) dJ9_floorMod_f86c9_9 ?_
    refine ll_if_ge E (pc := 10) (tgt := 25) dJ9_floorMod_f86c9_10 rfl ?_ ?_
    · refine ll_lload E (pc := 25) dJ9_floorMod_f86c9_25 rfl ?_
      exact ll_lreturn E (pc := 27) hr dJ9_floorMod_f86c9_27
    · refine ll_lload E (pc := 13) dJ9_floorMod_f86c9_13 rfl ?_
      refine ll_lconst E (pc := 15) (v := 0) dJ9_floorMod_f86c9_15 rfl ?_
      refine ll_lcmp E (pc := 16) dJ9_floorMod_f86c9_16 ?_
      refine ll_if_eq E (pc := 17) (tgt := 25) dJ9_floorMod_f86c9_17 rfl ?_ ?_
      · refine ll_lload E (pc := 25) dJ9_floorMod_f86c9_25 rfl ?_
        exact ll_lreturn E (pc := 27) hr dJ9_floorMod_f86c9_27
      · refine ll_lload E (pc := 20) dJ9_floorMod_f86c9_20 rfl ?_
        refine ll_lload_n E (pc := 22) dJ9_floorMod_f86c9_22 rfl ?_
        refine ll_ladd E (pc := 23) dJ9_floorMod_f86c9_23 ?_
        exact ll_lreturn E (pc := 24) hr dJ9_floorMod_f86c9_24) hf
