theorem dX0_wayOf_0 : decode cX0_wayOf 0 = .ok (.aload_n 0, 1) := by decide +kernel
theorem dX0_wayOf_1 : decode cX0_wayOf 1 = .ok (.iload_n 1, 1) := by decide +kernel
theorem dX0_wayOf_2 : decode cX0_wayOf 2 = .ok (.iload_n 2, 1) := by decide +kernel
theorem dX0_wayOf_3 : decode cX0_wayOf 3 = .ok (.invokevirtual 25, 3) := by decide +kernel
theorem dX0_wayOf_6 : decode cX0_wayOf 6 = .ok (.istore 4, 2) := by decide +kernel
theorem dX0_wayOf_8 : decode cX0_wayOf 8 = .ok (.aload_n 0, 1) := by decide +kernel
theorem dX0_wayOf_9 : decode cX0_wayOf 9 = .ok (.iload_n 1, 1) := by decide +kernel
theorem dX0_wayOf_10 : decode cX0_wayOf 10 = .ok (.iload_n 2, 1) := by decide +kernel
theorem dX0_wayOf_11 : decode cX0_wayOf 11 = .ok (.invokevirtual 31, 3) := by decide +kernel
theorem dX0_wayOf_14 : decode cX0_wayOf 14 = .ok (.istore 5, 2) := by decide +kernel
theorem dX0_wayOf_16 : decode cX0_wayOf 16 = .ok (.iload 4, 2) := by decide +kernel
theorem dX0_wayOf_18 : decode cX0_wayOf 18 = .ok (.bipush (-99), 2) := by decide +kernel
theorem dX0_wayOf_20 : decode cX0_wayOf 20 = .ok (.if_icmp .ne 8, 3) := by decide +kernel
theorem dX0_wayOf_23 : decode cX0_wayOf 23 = .ok (.ldc 34, 2) := by decide +kernel
theorem dX0_wayOf_25 : decode cX0_wayOf 25 = .ok (.goto 5, 3) := by decide +kernel
theorem dX0_wayOf_28 : decode cX0_wayOf 28 = .ok (.iload 4, 2) := by decide +kernel
theorem dX0_wayOf_30 : decode cX0_wayOf 30 = .ok (.istore 6, 2) := by decide +kernel
theorem dX0_wayOf_32 : decode cX0_wayOf 32 = .ok (.iload 5, 2) := by decide +kernel
theorem dX0_wayOf_34 : decode cX0_wayOf 34 = .ok (.bipush (-99), 2) := by decide +kernel
theorem dX0_wayOf_36 : decode cX0_wayOf 36 = .ok (.if_icmp .ne 8, 3) := by decide +kernel
theorem dX0_wayOf_39 : decode cX0_wayOf 39 = .ok (.iload 6, 2) := by decide +kernel
theorem dX0_wayOf_41 : decode cX0_wayOf 41 = .ok (.goto 12, 3) := by decide +kernel
theorem dX0_wayOf_44 : decode cX0_wayOf 44 = .ok (.iload 6, 2) := by decide +kernel
theorem dX0_wayOf_46 : decode cX0_wayOf 46 = .ok (.iload 5, 2) := by decide +kernel
theorem dX0_wayOf_48 : decode cX0_wayOf 48 = .ok (.iload_n 3, 1) := by decide +kernel
theorem dX0_wayOf_49 : decode cX0_wayOf 49 = .ok (.isub, 1) := by decide +kernel
theorem dX0_wayOf_50 : decode cX0_wayOf 50 = .ok (.invokestatic 35, 3) := by decide +kernel
theorem dX0_wayOf_53 : decode cX0_wayOf 53 = .ok (.ireturn, 1) := by decide +kernel
def fX0_wayOf_L30 (v3 : Int32) (v5 : Int32) (s0 : Int32) (μ : Mem) : Option (Int32 × Mem) :=
  if v5 = (-99 : Int32) then
  some (s0, μ)
  else
  some ((jmax s0 (v5 - v3)), μ)
def fX0_wayOf (μ : Mem) (a1 : Int32) (a2 : Int32) (a3 : Int32) : Option (Int32 × Mem) :=
  bd (fX2_nearOf μ a1 a2) fun r6 μ5 =>
  bd (fX2_overOf μ5 a1 a2) fun r8 μ7 =>
  if r6 = (-99 : Int32) then
  fX0_wayOf_L30 a3 r8 (-1000000 : Int32) μ7
  else
  fX0_wayOf_L30 a3 r8 r6 μ7
theorem kX0_wayOf_L30 {p : Program} {l : Launch} {e : Env} {s : State} {m : MethodId} {args : Array Value} {below : List Frame} {meth : Method} {c : Code} {D : va_G} {cI cR : ClassId} {ad : Nat → Nat} {A0 : Nat → Prop} (E : EV p s m args meth c cX0_wayOf 7 RX0 D cI cR ad shX NX A0) (hr : meth.sig.returnType = (some .int)) (v3 : Int32) (v5 : Int32) (s0 : Int32) (μ : Mem) : LL p l e (RM 1) s m args below meth c 7 D cI cR ad shX NX A0 (fun (r : Int32) μ' => KG below args s D cI cR ad shX NX A0 (some (.int r)) μ') (fX0_wayOf_L30 v3 v5 s0 μ) 0 0 30 [none, none, none, some (.int v3), none, some (.int v5), none] [.int s0] μ := by
  rw [fX0_wayOf_L30]
  refine ll_istore E (pc := 30) (lo' := [none, none, none, some (.int v3), none, some (.int v5), some (.int s0)]) dX0_wayOf_30 (Nat.le_of_ble_eq_true rfl) rfl rfl ?_
  refine ll_iload E (pc := 32) dX0_wayOf_32 rfl ?_
  refine ll_bipush E (pc := 34) dX0_wayOf_34 kb_m99 ?_
  refine ll_icmp_ne E (pc := 36) (tgt := 44) dX0_wayOf_36 rfl ?_ ?_
  · refine ll_iload E (pc := 44) dX0_wayOf_44 rfl ?_
    refine ll_iload E (pc := 46) dX0_wayOf_46 rfl ?_
    refine ll_iload_n E (pc := 48) dX0_wayOf_48 rfl ?_
    refine ll_isub E (pc := 49) dX0_wayOf_49 ?_
    refine ll_max E (pc := 50) dX0_wayOf_50 mw_X0_35 mw_max1 mw_math mw_max2 (Nat.le_of_ble_eq_true rfl) ⟨(Nat.le_of_ble_eq_true rfl), (Nat.le_of_ble_eq_true rfl)⟩ ⟨(Nat.le_of_ble_eq_true rfl), (Nat.le_of_ble_eq_true rfl)⟩ ?_
    exact ll_ireturn E (pc := 53) hr dX0_wayOf_53
  · refine ll_iload E (pc := 39) dX0_wayOf_39 rfl ?_
    refine ll_goto E (pc := 41) (tgt := 53) dX0_wayOf_41 rfl ?_
    exact ll_ireturn E (pc := 53) hr dX0_wayOf_53
theorem ctX0_wayOf {l : Launch} {D : va_G} {cI cR : ClassId} {ad : Nat → Nat} {μ : Mem} {a1 : Int32} {a2 : Int32} {a3 : Int32} {r : Int32} {μ' : Mem} (hf : fX0_wayOf μ a1 a2 a3 = some (r, μ')) : CT l yX0_wayOf cX0_wayOf 7 (some .int) 1 D cI cR ad shX NX [.ref (ad 75), .int a1, .int a2, .int a3] μ (some (.int r)) μ' :=
  ct_of (own := RX0) (ov := fun r => some (.int r)) (by decide +kernel) rfl (Nat.le_of_ble_eq_true rfl) (fun p e s m below meth c A0 E hr => by
    refine ll_lo (lo' := [some (.ref (ad 75)), some (.int a1), some (.int a2), some (.int a3), none, none, none]) ⟨rfl, rfl, rfl, rfl, trivial⟩ ?_
    rw [fX0_wayOf]
    refine ll_aload_n E (pc := 0) dX0_wayOf_0 rfl ?_
    refine ll_iload_n E (pc := 1) dX0_wayOf_1 rfl ?_
    refine ll_iload_n E (pc := 2) dX0_wayOf_2 rfl ?_
    refine ll_callVi E (pc := 3) (d := 0) (ci := 2) (o9 := 75) [.int a1, .int a2] [] dX0_wayOf_3 cv_X0_25 (fun h => ctX2_nearOf h) (Nat.le_of_ble_eq_true rfl) sx_75 ci_2 rfl rfl (Nat.le_of_ble_eq_true rfl) ⟨(Nat.le_of_ble_eq_true rfl), (Nat.le_of_ble_eq_true rfl)⟩ ⟨(Nat.le_of_ble_eq_true rfl), (Nat.le_of_ble_eq_true rfl)⟩ ?_
    intro r6 μ5
    refine ll_istore E (pc := 6) (lo' := [some (.ref (ad 75)), some (.int a1), some (.int a2), some (.int a3), some (.int r6), none, none]) dX0_wayOf_6 (Nat.le_of_ble_eq_true rfl) rfl rfl ?_
    refine ll_aload_n E (pc := 8) dX0_wayOf_8 rfl ?_
    refine ll_iload_n E (pc := 9) dX0_wayOf_9 rfl ?_
    refine ll_iload_n E (pc := 10) dX0_wayOf_10 rfl ?_
    refine ll_callVi E (pc := 11) (d := 0) (ci := 2) (o9 := 75) [.int a1, .int a2] [] dX0_wayOf_11 cv_X0_31 (fun h => ctX2_overOf h) (Nat.le_of_ble_eq_true rfl) sx_75 ci_2 rfl rfl (Nat.le_of_ble_eq_true rfl) ⟨(Nat.le_of_ble_eq_true rfl), (Nat.le_of_ble_eq_true rfl)⟩ ⟨(Nat.le_of_ble_eq_true rfl), (Nat.le_of_ble_eq_true rfl)⟩ ?_
    intro r8 μ7
    refine ll_istore E (pc := 14) (lo' := [some (.ref (ad 75)), some (.int a1), some (.int a2), some (.int a3), some (.int r6), some (.int r8), none]) dX0_wayOf_14 (Nat.le_of_ble_eq_true rfl) rfl rfl ?_
    refine ll_iload E (pc := 16) dX0_wayOf_16 rfl ?_
    refine ll_bipush E (pc := 18) dX0_wayOf_18 kb_m99 ?_
    refine ll_icmp_ne E (pc := 20) (tgt := 28) dX0_wayOf_20 rfl ?_ ?_
    · refine ll_iload E (pc := 28) dX0_wayOf_28 rfl ?_
      exact ll_lo (lo' := [none, none, none, some (.int a3), none, some (.int r8), none]) ⟨rfl, rfl, trivial⟩ (kX0_wayOf_L30 E hr a3 r8 r6 μ7)
    · refine ll_ldc E (pc := 23) dX0_wayOf_23 kw_X0_34 ?_
      refine ll_goto E (pc := 25) (tgt := 30) dX0_wayOf_25 rfl ?_
      exact ll_lo (lo' := [none, none, none, some (.int a3), none, some (.int r8), none]) ⟨rfl, rfl, trivial⟩ (kX0_wayOf_L30 E hr a3 r8 (-1000000 : Int32) μ7)) hf
theorem dX0_hasCircle_0 : decode cX0_hasCircle 0 = .ok (.iconst 0, 1) := by decide +kernel
theorem dX0_hasCircle_1 : decode cX0_hasCircle 1 = .ok (.istore_n 2, 1) := by decide +kernel
theorem dX0_hasCircle_2 : decode cX0_hasCircle 2 = .ok (.iload_n 2, 1) := by decide +kernel
theorem dX0_hasCircle_3 : decode cX0_hasCircle 3 = .ok (.iload_n 1, 1) := by decide +kernel
theorem dX0_hasCircle_4 : decode cX0_hasCircle 4 = .ok (.if_icmp .ge 25, 3) := by decide +kernel
theorem dX0_hasCircle_7 : decode cX0_hasCircle 7 = .ok (.aload_n 0, 1) := by decide +kernel
theorem dX0_hasCircle_8 : decode cX0_hasCircle 8 = .ok (.getfield 9, 3) := by decide +kernel
theorem dX0_hasCircle_11 : decode cX0_hasCircle 11 = .ok (.iload_n 2, 1) := by decide +kernel
theorem dX0_hasCircle_12 : decode cX0_hasCircle 12 = .ok (.bipush 20, 2) := by decide +kernel
theorem dX0_hasCircle_14 : decode cX0_hasCircle 14 = .ok (.imul, 1) := by decide +kernel
theorem dX0_hasCircle_15 : decode cX0_hasCircle 15 = .ok (.iload_n 2, 1) := by decide +kernel
theorem dX0_hasCircle_16 : decode cX0_hasCircle 16 = .ok (.iadd, 1) := by decide +kernel
theorem dX0_hasCircle_17 : decode cX0_hasCircle 17 = .ok (.iaload, 1) := by decide +kernel
theorem dX0_hasCircle_18 : decode cX0_hasCircle 18 = .ok (.ifCond .le 5, 3) := by decide +kernel
theorem dX0_hasCircle_21 : decode cX0_hasCircle 21 = .ok (.iconst 1, 1) := by decide +kernel
theorem dX0_hasCircle_22 : decode cX0_hasCircle 22 = .ok (.ireturn, 1) := by decide +kernel
theorem dX0_hasCircle_23 : decode cX0_hasCircle 23 = .ok (.iinc 2 1, 3) := by decide +kernel
theorem dX0_hasCircle_26 : decode cX0_hasCircle 26 = .ok (.goto (-24), 3) := by decide +kernel
theorem dX0_hasCircle_29 : decode cX0_hasCircle 29 = .ok (.iconst 0, 1) := by decide +kernel
theorem dX0_hasCircle_30 : decode cX0_hasCircle 30 = .ok (.ireturn, 1) := by decide +kernel
def fX0_hasCircle_L2 : Nat → Int32 → Int32 → Mem → Option (Int32 × Mem)
  | 0, _, _, _ => none
  | n + 1, v1, v2, μ =>   if v1 ≤ v2 then
  some ((0 : Int32), μ)
  else
  (ld 400 (μ 87) ((v2 * (20 : Int32)) + v2)).bind fun r2 =>
  if r2 ≤ 0 then
  fX0_hasCircle_L2 n v1 (v2 + (1 : Int32)) μ
  else
  some ((1 : Int32), μ)
def fX0_hasCircle (μ : Mem) (a1 : Int32) : Option (Int32 × Mem) :=
  fX0_hasCircle_L2 fu a1 (0 : Int32) μ
theorem kX0_hasCircle_L2 {p : Program} {l : Launch} {e : Env} {s : State} {m : MethodId} {args : Array Value} {below : List Frame} {meth : Method} {c : Code} {D : va_G} {cI cR : ClassId} {ad : Nat → Nat} {A0 : Nat → Prop} (E : EV p s m args meth c cX0_hasCircle 3 RX0 D cI cR ad shX NX A0) (hr : meth.sig.returnType = (some .boolean)) (n : Nat) : ∀ (v1 : Int32) (v2 : Int32) (μ : Mem), LL p l e (RM 0) s m args below meth c 3 D cI cR ad shX NX A0 (fun (r : Int32) μ' => KG below args s D cI cR ad shX NX A0 (some (.int r)) μ') (fX0_hasCircle_L2 n v1 v2 μ) 0 0 2 [some (.ref (ad 86)), some (.int v1), some (.int v2)] [] μ := by
  induction n with
  | zero =>
    intros
    exact ll_none
  | succ n ih =>
    intro v1 v2 μ
    rw [fX0_hasCircle_L2]
    refine ll_iload_n E (pc := 2) dX0_hasCircle_2 rfl ?_
    refine ll_iload_n E (pc := 3) dX0_hasCircle_3 rfl ?_
    refine ll_icmp_ge E (pc := 4) (tgt := 29) dX0_hasCircle_4 rfl ?_ ?_
    · refine ll_iconst E (pc := 29) dX0_hasCircle_29 kc_0 ?_
      exact ll_zreturn E (pc := 30) hr rfl dX0_hasCircle_30
    · refine ll_aload_n E (pc := 7) dX0_hasCircle_7 rfl ?_
      refine ll_getfr E (pc := 8) (o9 := 86) (ci := 0) (k9 := 0) (q := 87) dX0_hasCircle_8 fl_X0_9 (Nat.le_of_ble_eq_true rfl) fx_86_0 ?_
      refine ll_iload_n E (pc := 11) dX0_hasCircle_11 rfl ?_
      refine ll_bipush E (pc := 12) dX0_hasCircle_12 kb_20 ?_
      refine ll_imul E (pc := 14) dX0_hasCircle_14 ?_
      refine ll_iload_n E (pc := 15) dX0_hasCircle_15 rfl ?_
      refine ll_iadd E (pc := 16) dX0_hasCircle_16 ?_
      refine ll_iald E (pc := 17) (a := 87) dX0_hasCircle_17 (px_87).1 (px_87).2 ?_
      intro r2
      refine ll_if_le E (pc := 18) (tgt := 23) dX0_hasCircle_18 rfl ?_ ?_
      · refine ll_iinc E (pc := 23) (lo' := [some (.ref (ad 86)), some (.int v1), some (.int (v2 + (1 : Int32)))]) dX0_hasCircle_23 rfl kc_1 (Nat.le_of_ble_eq_true rfl) rfl rfl ?_
        refine ll_goto E (pc := 26) (tgt := 2) dX0_hasCircle_26 rfl ?_
        exact ll_lo (lo' := [some (.ref (ad 86)), some (.int v1), some (.int (v2 + (1 : Int32)))]) ⟨rfl, rfl, rfl, trivial⟩ (ih v1 (v2 + (1 : Int32)) μ)
      · refine ll_iconst E (pc := 21) dX0_hasCircle_21 kc_1 ?_
        exact ll_zreturn E (pc := 22) hr rfl dX0_hasCircle_22
theorem ctX0_hasCircle {l : Launch} {D : va_G} {cI cR : ClassId} {ad : Nat → Nat} {μ : Mem} {a1 : Int32} {r : Int32} {μ' : Mem} (hf : fX0_hasCircle μ a1 = some (r, μ')) : CT l yX0_hasCircle cX0_hasCircle 3 (some .boolean) 0 D cI cR ad shX NX [.ref (ad 86), .int a1] μ (some (.int r)) μ' :=
  ct_of (own := RX0) (ov := fun r => some (.int r)) (by decide +kernel) rfl (Nat.le_of_ble_eq_true rfl) (fun p e s m below meth c A0 E hr => by
    refine ll_lo (lo' := [some (.ref (ad 86)), some (.int a1), none]) ⟨rfl, rfl, trivial⟩ ?_
    rw [fX0_hasCircle]
    refine ll_iconst E (pc := 0) dX0_hasCircle_0 kc_0 ?_
    refine ll_istore_n E (pc := 1) (lo' := [some (.ref (ad 86)), some (.int a1), some (.int (0 : Int32))]) dX0_hasCircle_1 (Nat.le_of_ble_eq_true rfl) rfl rfl ?_
    exact ll_lo (lo' := [some (.ref (ad 86)), some (.int a1), some (.int (0 : Int32))]) ⟨rfl, rfl, rfl, trivial⟩ (kX0_hasCircle_L2 E hr fu a1 (0 : Int32) μ)) hf
theorem dX0_goByWayOf_0 : decode cX0_goByWayOf 0 = .ok (.iconst 0, 1) := by decide +kernel
theorem dX0_goByWayOf_1 : decode cX0_goByWayOf 1 = .ok (.istore_n 3, 1) := by decide +kernel
theorem dX0_goByWayOf_2 : decode cX0_goByWayOf 2 = .ok (.iload_n 3, 1) := by decide +kernel
theorem dX0_goByWayOf_3 : decode cX0_goByWayOf 3 = .ok (.iload_n 2, 1) := by decide +kernel
theorem dX0_goByWayOf_4 : decode cX0_goByWayOf 4 = .ok (.if_icmp .ge 105, 3) := by decide +kernel
theorem dX0_goByWayOf_7 : decode cX0_goByWayOf 7 = .ok (.aload_n 0, 1) := by decide +kernel
theorem dX0_goByWayOf_8 : decode cX0_goByWayOf 8 = .ok (.getfield 9, 3) := by decide +kernel
theorem dX0_goByWayOf_11 : decode cX0_goByWayOf 11 = .ok (.iload_n 3, 1) := by decide +kernel
theorem dX0_goByWayOf_12 : decode cX0_goByWayOf 12 = .ok (.bipush 20, 2) := by decide +kernel
theorem dX0_goByWayOf_14 : decode cX0_goByWayOf 14 = .ok (.imul, 1) := by decide +kernel
theorem dX0_goByWayOf_15 : decode cX0_goByWayOf 15 = .ok (.iload_n 1, 1) := by decide +kernel
theorem dX0_goByWayOf_16 : decode cX0_goByWayOf 16 = .ok (.iadd, 1) := by decide +kernel
theorem dX0_goByWayOf_17 : decode cX0_goByWayOf 17 = .ok (.iaload, 1) := by decide +kernel
theorem dX0_goByWayOf_18 : decode cX0_goByWayOf 18 = .ok (.istore 4, 2) := by decide +kernel
theorem dX0_goByWayOf_20 : decode cX0_goByWayOf 20 = .ok (.iload 4, 2) := by decide +kernel
theorem dX0_goByWayOf_22 : decode cX0_goByWayOf 22 = .ok (.ldc 34, 2) := by decide +kernel
theorem dX0_goByWayOf_24 : decode cX0_goByWayOf 24 = .ok (.if_icmp .ne 6, 3) := by decide +kernel
theorem dX0_goByWayOf_27 : decode cX0_goByWayOf 27 = .ok (.goto 76, 3) := by decide +kernel
theorem dX0_goByWayOf_30 : decode cX0_goByWayOf 30 = .ok (.iconst 0, 1) := by decide +kernel
theorem dX0_goByWayOf_31 : decode cX0_goByWayOf 31 = .ok (.istore 5, 2) := by decide +kernel
theorem dX0_goByWayOf_33 : decode cX0_goByWayOf 33 = .ok (.iload 5, 2) := by decide +kernel
theorem dX0_goByWayOf_35 : decode cX0_goByWayOf 35 = .ok (.iload_n 2, 1) := by decide +kernel
theorem dX0_goByWayOf_36 : decode cX0_goByWayOf 36 = .ok (.if_icmp .ge 67, 3) := by decide +kernel
theorem dX0_goByWayOf_39 : decode cX0_goByWayOf 39 = .ok (.aload_n 0, 1) := by decide +kernel
theorem dX0_goByWayOf_40 : decode cX0_goByWayOf 40 = .ok (.getfield 9, 3) := by decide +kernel
theorem dX0_goByWayOf_43 : decode cX0_goByWayOf 43 = .ok (.iload_n 1, 1) := by decide +kernel
theorem dX0_goByWayOf_44 : decode cX0_goByWayOf 44 = .ok (.bipush 20, 2) := by decide +kernel
theorem dX0_goByWayOf_46 : decode cX0_goByWayOf 46 = .ok (.imul, 1) := by decide +kernel
theorem dX0_goByWayOf_47 : decode cX0_goByWayOf 47 = .ok (.iload 5, 2) := by decide +kernel
theorem dX0_goByWayOf_49 : decode cX0_goByWayOf 49 = .ok (.iadd, 1) := by decide +kernel
theorem dX0_goByWayOf_50 : decode cX0_goByWayOf 50 = .ok (.iaload, 1) := by decide +kernel
theorem dX0_goByWayOf_51 : decode cX0_goByWayOf 51 = .ok (.istore 6, 2) := by decide +kernel
theorem dX0_goByWayOf_53 : decode cX0_goByWayOf 53 = .ok (.iload 6, 2) := by decide +kernel
theorem dX0_goByWayOf_55 : decode cX0_goByWayOf 55 = .ok (.ldc 34, 2) := by decide +kernel
theorem dX0_goByWayOf_57 : decode cX0_goByWayOf 57 = .ok (.if_icmp .eq 40, 3) := by decide +kernel
theorem dX0_goByWayOf_60 : decode cX0_goByWayOf 60 = .ok (.iload 4, 2) := by decide +kernel
theorem dX0_goByWayOf_62 : decode cX0_goByWayOf 62 = .ok (.iload 6, 2) := by decide +kernel
theorem dX0_goByWayOf_64 : decode cX0_goByWayOf 64 = .ok (.iadd, 1) := by decide +kernel
theorem dX0_goByWayOf_65 : decode cX0_goByWayOf 65 = .ok (.aload_n 0, 1) := by decide +kernel
theorem dX0_goByWayOf_66 : decode cX0_goByWayOf 66 = .ok (.getfield 9, 3) := by decide +kernel
theorem dX0_goByWayOf_69 : decode cX0_goByWayOf 69 = .ok (.iload_n 3, 1) := by decide +kernel
theorem dX0_goByWayOf_70 : decode cX0_goByWayOf 70 = .ok (.bipush 20, 2) := by decide +kernel
theorem dX0_goByWayOf_72 : decode cX0_goByWayOf 72 = .ok (.imul, 1) := by decide +kernel
theorem dX0_goByWayOf_73 : decode cX0_goByWayOf 73 = .ok (.iload 5, 2) := by decide +kernel
theorem dX0_goByWayOf_75 : decode cX0_goByWayOf 75 = .ok (.iadd, 1) := by decide +kernel
theorem dX0_goByWayOf_76 : decode cX0_goByWayOf 76 = .ok (.iaload, 1) := by decide +kernel
theorem dX0_goByWayOf_77 : decode cX0_goByWayOf 77 = .ok (.if_icmp .le 20, 3) := by decide +kernel
theorem dX0_goByWayOf_80 : decode cX0_goByWayOf 80 = .ok (.aload_n 0, 1) := by decide +kernel
theorem dX0_goByWayOf_81 : decode cX0_goByWayOf 81 = .ok (.getfield 9, 3) := by decide +kernel
theorem dX0_goByWayOf_84 : decode cX0_goByWayOf 84 = .ok (.iload_n 3, 1) := by decide +kernel
theorem dX0_goByWayOf_85 : decode cX0_goByWayOf 85 = .ok (.bipush 20, 2) := by decide +kernel
theorem dX0_goByWayOf_87 : decode cX0_goByWayOf 87 = .ok (.imul, 1) := by decide +kernel
theorem dX0_goByWayOf_88 : decode cX0_goByWayOf 88 = .ok (.iload 5, 2) := by decide +kernel
theorem dX0_goByWayOf_90 : decode cX0_goByWayOf 90 = .ok (.iadd, 1) := by decide +kernel
theorem dX0_goByWayOf_91 : decode cX0_goByWayOf 91 = .ok (.iload 4, 2) := by decide +kernel
theorem dX0_goByWayOf_93 : decode cX0_goByWayOf 93 = .ok (.iload 6, 2) := by decide +kernel
theorem dX0_goByWayOf_95 : decode cX0_goByWayOf 95 = .ok (.iadd, 1) := by decide +kernel
theorem dX0_goByWayOf_96 : decode cX0_goByWayOf 96 = .ok (.iastore, 1) := by decide +kernel
theorem dX0_goByWayOf_97 : decode cX0_goByWayOf 97 = .ok (.iinc 5 1, 3) := by decide +kernel
theorem dX0_goByWayOf_100 : decode cX0_goByWayOf 100 = .ok (.goto (-67), 3) := by decide +kernel
theorem dX0_goByWayOf_103 : decode cX0_goByWayOf 103 = .ok (.iinc 3 1, 3) := by decide +kernel
theorem dX0_goByWayOf_106 : decode cX0_goByWayOf 106 = .ok (.goto (-104), 3) := by decide +kernel
theorem dX0_goByWayOf_109 : decode cX0_goByWayOf 109 = .ok (.return_, 1) := by decide +kernel
def fX0_goByWayOf_L97 (K33 : Int32 → Int32 → Int32 → Int32 → Int32 → Mem → Option (Unit × Mem)) (v1 : Int32) (v2 : Int32) (v3 : Int32) (v4 : Int32) (v5 : Int32) (μ : Mem) : Option (Unit × Mem) :=
  K33 v1 v2 v3 v4 (v5 + (1 : Int32)) μ
def fX0_goByWayOf_L103 (K2 : Int32 → Int32 → Int32 → Mem → Option (Unit × Mem)) (v1 : Int32) (v2 : Int32) (v3 : Int32) (μ : Mem) : Option (Unit × Mem) :=
  K2 v1 v2 (v3 + (1 : Int32)) μ
def fX0_goByWayOf_L33 (K2 : Int32 → Int32 → Int32 → Mem → Option (Unit × Mem)) : Nat → Int32 → Int32 → Int32 → Int32 → Int32 → Mem → Option (Unit × Mem)
  | 0, _, _, _, _, _, _ => none
  | n + 1, v1, v2, v3, v4, v5, μ =>   if v2 ≤ v5 then
  fX0_goByWayOf_L103 K2 v1 v2 v3 μ
  else
  (ld 400 (μ 87) ((v1 * (20 : Int32)) + v5)).bind fun r5 =>
  if r5 = (-1000000 : Int32) then
  fX0_goByWayOf_L97 (fX0_goByWayOf_L33 K2 n) v1 v2 v3 v4 v5 μ
  else
  (ld 400 (μ 87) ((v3 * (20 : Int32)) + v5)).bind fun r6 =>
  if (v4 + r5) ≤ r6 then
  fX0_goByWayOf_L97 (fX0_goByWayOf_L33 K2 n) v1 v2 v3 v4 v5 μ
  else
  (ast 400 μ 87 ((v3 * (20 : Int32)) + v5) (v4 + r5)).bind fun μ7 =>
  fX0_goByWayOf_L97 (fX0_goByWayOf_L33 K2 n) v1 v2 v3 v4 v5 μ7
def fX0_goByWayOf_L2 : Nat → Int32 → Int32 → Int32 → Mem → Option (Unit × Mem)
  | 0, _, _, _, _ => none
  | n + 1, v1, v2, v3, μ =>   if v2 ≤ v3 then
  some ((), μ)
  else
  (ld 400 (μ 87) ((v3 * (20 : Int32)) + v1)).bind fun r8 =>
  if r8 = (-1000000 : Int32) then
  fX0_goByWayOf_L103 (fX0_goByWayOf_L2 n) v1 v2 v3 μ
  else
  fX0_goByWayOf_L33 (fX0_goByWayOf_L2 n) fu v1 v2 v3 r8 (0 : Int32) μ
def fX0_goByWayOf (μ : Mem) (a1 : Int32) (a2 : Int32) : Option (Unit × Mem) :=
  fX0_goByWayOf_L2 fu a1 a2 (0 : Int32) μ
theorem kX0_goByWayOf_L97 {p : Program} {l : Launch} {e : Env} {s : State} {m : MethodId} {args : Array Value} {below : List Frame} {meth : Method} {c : Code} {D : va_G} {cI cR : ClassId} {ad : Nat → Nat} {A0 : Nat → Prop} (E : EV p s m args meth c cX0_goByWayOf 7 RX0 D cI cR ad shX NX A0) (hr : meth.sig.returnType = none) {K33 : Int32 → Int32 → Int32 → Int32 → Int32 → Mem → Option (Unit × Mem)} (hK33 : ∀ (v1 : Int32) (v2 : Int32) (v3 : Int32) (v4 : Int32) (v5 : Int32) (μ : Mem), LL p l e (RM 0) s m args below meth c 7 D cI cR ad shX NX A0 (fun (r : Unit) μ' => KG below args s D cI cR ad shX NX A0 none μ') (K33 v1 v2 v3 v4 v5 μ) 0 0 33 [some (.ref (ad 86)), some (.int v1), some (.int v2), some (.int v3), some (.int v4), some (.int v5), none] [] μ) (v1 : Int32) (v2 : Int32) (v3 : Int32) (v4 : Int32) (v5 : Int32) (μ : Mem) : LL p l e (RM 0) s m args below meth c 7 D cI cR ad shX NX A0 (fun (r : Unit) μ' => KG below args s D cI cR ad shX NX A0 none μ') (fX0_goByWayOf_L97 K33 v1 v2 v3 v4 v5 μ) 0 0 97 [some (.ref (ad 86)), some (.int v1), some (.int v2), some (.int v3), some (.int v4), some (.int v5), none] [] μ := by
  rw [fX0_goByWayOf_L97]
  refine ll_iinc E (pc := 97) (lo' := [some (.ref (ad 86)), some (.int v1), some (.int v2), some (.int v3), some (.int v4), some (.int (v5 + (1 : Int32))), none]) dX0_goByWayOf_97 rfl kc_1 (Nat.le_of_ble_eq_true rfl) rfl rfl ?_
  refine ll_goto E (pc := 100) (tgt := 33) dX0_goByWayOf_100 rfl ?_
  exact ll_lo (lo' := [some (.ref (ad 86)), some (.int v1), some (.int v2), some (.int v3), some (.int v4), some (.int (v5 + (1 : Int32))), none]) ⟨rfl, rfl, rfl, rfl, rfl, rfl, trivial⟩ (hK33 v1 v2 v3 v4 (v5 + (1 : Int32)) μ)
theorem kX0_goByWayOf_L103 {p : Program} {l : Launch} {e : Env} {s : State} {m : MethodId} {args : Array Value} {below : List Frame} {meth : Method} {c : Code} {D : va_G} {cI cR : ClassId} {ad : Nat → Nat} {A0 : Nat → Prop} (E : EV p s m args meth c cX0_goByWayOf 7 RX0 D cI cR ad shX NX A0) (hr : meth.sig.returnType = none) {K2 : Int32 → Int32 → Int32 → Mem → Option (Unit × Mem)} (hK2 : ∀ (v1 : Int32) (v2 : Int32) (v3 : Int32) (μ : Mem), LL p l e (RM 0) s m args below meth c 7 D cI cR ad shX NX A0 (fun (r : Unit) μ' => KG below args s D cI cR ad shX NX A0 none μ') (K2 v1 v2 v3 μ) 0 0 2 [some (.ref (ad 86)), some (.int v1), some (.int v2), some (.int v3), none, none, none] [] μ) (v1 : Int32) (v2 : Int32) (v3 : Int32) (μ : Mem) : LL p l e (RM 0) s m args below meth c 7 D cI cR ad shX NX A0 (fun (r : Unit) μ' => KG below args s D cI cR ad shX NX A0 none μ') (fX0_goByWayOf_L103 K2 v1 v2 v3 μ) 0 0 103 [some (.ref (ad 86)), some (.int v1), some (.int v2), some (.int v3), none, none, none] [] μ := by
  rw [fX0_goByWayOf_L103]
  refine ll_iinc E (pc := 103) (lo' := [some (.ref (ad 86)), some (.int v1), some (.int v2), some (.int (v3 + (1 : Int32))), none, none, none]) dX0_goByWayOf_103 rfl kc_1 (Nat.le_of_ble_eq_true rfl) rfl rfl ?_
  refine ll_goto E (pc := 106) (tgt := 2) dX0_goByWayOf_106 rfl ?_
  exact ll_lo (lo' := [some (.ref (ad 86)), some (.int v1), some (.int v2), some (.int (v3 + (1 : Int32))), none, none, none]) ⟨rfl, rfl, rfl, rfl, trivial⟩ (hK2 v1 v2 (v3 + (1 : Int32)) μ)
theorem kX0_goByWayOf_L33 {p : Program} {l : Launch} {e : Env} {s : State} {m : MethodId} {args : Array Value} {below : List Frame} {meth : Method} {c : Code} {D : va_G} {cI cR : ClassId} {ad : Nat → Nat} {A0 : Nat → Prop} (E : EV p s m args meth c cX0_goByWayOf 7 RX0 D cI cR ad shX NX A0) (hr : meth.sig.returnType = none) {K2 : Int32 → Int32 → Int32 → Mem → Option (Unit × Mem)} (hK2 : ∀ (v1 : Int32) (v2 : Int32) (v3 : Int32) (μ : Mem), LL p l e (RM 0) s m args below meth c 7 D cI cR ad shX NX A0 (fun (r : Unit) μ' => KG below args s D cI cR ad shX NX A0 none μ') (K2 v1 v2 v3 μ) 0 0 2 [some (.ref (ad 86)), some (.int v1), some (.int v2), some (.int v3), none, none, none] [] μ) (n : Nat) : ∀ (v1 : Int32) (v2 : Int32) (v3 : Int32) (v4 : Int32) (v5 : Int32) (μ : Mem), LL p l e (RM 0) s m args below meth c 7 D cI cR ad shX NX A0 (fun (r : Unit) μ' => KG below args s D cI cR ad shX NX A0 none μ') (fX0_goByWayOf_L33 K2 n v1 v2 v3 v4 v5 μ) 0 0 33 [some (.ref (ad 86)), some (.int v1), some (.int v2), some (.int v3), some (.int v4), some (.int v5), none] [] μ := by
  induction n with
  | zero =>
    intros
    exact ll_none
  | succ n ih =>
    intro v1 v2 v3 v4 v5 μ
    rw [fX0_goByWayOf_L33]
    refine ll_iload E (pc := 33) dX0_goByWayOf_33 rfl ?_
    refine ll_iload_n E (pc := 35) dX0_goByWayOf_35 rfl ?_
    refine ll_icmp_ge E (pc := 36) (tgt := 103) dX0_goByWayOf_36 rfl ?_ ?_
    · exact ll_lo (lo' := [some (.ref (ad 86)), some (.int v1), some (.int v2), some (.int v3), none, none, none]) ⟨rfl, rfl, rfl, rfl, trivial⟩ (kX0_goByWayOf_L103 E hr hK2 v1 v2 v3 μ)
    · refine ll_aload_n E (pc := 39) dX0_goByWayOf_39 rfl ?_
      refine ll_getfr E (pc := 40) (o9 := 86) (ci := 0) (k9 := 0) (q := 87) dX0_goByWayOf_40 fl_X0_9 (Nat.le_of_ble_eq_true rfl) fx_86_0 ?_
      refine ll_iload_n E (pc := 43) dX0_goByWayOf_43 rfl ?_
      refine ll_bipush E (pc := 44) dX0_goByWayOf_44 kb_20 ?_
      refine ll_imul E (pc := 46) dX0_goByWayOf_46 ?_
      refine ll_iload E (pc := 47) dX0_goByWayOf_47 rfl ?_
      refine ll_iadd E (pc := 49) dX0_goByWayOf_49 ?_
      refine ll_iald E (pc := 50) (a := 87) dX0_goByWayOf_50 (px_87).1 (px_87).2 ?_
      intro r5
      refine ll_istore E (pc := 51) (lo' := [some (.ref (ad 86)), some (.int v1), some (.int v2), some (.int v3), some (.int v4), some (.int v5), some (.int r5)]) dX0_goByWayOf_51 (Nat.le_of_ble_eq_true rfl) rfl rfl ?_
      refine ll_iload E (pc := 53) dX0_goByWayOf_53 rfl ?_
      refine ll_ldc E (pc := 55) dX0_goByWayOf_55 kw_X0_34 ?_
      refine ll_icmp_eq E (pc := 57) (tgt := 97) dX0_goByWayOf_57 rfl ?_ ?_
      · exact ll_lo (lo' := [some (.ref (ad 86)), some (.int v1), some (.int v2), some (.int v3), some (.int v4), some (.int v5), none]) ⟨rfl, rfl, rfl, rfl, rfl, rfl, trivial⟩ (kX0_goByWayOf_L97 E hr ih v1 v2 v3 v4 v5 μ)
      · refine ll_iload E (pc := 60) dX0_goByWayOf_60 rfl ?_
        refine ll_iload E (pc := 62) dX0_goByWayOf_62 rfl ?_
        refine ll_iadd E (pc := 64) dX0_goByWayOf_64 ?_
        refine ll_aload_n E (pc := 65) dX0_goByWayOf_65 rfl ?_
        refine ll_getfr E (pc := 66) (o9 := 86) (ci := 0) (k9 := 0) (q := 87) dX0_goByWayOf_66 fl_X0_9 (Nat.le_of_ble_eq_true rfl) fx_86_0 ?_
        refine ll_iload_n E (pc := 69) dX0_goByWayOf_69 rfl ?_
        refine ll_bipush E (pc := 70) dX0_goByWayOf_70 kb_20 ?_
        refine ll_imul E (pc := 72) dX0_goByWayOf_72 ?_
        refine ll_iload E (pc := 73) dX0_goByWayOf_73 rfl ?_
        refine ll_iadd E (pc := 75) dX0_goByWayOf_75 ?_
        refine ll_iald E (pc := 76) (a := 87) dX0_goByWayOf_76 (px_87).1 (px_87).2 ?_
        intro r6
        refine ll_icmp_le E (pc := 77) (tgt := 97) dX0_goByWayOf_77 rfl ?_ ?_
        · exact ll_lo (lo' := [some (.ref (ad 86)), some (.int v1), some (.int v2), some (.int v3), some (.int v4), some (.int v5), none]) ⟨rfl, rfl, rfl, rfl, rfl, rfl, trivial⟩ (kX0_goByWayOf_L97 E hr ih v1 v2 v3 v4 v5 μ)
        · refine ll_aload_n E (pc := 80) dX0_goByWayOf_80 rfl ?_
          refine ll_getfr E (pc := 81) (o9 := 86) (ci := 0) (k9 := 0) (q := 87) dX0_goByWayOf_81 fl_X0_9 (Nat.le_of_ble_eq_true rfl) fx_86_0 ?_
          refine ll_iload_n E (pc := 84) dX0_goByWayOf_84 rfl ?_
          refine ll_bipush E (pc := 85) dX0_goByWayOf_85 kb_20 ?_
          refine ll_imul E (pc := 87) dX0_goByWayOf_87 ?_
          refine ll_iload E (pc := 88) dX0_goByWayOf_88 rfl ?_
          refine ll_iadd E (pc := 90) dX0_goByWayOf_90 ?_
          refine ll_iload E (pc := 91) dX0_goByWayOf_91 rfl ?_
          refine ll_iload E (pc := 93) dX0_goByWayOf_93 rfl ?_
          refine ll_iadd E (pc := 95) dX0_goByWayOf_95 ?_
          refine ll_iast E (pc := 96) (a := 87) dX0_goByWayOf_96 (px_87).1 (px_87).2 ?_
          intro μ7
          exact ll_lo (lo' := [some (.ref (ad 86)), some (.int v1), some (.int v2), some (.int v3), some (.int v4), some (.int v5), none]) ⟨rfl, rfl, rfl, rfl, rfl, rfl, trivial⟩ (kX0_goByWayOf_L97 E hr ih v1 v2 v3 v4 v5 μ7)
theorem kX0_goByWayOf_L2 {p : Program} {l : Launch} {e : Env} {s : State} {m : MethodId} {args : Array Value} {below : List Frame} {meth : Method} {c : Code} {D : va_G} {cI cR : ClassId} {ad : Nat → Nat} {A0 : Nat → Prop} (E : EV p s m args meth c cX0_goByWayOf 7 RX0 D cI cR ad shX NX A0) (hr : meth.sig.returnType = none) (n : Nat) : ∀ (v1 : Int32) (v2 : Int32) (v3 : Int32) (μ : Mem), LL p l e (RM 0) s m args below meth c 7 D cI cR ad shX NX A0 (fun (r : Unit) μ' => KG below args s D cI cR ad shX NX A0 none μ') (fX0_goByWayOf_L2 n v1 v2 v3 μ) 0 0 2 [some (.ref (ad 86)), some (.int v1), some (.int v2), some (.int v3), none, none, none] [] μ := by
  induction n with
  | zero =>
    intros
    exact ll_none
  | succ n ih =>
    intro v1 v2 v3 μ
    rw [fX0_goByWayOf_L2]
    refine ll_iload_n E (pc := 2) dX0_goByWayOf_2 rfl ?_
    refine ll_iload_n E (pc := 3) dX0_goByWayOf_3 rfl ?_
    refine ll_icmp_ge E (pc := 4) (tgt := 109) dX0_goByWayOf_4 rfl ?_ ?_
    · exact ll_return E (pc := 109) hr dX0_goByWayOf_109
    · refine ll_aload_n E (pc := 7) dX0_goByWayOf_7 rfl ?_
      refine ll_getfr E (pc := 8) (o9 := 86) (ci := 0) (k9 := 0) (q := 87) dX0_goByWayOf_8 fl_X0_9 (Nat.le_of_ble_eq_true rfl) fx_86_0 ?_
      refine ll_iload_n E (pc := 11) dX0_goByWayOf_11 rfl ?_
      refine ll_bipush E (pc := 12) dX0_goByWayOf_12 kb_20 ?_
      refine ll_imul E (pc := 14) dX0_goByWayOf_14 ?_
      refine ll_iload_n E (pc := 15) dX0_goByWayOf_15 rfl ?_
      refine ll_iadd E (pc := 16) dX0_goByWayOf_16 ?_
      refine ll_iald E (pc := 17) (a := 87) dX0_goByWayOf_17 (px_87).1 (px_87).2 ?_
      intro r8
      refine ll_istore E (pc := 18) (lo' := [some (.ref (ad 86)), some (.int v1), some (.int v2), some (.int v3), some (.int r8), none, none]) dX0_goByWayOf_18 (Nat.le_of_ble_eq_true rfl) rfl rfl ?_
      refine ll_iload E (pc := 20) dX0_goByWayOf_20 rfl ?_
      refine ll_ldc E (pc := 22) dX0_goByWayOf_22 kw_X0_34 ?_
      refine ll_icmp_ne E (pc := 24) (tgt := 30) dX0_goByWayOf_24 rfl ?_ ?_
      · refine ll_iconst E (pc := 30) dX0_goByWayOf_30 kc_0 ?_
        refine ll_istore E (pc := 31) (lo' := [some (.ref (ad 86)), some (.int v1), some (.int v2), some (.int v3), some (.int r8), some (.int (0 : Int32)), none]) dX0_goByWayOf_31 (Nat.le_of_ble_eq_true rfl) rfl rfl ?_
        exact ll_lo (lo' := [some (.ref (ad 86)), some (.int v1), some (.int v2), some (.int v3), some (.int r8), some (.int (0 : Int32)), none]) ⟨rfl, rfl, rfl, rfl, rfl, rfl, trivial⟩ (kX0_goByWayOf_L33 E hr ih fu v1 v2 v3 r8 (0 : Int32) μ)
      · refine ll_goto E (pc := 27) (tgt := 103) dX0_goByWayOf_27 rfl ?_
        exact ll_lo (lo' := [some (.ref (ad 86)), some (.int v1), some (.int v2), some (.int v3), none, none, none]) ⟨rfl, rfl, rfl, rfl, trivial⟩ (kX0_goByWayOf_L103 E hr ih v1 v2 v3 μ)
theorem ctX0_goByWayOf {l : Launch} {D : va_G} {cI cR : ClassId} {ad : Nat → Nat} {μ : Mem} {a1 : Int32} {a2 : Int32} {r : Unit} {μ' : Mem} (hf : fX0_goByWayOf μ a1 a2 = some (r, μ')) : CT l yX0_goByWayOf cX0_goByWayOf 7 none 0 D cI cR ad shX NX [.ref (ad 86), .int a1, .int a2] μ none μ' :=
  ct_of (own := RX0) (ov := fun _ => none) (by decide +kernel) rfl (Nat.le_of_ble_eq_true rfl) (fun p e s m below meth c A0 E hr => by
    refine ll_lo (lo' := [some (.ref (ad 86)), some (.int a1), some (.int a2), none, none, none, none]) ⟨rfl, rfl, rfl, trivial⟩ ?_
    rw [fX0_goByWayOf]
    refine ll_iconst E (pc := 0) dX0_goByWayOf_0 kc_0 ?_
    refine ll_istore_n E (pc := 1) (lo' := [some (.ref (ad 86)), some (.int a1), some (.int a2), some (.int (0 : Int32)), none, none, none]) dX0_goByWayOf_1 (Nat.le_of_ble_eq_true rfl) rfl rfl ?_
    exact ll_lo (lo' := [some (.ref (ad 86)), some (.int a1), some (.int a2), some (.int (0 : Int32)), none, none, none]) ⟨rfl, rfl, rfl, rfl, trivial⟩ (kX0_goByWayOf_L2 E hr fu a1 a2 (0 : Int32) μ)) hf
theorem dX0_growsInTable_0 : decode cX0_growsInTable 0 = .ok (.aload_n 1, 1) := by decide +kernel
theorem dX0_growsInTable_1 : decode cX0_growsInTable 1 = .ok (.getfield 40, 3) := by decide +kernel
theorem dX0_growsInTable_4 : decode cX0_growsInTable 4 = .ok (.istore_n 3, 1) := by decide +kernel
theorem dX0_growsInTable_5 : decode cX0_growsInTable 5 = .ok (.iconst 0, 1) := by decide +kernel
theorem dX0_growsInTable_6 : decode cX0_growsInTable 6 = .ok (.istore 4, 2) := by decide +kernel
theorem dX0_growsInTable_8 : decode cX0_growsInTable 8 = .ok (.iload 4, 2) := by decide +kernel
theorem dX0_growsInTable_10 : decode cX0_growsInTable 10 = .ok (.iload_n 3, 1) := by decide +kernel
theorem dX0_growsInTable_11 : decode cX0_growsInTable 11 = .ok (.if_icmp .ge 46, 3) := by decide +kernel
theorem dX0_growsInTable_14 : decode cX0_growsInTable 14 = .ok (.iconst 0, 1) := by decide +kernel
theorem dX0_growsInTable_15 : decode cX0_growsInTable 15 = .ok (.istore 5, 2) := by decide +kernel
theorem dX0_growsInTable_17 : decode cX0_growsInTable 17 = .ok (.iload 5, 2) := by decide +kernel
theorem dX0_growsInTable_19 : decode cX0_growsInTable 19 = .ok (.iload_n 3, 1) := by decide +kernel
theorem dX0_growsInTable_20 : decode cX0_growsInTable 20 = .ok (.if_icmp .ge 31, 3) := by decide +kernel
theorem dX0_growsInTable_23 : decode cX0_growsInTable 23 = .ok (.aload_n 0, 1) := by decide +kernel
theorem dX0_growsInTable_24 : decode cX0_growsInTable 24 = .ok (.getfield 9, 3) := by decide +kernel
theorem dX0_growsInTable_27 : decode cX0_growsInTable 27 = .ok (.iload 4, 2) := by decide +kernel
theorem dX0_growsInTable_29 : decode cX0_growsInTable 29 = .ok (.bipush 20, 2) := by decide +kernel
theorem dX0_growsInTable_31 : decode cX0_growsInTable 31 = .ok (.imul, 1) := by decide +kernel
theorem dX0_growsInTable_32 : decode cX0_growsInTable 32 = .ok (.iload 5, 2) := by decide +kernel
theorem dX0_growsInTable_34 : decode cX0_growsInTable 34 = .ok (.iadd, 1) := by decide +kernel
theorem dX0_growsInTable_35 : decode cX0_growsInTable 35 = .ok (.aload_n 1, 1) := by decide +kernel
theorem dX0_growsInTable_36 : decode cX0_growsInTable 36 = .ok (.iload 4, 2) := by decide +kernel
theorem dX0_growsInTable_38 : decode cX0_growsInTable 38 = .ok (.iload 5, 2) := by decide +kernel
theorem dX0_growsInTable_40 : decode cX0_growsInTable 40 = .ok (.iload_n 2, 1) := by decide +kernel
theorem dX0_growsInTable_41 : decode cX0_growsInTable 41 = .ok (.invokestatic 44, 3) := by decide +kernel
theorem dX0_growsInTable_44 : decode cX0_growsInTable 44 = .ok (.iastore, 1) := by decide +kernel
theorem dX0_growsInTable_45 : decode cX0_growsInTable 45 = .ok (.iinc 5 1, 3) := by decide +kernel
theorem dX0_growsInTable_48 : decode cX0_growsInTable 48 = .ok (.goto (-31), 3) := by decide +kernel
theorem dX0_growsInTable_51 : decode cX0_growsInTable 51 = .ok (.iinc 4 1, 3) := by decide +kernel
theorem dX0_growsInTable_54 : decode cX0_growsInTable 54 = .ok (.goto (-46), 3) := by decide +kernel
theorem dX0_growsInTable_57 : decode cX0_growsInTable 57 = .ok (.iconst 0, 1) := by decide +kernel
theorem dX0_growsInTable_58 : decode cX0_growsInTable 58 = .ok (.istore 4, 2) := by decide +kernel
theorem dX0_growsInTable_60 : decode cX0_growsInTable 60 = .ok (.iload 4, 2) := by decide +kernel
theorem dX0_growsInTable_62 : decode cX0_growsInTable 62 = .ok (.iload_n 3, 1) := by decide +kernel
theorem dX0_growsInTable_63 : decode cX0_growsInTable 63 = .ok (.if_icmp .ge 26, 3) := by decide +kernel
theorem dX0_growsInTable_66 : decode cX0_growsInTable 66 = .ok (.aload_n 0, 1) := by decide +kernel
theorem dX0_growsInTable_67 : decode cX0_growsInTable 67 = .ok (.iload_n 3, 1) := by decide +kernel
theorem dX0_growsInTable_68 : decode cX0_growsInTable 68 = .ok (.invokevirtual 48, 3) := by decide +kernel
theorem dX0_growsInTable_71 : decode cX0_growsInTable 71 = .ok (.ifCond .eq 5, 3) := by decide +kernel
theorem dX0_growsInTable_74 : decode cX0_growsInTable 74 = .ok (.iconst 1, 1) := by decide +kernel
theorem dX0_growsInTable_75 : decode cX0_growsInTable 75 = .ok (.ireturn, 1) := by decide +kernel
theorem dX0_growsInTable_76 : decode cX0_growsInTable 76 = .ok (.aload_n 0, 1) := by decide +kernel
theorem dX0_growsInTable_77 : decode cX0_growsInTable 77 = .ok (.iload 4, 2) := by decide +kernel
theorem dX0_growsInTable_79 : decode cX0_growsInTable 79 = .ok (.iload_n 3, 1) := by decide +kernel
theorem dX0_growsInTable_80 : decode cX0_growsInTable 80 = .ok (.invokevirtual 52, 3) := by decide +kernel
theorem dX0_growsInTable_83 : decode cX0_growsInTable 83 = .ok (.iinc 4 1, 3) := by decide +kernel
theorem dX0_growsInTable_86 : decode cX0_growsInTable 86 = .ok (.goto (-26), 3) := by decide +kernel
theorem dX0_growsInTable_89 : decode cX0_growsInTable 89 = .ok (.aload_n 0, 1) := by decide +kernel
theorem dX0_growsInTable_90 : decode cX0_growsInTable 90 = .ok (.iload_n 3, 1) := by decide +kernel
theorem dX0_growsInTable_91 : decode cX0_growsInTable 91 = .ok (.invokevirtual 48, 3) := by decide +kernel
theorem dX0_growsInTable_94 : decode cX0_growsInTable 94 = .ok (.ireturn, 1) := by decide +kernel
def fX0_growsInTable_L17 (K8 : Int32 → Int32 → Int32 → Mem → Option (Int32 × Mem)) : Nat → Int32 → Int32 → Int32 → Int32 → Mem → Option (Int32 × Mem)
  | 0, _, _, _, _, _ => none
  | n + 1, v2, v3, v4, v5, μ =>   if v3 ≤ v5 then
  K8 v2 v3 (v4 + (1 : Int32)) μ
  else
  bd (fX0_wayOf μ v4 v5 v2) fun r11 μ10 =>
  (ast 400 μ10 87 ((v4 * (20 : Int32)) + v5) r11).bind fun μ12 =>
  fX0_growsInTable_L17 K8 n v2 v3 v4 (v5 + (1 : Int32)) μ12
def fX0_growsInTable_L60 : Nat → Int32 → Int32 → Mem → Option (Int32 × Mem)
  | 0, _, _, _ => none
  | n + 1, v3, v4, μ =>   if v3 ≤ v4 then
  bd (fX0_hasCircle μ v3) fun r14 μ13 =>
  zret r14 μ13
  else
  bd (fX0_hasCircle μ v3) fun r16 μ15 =>
  if r16 = 0 then
  bd (fX0_goByWayOf μ15 v4 v3) fun _ μ17 =>
  fX0_growsInTable_L60 n v3 (v4 + (1 : Int32)) μ17
  else
  some ((1 : Int32), μ15)
def fX0_growsInTable_L8 : Nat → Int32 → Int32 → Int32 → Mem → Option (Int32 × Mem)
  | 0, _, _, _, _ => none
  | n + 1, v2, v3, v4, μ =>   if v3 ≤ v4 then
  fX0_growsInTable_L60 fu v3 (0 : Int32) μ
  else
  fX0_growsInTable_L17 (fX0_growsInTable_L8 n) fu v2 v3 v4 (0 : Int32) μ
def fX0_growsInTable (μ : Mem) (a2 : Int32) : Option (Int32 × Mem) :=
  fX0_growsInTable_L8 fu a2 (μ 75 0) (0 : Int32) μ
theorem kX0_growsInTable_L17 {p : Program} {l : Launch} {e : Env} {s : State} {m : MethodId} {args : Array Value} {below : List Frame} {meth : Method} {c : Code} {D : va_G} {cI cR : ClassId} {ad : Nat → Nat} {A0 : Nat → Prop} (E : EV p s m args meth c cX0_growsInTable 6 RX0 D cI cR ad shX NX A0) (hr : meth.sig.returnType = (some .boolean)) {K8 : Int32 → Int32 → Int32 → Mem → Option (Int32 × Mem)} (hK8 : ∀ (v2 : Int32) (v3 : Int32) (v4 : Int32) (μ : Mem), LL p l e (RM 2) s m args below meth c 6 D cI cR ad shX NX A0 (fun (r : Int32) μ' => KG below args s D cI cR ad shX NX A0 (some (.int r)) μ') (K8 v2 v3 v4 μ) 0 0 8 [some (.ref (ad 86)), some (.ref (ad 75)), some (.int v2), some (.int v3), some (.int v4), none] [] μ) (n : Nat) : ∀ (v2 : Int32) (v3 : Int32) (v4 : Int32) (v5 : Int32) (μ : Mem), LL p l e (RM 2) s m args below meth c 6 D cI cR ad shX NX A0 (fun (r : Int32) μ' => KG below args s D cI cR ad shX NX A0 (some (.int r)) μ') (fX0_growsInTable_L17 K8 n v2 v3 v4 v5 μ) 0 0 17 [some (.ref (ad 86)), some (.ref (ad 75)), some (.int v2), some (.int v3), some (.int v4), some (.int v5)] [] μ := by
  induction n with
  | zero =>
    intros
    exact ll_none
  | succ n ih =>
    intro v2 v3 v4 v5 μ
    rw [fX0_growsInTable_L17]
    refine ll_iload E (pc := 17) dX0_growsInTable_17 rfl ?_
    refine ll_iload_n E (pc := 19) dX0_growsInTable_19 rfl ?_
    refine ll_icmp_ge E (pc := 20) (tgt := 51) dX0_growsInTable_20 rfl ?_ ?_
    · refine ll_iinc E (pc := 51) (lo' := [some (.ref (ad 86)), some (.ref (ad 75)), some (.int v2), some (.int v3), some (.int (v4 + (1 : Int32))), some (.int v5)]) dX0_growsInTable_51 rfl kc_1 (Nat.le_of_ble_eq_true rfl) rfl rfl ?_
      refine ll_goto E (pc := 54) (tgt := 8) dX0_growsInTable_54 rfl ?_
      exact ll_lo (lo' := [some (.ref (ad 86)), some (.ref (ad 75)), some (.int v2), some (.int v3), some (.int (v4 + (1 : Int32))), none]) ⟨rfl, rfl, rfl, rfl, rfl, trivial⟩ (hK8 v2 v3 (v4 + (1 : Int32)) μ)
    · refine ll_aload_n E (pc := 23) dX0_growsInTable_23 rfl ?_
      refine ll_getfr E (pc := 24) (o9 := 86) (ci := 0) (k9 := 0) (q := 87) dX0_growsInTable_24 fl_X0_9 (Nat.le_of_ble_eq_true rfl) fx_86_0 ?_
      refine ll_iload E (pc := 27) dX0_growsInTable_27 rfl ?_
      refine ll_bipush E (pc := 29) dX0_growsInTable_29 kb_20 ?_
      refine ll_imul E (pc := 31) dX0_growsInTable_31 ?_
      refine ll_iload E (pc := 32) dX0_growsInTable_32 rfl ?_
      refine ll_iadd E (pc := 34) dX0_growsInTable_34 ?_
      refine ll_aload_n E (pc := 35) dX0_growsInTable_35 rfl ?_
      refine ll_iload E (pc := 36) dX0_growsInTable_36 rfl ?_
      refine ll_iload E (pc := 38) dX0_growsInTable_38 rfl ?_
      refine ll_iload_n E (pc := 40) dX0_growsInTable_40 rfl ?_
      refine ll_callSi E (pc := 41) (d := 1) [.ref (ad 75), .int v4, .int v5, .int v2] [.int ((v4 * (20 : Int32)) + v5), .ref (ad 87)] dX0_growsInTable_41 cv_X0_44 (fun h => ctX0_wayOf h) rfl rfl (Nat.le_of_ble_eq_true rfl) ⟨(Nat.le_of_ble_eq_true rfl), (Nat.le_of_ble_eq_true rfl)⟩ ⟨(Nat.le_of_ble_eq_true rfl), (Nat.le_of_ble_eq_true rfl)⟩ ?_
      intro r11 μ10
      refine ll_iast E (pc := 44) (a := 87) dX0_growsInTable_44 (px_87).1 (px_87).2 ?_
      intro μ12
      refine ll_iinc E (pc := 45) (lo' := [some (.ref (ad 86)), some (.ref (ad 75)), some (.int v2), some (.int v3), some (.int v4), some (.int (v5 + (1 : Int32)))]) dX0_growsInTable_45 rfl kc_1 (Nat.le_of_ble_eq_true rfl) rfl rfl ?_
      refine ll_goto E (pc := 48) (tgt := 17) dX0_growsInTable_48 rfl ?_
      exact ll_lo (lo' := [some (.ref (ad 86)), some (.ref (ad 75)), some (.int v2), some (.int v3), some (.int v4), some (.int (v5 + (1 : Int32)))]) ⟨rfl, rfl, rfl, rfl, rfl, rfl, trivial⟩ (ih v2 v3 v4 (v5 + (1 : Int32)) μ12)
theorem kX0_growsInTable_L60 {p : Program} {l : Launch} {e : Env} {s : State} {m : MethodId} {args : Array Value} {below : List Frame} {meth : Method} {c : Code} {D : va_G} {cI cR : ClassId} {ad : Nat → Nat} {A0 : Nat → Prop} (E : EV p s m args meth c cX0_growsInTable 6 RX0 D cI cR ad shX NX A0) (hr : meth.sig.returnType = (some .boolean)) (n : Nat) : ∀ (v3 : Int32) (v4 : Int32) (μ : Mem), LL p l e (RM 2) s m args below meth c 6 D cI cR ad shX NX A0 (fun (r : Int32) μ' => KG below args s D cI cR ad shX NX A0 (some (.int r)) μ') (fX0_growsInTable_L60 n v3 v4 μ) 0 0 60 [some (.ref (ad 86)), none, none, some (.int v3), some (.int v4), none] [] μ := by
  induction n with
  | zero =>
    intros
    exact ll_none
  | succ n ih =>
    intro v3 v4 μ
    rw [fX0_growsInTable_L60]
    refine ll_iload E (pc := 60) dX0_growsInTable_60 rfl ?_
    refine ll_iload_n E (pc := 62) dX0_growsInTable_62 rfl ?_
    refine ll_icmp_ge E (pc := 63) (tgt := 89) dX0_growsInTable_63 rfl ?_ ?_
    · refine ll_aload_n E (pc := 89) dX0_growsInTable_89 rfl ?_
      refine ll_iload_n E (pc := 90) dX0_growsInTable_90 rfl ?_
      refine ll_callVi E (pc := 91) (d := 0) (ci := 0) (o9 := 86) [.int v3] [] dX0_growsInTable_91 cv_X0_48 (fun h => ctX0_hasCircle h) (Nat.le_of_ble_eq_true rfl) sx_86 ci_0 rfl rfl (Nat.le_of_ble_eq_true rfl) ⟨(Nat.le_of_ble_eq_true rfl), (Nat.le_of_ble_eq_true rfl)⟩ ⟨(Nat.le_of_ble_eq_true rfl), (Nat.le_of_ble_eq_true rfl)⟩ ?_
      intro r14 μ13
      exact ll_zret E (pc := 94) hr dX0_growsInTable_94
    · refine ll_aload_n E (pc := 66) dX0_growsInTable_66 rfl ?_
      refine ll_iload_n E (pc := 67) dX0_growsInTable_67 rfl ?_
      refine ll_callVi E (pc := 68) (d := 0) (ci := 0) (o9 := 86) [.int v3] [] dX0_growsInTable_68 cv_X0_48 (fun h => ctX0_hasCircle h) (Nat.le_of_ble_eq_true rfl) sx_86 ci_0 rfl rfl (Nat.le_of_ble_eq_true rfl) ⟨(Nat.le_of_ble_eq_true rfl), (Nat.le_of_ble_eq_true rfl)⟩ ⟨(Nat.le_of_ble_eq_true rfl), (Nat.le_of_ble_eq_true rfl)⟩ ?_
      intro r16 μ15
      refine ll_if_eq E (pc := 71) (tgt := 76) dX0_growsInTable_71 rfl ?_ ?_
      · refine ll_aload_n E (pc := 76) dX0_growsInTable_76 rfl ?_
        refine ll_iload E (pc := 77) dX0_growsInTable_77 rfl ?_
        refine ll_iload_n E (pc := 79) dX0_growsInTable_79 rfl ?_
        refine ll_callVv E (pc := 80) (d := 0) (ci := 0) (o9 := 86) [.int v4, .int v3] [] dX0_growsInTable_80 cv_X0_52 (fun h => ctX0_goByWayOf h) (Nat.le_of_ble_eq_true rfl) sx_86 ci_0 rfl rfl (Nat.le_of_ble_eq_true rfl) ⟨(Nat.le_of_ble_eq_true rfl), (Nat.le_of_ble_eq_true rfl)⟩ ⟨(Nat.le_of_ble_eq_true rfl), (Nat.le_of_ble_eq_true rfl)⟩ ?_
        intro r18 μ17
        refine ll_iinc E (pc := 83) (lo' := [some (.ref (ad 86)), none, none, some (.int v3), some (.int (v4 + (1 : Int32))), none]) dX0_growsInTable_83 rfl kc_1 (Nat.le_of_ble_eq_true rfl) rfl rfl ?_
        refine ll_goto E (pc := 86) (tgt := 60) dX0_growsInTable_86 rfl ?_
        exact ll_lo (lo' := [some (.ref (ad 86)), none, none, some (.int v3), some (.int (v4 + (1 : Int32))), none]) ⟨rfl, rfl, rfl, trivial⟩ (ih v3 (v4 + (1 : Int32)) μ17)
      · refine ll_iconst E (pc := 74) dX0_growsInTable_74 kc_1 ?_
        exact ll_zreturn E (pc := 75) hr rfl dX0_growsInTable_75
theorem kX0_growsInTable_L8 {p : Program} {l : Launch} {e : Env} {s : State} {m : MethodId} {args : Array Value} {below : List Frame} {meth : Method} {c : Code} {D : va_G} {cI cR : ClassId} {ad : Nat → Nat} {A0 : Nat → Prop} (E : EV p s m args meth c cX0_growsInTable 6 RX0 D cI cR ad shX NX A0) (hr : meth.sig.returnType = (some .boolean)) (n : Nat) : ∀ (v2 : Int32) (v3 : Int32) (v4 : Int32) (μ : Mem), LL p l e (RM 2) s m args below meth c 6 D cI cR ad shX NX A0 (fun (r : Int32) μ' => KG below args s D cI cR ad shX NX A0 (some (.int r)) μ') (fX0_growsInTable_L8 n v2 v3 v4 μ) 0 0 8 [some (.ref (ad 86)), some (.ref (ad 75)), some (.int v2), some (.int v3), some (.int v4), none] [] μ := by
  induction n with
  | zero =>
    intros
    exact ll_none
  | succ n ih =>
    intro v2 v3 v4 μ
    rw [fX0_growsInTable_L8]
    refine ll_iload E (pc := 8) dX0_growsInTable_8 rfl ?_
    refine ll_iload_n E (pc := 10) dX0_growsInTable_10 rfl ?_
    refine ll_icmp_ge E (pc := 11) (tgt := 57) dX0_growsInTable_11 rfl ?_ ?_
    · refine ll_iconst E (pc := 57) dX0_growsInTable_57 kc_0 ?_
      refine ll_istore E (pc := 58) (lo' := [some (.ref (ad 86)), some (.ref (ad 75)), some (.int v2), some (.int v3), some (.int (0 : Int32)), none]) dX0_growsInTable_58 (Nat.le_of_ble_eq_true rfl) rfl rfl ?_
      exact ll_lo (lo' := [some (.ref (ad 86)), none, none, some (.int v3), some (.int (0 : Int32)), none]) ⟨rfl, rfl, rfl, trivial⟩ (kX0_growsInTable_L60 E hr fu v3 (0 : Int32) μ)
    · refine ll_iconst E (pc := 14) dX0_growsInTable_14 kc_0 ?_
      refine ll_istore E (pc := 15) (lo' := [some (.ref (ad 86)), some (.ref (ad 75)), some (.int v2), some (.int v3), some (.int v4), some (.int (0 : Int32))]) dX0_growsInTable_15 (Nat.le_of_ble_eq_true rfl) rfl rfl ?_
      exact ll_lo (lo' := [some (.ref (ad 86)), some (.ref (ad 75)), some (.int v2), some (.int v3), some (.int v4), some (.int (0 : Int32))]) ⟨rfl, rfl, rfl, rfl, rfl, rfl, trivial⟩ (kX0_growsInTable_L17 E hr ih fu v2 v3 v4 (0 : Int32) μ)
theorem ctX0_growsInTable {l : Launch} {D : va_G} {cI cR : ClassId} {ad : Nat → Nat} {μ : Mem} {a2 : Int32} {r : Int32} {μ' : Mem} (hf : fX0_growsInTable μ a2 = some (r, μ')) : CT l yX0_growsInTable cX0_growsInTable 6 (some .boolean) 2 D cI cR ad shX NX [.ref (ad 86), .ref (ad 75), .int a2] μ (some (.int r)) μ' :=
  ct_of (own := RX0) (ov := fun r => some (.int r)) (by decide +kernel) rfl (Nat.le_of_ble_eq_true rfl) (fun p e s m below meth c A0 E hr => by
    refine ll_lo (lo' := [some (.ref (ad 86)), some (.ref (ad 75)), some (.int a2), none, none, none]) ⟨rfl, rfl, rfl, trivial⟩ ?_
    rw [fX0_growsInTable]
    refine ll_aload_n E (pc := 0) dX0_growsInTable_0 rfl ?_
    refine ll_getf E (pc := 1) (o9 := 75) (ci := 2) (k9 := 0) dX0_growsInTable_1 fl_X0_40 (Nat.le_of_ble_eq_true rfl) fx_75_0 ?_
    refine ll_istore_n E (pc := 4) (lo' := [some (.ref (ad 86)), some (.ref (ad 75)), some (.int a2), some (.int (μ 75 0)), none, none]) dX0_growsInTable_4 (Nat.le_of_ble_eq_true rfl) rfl rfl ?_
    refine ll_iconst E (pc := 5) dX0_growsInTable_5 kc_0 ?_
    refine ll_istore E (pc := 6) (lo' := [some (.ref (ad 86)), some (.ref (ad 75)), some (.int a2), some (.int (μ 75 0)), some (.int (0 : Int32)), none]) dX0_growsInTable_6 (Nat.le_of_ble_eq_true rfl) rfl rfl ?_
    exact ll_lo (lo' := [some (.ref (ad 86)), some (.ref (ad 75)), some (.int a2), some (.int (μ 75 0)), some (.int (0 : Int32)), none]) ⟨rfl, rfl, rfl, rfl, rfl, trivial⟩ (kX0_growsInTable_L8 E hr fu a2 (μ 75 0) (0 : Int32) μ)) hf
theorem dX0_leastByTable_0 : decode cX0_leastByTable 0 = .ok (.iconst 1, 1) := by decide +kernel
theorem dX0_leastByTable_1 : decode cX0_leastByTable 1 = .ok (.istore_n 2, 1) := by decide +kernel
theorem dX0_leastByTable_2 : decode cX0_leastByTable 2 = .ok (.bipush 120, 2) := by decide +kernel
theorem dX0_leastByTable_4 : decode cX0_leastByTable 4 = .ok (.istore_n 3, 1) := by decide +kernel
theorem dX0_leastByTable_5 : decode cX0_leastByTable 5 = .ok (.iconst 0, 1) := by decide +kernel
theorem dX0_leastByTable_6 : decode cX0_leastByTable 6 = .ok (.istore 4, 2) := by decide +kernel
theorem dX0_leastByTable_8 : decode cX0_leastByTable 8 = .ok (.iload 4, 2) := by decide +kernel
theorem dX0_leastByTable_10 : decode cX0_leastByTable 10 = .ok (.bipush 120, 2) := by decide +kernel
theorem dX0_leastByTable_12 : decode cX0_leastByTable 12 = .ok (.if_icmp .ge 42, 3) := by decide +kernel
theorem dX0_leastByTable_15 : decode cX0_leastByTable 15 = .ok (.iload_n 2, 1) := by decide +kernel
theorem dX0_leastByTable_16 : decode cX0_leastByTable 16 = .ok (.iload_n 3, 1) := by decide +kernel
theorem dX0_leastByTable_17 : decode cX0_leastByTable 17 = .ok (.if_icmp .ge 37, 3) := by decide +kernel
theorem dX0_leastByTable_20 : decode cX0_leastByTable 20 = .ok (.iload_n 2, 1) := by decide +kernel
theorem dX0_leastByTable_21 : decode cX0_leastByTable 21 = .ok (.iload_n 3, 1) := by decide +kernel
theorem dX0_leastByTable_22 : decode cX0_leastByTable 22 = .ok (.iadd, 1) := by decide +kernel
theorem dX0_leastByTable_23 : decode cX0_leastByTable 23 = .ok (.iconst 2, 1) := by decide +kernel
theorem dX0_leastByTable_24 : decode cX0_leastByTable 24 = .ok (.idiv, 1) := by decide +kernel
theorem dX0_leastByTable_25 : decode cX0_leastByTable 25 = .ok (.istore 5, 2) := by decide +kernel
theorem dX0_leastByTable_27 : decode cX0_leastByTable 27 = .ok (.aload_n 0, 1) := by decide +kernel
theorem dX0_leastByTable_28 : decode cX0_leastByTable 28 = .ok (.aload_n 1, 1) := by decide +kernel
theorem dX0_leastByTable_29 : decode cX0_leastByTable 29 = .ok (.iload 5, 2) := by decide +kernel
theorem dX0_leastByTable_31 : decode cX0_leastByTable 31 = .ok (.invokevirtual 18, 3) := by decide +kernel
theorem dX0_leastByTable_34 : decode cX0_leastByTable 34 = .ok (.ifCond .eq 11, 3) := by decide +kernel
theorem dX0_leastByTable_37 : decode cX0_leastByTable 37 = .ok (.iload 5, 2) := by decide +kernel
theorem dX0_leastByTable_39 : decode cX0_leastByTable 39 = .ok (.iconst 1, 1) := by decide +kernel
theorem dX0_leastByTable_40 : decode cX0_leastByTable 40 = .ok (.iadd, 1) := by decide +kernel
theorem dX0_leastByTable_41 : decode cX0_leastByTable 41 = .ok (.istore_n 2, 1) := by decide +kernel
theorem dX0_leastByTable_42 : decode cX0_leastByTable 42 = .ok (.goto 6, 3) := by decide +kernel
theorem dX0_leastByTable_45 : decode cX0_leastByTable 45 = .ok (.iload 5, 2) := by decide +kernel
theorem dX0_leastByTable_47 : decode cX0_leastByTable 47 = .ok (.istore_n 3, 1) := by decide +kernel
theorem dX0_leastByTable_48 : decode cX0_leastByTable 48 = .ok (.iinc 4 1, 3) := by decide +kernel
theorem dX0_leastByTable_51 : decode cX0_leastByTable 51 = .ok (.goto (-43), 3) := by decide +kernel
theorem dX0_leastByTable_54 : decode cX0_leastByTable 54 = .ok (.iload_n 2, 1) := by decide +kernel
theorem dX0_leastByTable_55 : decode cX0_leastByTable 55 = .ok (.ireturn, 1) := by decide +kernel
def fX0_leastByTable_L48 (K8 : Int32 → Int32 → Int32 → Mem → Option (Int32 × Mem)) (v2 : Int32) (v3 : Int32) (v4 : Int32) (μ : Mem) : Option (Int32 × Mem) :=
  K8 v2 v3 (v4 + (1 : Int32)) μ
def fX0_leastByTable_L8 : Nat → Int32 → Int32 → Int32 → Mem → Option (Int32 × Mem)
  | 0, _, _, _, _ => none
  | n + 1, v2, v3, v4, μ =>   if (120 : Int32) ≤ v4 then
  some (v2, μ)
  else
  if v3 ≤ v2 then
  some (v2, μ)
  else
  (dv (v2 + v3) (2 : Int32)).bind fun r4 =>
  bd (fX0_growsInTable μ r4) fun r6 μ5 =>
  if r6 = 0 then
  fX0_leastByTable_L48 (fX0_leastByTable_L8 n) v2 r4 v4 μ5
  else
  fX0_leastByTable_L48 (fX0_leastByTable_L8 n) (r4 + (1 : Int32)) v3 v4 μ5
def fX0_leastByTable (μ : Mem) : Option (Int32 × Mem) :=
  fX0_leastByTable_L8 fu (1 : Int32) (120 : Int32) (0 : Int32) μ
theorem kX0_leastByTable_L48 {p : Program} {l : Launch} {e : Env} {s : State} {m : MethodId} {args : Array Value} {below : List Frame} {meth : Method} {c : Code} {D : va_G} {cI cR : ClassId} {ad : Nat → Nat} {A0 : Nat → Prop} (E : EV p s m args meth c cX0_leastByTable 6 RX0 D cI cR ad shX NX A0) (hr : meth.sig.returnType = (some .int)) {K8 : Int32 → Int32 → Int32 → Mem → Option (Int32 × Mem)} (hK8 : ∀ (v2 : Int32) (v3 : Int32) (v4 : Int32) (μ : Mem), LL p l e (RM 3) s m args below meth c 6 D cI cR ad shX NX A0 (fun (r : Int32) μ' => KG below args s D cI cR ad shX NX A0 (some (.int r)) μ') (K8 v2 v3 v4 μ) 0 0 8 [some (.ref (ad 86)), some (.ref (ad 75)), some (.int v2), some (.int v3), some (.int v4), none] [] μ) (v2 : Int32) (v3 : Int32) (v4 : Int32) (μ : Mem) : LL p l e (RM 3) s m args below meth c 6 D cI cR ad shX NX A0 (fun (r : Int32) μ' => KG below args s D cI cR ad shX NX A0 (some (.int r)) μ') (fX0_leastByTable_L48 K8 v2 v3 v4 μ) 0 0 48 [some (.ref (ad 86)), some (.ref (ad 75)), some (.int v2), some (.int v3), some (.int v4), none] [] μ := by
  rw [fX0_leastByTable_L48]
  refine ll_iinc E (pc := 48) (lo' := [some (.ref (ad 86)), some (.ref (ad 75)), some (.int v2), some (.int v3), some (.int (v4 + (1 : Int32))), none]) dX0_leastByTable_48 rfl kc_1 (Nat.le_of_ble_eq_true rfl) rfl rfl ?_
  refine ll_goto E (pc := 51) (tgt := 8) dX0_leastByTable_51 rfl ?_
  exact ll_lo (lo' := [some (.ref (ad 86)), some (.ref (ad 75)), some (.int v2), some (.int v3), some (.int (v4 + (1 : Int32))), none]) ⟨rfl, rfl, rfl, rfl, rfl, trivial⟩ (hK8 v2 v3 (v4 + (1 : Int32)) μ)
theorem kX0_leastByTable_L8 {p : Program} {l : Launch} {e : Env} {s : State} {m : MethodId} {args : Array Value} {below : List Frame} {meth : Method} {c : Code} {D : va_G} {cI cR : ClassId} {ad : Nat → Nat} {A0 : Nat → Prop} (E : EV p s m args meth c cX0_leastByTable 6 RX0 D cI cR ad shX NX A0) (hr : meth.sig.returnType = (some .int)) (n : Nat) : ∀ (v2 : Int32) (v3 : Int32) (v4 : Int32) (μ : Mem), LL p l e (RM 3) s m args below meth c 6 D cI cR ad shX NX A0 (fun (r : Int32) μ' => KG below args s D cI cR ad shX NX A0 (some (.int r)) μ') (fX0_leastByTable_L8 n v2 v3 v4 μ) 0 0 8 [some (.ref (ad 86)), some (.ref (ad 75)), some (.int v2), some (.int v3), some (.int v4), none] [] μ := by
  induction n with
  | zero =>
    intros
    exact ll_none
  | succ n ih =>
    intro v2 v3 v4 μ
    rw [fX0_leastByTable_L8]
    refine ll_iload E (pc := 8) dX0_leastByTable_8 rfl ?_
    refine ll_bipush E (pc := 10) dX0_leastByTable_10 kb_120 ?_
    refine ll_icmp_ge E (pc := 12) (tgt := 54) dX0_leastByTable_12 rfl ?_ ?_
    · refine ll_iload_n E (pc := 54) dX0_leastByTable_54 rfl ?_
      exact ll_ireturn E (pc := 55) hr dX0_leastByTable_55
    · refine ll_iload_n E (pc := 15) dX0_leastByTable_15 rfl ?_
      refine ll_iload_n E (pc := 16) dX0_leastByTable_16 rfl ?_
      refine ll_icmp_ge E (pc := 17) (tgt := 54) dX0_leastByTable_17 rfl ?_ ?_
      · refine ll_iload_n E (pc := 54) dX0_leastByTable_54 rfl ?_
        exact ll_ireturn E (pc := 55) hr dX0_leastByTable_55
      · refine ll_iload_n E (pc := 20) dX0_leastByTable_20 rfl ?_
        refine ll_iload_n E (pc := 21) dX0_leastByTable_21 rfl ?_
        refine ll_iadd E (pc := 22) dX0_leastByTable_22 ?_
        refine ll_iconst E (pc := 23) dX0_leastByTable_23 kc_2 ?_
        refine ll_idiv E (pc := 24) dX0_leastByTable_24 ?_
        intro r4
        refine ll_istore E (pc := 25) (lo' := [some (.ref (ad 86)), some (.ref (ad 75)), some (.int v2), some (.int v3), some (.int v4), some (.int r4)]) dX0_leastByTable_25 (Nat.le_of_ble_eq_true rfl) rfl rfl ?_
        refine ll_aload_n E (pc := 27) dX0_leastByTable_27 rfl ?_
        refine ll_aload_n E (pc := 28) dX0_leastByTable_28 rfl ?_
        refine ll_iload E (pc := 29) dX0_leastByTable_29 rfl ?_
        refine ll_callVi E (pc := 31) (d := 2) (ci := 0) (o9 := 86) [.ref (ad 75), .int r4] [] dX0_leastByTable_31 cv_X0_18 (fun h => ctX0_growsInTable h) (Nat.le_of_ble_eq_true rfl) sx_86 ci_0 rfl rfl (Nat.le_of_ble_eq_true rfl) ⟨(Nat.le_of_ble_eq_true rfl), (Nat.le_of_ble_eq_true rfl)⟩ ⟨(Nat.le_of_ble_eq_true rfl), (Nat.le_of_ble_eq_true rfl)⟩ ?_
        intro r6 μ5
        refine ll_if_eq E (pc := 34) (tgt := 45) dX0_leastByTable_34 rfl ?_ ?_
        · refine ll_iload E (pc := 45) dX0_leastByTable_45 rfl ?_
          refine ll_istore_n E (pc := 47) (lo' := [some (.ref (ad 86)), some (.ref (ad 75)), some (.int v2), some (.int r4), some (.int v4), some (.int r4)]) dX0_leastByTable_47 (Nat.le_of_ble_eq_true rfl) rfl rfl ?_
          exact ll_lo (lo' := [some (.ref (ad 86)), some (.ref (ad 75)), some (.int v2), some (.int r4), some (.int v4), none]) ⟨rfl, rfl, rfl, rfl, rfl, trivial⟩ (kX0_leastByTable_L48 E hr ih v2 r4 v4 μ5)
        · refine ll_iload E (pc := 37) dX0_leastByTable_37 rfl ?_
          refine ll_iconst E (pc := 39) dX0_leastByTable_39 kc_1 ?_
          refine ll_iadd E (pc := 40) dX0_leastByTable_40 ?_
          refine ll_istore_n E (pc := 41) (lo' := [some (.ref (ad 86)), some (.ref (ad 75)), some (.int (r4 + (1 : Int32))), some (.int v3), some (.int v4), some (.int r4)]) dX0_leastByTable_41 (Nat.le_of_ble_eq_true rfl) rfl rfl ?_
          refine ll_goto E (pc := 42) (tgt := 48) dX0_leastByTable_42 rfl ?_
          exact ll_lo (lo' := [some (.ref (ad 86)), some (.ref (ad 75)), some (.int (r4 + (1 : Int32))), some (.int v3), some (.int v4), none]) ⟨rfl, rfl, rfl, rfl, rfl, trivial⟩ (kX0_leastByTable_L48 E hr ih (r4 + (1 : Int32)) v3 v4 μ5)
theorem ctX0_leastByTable {l : Launch} {D : va_G} {cI cR : ClassId} {ad : Nat → Nat} {μ : Mem} {r : Int32} {μ' : Mem} (hf : fX0_leastByTable μ = some (r, μ')) : CT l yX0_leastByTable cX0_leastByTable 6 (some .int) 3 D cI cR ad shX NX [.ref (ad 86), .ref (ad 75)] μ (some (.int r)) μ' :=
  ct_of (own := RX0) (ov := fun r => some (.int r)) (by decide +kernel) rfl (Nat.le_of_ble_eq_true rfl) (fun p e s m below meth c A0 E hr => by
    refine ll_lo (lo' := [some (.ref (ad 86)), some (.ref (ad 75)), none, none, none, none]) ⟨rfl, rfl, trivial⟩ ?_
    rw [fX0_leastByTable]
    refine ll_iconst E (pc := 0) dX0_leastByTable_0 kc_1 ?_
    refine ll_istore_n E (pc := 1) (lo' := [some (.ref (ad 86)), some (.ref (ad 75)), some (.int (1 : Int32)), none, none, none]) dX0_leastByTable_1 (Nat.le_of_ble_eq_true rfl) rfl rfl ?_
    refine ll_bipush E (pc := 2) dX0_leastByTable_2 kb_120 ?_
    refine ll_istore_n E (pc := 4) (lo' := [some (.ref (ad 86)), some (.ref (ad 75)), some (.int (1 : Int32)), some (.int (120 : Int32)), none, none]) dX0_leastByTable_4 (Nat.le_of_ble_eq_true rfl) rfl rfl ?_
    refine ll_iconst E (pc := 5) dX0_leastByTable_5 kc_0 ?_
    refine ll_istore E (pc := 6) (lo' := [some (.ref (ad 86)), some (.ref (ad 75)), some (.int (1 : Int32)), some (.int (120 : Int32)), some (.int (0 : Int32)), none]) dX0_leastByTable_6 (Nat.le_of_ble_eq_true rfl) rfl rfl ?_
    exact ll_lo (lo' := [some (.ref (ad 86)), some (.ref (ad 75)), some (.int (1 : Int32)), some (.int (120 : Int32)), some (.int (0 : Int32)), none]) ⟨rfl, rfl, rfl, rfl, rfl, trivial⟩ (kX0_leastByTable_L8 E hr fu (1 : Int32) (120 : Int32) (0 : Int32) μ)) hf
theorem dX0_pushAll_0 : decode cX0_pushAll 0 = .ok (.iconst 0, 1) := by decide +kernel
theorem dX0_pushAll_1 : decode cX0_pushAll 1 = .ok (.istore_n 3, 1) := by decide +kernel
theorem dX0_pushAll_2 : decode cX0_pushAll 2 = .ok (.iconst 0, 1) := by decide +kernel
theorem dX0_pushAll_3 : decode cX0_pushAll 3 = .ok (.istore 4, 2) := by decide +kernel
theorem dX0_pushAll_5 : decode cX0_pushAll 5 = .ok (.iload 4, 2) := by decide +kernel
theorem dX0_pushAll_7 : decode cX0_pushAll 7 = .ok (.aload_n 1, 1) := by decide +kernel
theorem dX0_pushAll_8 : decode cX0_pushAll 8 = .ok (.getfield 40, 3) := by decide +kernel
theorem dX0_pushAll_11 : decode cX0_pushAll 11 = .ok (.if_icmp .ge 84, 3) := by decide +kernel
theorem dX0_pushAll_14 : decode cX0_pushAll 14 = .ok (.iconst 0, 1) := by decide +kernel
theorem dX0_pushAll_15 : decode cX0_pushAll 15 = .ok (.istore 5, 2) := by decide +kernel
theorem dX0_pushAll_17 : decode cX0_pushAll 17 = .ok (.iload 5, 2) := by decide +kernel
theorem dX0_pushAll_19 : decode cX0_pushAll 19 = .ok (.aload_n 1, 1) := by decide +kernel
theorem dX0_pushAll_20 : decode cX0_pushAll 20 = .ok (.getfield 40, 3) := by decide +kernel
theorem dX0_pushAll_23 : decode cX0_pushAll 23 = .ok (.if_icmp .ge 66, 3) := by decide +kernel
theorem dX0_pushAll_26 : decode cX0_pushAll 26 = .ok (.aload_n 1, 1) := by decide +kernel
theorem dX0_pushAll_27 : decode cX0_pushAll 27 = .ok (.iload 4, 2) := by decide +kernel
theorem dX0_pushAll_29 : decode cX0_pushAll 29 = .ok (.iload 5, 2) := by decide +kernel
theorem dX0_pushAll_31 : decode cX0_pushAll 31 = .ok (.iload_n 2, 1) := by decide +kernel
theorem dX0_pushAll_32 : decode cX0_pushAll 32 = .ok (.invokestatic 44, 3) := by decide +kernel
theorem dX0_pushAll_35 : decode cX0_pushAll 35 = .ok (.istore 6, 2) := by decide +kernel
theorem dX0_pushAll_37 : decode cX0_pushAll 37 = .ok (.iload 6, 2) := by decide +kernel
theorem dX0_pushAll_39 : decode cX0_pushAll 39 = .ok (.ldc 34, 2) := by decide +kernel
theorem dX0_pushAll_41 : decode cX0_pushAll 41 = .ok (.if_icmp .eq 42, 3) := by decide +kernel
theorem dX0_pushAll_44 : decode cX0_pushAll 44 = .ok (.aload_n 0, 1) := by decide +kernel
theorem dX0_pushAll_45 : decode cX0_pushAll 45 = .ok (.getfield 15, 3) := by decide +kernel
theorem dX0_pushAll_48 : decode cX0_pushAll 48 = .ok (.iload 4, 2) := by decide +kernel
theorem dX0_pushAll_50 : decode cX0_pushAll 50 = .ok (.iaload, 1) := by decide +kernel
theorem dX0_pushAll_51 : decode cX0_pushAll 51 = .ok (.iload 6, 2) := by decide +kernel
theorem dX0_pushAll_53 : decode cX0_pushAll 53 = .ok (.iadd, 1) := by decide +kernel
theorem dX0_pushAll_54 : decode cX0_pushAll 54 = .ok (.aload_n 0, 1) := by decide +kernel
theorem dX0_pushAll_55 : decode cX0_pushAll 55 = .ok (.getfield 15, 3) := by decide +kernel
theorem dX0_pushAll_58 : decode cX0_pushAll 58 = .ok (.iload 5, 2) := by decide +kernel
theorem dX0_pushAll_60 : decode cX0_pushAll 60 = .ok (.iaload, 1) := by decide +kernel
theorem dX0_pushAll_61 : decode cX0_pushAll 61 = .ok (.if_icmp .le 22, 3) := by decide +kernel
theorem dX0_pushAll_64 : decode cX0_pushAll 64 = .ok (.aload_n 0, 1) := by decide +kernel
theorem dX0_pushAll_65 : decode cX0_pushAll 65 = .ok (.getfield 15, 3) := by decide +kernel
theorem dX0_pushAll_68 : decode cX0_pushAll 68 = .ok (.iload 5, 2) := by decide +kernel
theorem dX0_pushAll_70 : decode cX0_pushAll 70 = .ok (.aload_n 0, 1) := by decide +kernel
theorem dX0_pushAll_71 : decode cX0_pushAll 71 = .ok (.getfield 15, 3) := by decide +kernel
theorem dX0_pushAll_74 : decode cX0_pushAll 74 = .ok (.iload 4, 2) := by decide +kernel
theorem dX0_pushAll_76 : decode cX0_pushAll 76 = .ok (.iaload, 1) := by decide +kernel
theorem dX0_pushAll_77 : decode cX0_pushAll 77 = .ok (.iload 6, 2) := by decide +kernel
theorem dX0_pushAll_79 : decode cX0_pushAll 79 = .ok (.iadd, 1) := by decide +kernel
theorem dX0_pushAll_80 : decode cX0_pushAll 80 = .ok (.iastore, 1) := by decide +kernel
theorem dX0_pushAll_81 : decode cX0_pushAll 81 = .ok (.iconst 1, 1) := by decide +kernel
theorem dX0_pushAll_82 : decode cX0_pushAll 82 = .ok (.istore_n 3, 1) := by decide +kernel
theorem dX0_pushAll_83 : decode cX0_pushAll 83 = .ok (.iinc 5 1, 3) := by decide +kernel
theorem dX0_pushAll_86 : decode cX0_pushAll 86 = .ok (.goto (-69), 3) := by decide +kernel
theorem dX0_pushAll_89 : decode cX0_pushAll 89 = .ok (.iinc 4 1, 3) := by decide +kernel
theorem dX0_pushAll_92 : decode cX0_pushAll 92 = .ok (.goto (-87), 3) := by decide +kernel
theorem dX0_pushAll_95 : decode cX0_pushAll 95 = .ok (.iload_n 3, 1) := by decide +kernel
theorem dX0_pushAll_96 : decode cX0_pushAll 96 = .ok (.ireturn, 1) := by decide +kernel
def fX0_pushAll_L83 (K17 : Int32 → Int32 → Int32 → Int32 → Mem → Option (Int32 × Mem)) (v2 : Int32) (v3 : Int32) (v4 : Int32) (v5 : Int32) (μ : Mem) : Option (Int32 × Mem) :=
  K17 v2 v3 v4 (v5 + (1 : Int32)) μ
def fX0_pushAll_L17 (K5 : Int32 → Int32 → Int32 → Mem → Option (Int32 × Mem)) : Nat → Int32 → Int32 → Int32 → Int32 → Mem → Option (Int32 × Mem)
  | 0, _, _, _, _, _ => none
  | n + 1, v2, v3, v4, v5, μ =>   if (μ 75 0) ≤ v5 then
  K5 v2 v3 (v4 + (1 : Int32)) μ
  else
  bd (fX0_wayOf μ v4 v5 v2) fun r8 μ7 =>
  if r8 = (-1000000 : Int32) then
  fX0_pushAll_L83 (fX0_pushAll_L17 K5 n) v2 v3 v4 v5 μ7
  else
  (ld 20 (μ7 88) v4).bind fun r9 =>
  (ld 20 (μ7 88) v5).bind fun r10 =>
  if (r9 + r8) ≤ r10 then
  fX0_pushAll_L83 (fX0_pushAll_L17 K5 n) v2 v3 v4 v5 μ7
  else
  (ld 20 (μ7 88) v4).bind fun r11 =>
  (ast 20 μ7 88 v5 (r11 + r8)).bind fun μ12 =>
  fX0_pushAll_L83 (fX0_pushAll_L17 K5 n) v2 (1 : Int32) v4 v5 μ12
def fX0_pushAll_L5 : Nat → Int32 → Int32 → Int32 → Mem → Option (Int32 × Mem)
  | 0, _, _, _, _ => none
  | n + 1, v2, v3, v4, μ =>   if (μ 75 0) ≤ v4 then
  zret v3 μ
  else
  fX0_pushAll_L17 (fX0_pushAll_L5 n) fu v2 v3 v4 (0 : Int32) μ
def fX0_pushAll (μ : Mem) (a2 : Int32) : Option (Int32 × Mem) :=
  fX0_pushAll_L5 fu a2 (0 : Int32) (0 : Int32) μ
theorem kX0_pushAll_L83 {p : Program} {l : Launch} {e : Env} {s : State} {m : MethodId} {args : Array Value} {below : List Frame} {meth : Method} {c : Code} {D : va_G} {cI cR : ClassId} {ad : Nat → Nat} {A0 : Nat → Prop} (E : EV p s m args meth c cX0_pushAll 7 RX0 D cI cR ad shX NX A0) (hr : meth.sig.returnType = (some .boolean)) {K17 : Int32 → Int32 → Int32 → Int32 → Mem → Option (Int32 × Mem)} (hK17 : ∀ (v2 : Int32) (v3 : Int32) (v4 : Int32) (v5 : Int32) (μ : Mem), LL p l e (RM 2) s m args below meth c 7 D cI cR ad shX NX A0 (fun (r : Int32) μ' => KG below args s D cI cR ad shX NX A0 (some (.int r)) μ') (K17 v2 v3 v4 v5 μ) 0 0 17 [some (.ref (ad 86)), some (.ref (ad 75)), some (.int v2), some (.int v3), some (.int v4), some (.int v5), none] [] μ) (v2 : Int32) (v3 : Int32) (v4 : Int32) (v5 : Int32) (μ : Mem) : LL p l e (RM 2) s m args below meth c 7 D cI cR ad shX NX A0 (fun (r : Int32) μ' => KG below args s D cI cR ad shX NX A0 (some (.int r)) μ') (fX0_pushAll_L83 K17 v2 v3 v4 v5 μ) 0 0 83 [some (.ref (ad 86)), some (.ref (ad 75)), some (.int v2), some (.int v3), some (.int v4), some (.int v5), none] [] μ := by
  rw [fX0_pushAll_L83]
  refine ll_iinc E (pc := 83) (lo' := [some (.ref (ad 86)), some (.ref (ad 75)), some (.int v2), some (.int v3), some (.int v4), some (.int (v5 + (1 : Int32))), none]) dX0_pushAll_83 rfl kc_1 (Nat.le_of_ble_eq_true rfl) rfl rfl ?_
  refine ll_goto E (pc := 86) (tgt := 17) dX0_pushAll_86 rfl ?_
  exact ll_lo (lo' := [some (.ref (ad 86)), some (.ref (ad 75)), some (.int v2), some (.int v3), some (.int v4), some (.int (v5 + (1 : Int32))), none]) ⟨rfl, rfl, rfl, rfl, rfl, rfl, trivial⟩ (hK17 v2 v3 v4 (v5 + (1 : Int32)) μ)
theorem kX0_pushAll_L17 {p : Program} {l : Launch} {e : Env} {s : State} {m : MethodId} {args : Array Value} {below : List Frame} {meth : Method} {c : Code} {D : va_G} {cI cR : ClassId} {ad : Nat → Nat} {A0 : Nat → Prop} (E : EV p s m args meth c cX0_pushAll 7 RX0 D cI cR ad shX NX A0) (hr : meth.sig.returnType = (some .boolean)) {K5 : Int32 → Int32 → Int32 → Mem → Option (Int32 × Mem)} (hK5 : ∀ (v2 : Int32) (v3 : Int32) (v4 : Int32) (μ : Mem), LL p l e (RM 2) s m args below meth c 7 D cI cR ad shX NX A0 (fun (r : Int32) μ' => KG below args s D cI cR ad shX NX A0 (some (.int r)) μ') (K5 v2 v3 v4 μ) 0 0 5 [some (.ref (ad 86)), some (.ref (ad 75)), some (.int v2), some (.int v3), some (.int v4), none, none] [] μ) (n : Nat) : ∀ (v2 : Int32) (v3 : Int32) (v4 : Int32) (v5 : Int32) (μ : Mem), LL p l e (RM 2) s m args below meth c 7 D cI cR ad shX NX A0 (fun (r : Int32) μ' => KG below args s D cI cR ad shX NX A0 (some (.int r)) μ') (fX0_pushAll_L17 K5 n v2 v3 v4 v5 μ) 0 0 17 [some (.ref (ad 86)), some (.ref (ad 75)), some (.int v2), some (.int v3), some (.int v4), some (.int v5), none] [] μ := by
  induction n with
  | zero =>
    intros
    exact ll_none
  | succ n ih =>
    intro v2 v3 v4 v5 μ
    rw [fX0_pushAll_L17]
    refine ll_iload E (pc := 17) dX0_pushAll_17 rfl ?_
    refine ll_aload_n E (pc := 19) dX0_pushAll_19 rfl ?_
    refine ll_getf E (pc := 20) (o9 := 75) (ci := 2) (k9 := 0) dX0_pushAll_20 fl_X0_40 (Nat.le_of_ble_eq_true rfl) fx_75_0 ?_
    refine ll_icmp_ge E (pc := 23) (tgt := 89) dX0_pushAll_23 rfl ?_ ?_
    · refine ll_iinc E (pc := 89) (lo' := [some (.ref (ad 86)), some (.ref (ad 75)), some (.int v2), some (.int v3), some (.int (v4 + (1 : Int32))), some (.int v5), none]) dX0_pushAll_89 rfl kc_1 (Nat.le_of_ble_eq_true rfl) rfl rfl ?_
      refine ll_goto E (pc := 92) (tgt := 5) dX0_pushAll_92 rfl ?_
      exact ll_lo (lo' := [some (.ref (ad 86)), some (.ref (ad 75)), some (.int v2), some (.int v3), some (.int (v4 + (1 : Int32))), none, none]) ⟨rfl, rfl, rfl, rfl, rfl, trivial⟩ (hK5 v2 v3 (v4 + (1 : Int32)) μ)
    · refine ll_aload_n E (pc := 26) dX0_pushAll_26 rfl ?_
      refine ll_iload E (pc := 27) dX0_pushAll_27 rfl ?_
      refine ll_iload E (pc := 29) dX0_pushAll_29 rfl ?_
      refine ll_iload_n E (pc := 31) dX0_pushAll_31 rfl ?_
      refine ll_callSi E (pc := 32) (d := 1) [.ref (ad 75), .int v4, .int v5, .int v2] [] dX0_pushAll_32 cv_X0_44 (fun h => ctX0_wayOf h) rfl rfl (Nat.le_of_ble_eq_true rfl) ⟨(Nat.le_of_ble_eq_true rfl), (Nat.le_of_ble_eq_true rfl)⟩ ⟨(Nat.le_of_ble_eq_true rfl), (Nat.le_of_ble_eq_true rfl)⟩ ?_
      intro r8 μ7
      refine ll_istore E (pc := 35) (lo' := [some (.ref (ad 86)), some (.ref (ad 75)), some (.int v2), some (.int v3), some (.int v4), some (.int v5), some (.int r8)]) dX0_pushAll_35 (Nat.le_of_ble_eq_true rfl) rfl rfl ?_
      refine ll_iload E (pc := 37) dX0_pushAll_37 rfl ?_
      refine ll_ldc E (pc := 39) dX0_pushAll_39 kw_X0_34 ?_
      refine ll_icmp_eq E (pc := 41) (tgt := 83) dX0_pushAll_41 rfl ?_ ?_
      · exact ll_lo (lo' := [some (.ref (ad 86)), some (.ref (ad 75)), some (.int v2), some (.int v3), some (.int v4), some (.int v5), none]) ⟨rfl, rfl, rfl, rfl, rfl, rfl, trivial⟩ (kX0_pushAll_L83 E hr ih v2 v3 v4 v5 μ7)
      · refine ll_aload_n E (pc := 44) dX0_pushAll_44 rfl ?_
        refine ll_getfr E (pc := 45) (o9 := 86) (ci := 0) (k9 := 1) (q := 88) dX0_pushAll_45 fl_X0_15 (Nat.le_of_ble_eq_true rfl) fx_86_1 ?_
        refine ll_iload E (pc := 48) dX0_pushAll_48 rfl ?_
        refine ll_iald E (pc := 50) (a := 88) dX0_pushAll_50 (px_88).1 (px_88).2 ?_
        intro r9
        refine ll_iload E (pc := 51) dX0_pushAll_51 rfl ?_
        refine ll_iadd E (pc := 53) dX0_pushAll_53 ?_
        refine ll_aload_n E (pc := 54) dX0_pushAll_54 rfl ?_
        refine ll_getfr E (pc := 55) (o9 := 86) (ci := 0) (k9 := 1) (q := 88) dX0_pushAll_55 fl_X0_15 (Nat.le_of_ble_eq_true rfl) fx_86_1 ?_
        refine ll_iload E (pc := 58) dX0_pushAll_58 rfl ?_
        refine ll_iald E (pc := 60) (a := 88) dX0_pushAll_60 (px_88).1 (px_88).2 ?_
        intro r10
        refine ll_icmp_le E (pc := 61) (tgt := 83) dX0_pushAll_61 rfl ?_ ?_
        · exact ll_lo (lo' := [some (.ref (ad 86)), some (.ref (ad 75)), some (.int v2), some (.int v3), some (.int v4), some (.int v5), none]) ⟨rfl, rfl, rfl, rfl, rfl, rfl, trivial⟩ (kX0_pushAll_L83 E hr ih v2 v3 v4 v5 μ7)
        · refine ll_aload_n E (pc := 64) dX0_pushAll_64 rfl ?_
          refine ll_getfr E (pc := 65) (o9 := 86) (ci := 0) (k9 := 1) (q := 88) dX0_pushAll_65 fl_X0_15 (Nat.le_of_ble_eq_true rfl) fx_86_1 ?_
          refine ll_iload E (pc := 68) dX0_pushAll_68 rfl ?_
          refine ll_aload_n E (pc := 70) dX0_pushAll_70 rfl ?_
          refine ll_getfr E (pc := 71) (o9 := 86) (ci := 0) (k9 := 1) (q := 88) dX0_pushAll_71 fl_X0_15 (Nat.le_of_ble_eq_true rfl) fx_86_1 ?_
          refine ll_iload E (pc := 74) dX0_pushAll_74 rfl ?_
          refine ll_iald E (pc := 76) (a := 88) dX0_pushAll_76 (px_88).1 (px_88).2 ?_
          intro r11
          refine ll_iload E (pc := 77) dX0_pushAll_77 rfl ?_
          refine ll_iadd E (pc := 79) dX0_pushAll_79 ?_
          refine ll_iast E (pc := 80) (a := 88) dX0_pushAll_80 (px_88).1 (px_88).2 ?_
          intro μ12
          refine ll_iconst E (pc := 81) dX0_pushAll_81 kc_1 ?_
          refine ll_istore_n E (pc := 82) (lo' := [some (.ref (ad 86)), some (.ref (ad 75)), some (.int v2), some (.int (1 : Int32)), some (.int v4), some (.int v5), some (.int r8)]) dX0_pushAll_82 (Nat.le_of_ble_eq_true rfl) rfl rfl ?_
          exact ll_lo (lo' := [some (.ref (ad 86)), some (.ref (ad 75)), some (.int v2), some (.int (1 : Int32)), some (.int v4), some (.int v5), none]) ⟨rfl, rfl, rfl, rfl, rfl, rfl, trivial⟩ (kX0_pushAll_L83 E hr ih v2 (1 : Int32) v4 v5 μ12)
theorem kX0_pushAll_L5 {p : Program} {l : Launch} {e : Env} {s : State} {m : MethodId} {args : Array Value} {below : List Frame} {meth : Method} {c : Code} {D : va_G} {cI cR : ClassId} {ad : Nat → Nat} {A0 : Nat → Prop} (E : EV p s m args meth c cX0_pushAll 7 RX0 D cI cR ad shX NX A0) (hr : meth.sig.returnType = (some .boolean)) (n : Nat) : ∀ (v2 : Int32) (v3 : Int32) (v4 : Int32) (μ : Mem), LL p l e (RM 2) s m args below meth c 7 D cI cR ad shX NX A0 (fun (r : Int32) μ' => KG below args s D cI cR ad shX NX A0 (some (.int r)) μ') (fX0_pushAll_L5 n v2 v3 v4 μ) 0 0 5 [some (.ref (ad 86)), some (.ref (ad 75)), some (.int v2), some (.int v3), some (.int v4), none, none] [] μ := by
  induction n with
  | zero =>
    intros
    exact ll_none
  | succ n ih =>
    intro v2 v3 v4 μ
    rw [fX0_pushAll_L5]
    refine ll_iload E (pc := 5) dX0_pushAll_5 rfl ?_
    refine ll_aload_n E (pc := 7) dX0_pushAll_7 rfl ?_
    refine ll_getf E (pc := 8) (o9 := 75) (ci := 2) (k9 := 0) dX0_pushAll_8 fl_X0_40 (Nat.le_of_ble_eq_true rfl) fx_75_0 ?_
    refine ll_icmp_ge E (pc := 11) (tgt := 95) dX0_pushAll_11 rfl ?_ ?_
    · refine ll_iload_n E (pc := 95) dX0_pushAll_95 rfl ?_
      exact ll_zret E (pc := 96) hr dX0_pushAll_96
    · refine ll_iconst E (pc := 14) dX0_pushAll_14 kc_0 ?_
      refine ll_istore E (pc := 15) (lo' := [some (.ref (ad 86)), some (.ref (ad 75)), some (.int v2), some (.int v3), some (.int v4), some (.int (0 : Int32)), none]) dX0_pushAll_15 (Nat.le_of_ble_eq_true rfl) rfl rfl ?_
      exact ll_lo (lo' := [some (.ref (ad 86)), some (.ref (ad 75)), some (.int v2), some (.int v3), some (.int v4), some (.int (0 : Int32)), none]) ⟨rfl, rfl, rfl, rfl, rfl, rfl, trivial⟩ (kX0_pushAll_L17 E hr ih fu v2 v3 v4 (0 : Int32) μ)
theorem ctX0_pushAll {l : Launch} {D : va_G} {cI cR : ClassId} {ad : Nat → Nat} {μ : Mem} {a2 : Int32} {r : Int32} {μ' : Mem} (hf : fX0_pushAll μ a2 = some (r, μ')) : CT l yX0_pushAll cX0_pushAll 7 (some .boolean) 2 D cI cR ad shX NX [.ref (ad 86), .ref (ad 75), .int a2] μ (some (.int r)) μ' :=
  ct_of (own := RX0) (ov := fun r => some (.int r)) (by decide +kernel) rfl (Nat.le_of_ble_eq_true rfl) (fun p e s m below meth c A0 E hr => by
    refine ll_lo (lo' := [some (.ref (ad 86)), some (.ref (ad 75)), some (.int a2), none, none, none, none]) ⟨rfl, rfl, rfl, trivial⟩ ?_
    rw [fX0_pushAll]
    refine ll_iconst E (pc := 0) dX0_pushAll_0 kc_0 ?_
    refine ll_istore_n E (pc := 1) (lo' := [some (.ref (ad 86)), some (.ref (ad 75)), some (.int a2), some (.int (0 : Int32)), none, none, none]) dX0_pushAll_1 (Nat.le_of_ble_eq_true rfl) rfl rfl ?_
    refine ll_iconst E (pc := 2) dX0_pushAll_2 kc_0 ?_
    refine ll_istore E (pc := 3) (lo' := [some (.ref (ad 86)), some (.ref (ad 75)), some (.int a2), some (.int (0 : Int32)), some (.int (0 : Int32)), none, none]) dX0_pushAll_3 (Nat.le_of_ble_eq_true rfl) rfl rfl ?_
    exact ll_lo (lo' := [some (.ref (ad 86)), some (.ref (ad 75)), some (.int a2), some (.int (0 : Int32)), some (.int (0 : Int32)), none, none]) ⟨rfl, rfl, rfl, rfl, rfl, trivial⟩ (kX0_pushAll_L5 E hr fu a2 (0 : Int32) (0 : Int32) μ)) hf
theorem dX0_growsByPushes_0 : decode cX0_growsByPushes 0 = .ok (.iconst 0, 1) := by decide +kernel
theorem dX0_growsByPushes_1 : decode cX0_growsByPushes 1 = .ok (.istore_n 3, 1) := by decide +kernel
theorem dX0_growsByPushes_2 : decode cX0_growsByPushes 2 = .ok (.iload_n 3, 1) := by decide +kernel
theorem dX0_growsByPushes_3 : decode cX0_growsByPushes 3 = .ok (.aload_n 1, 1) := by decide +kernel
theorem dX0_growsByPushes_4 : decode cX0_growsByPushes 4 = .ok (.getfield 40, 3) := by decide +kernel
theorem dX0_growsByPushes_7 : decode cX0_growsByPushes 7 = .ok (.if_icmp .ge 16, 3) := by decide +kernel
theorem dX0_growsByPushes_10 : decode cX0_growsByPushes 10 = .ok (.aload_n 0, 1) := by decide +kernel
theorem dX0_growsByPushes_11 : decode cX0_growsByPushes 11 = .ok (.getfield 15, 3) := by decide +kernel
theorem dX0_growsByPushes_14 : decode cX0_growsByPushes 14 = .ok (.iload_n 3, 1) := by decide +kernel
theorem dX0_growsByPushes_15 : decode cX0_growsByPushes 15 = .ok (.iconst 0, 1) := by decide +kernel
theorem dX0_growsByPushes_16 : decode cX0_growsByPushes 16 = .ok (.iastore, 1) := by decide +kernel
theorem dX0_growsByPushes_17 : decode cX0_growsByPushes 17 = .ok (.iinc 3 1, 3) := by decide +kernel
theorem dX0_growsByPushes_20 : decode cX0_growsByPushes 20 = .ok (.goto (-18), 3) := by decide +kernel
theorem dX0_growsByPushes_23 : decode cX0_growsByPushes 23 = .ok (.iconst 0, 1) := by decide +kernel
theorem dX0_growsByPushes_24 : decode cX0_growsByPushes 24 = .ok (.istore_n 3, 1) := by decide +kernel
theorem dX0_growsByPushes_25 : decode cX0_growsByPushes 25 = .ok (.iload_n 3, 1) := by decide +kernel
theorem dX0_growsByPushes_26 : decode cX0_growsByPushes 26 = .ok (.aload_n 1, 1) := by decide +kernel
theorem dX0_growsByPushes_27 : decode cX0_growsByPushes 27 = .ok (.getfield 40, 3) := by decide +kernel
theorem dX0_growsByPushes_30 : decode cX0_growsByPushes 30 = .ok (.if_icmp .ge 20, 3) := by decide +kernel
theorem dX0_growsByPushes_33 : decode cX0_growsByPushes 33 = .ok (.aload_n 0, 1) := by decide +kernel
theorem dX0_growsByPushes_34 : decode cX0_growsByPushes 34 = .ok (.aload_n 1, 1) := by decide +kernel
theorem dX0_growsByPushes_35 : decode cX0_growsByPushes 35 = .ok (.iload_n 2, 1) := by decide +kernel
theorem dX0_growsByPushes_36 : decode cX0_growsByPushes 36 = .ok (.invokevirtual 56, 3) := by decide +kernel
theorem dX0_growsByPushes_39 : decode cX0_growsByPushes 39 = .ok (.ifCond .ne 5, 3) := by decide +kernel
theorem dX0_growsByPushes_42 : decode cX0_growsByPushes 42 = .ok (.iconst 0, 1) := by decide +kernel
theorem dX0_growsByPushes_43 : decode cX0_growsByPushes 43 = .ok (.ireturn, 1) := by decide +kernel
theorem dX0_growsByPushes_44 : decode cX0_growsByPushes 44 = .ok (.iinc 3 1, 3) := by decide +kernel
theorem dX0_growsByPushes_47 : decode cX0_growsByPushes 47 = .ok (.goto (-22), 3) := by decide +kernel
theorem dX0_growsByPushes_50 : decode cX0_growsByPushes 50 = .ok (.aload_n 1, 1) := by decide +kernel
theorem dX0_growsByPushes_51 : decode cX0_growsByPushes 51 = .ok (.getfield 40, 3) := by decide +kernel
theorem dX0_growsByPushes_54 : decode cX0_growsByPushes 54 = .ok (.ifCond .le 7, 3) := by decide +kernel
theorem dX0_growsByPushes_57 : decode cX0_growsByPushes 57 = .ok (.iconst 1, 1) := by decide +kernel
theorem dX0_growsByPushes_58 : decode cX0_growsByPushes 58 = .ok (.goto 4, 3) := by decide +kernel
theorem dX0_growsByPushes_61 : decode cX0_growsByPushes 61 = .ok (.iconst 0, 1) := by decide +kernel
theorem dX0_growsByPushes_62 : decode cX0_growsByPushes 62 = .ok (.ireturn, 1) := by decide +kernel
def fX0_growsByPushes_L25 : Nat → Int32 → Int32 → Mem → Option (Int32 × Mem)
  | 0, _, _, _ => none
  | n + 1, v2, v3, μ =>   if (μ 75 0) ≤ v3 then
  if (μ 75 0) ≤ 0 then
  some ((0 : Int32), μ)
  else
  some ((1 : Int32), μ)
  else
  bd (fX0_pushAll μ v2) fun r5 μ4 =>
  if r5 = 0 then
  some ((0 : Int32), μ4)
  else
  fX0_growsByPushes_L25 n v2 (v3 + (1 : Int32)) μ4
def fX0_growsByPushes_L2 : Nat → Int32 → Int32 → Mem → Option (Int32 × Mem)
  | 0, _, _, _ => none
  | n + 1, v2, v3, μ =>   if (μ 75 0) ≤ v3 then
  fX0_growsByPushes_L25 fu v2 (0 : Int32) μ
  else
  (ast 20 μ 88 v3 (0 : Int32)).bind fun μ6 =>
  fX0_growsByPushes_L2 n v2 (v3 + (1 : Int32)) μ6
def fX0_growsByPushes (μ : Mem) (a2 : Int32) : Option (Int32 × Mem) :=
  fX0_growsByPushes_L2 fu a2 (0 : Int32) μ
theorem kX0_growsByPushes_L25 {p : Program} {l : Launch} {e : Env} {s : State} {m : MethodId} {args : Array Value} {below : List Frame} {meth : Method} {c : Code} {D : va_G} {cI cR : ClassId} {ad : Nat → Nat} {A0 : Nat → Prop} (E : EV p s m args meth c cX0_growsByPushes 4 RX0 D cI cR ad shX NX A0) (hr : meth.sig.returnType = (some .boolean)) (n : Nat) : ∀ (v2 : Int32) (v3 : Int32) (μ : Mem), LL p l e (RM 3) s m args below meth c 4 D cI cR ad shX NX A0 (fun (r : Int32) μ' => KG below args s D cI cR ad shX NX A0 (some (.int r)) μ') (fX0_growsByPushes_L25 n v2 v3 μ) 0 0 25 [some (.ref (ad 86)), some (.ref (ad 75)), some (.int v2), some (.int v3)] [] μ := by
  induction n with
  | zero =>
    intros
    exact ll_none
  | succ n ih =>
    intro v2 v3 μ
    rw [fX0_growsByPushes_L25]
    refine ll_iload_n E (pc := 25) dX0_growsByPushes_25 rfl ?_
    refine ll_aload_n E (pc := 26) dX0_growsByPushes_26 rfl ?_
    refine ll_getf E (pc := 27) (o9 := 75) (ci := 2) (k9 := 0) dX0_growsByPushes_27 fl_X0_40 (Nat.le_of_ble_eq_true rfl) fx_75_0 ?_
    refine ll_icmp_ge E (pc := 30) (tgt := 50) dX0_growsByPushes_30 rfl ?_ ?_
    · refine ll_aload_n E (pc := 50) dX0_growsByPushes_50 rfl ?_
      refine ll_getf E (pc := 51) (o9 := 75) (ci := 2) (k9 := 0) dX0_growsByPushes_51 fl_X0_40 (Nat.le_of_ble_eq_true rfl) fx_75_0 ?_
      refine ll_if_le E (pc := 54) (tgt := 61) dX0_growsByPushes_54 rfl ?_ ?_
      · refine ll_iconst E (pc := 61) dX0_growsByPushes_61 kc_0 ?_
        exact ll_zreturn E (pc := 62) hr rfl dX0_growsByPushes_62
      · refine ll_iconst E (pc := 57) dX0_growsByPushes_57 kc_1 ?_
        refine ll_goto E (pc := 58) (tgt := 62) dX0_growsByPushes_58 rfl ?_
        exact ll_zreturn E (pc := 62) hr rfl dX0_growsByPushes_62
    · refine ll_aload_n E (pc := 33) dX0_growsByPushes_33 rfl ?_
      refine ll_aload_n E (pc := 34) dX0_growsByPushes_34 rfl ?_
      refine ll_iload_n E (pc := 35) dX0_growsByPushes_35 rfl ?_
      refine ll_callVi E (pc := 36) (d := 2) (ci := 0) (o9 := 86) [.ref (ad 75), .int v2] [] dX0_growsByPushes_36 cv_X0_56 (fun h => ctX0_pushAll h) (Nat.le_of_ble_eq_true rfl) sx_86 ci_0 rfl rfl (Nat.le_of_ble_eq_true rfl) ⟨(Nat.le_of_ble_eq_true rfl), (Nat.le_of_ble_eq_true rfl)⟩ ⟨(Nat.le_of_ble_eq_true rfl), (Nat.le_of_ble_eq_true rfl)⟩ ?_
      intro r5 μ4
      refine ll_if_ne E (pc := 39) (tgt := 44) dX0_growsByPushes_39 rfl ?_ ?_
      · refine ll_iinc E (pc := 44) (lo' := [some (.ref (ad 86)), some (.ref (ad 75)), some (.int v2), some (.int (v3 + (1 : Int32)))]) dX0_growsByPushes_44 rfl kc_1 (Nat.le_of_ble_eq_true rfl) rfl rfl ?_
        refine ll_goto E (pc := 47) (tgt := 25) dX0_growsByPushes_47 rfl ?_
        exact ll_lo (lo' := [some (.ref (ad 86)), some (.ref (ad 75)), some (.int v2), some (.int (v3 + (1 : Int32)))]) ⟨rfl, rfl, rfl, rfl, trivial⟩ (ih v2 (v3 + (1 : Int32)) μ4)
      · refine ll_iconst E (pc := 42) dX0_growsByPushes_42 kc_0 ?_
        exact ll_zreturn E (pc := 43) hr rfl dX0_growsByPushes_43
theorem kX0_growsByPushes_L2 {p : Program} {l : Launch} {e : Env} {s : State} {m : MethodId} {args : Array Value} {below : List Frame} {meth : Method} {c : Code} {D : va_G} {cI cR : ClassId} {ad : Nat → Nat} {A0 : Nat → Prop} (E : EV p s m args meth c cX0_growsByPushes 4 RX0 D cI cR ad shX NX A0) (hr : meth.sig.returnType = (some .boolean)) (n : Nat) : ∀ (v2 : Int32) (v3 : Int32) (μ : Mem), LL p l e (RM 3) s m args below meth c 4 D cI cR ad shX NX A0 (fun (r : Int32) μ' => KG below args s D cI cR ad shX NX A0 (some (.int r)) μ') (fX0_growsByPushes_L2 n v2 v3 μ) 0 0 2 [some (.ref (ad 86)), some (.ref (ad 75)), some (.int v2), some (.int v3)] [] μ := by
  induction n with
  | zero =>
    intros
    exact ll_none
  | succ n ih =>
    intro v2 v3 μ
    rw [fX0_growsByPushes_L2]
    refine ll_iload_n E (pc := 2) dX0_growsByPushes_2 rfl ?_
    refine ll_aload_n E (pc := 3) dX0_growsByPushes_3 rfl ?_
    refine ll_getf E (pc := 4) (o9 := 75) (ci := 2) (k9 := 0) dX0_growsByPushes_4 fl_X0_40 (Nat.le_of_ble_eq_true rfl) fx_75_0 ?_
    refine ll_icmp_ge E (pc := 7) (tgt := 23) dX0_growsByPushes_7 rfl ?_ ?_
    · refine ll_iconst E (pc := 23) dX0_growsByPushes_23 kc_0 ?_
      refine ll_istore_n E (pc := 24) (lo' := [some (.ref (ad 86)), some (.ref (ad 75)), some (.int v2), some (.int (0 : Int32))]) dX0_growsByPushes_24 (Nat.le_of_ble_eq_true rfl) rfl rfl ?_
      exact ll_lo (lo' := [some (.ref (ad 86)), some (.ref (ad 75)), some (.int v2), some (.int (0 : Int32))]) ⟨rfl, rfl, rfl, rfl, trivial⟩ (kX0_growsByPushes_L25 E hr fu v2 (0 : Int32) μ)
    · refine ll_aload_n E (pc := 10) dX0_growsByPushes_10 rfl ?_
      refine ll_getfr E (pc := 11) (o9 := 86) (ci := 0) (k9 := 1) (q := 88) dX0_growsByPushes_11 fl_X0_15 (Nat.le_of_ble_eq_true rfl) fx_86_1 ?_
      refine ll_iload_n E (pc := 14) dX0_growsByPushes_14 rfl ?_
      refine ll_iconst E (pc := 15) dX0_growsByPushes_15 kc_0 ?_
      refine ll_iast E (pc := 16) (a := 88) dX0_growsByPushes_16 (px_88).1 (px_88).2 ?_
      intro μ6
      refine ll_iinc E (pc := 17) (lo' := [some (.ref (ad 86)), some (.ref (ad 75)), some (.int v2), some (.int (v3 + (1 : Int32)))]) dX0_growsByPushes_17 rfl kc_1 (Nat.le_of_ble_eq_true rfl) rfl rfl ?_
      refine ll_goto E (pc := 20) (tgt := 2) dX0_growsByPushes_20 rfl ?_
      exact ll_lo (lo' := [some (.ref (ad 86)), some (.ref (ad 75)), some (.int v2), some (.int (v3 + (1 : Int32)))]) ⟨rfl, rfl, rfl, rfl, trivial⟩ (ih v2 (v3 + (1 : Int32)) μ6)
theorem ctX0_growsByPushes {l : Launch} {D : va_G} {cI cR : ClassId} {ad : Nat → Nat} {μ : Mem} {a2 : Int32} {r : Int32} {μ' : Mem} (hf : fX0_growsByPushes μ a2 = some (r, μ')) : CT l yX0_growsByPushes cX0_growsByPushes 4 (some .boolean) 3 D cI cR ad shX NX [.ref (ad 86), .ref (ad 75), .int a2] μ (some (.int r)) μ' :=
  ct_of (own := RX0) (ov := fun r => some (.int r)) (by decide +kernel) rfl (Nat.le_of_ble_eq_true rfl) (fun p e s m below meth c A0 E hr => by
    refine ll_lo (lo' := [some (.ref (ad 86)), some (.ref (ad 75)), some (.int a2), none]) ⟨rfl, rfl, rfl, trivial⟩ ?_
    rw [fX0_growsByPushes]
    refine ll_iconst E (pc := 0) dX0_growsByPushes_0 kc_0 ?_
    refine ll_istore_n E (pc := 1) (lo' := [some (.ref (ad 86)), some (.ref (ad 75)), some (.int a2), some (.int (0 : Int32))]) dX0_growsByPushes_1 (Nat.le_of_ble_eq_true rfl) rfl rfl ?_
    exact ll_lo (lo' := [some (.ref (ad 86)), some (.ref (ad 75)), some (.int a2), some (.int (0 : Int32))]) ⟨rfl, rfl, rfl, rfl, trivial⟩ (kX0_growsByPushes_L2 E hr fu a2 (0 : Int32) μ)) hf
theorem dX0_leastByPushes_0 : decode cX0_leastByPushes 0 = .ok (.iconst 1, 1) := by decide +kernel
theorem dX0_leastByPushes_1 : decode cX0_leastByPushes 1 = .ok (.istore_n 2, 1) := by decide +kernel
theorem dX0_leastByPushes_2 : decode cX0_leastByPushes 2 = .ok (.bipush 120, 2) := by decide +kernel
theorem dX0_leastByPushes_4 : decode cX0_leastByPushes 4 = .ok (.istore_n 3, 1) := by decide +kernel
theorem dX0_leastByPushes_5 : decode cX0_leastByPushes 5 = .ok (.iconst 0, 1) := by decide +kernel
theorem dX0_leastByPushes_6 : decode cX0_leastByPushes 6 = .ok (.istore 4, 2) := by decide +kernel
theorem dX0_leastByPushes_8 : decode cX0_leastByPushes 8 = .ok (.iload 4, 2) := by decide +kernel
theorem dX0_leastByPushes_10 : decode cX0_leastByPushes 10 = .ok (.bipush 120, 2) := by decide +kernel
theorem dX0_leastByPushes_12 : decode cX0_leastByPushes 12 = .ok (.if_icmp .ge 42, 3) := by decide +kernel
theorem dX0_leastByPushes_15 : decode cX0_leastByPushes 15 = .ok (.iload_n 2, 1) := by decide +kernel
theorem dX0_leastByPushes_16 : decode cX0_leastByPushes 16 = .ok (.iload_n 3, 1) := by decide +kernel
theorem dX0_leastByPushes_17 : decode cX0_leastByPushes 17 = .ok (.if_icmp .ge 37, 3) := by decide +kernel
theorem dX0_leastByPushes_20 : decode cX0_leastByPushes 20 = .ok (.iload_n 2, 1) := by decide +kernel
theorem dX0_leastByPushes_21 : decode cX0_leastByPushes 21 = .ok (.iload_n 3, 1) := by decide +kernel
theorem dX0_leastByPushes_22 : decode cX0_leastByPushes 22 = .ok (.iadd, 1) := by decide +kernel
theorem dX0_leastByPushes_23 : decode cX0_leastByPushes 23 = .ok (.iconst 2, 1) := by decide +kernel
theorem dX0_leastByPushes_24 : decode cX0_leastByPushes 24 = .ok (.idiv, 1) := by decide +kernel
theorem dX0_leastByPushes_25 : decode cX0_leastByPushes 25 = .ok (.istore 5, 2) := by decide +kernel
theorem dX0_leastByPushes_27 : decode cX0_leastByPushes 27 = .ok (.aload_n 0, 1) := by decide +kernel
theorem dX0_leastByPushes_28 : decode cX0_leastByPushes 28 = .ok (.aload_n 1, 1) := by decide +kernel
theorem dX0_leastByPushes_29 : decode cX0_leastByPushes 29 = .ok (.iload 5, 2) := by decide +kernel
theorem dX0_leastByPushes_31 : decode cX0_leastByPushes 31 = .ok (.invokevirtual 22, 3) := by decide +kernel
theorem dX0_leastByPushes_34 : decode cX0_leastByPushes 34 = .ok (.ifCond .eq 11, 3) := by decide +kernel
theorem dX0_leastByPushes_37 : decode cX0_leastByPushes 37 = .ok (.iload 5, 2) := by decide +kernel
theorem dX0_leastByPushes_39 : decode cX0_leastByPushes 39 = .ok (.iconst 1, 1) := by decide +kernel
theorem dX0_leastByPushes_40 : decode cX0_leastByPushes 40 = .ok (.iadd, 1) := by decide +kernel
theorem dX0_leastByPushes_41 : decode cX0_leastByPushes 41 = .ok (.istore_n 2, 1) := by decide +kernel
theorem dX0_leastByPushes_42 : decode cX0_leastByPushes 42 = .ok (.goto 6, 3) := by decide +kernel
theorem dX0_leastByPushes_45 : decode cX0_leastByPushes 45 = .ok (.iload 5, 2) := by decide +kernel
theorem dX0_leastByPushes_47 : decode cX0_leastByPushes 47 = .ok (.istore_n 3, 1) := by decide +kernel
theorem dX0_leastByPushes_48 : decode cX0_leastByPushes 48 = .ok (.iinc 4 1, 3) := by decide +kernel
theorem dX0_leastByPushes_51 : decode cX0_leastByPushes 51 = .ok (.goto (-43), 3) := by decide +kernel
theorem dX0_leastByPushes_54 : decode cX0_leastByPushes 54 = .ok (.iload_n 2, 1) := by decide +kernel
theorem dX0_leastByPushes_55 : decode cX0_leastByPushes 55 = .ok (.ireturn, 1) := by decide +kernel
def fX0_leastByPushes_L48 (K8 : Int32 → Int32 → Int32 → Mem → Option (Int32 × Mem)) (v2 : Int32) (v3 : Int32) (v4 : Int32) (μ : Mem) : Option (Int32 × Mem) :=
  K8 v2 v3 (v4 + (1 : Int32)) μ
def fX0_leastByPushes_L8 : Nat → Int32 → Int32 → Int32 → Mem → Option (Int32 × Mem)
  | 0, _, _, _, _ => none
  | n + 1, v2, v3, v4, μ =>   if (120 : Int32) ≤ v4 then
  some (v2, μ)
  else
  if v3 ≤ v2 then
  some (v2, μ)
  else
  (dv (v2 + v3) (2 : Int32)).bind fun r4 =>
  bd (fX0_growsByPushes μ r4) fun r6 μ5 =>
  if r6 = 0 then
  fX0_leastByPushes_L48 (fX0_leastByPushes_L8 n) v2 r4 v4 μ5
  else
  fX0_leastByPushes_L48 (fX0_leastByPushes_L8 n) (r4 + (1 : Int32)) v3 v4 μ5
def fX0_leastByPushes (μ : Mem) : Option (Int32 × Mem) :=
  fX0_leastByPushes_L8 fu (1 : Int32) (120 : Int32) (0 : Int32) μ
theorem kX0_leastByPushes_L48 {p : Program} {l : Launch} {e : Env} {s : State} {m : MethodId} {args : Array Value} {below : List Frame} {meth : Method} {c : Code} {D : va_G} {cI cR : ClassId} {ad : Nat → Nat} {A0 : Nat → Prop} (E : EV p s m args meth c cX0_leastByPushes 6 RX0 D cI cR ad shX NX A0) (hr : meth.sig.returnType = (some .int)) {K8 : Int32 → Int32 → Int32 → Mem → Option (Int32 × Mem)} (hK8 : ∀ (v2 : Int32) (v3 : Int32) (v4 : Int32) (μ : Mem), LL p l e (RM 4) s m args below meth c 6 D cI cR ad shX NX A0 (fun (r : Int32) μ' => KG below args s D cI cR ad shX NX A0 (some (.int r)) μ') (K8 v2 v3 v4 μ) 0 0 8 [some (.ref (ad 86)), some (.ref (ad 75)), some (.int v2), some (.int v3), some (.int v4), none] [] μ) (v2 : Int32) (v3 : Int32) (v4 : Int32) (μ : Mem) : LL p l e (RM 4) s m args below meth c 6 D cI cR ad shX NX A0 (fun (r : Int32) μ' => KG below args s D cI cR ad shX NX A0 (some (.int r)) μ') (fX0_leastByPushes_L48 K8 v2 v3 v4 μ) 0 0 48 [some (.ref (ad 86)), some (.ref (ad 75)), some (.int v2), some (.int v3), some (.int v4), none] [] μ := by
  rw [fX0_leastByPushes_L48]
  refine ll_iinc E (pc := 48) (lo' := [some (.ref (ad 86)), some (.ref (ad 75)), some (.int v2), some (.int v3), some (.int (v4 + (1 : Int32))), none]) dX0_leastByPushes_48 rfl kc_1 (Nat.le_of_ble_eq_true rfl) rfl rfl ?_
  refine ll_goto E (pc := 51) (tgt := 8) dX0_leastByPushes_51 rfl ?_
  exact ll_lo (lo' := [some (.ref (ad 86)), some (.ref (ad 75)), some (.int v2), some (.int v3), some (.int (v4 + (1 : Int32))), none]) ⟨rfl, rfl, rfl, rfl, rfl, trivial⟩ (hK8 v2 v3 (v4 + (1 : Int32)) μ)
theorem kX0_leastByPushes_L8 {p : Program} {l : Launch} {e : Env} {s : State} {m : MethodId} {args : Array Value} {below : List Frame} {meth : Method} {c : Code} {D : va_G} {cI cR : ClassId} {ad : Nat → Nat} {A0 : Nat → Prop} (E : EV p s m args meth c cX0_leastByPushes 6 RX0 D cI cR ad shX NX A0) (hr : meth.sig.returnType = (some .int)) (n : Nat) : ∀ (v2 : Int32) (v3 : Int32) (v4 : Int32) (μ : Mem), LL p l e (RM 4) s m args below meth c 6 D cI cR ad shX NX A0 (fun (r : Int32) μ' => KG below args s D cI cR ad shX NX A0 (some (.int r)) μ') (fX0_leastByPushes_L8 n v2 v3 v4 μ) 0 0 8 [some (.ref (ad 86)), some (.ref (ad 75)), some (.int v2), some (.int v3), some (.int v4), none] [] μ := by
  induction n with
  | zero =>
    intros
    exact ll_none
  | succ n ih =>
    intro v2 v3 v4 μ
    rw [fX0_leastByPushes_L8]
    refine ll_iload E (pc := 8) dX0_leastByPushes_8 rfl ?_
    refine ll_bipush E (pc := 10) dX0_leastByPushes_10 kb_120 ?_
    refine ll_icmp_ge E (pc := 12) (tgt := 54) dX0_leastByPushes_12 rfl ?_ ?_
    · refine ll_iload_n E (pc := 54) dX0_leastByPushes_54 rfl ?_
      exact ll_ireturn E (pc := 55) hr dX0_leastByPushes_55
    · refine ll_iload_n E (pc := 15) dX0_leastByPushes_15 rfl ?_
      refine ll_iload_n E (pc := 16) dX0_leastByPushes_16 rfl ?_
      refine ll_icmp_ge E (pc := 17) (tgt := 54) dX0_leastByPushes_17 rfl ?_ ?_
      · refine ll_iload_n E (pc := 54) dX0_leastByPushes_54 rfl ?_
        exact ll_ireturn E (pc := 55) hr dX0_leastByPushes_55
      · refine ll_iload_n E (pc := 20) dX0_leastByPushes_20 rfl ?_
        refine ll_iload_n E (pc := 21) dX0_leastByPushes_21 rfl ?_
        refine ll_iadd E (pc := 22) dX0_leastByPushes_22 ?_
        refine ll_iconst E (pc := 23) dX0_leastByPushes_23 kc_2 ?_
        refine ll_idiv E (pc := 24) dX0_leastByPushes_24 ?_
        intro r4
        refine ll_istore E (pc := 25) (lo' := [some (.ref (ad 86)), some (.ref (ad 75)), some (.int v2), some (.int v3), some (.int v4), some (.int r4)]) dX0_leastByPushes_25 (Nat.le_of_ble_eq_true rfl) rfl rfl ?_
        refine ll_aload_n E (pc := 27) dX0_leastByPushes_27 rfl ?_
        refine ll_aload_n E (pc := 28) dX0_leastByPushes_28 rfl ?_
        refine ll_iload E (pc := 29) dX0_leastByPushes_29 rfl ?_
        refine ll_callVi E (pc := 31) (d := 3) (ci := 0) (o9 := 86) [.ref (ad 75), .int r4] [] dX0_leastByPushes_31 cv_X0_22 (fun h => ctX0_growsByPushes h) (Nat.le_of_ble_eq_true rfl) sx_86 ci_0 rfl rfl (Nat.le_of_ble_eq_true rfl) ⟨(Nat.le_of_ble_eq_true rfl), (Nat.le_of_ble_eq_true rfl)⟩ ⟨(Nat.le_of_ble_eq_true rfl), (Nat.le_of_ble_eq_true rfl)⟩ ?_
        intro r6 μ5
        refine ll_if_eq E (pc := 34) (tgt := 45) dX0_leastByPushes_34 rfl ?_ ?_
        · refine ll_iload E (pc := 45) dX0_leastByPushes_45 rfl ?_
          refine ll_istore_n E (pc := 47) (lo' := [some (.ref (ad 86)), some (.ref (ad 75)), some (.int v2), some (.int r4), some (.int v4), some (.int r4)]) dX0_leastByPushes_47 (Nat.le_of_ble_eq_true rfl) rfl rfl ?_
          exact ll_lo (lo' := [some (.ref (ad 86)), some (.ref (ad 75)), some (.int v2), some (.int r4), some (.int v4), none]) ⟨rfl, rfl, rfl, rfl, rfl, trivial⟩ (kX0_leastByPushes_L48 E hr ih v2 r4 v4 μ5)
        · refine ll_iload E (pc := 37) dX0_leastByPushes_37 rfl ?_
          refine ll_iconst E (pc := 39) dX0_leastByPushes_39 kc_1 ?_
          refine ll_iadd E (pc := 40) dX0_leastByPushes_40 ?_
          refine ll_istore_n E (pc := 41) (lo' := [some (.ref (ad 86)), some (.ref (ad 75)), some (.int (r4 + (1 : Int32))), some (.int v3), some (.int v4), some (.int r4)]) dX0_leastByPushes_41 (Nat.le_of_ble_eq_true rfl) rfl rfl ?_
          refine ll_goto E (pc := 42) (tgt := 48) dX0_leastByPushes_42 rfl ?_
          exact ll_lo (lo' := [some (.ref (ad 86)), some (.ref (ad 75)), some (.int (r4 + (1 : Int32))), some (.int v3), some (.int v4), none]) ⟨rfl, rfl, rfl, rfl, rfl, trivial⟩ (kX0_leastByPushes_L48 E hr ih (r4 + (1 : Int32)) v3 v4 μ5)
theorem ctX0_leastByPushes {l : Launch} {D : va_G} {cI cR : ClassId} {ad : Nat → Nat} {μ : Mem} {r : Int32} {μ' : Mem} (hf : fX0_leastByPushes μ = some (r, μ')) : CT l yX0_leastByPushes cX0_leastByPushes 6 (some .int) 4 D cI cR ad shX NX [.ref (ad 86), .ref (ad 75)] μ (some (.int r)) μ' :=
  ct_of (own := RX0) (ov := fun r => some (.int r)) (by decide +kernel) rfl (Nat.le_of_ble_eq_true rfl) (fun p e s m below meth c A0 E hr => by
    refine ll_lo (lo' := [some (.ref (ad 86)), some (.ref (ad 75)), none, none, none, none]) ⟨rfl, rfl, trivial⟩ ?_
    rw [fX0_leastByPushes]
    refine ll_iconst E (pc := 0) dX0_leastByPushes_0 kc_1 ?_
    refine ll_istore_n E (pc := 1) (lo' := [some (.ref (ad 86)), some (.ref (ad 75)), some (.int (1 : Int32)), none, none, none]) dX0_leastByPushes_1 (Nat.le_of_ble_eq_true rfl) rfl rfl ?_
    refine ll_bipush E (pc := 2) dX0_leastByPushes_2 kb_120 ?_
    refine ll_istore_n E (pc := 4) (lo' := [some (.ref (ad 86)), some (.ref (ad 75)), some (.int (1 : Int32)), some (.int (120 : Int32)), none, none]) dX0_leastByPushes_4 (Nat.le_of_ble_eq_true rfl) rfl rfl ?_
    refine ll_iconst E (pc := 5) dX0_leastByPushes_5 kc_0 ?_
    refine ll_istore E (pc := 6) (lo' := [some (.ref (ad 86)), some (.ref (ad 75)), some (.int (1 : Int32)), some (.int (120 : Int32)), some (.int (0 : Int32)), none]) dX0_leastByPushes_6 (Nat.le_of_ble_eq_true rfl) rfl rfl ?_
    exact ll_lo (lo' := [some (.ref (ad 86)), some (.ref (ad 75)), some (.int (1 : Int32)), some (.int (120 : Int32)), some (.int (0 : Int32)), none]) ⟨rfl, rfl, rfl, rfl, rfl, trivial⟩ (kX0_leastByPushes_L8 E hr fu (1 : Int32) (120 : Int32) (0 : Int32) μ)) hf
theorem dX4_isReady_0 : decode cX4_isReady 0 = .ok (.iconst 0, 1) := by decide +kernel
theorem dX4_isReady_1 : decode cX4_isReady 1 = .ok (.istore 4, 2) := by decide +kernel
theorem dX4_isReady_3 : decode cX4_isReady 3 = .ok (.iload 4, 2) := by decide +kernel
theorem dX4_isReady_5 : decode cX4_isReady 5 = .ok (.iload_n 2, 1) := by decide +kernel
theorem dX4_isReady_6 : decode cX4_isReady 6 = .ok (.if_icmp .ge 52, 3) := by decide +kernel
theorem dX4_isReady_9 : decode cX4_isReady 9 = .ok (.aload_n 1, 1) := by decide +kernel
theorem dX4_isReady_10 : decode cX4_isReady 10 = .ok (.iload 4, 2) := by decide +kernel
theorem dX4_isReady_12 : decode cX4_isReady 12 = .ok (.iload_n 2, 1) := by decide +kernel
theorem dX4_isReady_13 : decode cX4_isReady 13 = .ok (.invokevirtual 53, 3) := by decide +kernel
theorem dX4_isReady_16 : decode cX4_isReady 16 = .ok (.istore 5, 2) := by decide +kernel
theorem dX4_isReady_18 : decode cX4_isReady 18 = .ok (.iload 5, 2) := by decide +kernel
theorem dX4_isReady_20 : decode cX4_isReady 20 = .ok (.bipush (-99), 2) := by decide +kernel
theorem dX4_isReady_22 : decode cX4_isReady 22 = .ok (.if_icmp .eq 30, 3) := by decide +kernel
theorem dX4_isReady_25 : decode cX4_isReady 25 = .ok (.aload_n 0, 1) := by decide +kernel
theorem dX4_isReady_26 : decode cX4_isReady 26 = .ok (.getfield 9, 3) := by decide +kernel
theorem dX4_isReady_29 : decode cX4_isReady 29 = .ok (.iload 4, 2) := by decide +kernel
theorem dX4_isReady_31 : decode cX4_isReady 31 = .ok (.iaload, 1) := by decide +kernel
theorem dX4_isReady_32 : decode cX4_isReady 32 = .ok (.iconst (-1), 1) := by decide +kernel
theorem dX4_isReady_33 : decode cX4_isReady 33 = .ok (.if_icmp .eq 17, 3) := by decide +kernel
theorem dX4_isReady_36 : decode cX4_isReady 36 = .ok (.iload_n 3, 1) := by decide +kernel
theorem dX4_isReady_37 : decode cX4_isReady 37 = .ok (.aload_n 0, 1) := by decide +kernel
theorem dX4_isReady_38 : decode cX4_isReady 38 = .ok (.getfield 9, 3) := by decide +kernel
theorem dX4_isReady_41 : decode cX4_isReady 41 = .ok (.iload 4, 2) := by decide +kernel
theorem dX4_isReady_43 : decode cX4_isReady 43 = .ok (.iaload, 1) := by decide +kernel
theorem dX4_isReady_44 : decode cX4_isReady 44 = .ok (.isub, 1) := by decide +kernel
theorem dX4_isReady_45 : decode cX4_isReady 45 = .ok (.iload 5, 2) := by decide +kernel
theorem dX4_isReady_47 : decode cX4_isReady 47 = .ok (.if_icmp .ge 5, 3) := by decide +kernel
theorem dX4_isReady_50 : decode cX4_isReady 50 = .ok (.iconst 0, 1) := by decide +kernel
theorem dX4_isReady_51 : decode cX4_isReady 51 = .ok (.ireturn, 1) := by decide +kernel
theorem dX4_isReady_52 : decode cX4_isReady 52 = .ok (.iinc 4 1, 3) := by decide +kernel
theorem dX4_isReady_55 : decode cX4_isReady 55 = .ok (.goto (-52), 3) := by decide +kernel
theorem dX4_isReady_58 : decode cX4_isReady 58 = .ok (.iconst 1, 1) := by decide +kernel
theorem dX4_isReady_59 : decode cX4_isReady 59 = .ok (.ireturn, 1) := by decide +kernel
def fX4_isReady_L52 (K3 : Int32 → Int32 → Int32 → Mem → Option (Int32 × Mem)) (v2 : Int32) (v3 : Int32) (v4 : Int32) (μ : Mem) : Option (Int32 × Mem) :=
  K3 v2 v3 (v4 + (1 : Int32)) μ
def fX4_isReady_L3 : Nat → Int32 → Int32 → Int32 → Mem → Option (Int32 × Mem)
  | 0, _, _, _, _ => none
  | n + 1, v2, v3, v4, μ =>   if v2 ≤ v4 then
  some ((1 : Int32), μ)
  else
  bd (fX2_nearOf μ v4 v2) fun r6 μ5 =>
  if r6 = (-99 : Int32) then
  fX4_isReady_L52 (fX4_isReady_L3 n) v2 v3 v4 μ5
  else
  (ld 20 (μ5 84) v4).bind fun r7 =>
  if r7 = (-1 : Int32) then
  some ((0 : Int32), μ5)
  else
  (ld 20 (μ5 84) v4).bind fun r8 =>
  if r6 ≤ (v3 - r8) then
  fX4_isReady_L52 (fX4_isReady_L3 n) v2 v3 v4 μ5
  else
  some ((0 : Int32), μ5)
def fX4_isReady (μ : Mem) (a2 : Int32) (a3 : Int32) : Option (Int32 × Mem) :=
  fX4_isReady_L3 fu a2 a3 (0 : Int32) μ
theorem kX4_isReady_L52 {p : Program} {l : Launch} {e : Env} {s : State} {m : MethodId} {args : Array Value} {below : List Frame} {meth : Method} {c : Code} {D : va_G} {cI cR : ClassId} {ad : Nat → Nat} {A0 : Nat → Prop} (E : EV p s m args meth c cX4_isReady 6 RX4 D cI cR ad shX NX A0) (hr : meth.sig.returnType = (some .boolean)) {K3 : Int32 → Int32 → Int32 → Mem → Option (Int32 × Mem)} (hK3 : ∀ (v2 : Int32) (v3 : Int32) (v4 : Int32) (μ : Mem), LL p l e (RM 1) s m args below meth c 6 D cI cR ad shX NX A0 (fun (r : Int32) μ' => KG below args s D cI cR ad shX NX A0 (some (.int r)) μ') (K3 v2 v3 v4 μ) 0 0 3 [some (.ref (ad 83)), some (.ref (ad 75)), some (.int v2), some (.int v3), some (.int v4), none] [] μ) (v2 : Int32) (v3 : Int32) (v4 : Int32) (μ : Mem) : LL p l e (RM 1) s m args below meth c 6 D cI cR ad shX NX A0 (fun (r : Int32) μ' => KG below args s D cI cR ad shX NX A0 (some (.int r)) μ') (fX4_isReady_L52 K3 v2 v3 v4 μ) 0 0 52 [some (.ref (ad 83)), some (.ref (ad 75)), some (.int v2), some (.int v3), some (.int v4), none] [] μ := by
  rw [fX4_isReady_L52]
  refine ll_iinc E (pc := 52) (lo' := [some (.ref (ad 83)), some (.ref (ad 75)), some (.int v2), some (.int v3), some (.int (v4 + (1 : Int32))), none]) dX4_isReady_52 rfl kc_1 (Nat.le_of_ble_eq_true rfl) rfl rfl ?_
  refine ll_goto E (pc := 55) (tgt := 3) dX4_isReady_55 rfl ?_
  exact ll_lo (lo' := [some (.ref (ad 83)), some (.ref (ad 75)), some (.int v2), some (.int v3), some (.int (v4 + (1 : Int32))), none]) ⟨rfl, rfl, rfl, rfl, rfl, trivial⟩ (hK3 v2 v3 (v4 + (1 : Int32)) μ)
theorem kX4_isReady_L3 {p : Program} {l : Launch} {e : Env} {s : State} {m : MethodId} {args : Array Value} {below : List Frame} {meth : Method} {c : Code} {D : va_G} {cI cR : ClassId} {ad : Nat → Nat} {A0 : Nat → Prop} (E : EV p s m args meth c cX4_isReady 6 RX4 D cI cR ad shX NX A0) (hr : meth.sig.returnType = (some .boolean)) (n : Nat) : ∀ (v2 : Int32) (v3 : Int32) (v4 : Int32) (μ : Mem), LL p l e (RM 1) s m args below meth c 6 D cI cR ad shX NX A0 (fun (r : Int32) μ' => KG below args s D cI cR ad shX NX A0 (some (.int r)) μ') (fX4_isReady_L3 n v2 v3 v4 μ) 0 0 3 [some (.ref (ad 83)), some (.ref (ad 75)), some (.int v2), some (.int v3), some (.int v4), none] [] μ := by
  induction n with
  | zero =>
    intros
    exact ll_none
  | succ n ih =>
    intro v2 v3 v4 μ
    rw [fX4_isReady_L3]
    refine ll_iload E (pc := 3) dX4_isReady_3 rfl ?_
    refine ll_iload_n E (pc := 5) dX4_isReady_5 rfl ?_
    refine ll_icmp_ge E (pc := 6) (tgt := 58) dX4_isReady_6 rfl ?_ ?_
    · refine ll_iconst E (pc := 58) dX4_isReady_58 kc_1 ?_
      exact ll_zreturn E (pc := 59) hr rfl dX4_isReady_59
    · refine ll_aload_n E (pc := 9) dX4_isReady_9 rfl ?_
      refine ll_iload E (pc := 10) dX4_isReady_10 rfl ?_
      refine ll_iload_n E (pc := 12) dX4_isReady_12 rfl ?_
      refine ll_callVi E (pc := 13) (d := 0) (ci := 2) (o9 := 75) [.int v4, .int v2] [] dX4_isReady_13 cv_X4_53 (fun h => ctX2_nearOf h) (Nat.le_of_ble_eq_true rfl) sx_75 ci_2 rfl rfl (Nat.le_of_ble_eq_true rfl) ⟨(Nat.le_of_ble_eq_true rfl), (Nat.le_of_ble_eq_true rfl)⟩ ⟨(Nat.le_of_ble_eq_true rfl), (Nat.le_of_ble_eq_true rfl)⟩ ?_
      intro r6 μ5
      refine ll_istore E (pc := 16) (lo' := [some (.ref (ad 83)), some (.ref (ad 75)), some (.int v2), some (.int v3), some (.int v4), some (.int r6)]) dX4_isReady_16 (Nat.le_of_ble_eq_true rfl) rfl rfl ?_
      refine ll_iload E (pc := 18) dX4_isReady_18 rfl ?_
      refine ll_bipush E (pc := 20) dX4_isReady_20 kb_m99 ?_
      refine ll_icmp_eq E (pc := 22) (tgt := 52) dX4_isReady_22 rfl ?_ ?_
      · exact ll_lo (lo' := [some (.ref (ad 83)), some (.ref (ad 75)), some (.int v2), some (.int v3), some (.int v4), none]) ⟨rfl, rfl, rfl, rfl, rfl, trivial⟩ (kX4_isReady_L52 E hr ih v2 v3 v4 μ5)
      · refine ll_aload_n E (pc := 25) dX4_isReady_25 rfl ?_
        refine ll_getfr E (pc := 26) (o9 := 83) (ci := 4) (k9 := 0) (q := 84) dX4_isReady_26 fl_X4_9 (Nat.le_of_ble_eq_true rfl) fx_83_0 ?_
        refine ll_iload E (pc := 29) dX4_isReady_29 rfl ?_
        refine ll_iald E (pc := 31) (a := 84) dX4_isReady_31 (px_84).1 (px_84).2 ?_
        intro r7
        refine ll_iconst E (pc := 32) dX4_isReady_32 kc_m1 ?_
        refine ll_icmp_eq E (pc := 33) (tgt := 50) dX4_isReady_33 rfl ?_ ?_
        · refine ll_iconst E (pc := 50) dX4_isReady_50 kc_0 ?_
          exact ll_zreturn E (pc := 51) hr rfl dX4_isReady_51
        · refine ll_iload_n E (pc := 36) dX4_isReady_36 rfl ?_
          refine ll_aload_n E (pc := 37) dX4_isReady_37 rfl ?_
          refine ll_getfr E (pc := 38) (o9 := 83) (ci := 4) (k9 := 0) (q := 84) dX4_isReady_38 fl_X4_9 (Nat.le_of_ble_eq_true rfl) fx_83_0 ?_
          refine ll_iload E (pc := 41) dX4_isReady_41 rfl ?_
          refine ll_iald E (pc := 43) (a := 84) dX4_isReady_43 (px_84).1 (px_84).2 ?_
          intro r8
          refine ll_isub E (pc := 44) dX4_isReady_44 ?_
          refine ll_iload E (pc := 45) dX4_isReady_45 rfl ?_
          refine ll_icmp_ge E (pc := 47) (tgt := 52) dX4_isReady_47 rfl ?_ ?_
          · exact ll_lo (lo' := [some (.ref (ad 83)), some (.ref (ad 75)), some (.int v2), some (.int v3), some (.int v4), none]) ⟨rfl, rfl, rfl, rfl, rfl, trivial⟩ (kX4_isReady_L52 E hr ih v2 v3 v4 μ5)
          · refine ll_iconst E (pc := 50) dX4_isReady_50 kc_0 ?_
            exact ll_zreturn E (pc := 51) hr rfl dX4_isReady_51
theorem ctX4_isReady {l : Launch} {D : va_G} {cI cR : ClassId} {ad : Nat → Nat} {μ : Mem} {a2 : Int32} {a3 : Int32} {r : Int32} {μ' : Mem} (hf : fX4_isReady μ a2 a3 = some (r, μ')) : CT l yX4_isReady cX4_isReady 6 (some .boolean) 1 D cI cR ad shX NX [.ref (ad 83), .ref (ad 75), .int a2, .int a3] μ (some (.int r)) μ' :=
  ct_of (own := RX4) (ov := fun r => some (.int r)) (by decide +kernel) rfl (Nat.le_of_ble_eq_true rfl) (fun p e s m below meth c A0 E hr => by
    refine ll_lo (lo' := [some (.ref (ad 83)), some (.ref (ad 75)), some (.int a2), some (.int a3), none, none]) ⟨rfl, rfl, rfl, rfl, trivial⟩ ?_
    rw [fX4_isReady]
    refine ll_iconst E (pc := 0) dX4_isReady_0 kc_0 ?_
    refine ll_istore E (pc := 1) (lo' := [some (.ref (ad 83)), some (.ref (ad 75)), some (.int a2), some (.int a3), some (.int (0 : Int32)), none]) dX4_isReady_1 (Nat.le_of_ble_eq_true rfl) rfl rfl ?_
    exact ll_lo (lo' := [some (.ref (ad 83)), some (.ref (ad 75)), some (.int a2), some (.int a3), some (.int (0 : Int32)), none]) ⟨rfl, rfl, rfl, rfl, rfl, trivial⟩ (kX4_isReady_L3 E hr fu a2 a3 (0 : Int32) μ)) hf
theorem dX4_bestFor_0 : decode cX4_bestFor 0 = .ok (.iconst (-1), 1) := by decide +kernel
theorem dX4_bestFor_1 : decode cX4_bestFor 1 = .ok (.istore 4, 2) := by decide +kernel
theorem dX4_bestFor_3 : decode cX4_bestFor 3 = .ok (.iconst 0, 1) := by decide +kernel
theorem dX4_bestFor_4 : decode cX4_bestFor 4 = .ok (.istore 5, 2) := by decide +kernel
theorem dX4_bestFor_6 : decode cX4_bestFor 6 = .ok (.iload 5, 2) := by decide +kernel
theorem dX4_bestFor_8 : decode cX4_bestFor 8 = .ok (.aload_n 1, 1) := by decide +kernel
theorem dX4_bestFor_9 : decode cX4_bestFor 9 = .ok (.getfield 18, 3) := by decide +kernel
theorem dX4_bestFor_12 : decode cX4_bestFor 12 = .ok (.if_icmp .ge 72, 3) := by decide +kernel
theorem dX4_bestFor_15 : decode cX4_bestFor 15 = .ok (.aload_n 0, 1) := by decide +kernel
theorem dX4_bestFor_16 : decode cX4_bestFor 16 = .ok (.getfield 9, 3) := by decide +kernel
theorem dX4_bestFor_19 : decode cX4_bestFor 19 = .ok (.iload 5, 2) := by decide +kernel
theorem dX4_bestFor_21 : decode cX4_bestFor 21 = .ok (.iaload, 1) := by decide +kernel
theorem dX4_bestFor_22 : decode cX4_bestFor 22 = .ok (.iconst (-1), 1) := by decide +kernel
theorem dX4_bestFor_23 : decode cX4_bestFor 23 = .ok (.if_icmp .ne 55, 3) := by decide +kernel
theorem dX4_bestFor_26 : decode cX4_bestFor 26 = .ok (.aload_n 0, 1) := by decide +kernel
theorem dX4_bestFor_27 : decode cX4_bestFor 27 = .ok (.getfield 15, 3) := by decide +kernel
theorem dX4_bestFor_30 : decode cX4_bestFor 30 = .ok (.aload_n 1, 1) := by decide +kernel
theorem dX4_bestFor_31 : decode cX4_bestFor 31 = .ok (.iload 5, 2) := by decide +kernel
theorem dX4_bestFor_33 : decode cX4_bestFor 33 = .ok (.invokevirtual 40, 3) := by decide +kernel
theorem dX4_bestFor_36 : decode cX4_bestFor 36 = .ok (.iaload, 1) := by decide +kernel
theorem dX4_bestFor_37 : decode cX4_bestFor 37 = .ok (.ifCond .le 41, 3) := by decide +kernel
theorem dX4_bestFor_40 : decode cX4_bestFor 40 = .ok (.iload 4, 2) := by decide +kernel
theorem dX4_bestFor_42 : decode cX4_bestFor 42 = .ok (.iconst (-1), 1) := by decide +kernel
theorem dX4_bestFor_43 : decode cX4_bestFor 43 = .ok (.if_icmp .eq 20, 3) := by decide +kernel
theorem dX4_bestFor_46 : decode cX4_bestFor 46 = .ok (.aload_n 2, 1) := by decide +kernel
theorem dX4_bestFor_47 : decode cX4_bestFor 47 = .ok (.getfield 44, 3) := by decide +kernel
theorem dX4_bestFor_50 : decode cX4_bestFor 50 = .ok (.iload 5, 2) := by decide +kernel
theorem dX4_bestFor_52 : decode cX4_bestFor 52 = .ok (.iaload, 1) := by decide +kernel
theorem dX4_bestFor_53 : decode cX4_bestFor 53 = .ok (.aload_n 2, 1) := by decide +kernel
theorem dX4_bestFor_54 : decode cX4_bestFor 54 = .ok (.getfield 44, 3) := by decide +kernel
theorem dX4_bestFor_57 : decode cX4_bestFor 57 = .ok (.iload 4, 2) := by decide +kernel
theorem dX4_bestFor_59 : decode cX4_bestFor 59 = .ok (.iaload, 1) := by decide +kernel
theorem dX4_bestFor_60 : decode cX4_bestFor 60 = .ok (.if_icmp .le 18, 3) := by decide +kernel
theorem dX4_bestFor_63 : decode cX4_bestFor 63 = .ok (.aload_n 0, 1) := by decide +kernel
theorem dX4_bestFor_64 : decode cX4_bestFor 64 = .ok (.aload_n 2, 1) := by decide +kernel
theorem dX4_bestFor_65 : decode cX4_bestFor 65 = .ok (.iload 5, 2) := by decide +kernel
theorem dX4_bestFor_67 : decode cX4_bestFor 67 = .ok (.iload_n 3, 1) := by decide +kernel
theorem dX4_bestFor_68 : decode cX4_bestFor 68 = .ok (.invokevirtual 49, 3) := by decide +kernel
theorem dX4_bestFor_71 : decode cX4_bestFor 71 = .ok (.ifCond .eq 7, 3) := by decide +kernel
theorem dX4_bestFor_74 : decode cX4_bestFor 74 = .ok (.iload 5, 2) := by decide +kernel
theorem dX4_bestFor_76 : decode cX4_bestFor 76 = .ok (.istore 4, 2) := by decide +kernel
theorem dX4_bestFor_78 : decode cX4_bestFor 78 = .ok (.iinc 5 1, 3) := by decide +kernel
theorem dX4_bestFor_81 : decode cX4_bestFor 81 = .ok (.goto (-75), 3) := by decide +kernel
theorem dX4_bestFor_84 : decode cX4_bestFor 84 = .ok (.iload 4, 2) := by decide +kernel
theorem dX4_bestFor_86 : decode cX4_bestFor 86 = .ok (.ireturn, 1) := by decide +kernel
def fX4_bestFor_L78 (K6 : Int32 → Int32 → Int32 → Mem → Option (Int32 × Mem)) (v3 : Int32) (v4 : Int32) (v5 : Int32) (μ : Mem) : Option (Int32 × Mem) :=
  K6 v3 v4 (v5 + (1 : Int32)) μ
def fX4_bestFor_L63 (K6 : Int32 → Int32 → Int32 → Mem → Option (Int32 × Mem)) (v3 : Int32) (v4 : Int32) (v5 : Int32) (μ : Mem) : Option (Int32 × Mem) :=
  bd (fX4_isReady μ v5 v3) fun r10 μ9 =>
  if r10 = 0 then
  fX4_bestFor_L78 K6 v3 v4 v5 μ9
  else
  fX4_bestFor_L78 K6 v3 v5 v5 μ9
def fX4_bestFor_L6 : Nat → Int32 → Int32 → Int32 → Mem → Option (Int32 × Mem)
  | 0, _, _, _, _ => none
  | n + 1, v3, v4, v5, μ =>   if (μ 1 0) ≤ v5 then
  some (v4, μ)
  else
  (ld 20 (μ 84) v5).bind fun r11 =>
  if r11 = (-1 : Int32) then
  bd (fX6_unitOf μ v5) fun r13 μ12 =>
  (ld 3 (μ12 85) r13).bind fun r14 =>
  if r14 ≤ 0 then
  fX4_bestFor_L78 (fX4_bestFor_L6 n) v3 v4 v5 μ12
  else
  if v4 = (-1 : Int32) then
  fX4_bestFor_L63 (fX4_bestFor_L6 n) v3 v4 v5 μ12
  else
  (ld 20 (μ12 81) v5).bind fun r15 =>
  (ld 20 (μ12 81) v4).bind fun r16 =>
  if r15 ≤ r16 then
  fX4_bestFor_L78 (fX4_bestFor_L6 n) v3 v4 v5 μ12
  else
  fX4_bestFor_L63 (fX4_bestFor_L6 n) v3 v4 v5 μ12
  else
  fX4_bestFor_L78 (fX4_bestFor_L6 n) v3 v4 v5 μ
def fX4_bestFor (μ : Mem) (a3 : Int32) : Option (Int32 × Mem) :=
  fX4_bestFor_L6 fu a3 (-1 : Int32) (0 : Int32) μ
theorem kX4_bestFor_L78 {p : Program} {l : Launch} {e : Env} {s : State} {m : MethodId} {args : Array Value} {below : List Frame} {meth : Method} {c : Code} {D : va_G} {cI cR : ClassId} {ad : Nat → Nat} {A0 : Nat → Prop} (E : EV p s m args meth c cX4_bestFor 6 RX4 D cI cR ad shX NX A0) (hr : meth.sig.returnType = (some .int)) {K6 : Int32 → Int32 → Int32 → Mem → Option (Int32 × Mem)} (hK6 : ∀ (v3 : Int32) (v4 : Int32) (v5 : Int32) (μ : Mem), LL p l e (RM 2) s m args below meth c 6 D cI cR ad shX NX A0 (fun (r : Int32) μ' => KG below args s D cI cR ad shX NX A0 (some (.int r)) μ') (K6 v3 v4 v5 μ) 0 0 6 [some (.ref (ad 83)), some (.ref (ad 1)), some (.ref (ad 75)), some (.int v3), some (.int v4), some (.int v5)] [] μ) (v3 : Int32) (v4 : Int32) (v5 : Int32) (μ : Mem) : LL p l e (RM 2) s m args below meth c 6 D cI cR ad shX NX A0 (fun (r : Int32) μ' => KG below args s D cI cR ad shX NX A0 (some (.int r)) μ') (fX4_bestFor_L78 K6 v3 v4 v5 μ) 0 0 78 [some (.ref (ad 83)), some (.ref (ad 1)), some (.ref (ad 75)), some (.int v3), some (.int v4), some (.int v5)] [] μ := by
  rw [fX4_bestFor_L78]
  refine ll_iinc E (pc := 78) (lo' := [some (.ref (ad 83)), some (.ref (ad 1)), some (.ref (ad 75)), some (.int v3), some (.int v4), some (.int (v5 + (1 : Int32)))]) dX4_bestFor_78 rfl kc_1 (Nat.le_of_ble_eq_true rfl) rfl rfl ?_
  refine ll_goto E (pc := 81) (tgt := 6) dX4_bestFor_81 rfl ?_
  exact ll_lo (lo' := [some (.ref (ad 83)), some (.ref (ad 1)), some (.ref (ad 75)), some (.int v3), some (.int v4), some (.int (v5 + (1 : Int32)))]) ⟨rfl, rfl, rfl, rfl, rfl, rfl, trivial⟩ (hK6 v3 v4 (v5 + (1 : Int32)) μ)
theorem kX4_bestFor_L63 {p : Program} {l : Launch} {e : Env} {s : State} {m : MethodId} {args : Array Value} {below : List Frame} {meth : Method} {c : Code} {D : va_G} {cI cR : ClassId} {ad : Nat → Nat} {A0 : Nat → Prop} (E : EV p s m args meth c cX4_bestFor 6 RX4 D cI cR ad shX NX A0) (hr : meth.sig.returnType = (some .int)) {K6 : Int32 → Int32 → Int32 → Mem → Option (Int32 × Mem)} (hK6 : ∀ (v3 : Int32) (v4 : Int32) (v5 : Int32) (μ : Mem), LL p l e (RM 2) s m args below meth c 6 D cI cR ad shX NX A0 (fun (r : Int32) μ' => KG below args s D cI cR ad shX NX A0 (some (.int r)) μ') (K6 v3 v4 v5 μ) 0 0 6 [some (.ref (ad 83)), some (.ref (ad 1)), some (.ref (ad 75)), some (.int v3), some (.int v4), some (.int v5)] [] μ) (v3 : Int32) (v4 : Int32) (v5 : Int32) (μ : Mem) : LL p l e (RM 2) s m args below meth c 6 D cI cR ad shX NX A0 (fun (r : Int32) μ' => KG below args s D cI cR ad shX NX A0 (some (.int r)) μ') (fX4_bestFor_L63 K6 v3 v4 v5 μ) 0 0 63 [some (.ref (ad 83)), some (.ref (ad 1)), some (.ref (ad 75)), some (.int v3), some (.int v4), some (.int v5)] [] μ := by
  rw [fX4_bestFor_L63]
  refine ll_aload_n E (pc := 63) dX4_bestFor_63 rfl ?_
  refine ll_aload_n E (pc := 64) dX4_bestFor_64 rfl ?_
  refine ll_iload E (pc := 65) dX4_bestFor_65 rfl ?_
  refine ll_iload_n E (pc := 67) dX4_bestFor_67 rfl ?_
  refine ll_callVi E (pc := 68) (d := 1) (ci := 4) (o9 := 83) [.ref (ad 75), .int v5, .int v3] [] dX4_bestFor_68 cv_X4_49 (fun h => ctX4_isReady h) (Nat.le_of_ble_eq_true rfl) sx_83 ci_4 rfl rfl (Nat.le_of_ble_eq_true rfl) ⟨(Nat.le_of_ble_eq_true rfl), (Nat.le_of_ble_eq_true rfl)⟩ ⟨(Nat.le_of_ble_eq_true rfl), (Nat.le_of_ble_eq_true rfl)⟩ ?_
  intro r10 μ9
  refine ll_if_eq E (pc := 71) (tgt := 78) dX4_bestFor_71 rfl ?_ ?_
  · exact ll_lo (lo' := [some (.ref (ad 83)), some (.ref (ad 1)), some (.ref (ad 75)), some (.int v3), some (.int v4), some (.int v5)]) ⟨rfl, rfl, rfl, rfl, rfl, rfl, trivial⟩ (kX4_bestFor_L78 E hr hK6 v3 v4 v5 μ9)
  · refine ll_iload E (pc := 74) dX4_bestFor_74 rfl ?_
    refine ll_istore E (pc := 76) (lo' := [some (.ref (ad 83)), some (.ref (ad 1)), some (.ref (ad 75)), some (.int v3), some (.int v5), some (.int v5)]) dX4_bestFor_76 (Nat.le_of_ble_eq_true rfl) rfl rfl ?_
    exact ll_lo (lo' := [some (.ref (ad 83)), some (.ref (ad 1)), some (.ref (ad 75)), some (.int v3), some (.int v5), some (.int v5)]) ⟨rfl, rfl, rfl, rfl, rfl, rfl, trivial⟩ (kX4_bestFor_L78 E hr hK6 v3 v5 v5 μ9)
theorem kX4_bestFor_L6 {p : Program} {l : Launch} {e : Env} {s : State} {m : MethodId} {args : Array Value} {below : List Frame} {meth : Method} {c : Code} {D : va_G} {cI cR : ClassId} {ad : Nat → Nat} {A0 : Nat → Prop} (E : EV p s m args meth c cX4_bestFor 6 RX4 D cI cR ad shX NX A0) (hr : meth.sig.returnType = (some .int)) (n : Nat) : ∀ (v3 : Int32) (v4 : Int32) (v5 : Int32) (μ : Mem), LL p l e (RM 2) s m args below meth c 6 D cI cR ad shX NX A0 (fun (r : Int32) μ' => KG below args s D cI cR ad shX NX A0 (some (.int r)) μ') (fX4_bestFor_L6 n v3 v4 v5 μ) 0 0 6 [some (.ref (ad 83)), some (.ref (ad 1)), some (.ref (ad 75)), some (.int v3), some (.int v4), some (.int v5)] [] μ := by
  induction n with
  | zero =>
    intros
    exact ll_none
  | succ n ih =>
    intro v3 v4 v5 μ
    rw [fX4_bestFor_L6]
    refine ll_iload E (pc := 6) dX4_bestFor_6 rfl ?_
    refine ll_aload_n E (pc := 8) dX4_bestFor_8 rfl ?_
    refine ll_getf E (pc := 9) (o9 := 1) (ci := 6) (k9 := 0) dX4_bestFor_9 fl_X4_18 (Nat.le_of_ble_eq_true rfl) fx_1_0 ?_
    refine ll_icmp_ge E (pc := 12) (tgt := 84) dX4_bestFor_12 rfl ?_ ?_
    · refine ll_iload E (pc := 84) dX4_bestFor_84 rfl ?_
      exact ll_ireturn E (pc := 86) hr dX4_bestFor_86
    · refine ll_aload_n E (pc := 15) dX4_bestFor_15 rfl ?_
      refine ll_getfr E (pc := 16) (o9 := 83) (ci := 4) (k9 := 0) (q := 84) dX4_bestFor_16 fl_X4_9 (Nat.le_of_ble_eq_true rfl) fx_83_0 ?_
      refine ll_iload E (pc := 19) dX4_bestFor_19 rfl ?_
      refine ll_iald E (pc := 21) (a := 84) dX4_bestFor_21 (px_84).1 (px_84).2 ?_
      intro r11
      refine ll_iconst E (pc := 22) dX4_bestFor_22 kc_m1 ?_
      refine ll_icmp_ne E (pc := 23) (tgt := 78) dX4_bestFor_23 rfl ?_ ?_
      · exact ll_lo (lo' := [some (.ref (ad 83)), some (.ref (ad 1)), some (.ref (ad 75)), some (.int v3), some (.int v4), some (.int v5)]) ⟨rfl, rfl, rfl, rfl, rfl, rfl, trivial⟩ (kX4_bestFor_L78 E hr ih v3 v4 v5 μ)
      · refine ll_aload_n E (pc := 26) dX4_bestFor_26 rfl ?_
        refine ll_getfr E (pc := 27) (o9 := 83) (ci := 4) (k9 := 1) (q := 85) dX4_bestFor_27 fl_X4_15 (Nat.le_of_ble_eq_true rfl) fx_83_1 ?_
        refine ll_aload_n E (pc := 30) dX4_bestFor_30 rfl ?_
        refine ll_iload E (pc := 31) dX4_bestFor_31 rfl ?_
        refine ll_callVi E (pc := 33) (d := 1) (ci := 6) (o9 := 1) [.int v5] [.ref (ad 85)] dX4_bestFor_33 cv_X4_40 (fun h => ctX6_unitOf h) (Nat.le_of_ble_eq_true rfl) sx_1 ci_6 rfl rfl (Nat.le_of_ble_eq_true rfl) ⟨(Nat.le_of_ble_eq_true rfl), (Nat.le_of_ble_eq_true rfl)⟩ ⟨(Nat.le_of_ble_eq_true rfl), (Nat.le_of_ble_eq_true rfl)⟩ ?_
        intro r13 μ12
        refine ll_iald E (pc := 36) (a := 85) dX4_bestFor_36 (px_85).1 (px_85).2 ?_
        intro r14
        refine ll_if_le E (pc := 37) (tgt := 78) dX4_bestFor_37 rfl ?_ ?_
        · exact ll_lo (lo' := [some (.ref (ad 83)), some (.ref (ad 1)), some (.ref (ad 75)), some (.int v3), some (.int v4), some (.int v5)]) ⟨rfl, rfl, rfl, rfl, rfl, rfl, trivial⟩ (kX4_bestFor_L78 E hr ih v3 v4 v5 μ12)
        · refine ll_iload E (pc := 40) dX4_bestFor_40 rfl ?_
          refine ll_iconst E (pc := 42) dX4_bestFor_42 kc_m1 ?_
          refine ll_icmp_eq E (pc := 43) (tgt := 63) dX4_bestFor_43 rfl ?_ ?_
          · exact ll_lo (lo' := [some (.ref (ad 83)), some (.ref (ad 1)), some (.ref (ad 75)), some (.int v3), some (.int v4), some (.int v5)]) ⟨rfl, rfl, rfl, rfl, rfl, rfl, trivial⟩ (kX4_bestFor_L63 E hr ih v3 v4 v5 μ12)
          · refine ll_aload_n E (pc := 46) dX4_bestFor_46 rfl ?_
            refine ll_getfr E (pc := 47) (o9 := 75) (ci := 2) (k9 := 6) (q := 81) dX4_bestFor_47 fl_X4_44 (Nat.le_of_ble_eq_true rfl) fx_75_6 ?_
            refine ll_iload E (pc := 50) dX4_bestFor_50 rfl ?_
            refine ll_iald E (pc := 52) (a := 81) dX4_bestFor_52 (px_81).1 (px_81).2 ?_
            intro r15
            refine ll_aload_n E (pc := 53) dX4_bestFor_53 rfl ?_
            refine ll_getfr E (pc := 54) (o9 := 75) (ci := 2) (k9 := 6) (q := 81) dX4_bestFor_54 fl_X4_44 (Nat.le_of_ble_eq_true rfl) fx_75_6 ?_
            refine ll_iload E (pc := 57) dX4_bestFor_57 rfl ?_
            refine ll_iald E (pc := 59) (a := 81) dX4_bestFor_59 (px_81).1 (px_81).2 ?_
            intro r16
            refine ll_icmp_le E (pc := 60) (tgt := 78) dX4_bestFor_60 rfl ?_ ?_
            · exact ll_lo (lo' := [some (.ref (ad 83)), some (.ref (ad 1)), some (.ref (ad 75)), some (.int v3), some (.int v4), some (.int v5)]) ⟨rfl, rfl, rfl, rfl, rfl, rfl, trivial⟩ (kX4_bestFor_L78 E hr ih v3 v4 v5 μ12)
            · exact ll_lo (lo' := [some (.ref (ad 83)), some (.ref (ad 1)), some (.ref (ad 75)), some (.int v3), some (.int v4), some (.int v5)]) ⟨rfl, rfl, rfl, rfl, rfl, rfl, trivial⟩ (kX4_bestFor_L63 E hr ih v3 v4 v5 μ12)
theorem ctX4_bestFor {l : Launch} {D : va_G} {cI cR : ClassId} {ad : Nat → Nat} {μ : Mem} {a3 : Int32} {r : Int32} {μ' : Mem} (hf : fX4_bestFor μ a3 = some (r, μ')) : CT l yX4_bestFor cX4_bestFor 6 (some .int) 2 D cI cR ad shX NX [.ref (ad 83), .ref (ad 1), .ref (ad 75), .int a3] μ (some (.int r)) μ' :=
  ct_of (own := RX4) (ov := fun r => some (.int r)) (by decide +kernel) rfl (Nat.le_of_ble_eq_true rfl) (fun p e s m below meth c A0 E hr => by
    refine ll_lo (lo' := [some (.ref (ad 83)), some (.ref (ad 1)), some (.ref (ad 75)), some (.int a3), none, none]) ⟨rfl, rfl, rfl, rfl, trivial⟩ ?_
    rw [fX4_bestFor]
    refine ll_iconst E (pc := 0) dX4_bestFor_0 kc_m1 ?_
    refine ll_istore E (pc := 1) (lo' := [some (.ref (ad 83)), some (.ref (ad 1)), some (.ref (ad 75)), some (.int a3), some (.int (-1 : Int32)), none]) dX4_bestFor_1 (Nat.le_of_ble_eq_true rfl) rfl rfl ?_
    refine ll_iconst E (pc := 3) dX4_bestFor_3 kc_0 ?_
    refine ll_istore E (pc := 4) (lo' := [some (.ref (ad 83)), some (.ref (ad 1)), some (.ref (ad 75)), some (.int a3), some (.int (-1 : Int32)), some (.int (0 : Int32))]) dX4_bestFor_4 (Nat.le_of_ble_eq_true rfl) rfl rfl ?_
    exact ll_lo (lo' := [some (.ref (ad 83)), some (.ref (ad 1)), some (.ref (ad 75)), some (.int a3), some (.int (-1 : Int32)), some (.int (0 : Int32))]) ⟨rfl, rfl, rfl, rfl, rfl, rfl, trivial⟩ (kX4_bestFor_L6 E hr fu a3 (-1 : Int32) (0 : Int32) μ)) hf
theorem dX4_fillBundle_0 : decode cX4_fillBundle 0 = .ok (.aload_n 1, 1) := by decide +kernel
theorem dX4_fillBundle_1 : decode cX4_fillBundle 1 = .ok (.getfield 28, 3) := by decide +kernel
theorem dX4_fillBundle_4 : decode cX4_fillBundle 4 = .ok (.iconst 0, 1) := by decide +kernel
theorem dX4_fillBundle_5 : decode cX4_fillBundle 5 = .ok (.aload_n 0, 1) := by decide +kernel
theorem dX4_fillBundle_6 : decode cX4_fillBundle 6 = .ok (.getfield 15, 3) := by decide +kernel
theorem dX4_fillBundle_9 : decode cX4_fillBundle 9 = .ok (.iconst 0, 1) := by decide +kernel
theorem dX4_fillBundle_10 : decode cX4_fillBundle 10 = .ok (.iconst 3, 1) := by decide +kernel
theorem dX4_fillBundle_11 : decode cX4_fillBundle 11 = .ok (.invokestatic 31, 3) := by decide +kernel
theorem dX4_fillBundle_14 : decode cX4_fillBundle 14 = .ok (.iconst 0, 1) := by decide +kernel
theorem dX4_fillBundle_15 : decode cX4_fillBundle 15 = .ok (.istore 4, 2) := by decide +kernel
theorem dX4_fillBundle_17 : decode cX4_fillBundle 17 = .ok (.iconst 0, 1) := by decide +kernel
theorem dX4_fillBundle_18 : decode cX4_fillBundle 18 = .ok (.istore 5, 2) := by decide +kernel
theorem dX4_fillBundle_20 : decode cX4_fillBundle 20 = .ok (.iload 5, 2) := by decide +kernel
theorem dX4_fillBundle_22 : decode cX4_fillBundle 22 = .ok (.aload_n 1, 1) := by decide +kernel
theorem dX4_fillBundle_23 : decode cX4_fillBundle 23 = .ok (.getfield 18, 3) := by decide +kernel
theorem dX4_fillBundle_26 : decode cX4_fillBundle 26 = .ok (.if_icmp .ge 53, 3) := by decide +kernel
theorem dX4_fillBundle_29 : decode cX4_fillBundle 29 = .ok (.aload_n 0, 1) := by decide +kernel
theorem dX4_fillBundle_30 : decode cX4_fillBundle 30 = .ok (.aload_n 1, 1) := by decide +kernel
theorem dX4_fillBundle_31 : decode cX4_fillBundle 31 = .ok (.aload_n 2, 1) := by decide +kernel
theorem dX4_fillBundle_32 : decode cX4_fillBundle 32 = .ok (.iload_n 3, 1) := by decide +kernel
theorem dX4_fillBundle_33 : decode cX4_fillBundle 33 = .ok (.invokevirtual 37, 3) := by decide +kernel
theorem dX4_fillBundle_36 : decode cX4_fillBundle 36 = .ok (.istore 6, 2) := by decide +kernel
theorem dX4_fillBundle_38 : decode cX4_fillBundle 38 = .ok (.iload 6, 2) := by decide +kernel
theorem dX4_fillBundle_40 : decode cX4_fillBundle 40 = .ok (.iconst (-1), 1) := by decide +kernel
theorem dX4_fillBundle_41 : decode cX4_fillBundle 41 = .ok (.if_icmp .ne 6, 3) := by decide +kernel
theorem dX4_fillBundle_44 : decode cX4_fillBundle 44 = .ok (.goto 35, 3) := by decide +kernel
theorem dX4_fillBundle_47 : decode cX4_fillBundle 47 = .ok (.aload_n 0, 1) := by decide +kernel
theorem dX4_fillBundle_48 : decode cX4_fillBundle 48 = .ok (.getfield 9, 3) := by decide +kernel
theorem dX4_fillBundle_51 : decode cX4_fillBundle 51 = .ok (.iload 6, 2) := by decide +kernel
theorem dX4_fillBundle_53 : decode cX4_fillBundle 53 = .ok (.iload_n 3, 1) := by decide +kernel
theorem dX4_fillBundle_54 : decode cX4_fillBundle 54 = .ok (.iastore, 1) := by decide +kernel
theorem dX4_fillBundle_55 : decode cX4_fillBundle 55 = .ok (.aload_n 0, 1) := by decide +kernel
theorem dX4_fillBundle_56 : decode cX4_fillBundle 56 = .ok (.getfield 15, 3) := by decide +kernel
theorem dX4_fillBundle_59 : decode cX4_fillBundle 59 = .ok (.aload_n 1, 1) := by decide +kernel
theorem dX4_fillBundle_60 : decode cX4_fillBundle 60 = .ok (.iload 6, 2) := by decide +kernel
theorem dX4_fillBundle_62 : decode cX4_fillBundle 62 = .ok (.invokevirtual 40, 3) := by decide +kernel
theorem dX4_fillBundle_65 : decode cX4_fillBundle 65 = .ok (.dup2, 1) := by decide +kernel
theorem dX4_fillBundle_66 : decode cX4_fillBundle 66 = .ok (.iaload, 1) := by decide +kernel
theorem dX4_fillBundle_67 : decode cX4_fillBundle 67 = .ok (.iconst 1, 1) := by decide +kernel
theorem dX4_fillBundle_68 : decode cX4_fillBundle 68 = .ok (.isub, 1) := by decide +kernel
theorem dX4_fillBundle_69 : decode cX4_fillBundle 69 = .ok (.iastore, 1) := by decide +kernel
theorem dX4_fillBundle_70 : decode cX4_fillBundle 70 = .ok (.iinc 4 1, 3) := by decide +kernel
theorem dX4_fillBundle_73 : decode cX4_fillBundle 73 = .ok (.iinc 5 1, 3) := by decide +kernel
theorem dX4_fillBundle_76 : decode cX4_fillBundle 76 = .ok (.goto (-56), 3) := by decide +kernel
theorem dX4_fillBundle_79 : decode cX4_fillBundle 79 = .ok (.iload 4, 2) := by decide +kernel
theorem dX4_fillBundle_81 : decode cX4_fillBundle 81 = .ok (.ireturn, 1) := by decide +kernel
def fX4_fillBundle_L20 : Nat → Int32 → Int32 → Int32 → Mem → Option (Int32 × Mem)
  | 0, _, _, _, _ => none
  | n + 1, v3, v4, v5, μ =>   if (μ 1 0) ≤ v5 then
  some (v4, μ)
  else
  bd (fX4_bestFor μ v3) fun r10 μ9 =>
  if r10 = (-1 : Int32) then
  some (v4, μ9)
  else
  (ast 20 μ9 84 r10 v3).bind fun μ11 =>
  bd (fX6_unitOf μ11 r10) fun r13 μ12 =>
  (ld 3 (μ12 85) r13).bind fun r14 =>
  (ast 3 μ12 85 r13 (r14 - (1 : Int32))).bind fun μ15 =>
  fX4_fillBundle_L20 n v3 (v4 + (1 : Int32)) (v5 + (1 : Int32)) μ15
def fX4_fillBundle (μ : Mem) (a3 : Int32) : Option (Int32 × Mem) :=
  (acp 3 3 μ 9 (0 : Int32) 85 (0 : Int32) (3 : Int32)).bind fun μ16 =>
  fX4_fillBundle_L20 fu a3 (0 : Int32) (0 : Int32) μ16
theorem kX4_fillBundle_L20 {p : Program} {l : Launch} {e : Env} {s : State} {m : MethodId} {args : Array Value} {below : List Frame} {meth : Method} {c : Code} {D : va_G} {cI cR : ClassId} {ad : Nat → Nat} {A0 : Nat → Prop} (E : EV p s m args meth c cX4_fillBundle 7 RX4 D cI cR ad shX NX A0) (hr : meth.sig.returnType = (some .int)) (n : Nat) : ∀ (v3 : Int32) (v4 : Int32) (v5 : Int32) (μ : Mem), LL p l e (RM 3) s m args below meth c 7 D cI cR ad shX NX A0 (fun (r : Int32) μ' => KG below args s D cI cR ad shX NX A0 (some (.int r)) μ') (fX4_fillBundle_L20 n v3 v4 v5 μ) 0 0 20 [some (.ref (ad 83)), some (.ref (ad 1)), some (.ref (ad 75)), some (.int v3), some (.int v4), some (.int v5), none] [] μ := by
  induction n with
  | zero =>
    intros
    exact ll_none
  | succ n ih =>
    intro v3 v4 v5 μ
    rw [fX4_fillBundle_L20]
    refine ll_iload E (pc := 20) dX4_fillBundle_20 rfl ?_
    refine ll_aload_n E (pc := 22) dX4_fillBundle_22 rfl ?_
    refine ll_getf E (pc := 23) (o9 := 1) (ci := 6) (k9 := 0) dX4_fillBundle_23 fl_X4_18 (Nat.le_of_ble_eq_true rfl) fx_1_0 ?_
    refine ll_icmp_ge E (pc := 26) (tgt := 79) dX4_fillBundle_26 rfl ?_ ?_
    · refine ll_iload E (pc := 79) dX4_fillBundle_79 rfl ?_
      exact ll_ireturn E (pc := 81) hr dX4_fillBundle_81
    · refine ll_aload_n E (pc := 29) dX4_fillBundle_29 rfl ?_
      refine ll_aload_n E (pc := 30) dX4_fillBundle_30 rfl ?_
      refine ll_aload_n E (pc := 31) dX4_fillBundle_31 rfl ?_
      refine ll_iload_n E (pc := 32) dX4_fillBundle_32 rfl ?_
      refine ll_callVi E (pc := 33) (d := 2) (ci := 4) (o9 := 83) [.ref (ad 1), .ref (ad 75), .int v3] [] dX4_fillBundle_33 cv_X4_37 (fun h => ctX4_bestFor h) (Nat.le_of_ble_eq_true rfl) sx_83 ci_4 rfl rfl (Nat.le_of_ble_eq_true rfl) ⟨(Nat.le_of_ble_eq_true rfl), (Nat.le_of_ble_eq_true rfl)⟩ ⟨(Nat.le_of_ble_eq_true rfl), (Nat.le_of_ble_eq_true rfl)⟩ ?_
      intro r10 μ9
      refine ll_istore E (pc := 36) (lo' := [some (.ref (ad 83)), some (.ref (ad 1)), some (.ref (ad 75)), some (.int v3), some (.int v4), some (.int v5), some (.int r10)]) dX4_fillBundle_36 (Nat.le_of_ble_eq_true rfl) rfl rfl ?_
      refine ll_iload E (pc := 38) dX4_fillBundle_38 rfl ?_
      refine ll_iconst E (pc := 40) dX4_fillBundle_40 kc_m1 ?_
      refine ll_icmp_ne E (pc := 41) (tgt := 47) dX4_fillBundle_41 rfl ?_ ?_
      · refine ll_aload_n E (pc := 47) dX4_fillBundle_47 rfl ?_
        refine ll_getfr E (pc := 48) (o9 := 83) (ci := 4) (k9 := 0) (q := 84) dX4_fillBundle_48 fl_X4_9 (Nat.le_of_ble_eq_true rfl) fx_83_0 ?_
        refine ll_iload E (pc := 51) dX4_fillBundle_51 rfl ?_
        refine ll_iload_n E (pc := 53) dX4_fillBundle_53 rfl ?_
        refine ll_iast E (pc := 54) (a := 84) dX4_fillBundle_54 (px_84).1 (px_84).2 ?_
        intro μ11
        refine ll_aload_n E (pc := 55) dX4_fillBundle_55 rfl ?_
        refine ll_getfr E (pc := 56) (o9 := 83) (ci := 4) (k9 := 1) (q := 85) dX4_fillBundle_56 fl_X4_15 (Nat.le_of_ble_eq_true rfl) fx_83_1 ?_
        refine ll_aload_n E (pc := 59) dX4_fillBundle_59 rfl ?_
        refine ll_iload E (pc := 60) dX4_fillBundle_60 rfl ?_
        refine ll_callVi E (pc := 62) (d := 1) (ci := 6) (o9 := 1) [.int r10] [.ref (ad 85)] dX4_fillBundle_62 cv_X4_40 (fun h => ctX6_unitOf h) (Nat.le_of_ble_eq_true rfl) sx_1 ci_6 rfl rfl (Nat.le_of_ble_eq_true rfl) ⟨(Nat.le_of_ble_eq_true rfl), (Nat.le_of_ble_eq_true rfl)⟩ ⟨(Nat.le_of_ble_eq_true rfl), (Nat.le_of_ble_eq_true rfl)⟩ ?_
        intro r13 μ12
        refine ll_dup2 E (pc := 65) dX4_fillBundle_65 rfl rfl ?_
        refine ll_iald E (pc := 66) (a := 85) dX4_fillBundle_66 (px_85).1 (px_85).2 ?_
        intro r14
        refine ll_iconst E (pc := 67) dX4_fillBundle_67 kc_1 ?_
        refine ll_isub E (pc := 68) dX4_fillBundle_68 ?_
        refine ll_iast E (pc := 69) (a := 85) dX4_fillBundle_69 (px_85).1 (px_85).2 ?_
        intro μ15
        refine ll_iinc E (pc := 70) (lo' := [some (.ref (ad 83)), some (.ref (ad 1)), some (.ref (ad 75)), some (.int v3), some (.int (v4 + (1 : Int32))), some (.int v5), some (.int r10)]) dX4_fillBundle_70 rfl kc_1 (Nat.le_of_ble_eq_true rfl) rfl rfl ?_
        refine ll_iinc E (pc := 73) (lo' := [some (.ref (ad 83)), some (.ref (ad 1)), some (.ref (ad 75)), some (.int v3), some (.int (v4 + (1 : Int32))), some (.int (v5 + (1 : Int32))), some (.int r10)]) dX4_fillBundle_73 rfl kc_1 (Nat.le_of_ble_eq_true rfl) rfl rfl ?_
        refine ll_goto E (pc := 76) (tgt := 20) dX4_fillBundle_76 rfl ?_
        exact ll_lo (lo' := [some (.ref (ad 83)), some (.ref (ad 1)), some (.ref (ad 75)), some (.int v3), some (.int (v4 + (1 : Int32))), some (.int (v5 + (1 : Int32))), none]) ⟨rfl, rfl, rfl, rfl, rfl, rfl, trivial⟩ (ih v3 (v4 + (1 : Int32)) (v5 + (1 : Int32)) μ15)
      · refine ll_goto E (pc := 44) (tgt := 79) dX4_fillBundle_44 rfl ?_
        refine ll_iload E (pc := 79) dX4_fillBundle_79 rfl ?_
        exact ll_ireturn E (pc := 81) hr dX4_fillBundle_81
theorem ctX4_fillBundle {l : Launch} {D : va_G} {cI cR : ClassId} {ad : Nat → Nat} {μ : Mem} {a3 : Int32} {r : Int32} {μ' : Mem} (hf : fX4_fillBundle μ a3 = some (r, μ')) : CT l yX4_fillBundle cX4_fillBundle 7 (some .int) 3 D cI cR ad shX NX [.ref (ad 83), .ref (ad 1), .ref (ad 75), .int a3] μ (some (.int r)) μ' :=
  ct_of (own := RX4) (ov := fun r => some (.int r)) (by decide +kernel) rfl (Nat.le_of_ble_eq_true rfl) (fun p e s m below meth c A0 E hr => by
    refine ll_lo (lo' := [some (.ref (ad 83)), some (.ref (ad 1)), some (.ref (ad 75)), some (.int a3), none, none, none]) ⟨rfl, rfl, rfl, rfl, trivial⟩ ?_
    rw [fX4_fillBundle]
    refine ll_aload_n E (pc := 0) dX4_fillBundle_0 rfl ?_
    refine ll_getfr E (pc := 1) (o9 := 1) (ci := 6) (k9 := 8) (q := 9) dX4_fillBundle_1 fl_X4_28 (Nat.le_of_ble_eq_true rfl) fx_1_8 ?_
    refine ll_iconst E (pc := 4) dX4_fillBundle_4 kc_0 ?_
    refine ll_aload_n E (pc := 5) dX4_fillBundle_5 rfl ?_
    refine ll_getfr E (pc := 6) (o9 := 83) (ci := 4) (k9 := 1) (q := 85) dX4_fillBundle_6 fl_X4_15 (Nat.le_of_ble_eq_true rfl) fx_83_1 ?_
    refine ll_iconst E (pc := 9) dX4_fillBundle_9 kc_0 ?_
    refine ll_iconst E (pc := 10) dX4_fillBundle_10 kc_3 ?_
    refine ll_acopy E (pc := 11) (a0 := 9) (a1 := 85) dX4_fillBundle_11 mw_X4_31 mw_ac1 mw_ac2 mw_sys (px_9).1 (px_85).1 (px_9).2 (px_85).2 (Nat.le_of_ble_eq_true rfl) ⟨(Nat.le_of_ble_eq_true rfl), (Nat.le_of_ble_eq_true rfl)⟩ ?_
    intro μ16
    refine ll_iconst E (pc := 14) dX4_fillBundle_14 kc_0 ?_
    refine ll_istore E (pc := 15) (lo' := [some (.ref (ad 83)), some (.ref (ad 1)), some (.ref (ad 75)), some (.int a3), some (.int (0 : Int32)), none, none]) dX4_fillBundle_15 (Nat.le_of_ble_eq_true rfl) rfl rfl ?_
    refine ll_iconst E (pc := 17) dX4_fillBundle_17 kc_0 ?_
    refine ll_istore E (pc := 18) (lo' := [some (.ref (ad 83)), some (.ref (ad 1)), some (.ref (ad 75)), some (.int a3), some (.int (0 : Int32)), some (.int (0 : Int32)), none]) dX4_fillBundle_18 (Nat.le_of_ble_eq_true rfl) rfl rfl ?_
    exact ll_lo (lo' := [some (.ref (ad 83)), some (.ref (ad 1)), some (.ref (ad 75)), some (.int a3), some (.int (0 : Int32)), some (.int (0 : Int32)), none]) ⟨rfl, rfl, rfl, rfl, rfl, rfl, trivial⟩ (kX4_fillBundle_L20 E hr fu a3 (0 : Int32) (0 : Int32) μ16)) hf
theorem dX4_makePlan_0 : decode cX4_makePlan 0 = .ok (.iconst 0, 1) := by decide +kernel
theorem dX4_makePlan_1 : decode cX4_makePlan 1 = .ok (.istore_n 3, 1) := by decide +kernel
theorem dX4_makePlan_2 : decode cX4_makePlan 2 = .ok (.iload_n 3, 1) := by decide +kernel
theorem dX4_makePlan_3 : decode cX4_makePlan 3 = .ok (.aload_n 1, 1) := by decide +kernel
theorem dX4_makePlan_4 : decode cX4_makePlan 4 = .ok (.getfield 18, 3) := by decide +kernel
theorem dX4_makePlan_7 : decode cX4_makePlan 7 = .ok (.if_icmp .ge 16, 3) := by decide +kernel
theorem dX4_makePlan_10 : decode cX4_makePlan 10 = .ok (.aload_n 0, 1) := by decide +kernel
theorem dX4_makePlan_11 : decode cX4_makePlan 11 = .ok (.getfield 9, 3) := by decide +kernel
theorem dX4_makePlan_14 : decode cX4_makePlan 14 = .ok (.iload_n 3, 1) := by decide +kernel
theorem dX4_makePlan_15 : decode cX4_makePlan 15 = .ok (.iconst (-1), 1) := by decide +kernel
theorem dX4_makePlan_16 : decode cX4_makePlan 16 = .ok (.iastore, 1) := by decide +kernel
theorem dX4_makePlan_17 : decode cX4_makePlan 17 = .ok (.iinc 3 1, 3) := by decide +kernel
theorem dX4_makePlan_20 : decode cX4_makePlan 20 = .ok (.goto (-18), 3) := by decide +kernel
theorem dX4_makePlan_23 : decode cX4_makePlan 23 = .ok (.iconst 0, 1) := by decide +kernel
theorem dX4_makePlan_24 : decode cX4_makePlan 24 = .ok (.istore_n 3, 1) := by decide +kernel
theorem dX4_makePlan_25 : decode cX4_makePlan 25 = .ok (.iconst 0, 1) := by decide +kernel
theorem dX4_makePlan_26 : decode cX4_makePlan 26 = .ok (.istore 4, 2) := by decide +kernel
theorem dX4_makePlan_28 : decode cX4_makePlan 28 = .ok (.iload 4, 2) := by decide +kernel
theorem dX4_makePlan_30 : decode cX4_makePlan 30 = .ok (.sipush 200, 3) := by decide +kernel
theorem dX4_makePlan_33 : decode cX4_makePlan 33 = .ok (.if_icmp .ge 28, 3) := by decide +kernel
theorem dX4_makePlan_36 : decode cX4_makePlan 36 = .ok (.iload_n 3, 1) := by decide +kernel
theorem dX4_makePlan_37 : decode cX4_makePlan 37 = .ok (.aload_n 1, 1) := by decide +kernel
theorem dX4_makePlan_38 : decode cX4_makePlan 38 = .ok (.getfield 18, 3) := by decide +kernel
theorem dX4_makePlan_41 : decode cX4_makePlan 41 = .ok (.if_icmp .ge 20, 3) := by decide +kernel
theorem dX4_makePlan_44 : decode cX4_makePlan 44 = .ok (.iload_n 3, 1) := by decide +kernel
theorem dX4_makePlan_45 : decode cX4_makePlan 45 = .ok (.aload_n 0, 1) := by decide +kernel
theorem dX4_makePlan_46 : decode cX4_makePlan 46 = .ok (.aload_n 1, 1) := by decide +kernel
theorem dX4_makePlan_47 : decode cX4_makePlan 47 = .ok (.aload_n 2, 1) := by decide +kernel
theorem dX4_makePlan_48 : decode cX4_makePlan 48 = .ok (.iload 4, 2) := by decide +kernel
theorem dX4_makePlan_50 : decode cX4_makePlan 50 = .ok (.invokevirtual 24, 3) := by decide +kernel
theorem dX4_makePlan_53 : decode cX4_makePlan 53 = .ok (.iadd, 1) := by decide +kernel
theorem dX4_makePlan_54 : decode cX4_makePlan 54 = .ok (.istore_n 3, 1) := by decide +kernel
theorem dX4_makePlan_55 : decode cX4_makePlan 55 = .ok (.iinc 4 1, 3) := by decide +kernel
theorem dX4_makePlan_58 : decode cX4_makePlan 58 = .ok (.goto (-30), 3) := by decide +kernel
theorem dX4_makePlan_61 : decode cX4_makePlan 61 = .ok (.return_, 1) := by decide +kernel
def fX4_makePlan_L28 : Nat → Int32 → Int32 → Mem → Option (Unit × Mem)
  | 0, _, _, _ => none
  | n + 1, v3, v4, μ =>   if (200 : Int32) ≤ v4 then
  some ((), μ)
  else
  if (μ 1 0) ≤ v3 then
  some ((), μ)
  else
  bd (fX4_fillBundle μ v4) fun r5 μ4 =>
  fX4_makePlan_L28 n (v3 + r5) (v4 + (1 : Int32)) μ4
def fX4_makePlan_L2 : Nat → Int32 → Mem → Option (Unit × Mem)
  | 0, _, _ => none
  | n + 1, v3, μ =>   if (μ 1 0) ≤ v3 then
  fX4_makePlan_L28 fu (0 : Int32) (0 : Int32) μ
  else
  (ast 20 μ 84 v3 (-1 : Int32)).bind fun μ6 =>
  fX4_makePlan_L2 n (v3 + (1 : Int32)) μ6
def fX4_makePlan (μ : Mem) : Option (Unit × Mem) :=
  fX4_makePlan_L2 fu (0 : Int32) μ
theorem kX4_makePlan_L28 {p : Program} {l : Launch} {e : Env} {s : State} {m : MethodId} {args : Array Value} {below : List Frame} {meth : Method} {c : Code} {D : va_G} {cI cR : ClassId} {ad : Nat → Nat} {A0 : Nat → Prop} (E : EV p s m args meth c cX4_makePlan 5 RX4 D cI cR ad shX NX A0) (hr : meth.sig.returnType = none) (n : Nat) : ∀ (v3 : Int32) (v4 : Int32) (μ : Mem), LL p l e (RM 4) s m args below meth c 5 D cI cR ad shX NX A0 (fun (r : Unit) μ' => KG below args s D cI cR ad shX NX A0 none μ') (fX4_makePlan_L28 n v3 v4 μ) 0 0 28 [some (.ref (ad 83)), some (.ref (ad 1)), some (.ref (ad 75)), some (.int v3), some (.int v4)] [] μ := by
  induction n with
  | zero =>
    intros
    exact ll_none
  | succ n ih =>
    intro v3 v4 μ
    rw [fX4_makePlan_L28]
    refine ll_iload E (pc := 28) dX4_makePlan_28 rfl ?_
    refine ll_sipush E (pc := 30) dX4_makePlan_30 ks_200 ?_
    refine ll_icmp_ge E (pc := 33) (tgt := 61) dX4_makePlan_33 rfl ?_ ?_
    · exact ll_return E (pc := 61) hr dX4_makePlan_61
    · refine ll_iload_n E (pc := 36) dX4_makePlan_36 rfl ?_
      refine ll_aload_n E (pc := 37) dX4_makePlan_37 rfl ?_
      refine ll_getf E (pc := 38) (o9 := 1) (ci := 6) (k9 := 0) dX4_makePlan_38 fl_X4_18 (Nat.le_of_ble_eq_true rfl) fx_1_0 ?_
      refine ll_icmp_ge E (pc := 41) (tgt := 61) dX4_makePlan_41 rfl ?_ ?_
      · exact ll_return E (pc := 61) hr dX4_makePlan_61
      · refine ll_iload_n E (pc := 44) dX4_makePlan_44 rfl ?_
        refine ll_aload_n E (pc := 45) dX4_makePlan_45 rfl ?_
        refine ll_aload_n E (pc := 46) dX4_makePlan_46 rfl ?_
        refine ll_aload_n E (pc := 47) dX4_makePlan_47 rfl ?_
        refine ll_iload E (pc := 48) dX4_makePlan_48 rfl ?_
        refine ll_callVi E (pc := 50) (d := 3) (ci := 4) (o9 := 83) [.ref (ad 1), .ref (ad 75), .int v4] [.int v3] dX4_makePlan_50 cv_X4_24 (fun h => ctX4_fillBundle h) (Nat.le_of_ble_eq_true rfl) sx_83 ci_4 rfl rfl (Nat.le_of_ble_eq_true rfl) ⟨(Nat.le_of_ble_eq_true rfl), (Nat.le_of_ble_eq_true rfl)⟩ ⟨(Nat.le_of_ble_eq_true rfl), (Nat.le_of_ble_eq_true rfl)⟩ ?_
        intro r5 μ4
        refine ll_iadd E (pc := 53) dX4_makePlan_53 ?_
        refine ll_istore_n E (pc := 54) (lo' := [some (.ref (ad 83)), some (.ref (ad 1)), some (.ref (ad 75)), some (.int (v3 + r5)), some (.int v4)]) dX4_makePlan_54 (Nat.le_of_ble_eq_true rfl) rfl rfl ?_
        refine ll_iinc E (pc := 55) (lo' := [some (.ref (ad 83)), some (.ref (ad 1)), some (.ref (ad 75)), some (.int (v3 + r5)), some (.int (v4 + (1 : Int32)))]) dX4_makePlan_55 rfl kc_1 (Nat.le_of_ble_eq_true rfl) rfl rfl ?_
        refine ll_goto E (pc := 58) (tgt := 28) dX4_makePlan_58 rfl ?_
        exact ll_lo (lo' := [some (.ref (ad 83)), some (.ref (ad 1)), some (.ref (ad 75)), some (.int (v3 + r5)), some (.int (v4 + (1 : Int32)))]) ⟨rfl, rfl, rfl, rfl, rfl, trivial⟩ (ih (v3 + r5) (v4 + (1 : Int32)) μ4)
theorem kX4_makePlan_L2 {p : Program} {l : Launch} {e : Env} {s : State} {m : MethodId} {args : Array Value} {below : List Frame} {meth : Method} {c : Code} {D : va_G} {cI cR : ClassId} {ad : Nat → Nat} {A0 : Nat → Prop} (E : EV p s m args meth c cX4_makePlan 5 RX4 D cI cR ad shX NX A0) (hr : meth.sig.returnType = none) (n : Nat) : ∀ (v3 : Int32) (μ : Mem), LL p l e (RM 4) s m args below meth c 5 D cI cR ad shX NX A0 (fun (r : Unit) μ' => KG below args s D cI cR ad shX NX A0 none μ') (fX4_makePlan_L2 n v3 μ) 0 0 2 [some (.ref (ad 83)), some (.ref (ad 1)), some (.ref (ad 75)), some (.int v3), none] [] μ := by
  induction n with
  | zero =>
    intros
    exact ll_none
  | succ n ih =>
    intro v3 μ
    rw [fX4_makePlan_L2]
    refine ll_iload_n E (pc := 2) dX4_makePlan_2 rfl ?_
    refine ll_aload_n E (pc := 3) dX4_makePlan_3 rfl ?_
    refine ll_getf E (pc := 4) (o9 := 1) (ci := 6) (k9 := 0) dX4_makePlan_4 fl_X4_18 (Nat.le_of_ble_eq_true rfl) fx_1_0 ?_
    refine ll_icmp_ge E (pc := 7) (tgt := 23) dX4_makePlan_7 rfl ?_ ?_
    · refine ll_iconst E (pc := 23) dX4_makePlan_23 kc_0 ?_
      refine ll_istore_n E (pc := 24) (lo' := [some (.ref (ad 83)), some (.ref (ad 1)), some (.ref (ad 75)), some (.int (0 : Int32)), none]) dX4_makePlan_24 (Nat.le_of_ble_eq_true rfl) rfl rfl ?_
      refine ll_iconst E (pc := 25) dX4_makePlan_25 kc_0 ?_
      refine ll_istore E (pc := 26) (lo' := [some (.ref (ad 83)), some (.ref (ad 1)), some (.ref (ad 75)), some (.int (0 : Int32)), some (.int (0 : Int32))]) dX4_makePlan_26 (Nat.le_of_ble_eq_true rfl) rfl rfl ?_
      exact ll_lo (lo' := [some (.ref (ad 83)), some (.ref (ad 1)), some (.ref (ad 75)), some (.int (0 : Int32)), some (.int (0 : Int32))]) ⟨rfl, rfl, rfl, rfl, rfl, trivial⟩ (kX4_makePlan_L28 E hr fu (0 : Int32) (0 : Int32) μ)
    · refine ll_aload_n E (pc := 10) dX4_makePlan_10 rfl ?_
      refine ll_getfr E (pc := 11) (o9 := 83) (ci := 4) (k9 := 0) (q := 84) dX4_makePlan_11 fl_X4_9 (Nat.le_of_ble_eq_true rfl) fx_83_0 ?_
      refine ll_iload_n E (pc := 14) dX4_makePlan_14 rfl ?_
      refine ll_iconst E (pc := 15) dX4_makePlan_15 kc_m1 ?_
      refine ll_iast E (pc := 16) (a := 84) dX4_makePlan_16 (px_84).1 (px_84).2 ?_
      intro μ6
      refine ll_iinc E (pc := 17) (lo' := [some (.ref (ad 83)), some (.ref (ad 1)), some (.ref (ad 75)), some (.int (v3 + (1 : Int32))), none]) dX4_makePlan_17 rfl kc_1 (Nat.le_of_ble_eq_true rfl) rfl rfl ?_
      refine ll_goto E (pc := 20) (tgt := 2) dX4_makePlan_20 rfl ?_
      exact ll_lo (lo' := [some (.ref (ad 83)), some (.ref (ad 1)), some (.ref (ad 75)), some (.int (v3 + (1 : Int32))), none]) ⟨rfl, rfl, rfl, rfl, trivial⟩ (ih (v3 + (1 : Int32)) μ6)
theorem ctX4_makePlan {l : Launch} {D : va_G} {cI cR : ClassId} {ad : Nat → Nat} {μ : Mem} {r : Unit} {μ' : Mem} (hf : fX4_makePlan μ = some (r, μ')) : CT l yX4_makePlan cX4_makePlan 5 none 4 D cI cR ad shX NX [.ref (ad 83), .ref (ad 1), .ref (ad 75)] μ none μ' :=
  ct_of (own := RX4) (ov := fun _ => none) (by decide +kernel) rfl (Nat.le_of_ble_eq_true rfl) (fun p e s m below meth c A0 E hr => by
    refine ll_lo (lo' := [some (.ref (ad 83)), some (.ref (ad 1)), some (.ref (ad 75)), none, none]) ⟨rfl, rfl, rfl, trivial⟩ ?_
    rw [fX4_makePlan]
    refine ll_iconst E (pc := 0) dX4_makePlan_0 kc_0 ?_
    refine ll_istore_n E (pc := 1) (lo' := [some (.ref (ad 83)), some (.ref (ad 1)), some (.ref (ad 75)), some (.int (0 : Int32)), none]) dX4_makePlan_1 (Nat.le_of_ble_eq_true rfl) rfl rfl ?_
    exact ll_lo (lo' := [some (.ref (ad 83)), some (.ref (ad 1)), some (.ref (ad 75)), some (.int (0 : Int32)), none]) ⟨rfl, rfl, rfl, rfl, trivial⟩ (kX4_makePlan_L2 E hr fu (0 : Int32) μ)) hf
