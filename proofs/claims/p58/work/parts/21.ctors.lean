def μ0S (k : Nat) : Nat → Int32 := match k with
  | 0 => upd (fun _ => 0) 10 1
  | 8 => (upd (upd (upd (fun _ => 0) 0 (2 : Int32)) 1 (1 : Int32)) 2 (1 : Int32))
  | 9 => (upd (upd (upd (fun _ => 0) 0 (1 : Int32)) 1 (3 : Int32)) 2 (2 : Int32))
  | _ => fun _ => 0
def μ0X : Mem := fun b => match b with
  | 1 => μ0S 0
  | 9 => μ0S 8
  | 10 => μ0S 9
  | 13 => μ0S 0
  | 21 => μ0S 8
  | 22 => μ0S 9
  | 23 => μ0S 0
  | 31 => μ0S 8
  | 32 => μ0S 9
  | 33 => μ0S 0
  | 41 => μ0S 8
  | 42 => μ0S 9
  | 43 => μ0S 0
  | 51 => μ0S 8
  | 52 => μ0S 9
  | 53 => μ0S 0
  | 61 => μ0S 8
  | 62 => μ0S 9
  | 63 => μ0S 0
  | 71 => μ0S 8
  | 72 => μ0S 9
  | 12 => fun j => nI (13 + 10 * j)
  | 89 => upd (upd (fun _ => 0) 2 1) 3 1
  | _ => fun _ => 0
theorem ff_X0_9 : FLF RX0 9 0 0 := ⟨fl_X0_9, RX0, TX0, 2, tyX0 0, rfl, rfl, rfl, by decide +kernel, fun q => ⟨rfl, rfl⟩⟩
theorem ff_X0_15 : FLF RX0 15 0 1 := ⟨fl_X0_15, RX0, TX0, 2, tyX0 1, rfl, rfl, rfl, by decide +kernel, fun q => ⟨rfl, rfl⟩⟩
theorem ff_X1_11 : FLF RX1 11 1 0 := ⟨fl_X1_11, RX1, TX1, 2, tyX1 0, rfl, rfl, rfl, by decide +kernel, fun q => ⟨rfl, rfl⟩⟩
theorem ff_X2_9 : FLF RX2 9 2 1 := ⟨fl_X2_9, RX2, TX2, 8, tyX2 1, rfl, rfl, rfl, by decide +kernel, fun q => ⟨rfl, rfl⟩⟩
theorem ff_X2_15 : FLF RX2 15 2 2 := ⟨fl_X2_15, RX2, TX2, 8, tyX2 2, rfl, rfl, rfl, by decide +kernel, fun q => ⟨rfl, rfl⟩⟩
theorem ff_X2_18 : FLF RX2 18 2 3 := ⟨fl_X2_18, RX2, TX2, 8, tyX2 3, rfl, rfl, rfl, by decide +kernel, fun q => ⟨rfl, rfl⟩⟩
theorem ff_X2_21 : FLF RX2 21 2 4 := ⟨fl_X2_21, RX2, TX2, 8, tyX2 4, rfl, rfl, rfl, by decide +kernel, fun q => ⟨rfl, rfl⟩⟩
theorem ff_X2_24 : FLF RX2 24 2 5 := ⟨fl_X2_24, RX2, TX2, 8, tyX2 5, rfl, rfl, rfl, by decide +kernel, fun q => ⟨rfl, rfl⟩⟩
theorem ff_X2_27 : FLF RX2 27 2 6 := ⟨fl_X2_27, RX2, TX2, 8, tyX2 6, rfl, rfl, rfl, by decide +kernel, fun q => ⟨rfl, rfl⟩⟩
theorem ff_X2_30 : FLF RX2 30 2 7 := ⟨fl_X2_30, RX2, TX2, 8, tyX2 7, rfl, rfl, rfl, by decide +kernel, fun q => ⟨rfl, rfl⟩⟩
theorem ff_X3_9 : FLF RX3 9 3 0 := ⟨fl_X3_9, RX3, TX3, 4, tyX3 0, rfl, rfl, rfl, by decide +kernel, fun q => ⟨rfl, rfl⟩⟩
theorem ff_X3_15 : FLF RX3 15 3 1 := ⟨fl_X3_15, RX3, TX3, 4, tyX3 1, rfl, rfl, rfl, by decide +kernel, fun q => ⟨rfl, rfl⟩⟩
theorem ff_X4_9 : FLF RX4 9 4 0 := ⟨fl_X4_9, RX4, TX4, 2, tyX4 0, rfl, rfl, rfl, by decide +kernel, fun q => ⟨rfl, rfl⟩⟩
theorem ff_X4_15 : FLF RX4 15 4 1 := ⟨fl_X4_15, RX4, TX4, 2, tyX4 1, rfl, rfl, rfl, by decide +kernel, fun q => ⟨rfl, rfl⟩⟩
theorem ff_X5_9 : FLF RX5 9 5 0 := ⟨fl_X5_9, RX5, TX5, 4, tyX5 0, rfl, rfl, rfl, by decide +kernel, fun q => ⟨rfl, rfl⟩⟩
theorem ff_X5_15 : FLF RX5 15 5 1 := ⟨fl_X5_15, RX5, TX5, 4, tyX5 1, rfl, rfl, rfl, by decide +kernel, fun q => ⟨rfl, rfl⟩⟩
theorem ff_X5_18 : FLF RX5 18 5 2 := ⟨fl_X5_18, RX5, TX5, 4, tyX5 2, rfl, rfl, rfl, by decide +kernel, fun q => ⟨rfl, rfl⟩⟩
theorem ff_X5_21 : FLF RX5 21 5 3 := ⟨fl_X5_21, RX5, TX5, 4, tyX5 3, rfl, rfl, rfl, by decide +kernel, fun q => ⟨rfl, rfl⟩⟩
theorem ff_X6_9 : FLF RX6 9 6 1 := ⟨fl_X6_9, RX6, TX6, 11, tyX6 1, rfl, rfl, rfl, by decide +kernel, fun q => ⟨rfl, rfl⟩⟩
theorem ff_X6_15 : FLF RX6 15 6 2 := ⟨fl_X6_15, RX6, TX6, 11, tyX6 2, rfl, rfl, rfl, by decide +kernel, fun q => ⟨rfl, rfl⟩⟩
theorem ff_X6_18 : FLF RX6 18 6 3 := ⟨fl_X6_18, RX6, TX6, 11, tyX6 3, rfl, rfl, rfl, by decide +kernel, fun q => ⟨rfl, rfl⟩⟩
theorem ff_X6_21 : FLF RX6 21 6 4 := ⟨fl_X6_21, RX6, TX6, 11, tyX6 4, rfl, rfl, rfl, by decide +kernel, fun q => ⟨rfl, rfl⟩⟩
theorem ff_X6_24 : FLF RX6 24 6 5 := ⟨fl_X6_24, RX6, TX6, 11, tyX6 5, rfl, rfl, rfl, by decide +kernel, fun q => ⟨rfl, rfl⟩⟩
theorem ff_X6_27 : FLF RX6 27 6 6 := ⟨fl_X6_27, RX6, TX6, 11, tyX6 6, rfl, rfl, rfl, by decide +kernel, fun q => ⟨rfl, rfl⟩⟩
theorem ff_X6_30 : FLF RX6 30 6 7 := ⟨fl_X6_30, RX6, TX6, 11, tyX6 7, rfl, rfl, rfl, by decide +kernel, fun q => ⟨rfl, rfl⟩⟩
theorem ff_X6_33 : FLF RX6 33 6 8 := ⟨fl_X6_33, RX6, TX6, 11, tyX6 8, rfl, rfl, rfl, by decide +kernel, fun q => ⟨rfl, rfl⟩⟩
theorem ff_X6_36 : FLF RX6 36 6 9 := ⟨fl_X6_36, RX6, TX6, 11, tyX6 9, rfl, rfl, rfl, by decide +kernel, fun q => ⟨rfl, rfl⟩⟩
theorem ff_X7_9 : FLF RX7 9 7 0 := ⟨fl_X7_9, RX7, TX7, 2, tyX7 0, rfl, rfl, rfl, by decide +kernel, fun q => ⟨rfl, rfl⟩⟩
theorem ff_X8_12 : FLF RX8 12 8 0 := ⟨fl_X8_12, RX8, TX8, 16, tyX8 0, rfl, rfl, rfl, by decide +kernel, fun q => ⟨rfl, rfl⟩⟩
theorem ff_X8_19 : FLF RX8 19 8 1 := ⟨fl_X8_19, RX8, TX8, 16, tyX8 1, rfl, rfl, rfl, by decide +kernel, fun q => ⟨rfl, rfl⟩⟩
theorem ff_X8_23 : FLF RX8 23 8 2 := ⟨fl_X8_23, RX8, TX8, 16, tyX8 2, rfl, rfl, rfl, by decide +kernel, fun q => ⟨rfl, rfl⟩⟩
theorem ff_X8_29 : FLF RX8 29 8 4 := ⟨fl_X8_29, RX8, TX8, 16, tyX8 4, rfl, rfl, rfl, by decide +kernel, fun q => ⟨rfl, rfl⟩⟩
theorem ff_X8_36 : FLF RX8 36 8 5 := ⟨fl_X8_36, RX8, TX8, 16, tyX8 5, rfl, rfl, rfl, by decide +kernel, fun q => ⟨rfl, rfl⟩⟩
theorem ff_X8_43 : FLF RX8 43 8 7 := ⟨fl_X8_43, RX8, TX8, 16, tyX8 7, rfl, rfl, rfl, by decide +kernel, fun q => ⟨rfl, rfl⟩⟩
theorem ff_X8_50 : FLF RX8 50 8 8 := ⟨fl_X8_50, RX8, TX8, 16, tyX8 8, rfl, rfl, rfl, by decide +kernel, fun q => ⟨rfl, rfl⟩⟩
theorem ff_X8_57 : FLF RX8 57 8 9 := ⟨fl_X8_57, RX8, TX8, 16, tyX8 9, rfl, rfl, rfl, by decide +kernel, fun q => ⟨rfl, rfl⟩⟩
theorem ff_X8_64 : FLF RX8 64 8 11 := ⟨fl_X8_64, RX8, TX8, 16, tyX8 11, rfl, rfl, rfl, by decide +kernel, fun q => ⟨rfl, rfl⟩⟩
theorem ff_X8_68 : FLF RX8 68 8 12 := ⟨fl_X8_68, RX8, TX8, 16, tyX8 12, rfl, rfl, rfl, by decide +kernel, fun q => ⟨rfl, rfl⟩⟩
theorem ff_X8_72 : FLF RX8 72 8 13 := ⟨fl_X8_72, RX8, TX8, 16, tyX8 13, rfl, rfl, rfl, by decide +kernel, fun q => ⟨rfl, rfl⟩⟩
theorem ff_X8_75 : FLF RX8 75 8 14 := ⟨fl_X8_75, RX8, TX8, 16, tyX8 14, rfl, rfl, rfl, by decide +kernel, fun q => ⟨rfl, rfl⟩⟩
theorem ff_X8_78 : FLF RX8 78 8 15 := ⟨fl_X8_78, RX8, TX8, 16, tyX8 15, rfl, rfl, rfl, by decide +kernel, fun q => ⟨rfl, rfl⟩⟩
theorem df_0 : ∀ j, j < 2 → defaultValue (tyX0 j) = vp_V [.null, .null] j := by
  intro j hj
  match j, hj with
  | 0, _ => rfl
  | 1, _ => rfl
  | n + 2, h => exact absurd h (by omega)
theorem df_1 : ∀ j, j < 2 → defaultValue (tyX1 j) = vp_V [.null, .int 0] j := by
  intro j hj
  match j, hj with
  | 0, _ => rfl
  | 1, _ => rfl
  | n + 2, h => exact absurd h (by omega)
theorem df_2 : ∀ j, j < 8 → defaultValue (tyX2 j) = vp_V [.int 0, .null, .null, .null, .null, .null, .null, .null] j := by
  intro j hj
  match j, hj with
  | 0, _ => rfl
  | 1, _ => rfl
  | 2, _ => rfl
  | 3, _ => rfl
  | 4, _ => rfl
  | 5, _ => rfl
  | 6, _ => rfl
  | 7, _ => rfl
  | n + 8, h => exact absurd h (by omega)
theorem df_3 : ∀ j, j < 4 → defaultValue (tyX3 j) = vp_V [.null, .null, .int 0, .int 0] j := by
  intro j hj
  match j, hj with
  | 0, _ => rfl
  | 1, _ => rfl
  | 2, _ => rfl
  | 3, _ => rfl
  | n + 4, h => exact absurd h (by omega)
theorem df_4 : ∀ j, j < 2 → defaultValue (tyX4 j) = vp_V [.null, .null] j := by
  intro j hj
  match j, hj with
  | 0, _ => rfl
  | 1, _ => rfl
  | n + 2, h => exact absurd h (by omega)
theorem df_5 : ∀ j, j < 4 → defaultValue (tyX5 j) = vp_V [.null, .null, .null, .null] j := by
  intro j hj
  match j, hj with
  | 0, _ => rfl
  | 1, _ => rfl
  | 2, _ => rfl
  | 3, _ => rfl
  | n + 4, h => exact absurd h (by omega)
theorem df_6 : ∀ j, j < 11 → defaultValue (tyX6 j) = vp_V [.int 0, .null, .null, .null, .null, .null, .null, .null, .null, .null, .int 0] j := by
  intro j hj
  match j, hj with
  | 0, _ => rfl
  | 1, _ => rfl
  | 2, _ => rfl
  | 3, _ => rfl
  | 4, _ => rfl
  | 5, _ => rfl
  | 6, _ => rfl
  | 7, _ => rfl
  | 8, _ => rfl
  | 9, _ => rfl
  | 10, _ => rfl
  | n + 11, h => exact absurd h (by omega)
theorem df_7 : ∀ j, j < 2 → defaultValue (tyX7 j) = vp_V [.null, .int 0] j := by
  intro j hj
  match j, hj with
  | 0, _ => rfl
  | 1, _ => rfl
  | n + 2, h => exact absurd h (by omega)
theorem df_8 : ∀ j, j < 16 → defaultValue (tyX8 j) = vp_V [.null, .null, .null, .int 0, .null, .null, .int 0, .null, .null, .null, .int 0, .null, .null, .null, .null, .null] j := by
  intro j hj
  match j, hj with
  | 0, _ => rfl
  | 1, _ => rfl
  | 2, _ => rfl
  | 3, _ => rfl
  | 4, _ => rfl
  | 5, _ => rfl
  | 6, _ => rfl
  | 7, _ => rfl
  | 8, _ => rfl
  | 9, _ => rfl
  | 10, _ => rfl
  | 11, _ => rfl
  | 12, _ => rfl
  | 13, _ => rfl
  | 14, _ => rfl
  | 15, _ => rfl
  | n + 16, h => exact absurd h (by omega)
theorem w_up {w r : va_W} {k : Nat} {q : Nat × va_E} (h : w[k]? = some q) : (w ++ r)[k]? = some q := by
  rw [List.getElem?_append_left (List.getElem?_eq_some_iff.mp h).1]
  exact h
theorem w_r {w r : va_W} {b j : Nat} {q : Nat × va_E} (hb : w.length = b) (h : r[j]? = some q) : (w ++ r)[b + j]? = some q := by
  subst hb
  rw [List.getElem?_append_right (by omega)]
  simpa using h
theorem w_c {w : va_W} {x q : Nat × va_E} {k : Nat} (h : w[k]? = some q) : (x :: w)[k + 1]? = some q := by
  simpa using h
def rows0 (ad : Nat → Nat) : Nat → Option Nat := va_up (va_up (va_up (va_up (va_up (fun _ => none) 0 (some (ad 13))) 1 (some (ad 23))) 2 (some (ad 33))) 3 (some (ad 43))) 4 (some (ad 53))
theorem x8_row {D : va_G} {cI cR : ClassId} {ad : Nat → Nat} {H : Heap} (h : va_at D vwCl (ad 12, .inl (cR, 5, .inr (.inr (.inr (.inr (rows0 ad)))))) H) : va_at D vwCl (ad 12, cont cI cR ad (shX 12) (μ0X 12)) H := by
  rw [cont_r (sh := shX 12) (n := 5) rfl rfl]
  refine Eq.trans h (congrArg some ?_)
  show vp_cell cR (5, .inr (.inr (.inr (.inr (rows0 ad))))) = vp_cell cR (5, .inr (.inr (.inr (.inr _))))
  rw [vp_cell_q, vp_cell_q]
  refine arrV_ext (fun j hj => ?_)
  have : j = 0 ∨ j = 1 ∨ j = 2 ∨ j = 3 ∨ j = 4 := by omega
  rcases this with rfl | rfl | rfl | rfl | rfl <;> rfl
theorem x8_finP {D : va_G} {cI cR : ClassId} {ad : Nat → Nat} {ws : va_W} (h : ∀ k, k < 101 → k ≠ 12 → ws[k]? = some (ad k, cont cI cR ad (shX k) (μ0X k))) (h2 : ws[12]? = some (ad 12, .inl (cR, 5, .inr (.inr (.inr (.inr (rows0 ad))))))) (H : Heap) (hP : va_P D vwCl ws H) : va_P D vwCl (wo cI cR ad shX NX μ0X) H := by
  intro k q hk
  obtain ⟨h1, rfl⟩ := wo_mem hk
  by_cases h12 : k = 12
  · subst h12
    exact x8_row (hP 12 _ h2)
  · exact hP k _ (h k h1 h12)
theorem x8_finD {cI cR : ClassId} {ad : Nat → Nat} {ws : va_W} (h : ∀ k, k < 101 → k ≠ 12 → ws[k]? = some (ad k, cont cI cR ad (shX k) (μ0X k))) (h2 : ws[12]? = some (ad 12, .inl (cR, 5, .inr (.inr (.inr (.inr (rows0 ad))))))) (A : Nat → Prop) (hD : va_D A ws) : va_D A (wo cI cR ad shX NX μ0X) := by
  have key : ∀ (k : Nat) (q : Nat × va_E), (wo cI cR ad shX NX μ0X)[k]? = some q → ∃ q2, ws[k]? = some q2 ∧ q2.1 = q.1 := by
    intro k q hk
    obtain ⟨h1, rfl⟩ := wo_mem hk
    by_cases h12 : k = 12
    · subst h12
      exact ⟨_, h2, rfl⟩
    · exact ⟨_, h k h1 h12, rfl⟩
  refine ⟨fun i j p q hi hj hpq => ?_, fun k q hk => ?_⟩
  · obtain ⟨p2, h1, h2⟩ := key i p hi
    obtain ⟨q2, h3, h4⟩ := key j q hj
    exact hD.1 i j p2 q2 h1 h3 (h2.trans (hpq.trans h4.symm))
  · obtain ⟨q2, h1, h2⟩ := key k q hk
    rw [← h2]
    exact hD.2 k q2 h1
def wL0 (cI : ClassId) (a : Nat → Nat) : va_W := [((a 0), .inr (0, [.ref (a 1), .ref (a 2)])), ((a 1), .inl (cI, 400, .inl (fun _ => 0))), ((a 2), .inl (cI, 20, .inl (fun _ => 0)))]
theorem dX0_init_0 : decode cX0_init 0 = .ok (.aload_n 0, 1) := by decide +kernel
theorem dX0_init_1 : decode cX0_init 1 = .ok (.invokespecial 3, 3) := by decide +kernel
theorem dX0_init_4 : decode cX0_init 4 = .ok (.aload_n 0, 1) := by decide +kernel
theorem dX0_init_5 : decode cX0_init 5 = .ok (.sipush 400, 3) := by decide +kernel
theorem dX0_init_8 : decode cX0_init 8 = .ok (.newarray .int, 2) := by decide +kernel
theorem dX0_init_10 : decode cX0_init 10 = .ok (.putfield 9, 3) := by decide +kernel
theorem dX0_init_13 : decode cX0_init 13 = .ok (.aload_n 0, 1) := by decide +kernel
theorem dX0_init_14 : decode cX0_init 14 = .ok (.bipush 20, 2) := by decide +kernel
theorem dX0_init_16 : decode cX0_init 16 = .ok (.newarray .int, 2) := by decide +kernel
theorem dX0_init_18 : decode cX0_init 18 = .ok (.putfield 15, 3) := by decide +kernel
theorem dX0_init_21 : decode cX0_init 21 = .ok (.return_, 1) := by decide +kernel
set_option maxHeartbeats 20000000 in
set_option maxRecDepth 100000 in
theorem ctX0_init {l : Launch} {D : va_G} {cI cR : ClassId} : CI l yX0_init cX0_init 1 1 2 420 D cI cR (.inr (0, [.null, .null])) (wL0 cI) := by
  refine ci_of (own := RX0) (by decide +kernel) rfl rfl (Nat.le_of_ble_eq_true rfl) (fun h0 p e s m below meth c A0 E hr hin hA => ?_)
  refine lc_ws (ws' := [(h0, .inr (0, [.null, .null]))]) rfl ?_
  refine lc_aload_n E (pc := 0) dX0_init_0 rfl ?_
  refine lc_obj E (pc := 1) dX0_init_1 mo_X0_3 mo_1 mo_2 ⟨(Nat.le_of_ble_eq_true rfl), (Nat.le_of_ble_eq_true rfl)⟩ (Nat.le_of_ble_eq_true rfl) ?_
  refine lc_aload_n E (pc := 4) dX0_init_4 rfl ?_
  refine lc_sipush E (pc := 5) dX0_init_5 ks_400 ?_
  refine lc_newa E (pc := 8) (N' := 400) dX0_init_8 mw_ai (by decide) (by decide +kernel) (by decide) ⟨(Nat.le_of_ble_eq_true rfl), (Nat.le_of_ble_eq_true rfl)⟩ (fun q1 => ?_)
  refine lc_ws (ws' := [(h0, .inr (0, [.null, .null])), (q1, .inl (cI, 400, .inl (fun _ => 0)))]) rfl ?_
  refine lc_putF E hin (pc := 10) (k9 := 0) (ws' := [(h0, .inr (0, [.ref q1, .null])), (q1, .inl (cI, 400, .inl (fun _ => 0)))]) 0 dX0_init_10 ff_X0_9 rfl (Nat.le_of_ble_eq_true rfl) rfl ?_
  refine lc_aload_n E (pc := 13) dX0_init_13 rfl ?_
  refine lc_bipush E (pc := 14) dX0_init_14 kb_20 ?_
  refine lc_newa E (pc := 16) (N' := 20) dX0_init_16 mw_ai (by decide) (by decide +kernel) (by decide) ⟨(Nat.le_of_ble_eq_true rfl), (Nat.le_of_ble_eq_true rfl)⟩ (fun q2 => ?_)
  refine lc_ws (ws' := [(h0, .inr (0, [.ref q1, .null])), (q1, .inl (cI, 400, .inl (fun _ => 0))), (q2, .inl (cI, 20, .inl (fun _ => 0)))]) rfl ?_
  refine lc_putF E hin (pc := 18) (k9 := 1) (ws' := [(h0, .inr (0, [.ref q1, .ref q2])), (q1, .inl (cI, 400, .inl (fun _ => 0))), (q2, .inl (cI, 20, .inl (fun _ => 0)))]) 0 dX0_init_18 ff_X0_15 rfl (Nat.le_of_ble_eq_true rfl) rfl ?_
  exact lc_ret E (pc := 21) (fun k => [h0, q1, q2].getD k 0) hr hA dX0_init_21 rfl rfl ⟨rfl, rfl⟩
def wL2 (cI : ClassId) (a : Nat → Nat) : va_W := [((a 0), .inr (2, [.int 0, .ref (a 1), .ref (a 2), .ref (a 3), .ref (a 4), .ref (a 5), .ref (a 6), .ref (a 7)])), ((a 1), .inl (cI, 20, .inl (fun _ => 0))), ((a 2), .inl (cI, 20, .inl (fun _ => 0))), ((a 3), .inl (cI, 20, .inl (fun _ => 0))), ((a 4), .inl (cI, 400, .inl (fun _ => 0))), ((a 5), .inl (cI, 400, .inl (fun _ => 0))), ((a 6), .inl (cI, 20, .inl (fun _ => 0))), ((a 7), .inl (cI, 20, .inl (fun _ => 0)))]
theorem dX2_init_0 : decode cX2_init 0 = .ok (.aload_n 0, 1) := by decide +kernel
theorem dX2_init_1 : decode cX2_init 1 = .ok (.invokespecial 3, 3) := by decide +kernel
theorem dX2_init_4 : decode cX2_init 4 = .ok (.aload_n 0, 1) := by decide +kernel
theorem dX2_init_5 : decode cX2_init 5 = .ok (.bipush 20, 2) := by decide +kernel
theorem dX2_init_7 : decode cX2_init 7 = .ok (.newarray .int, 2) := by decide +kernel
theorem dX2_init_9 : decode cX2_init 9 = .ok (.putfield 9, 3) := by decide +kernel
theorem dX2_init_12 : decode cX2_init 12 = .ok (.aload_n 0, 1) := by decide +kernel
theorem dX2_init_13 : decode cX2_init 13 = .ok (.bipush 20, 2) := by decide +kernel
theorem dX2_init_15 : decode cX2_init 15 = .ok (.newarray .int, 2) := by decide +kernel
theorem dX2_init_17 : decode cX2_init 17 = .ok (.putfield 15, 3) := by decide +kernel
theorem dX2_init_20 : decode cX2_init 20 = .ok (.aload_n 0, 1) := by decide +kernel
theorem dX2_init_21 : decode cX2_init 21 = .ok (.bipush 20, 2) := by decide +kernel
theorem dX2_init_23 : decode cX2_init 23 = .ok (.newarray .int, 2) := by decide +kernel
theorem dX2_init_25 : decode cX2_init 25 = .ok (.putfield 18, 3) := by decide +kernel
theorem dX2_init_28 : decode cX2_init 28 = .ok (.aload_n 0, 1) := by decide +kernel
theorem dX2_init_29 : decode cX2_init 29 = .ok (.sipush 400, 3) := by decide +kernel
theorem dX2_init_32 : decode cX2_init 32 = .ok (.newarray .int, 2) := by decide +kernel
theorem dX2_init_34 : decode cX2_init 34 = .ok (.putfield 21, 3) := by decide +kernel
theorem dX2_init_37 : decode cX2_init 37 = .ok (.aload_n 0, 1) := by decide +kernel
theorem dX2_init_38 : decode cX2_init 38 = .ok (.sipush 400, 3) := by decide +kernel
theorem dX2_init_41 : decode cX2_init 41 = .ok (.newarray .int, 2) := by decide +kernel
theorem dX2_init_43 : decode cX2_init 43 = .ok (.putfield 24, 3) := by decide +kernel
theorem dX2_init_46 : decode cX2_init 46 = .ok (.aload_n 0, 1) := by decide +kernel
theorem dX2_init_47 : decode cX2_init 47 = .ok (.bipush 20, 2) := by decide +kernel
theorem dX2_init_49 : decode cX2_init 49 = .ok (.newarray .int, 2) := by decide +kernel
theorem dX2_init_51 : decode cX2_init 51 = .ok (.putfield 27, 3) := by decide +kernel
theorem dX2_init_54 : decode cX2_init 54 = .ok (.aload_n 0, 1) := by decide +kernel
theorem dX2_init_55 : decode cX2_init 55 = .ok (.bipush 20, 2) := by decide +kernel
theorem dX2_init_57 : decode cX2_init 57 = .ok (.newarray .int, 2) := by decide +kernel
theorem dX2_init_59 : decode cX2_init 59 = .ok (.putfield 30, 3) := by decide +kernel
theorem dX2_init_62 : decode cX2_init 62 = .ok (.return_, 1) := by decide +kernel
set_option maxHeartbeats 20000000 in
set_option maxRecDepth 100000 in
theorem ctX2_init {l : Launch} {D : va_G} {cI cR : ClassId} : CI l yX2_init cX2_init 1 1 7 900 D cI cR (.inr (2, [.int 0, .null, .null, .null, .null, .null, .null, .null])) (wL2 cI) := by
  refine ci_of (own := RX2) (by decide +kernel) rfl rfl (Nat.le_of_ble_eq_true rfl) (fun h0 p e s m below meth c A0 E hr hin hA => ?_)
  refine lc_ws (ws' := [(h0, .inr (2, [.int 0, .null, .null, .null, .null, .null, .null, .null]))]) rfl ?_
  refine lc_aload_n E (pc := 0) dX2_init_0 rfl ?_
  refine lc_obj E (pc := 1) dX2_init_1 mo_X2_3 mo_1 mo_2 ⟨(Nat.le_of_ble_eq_true rfl), (Nat.le_of_ble_eq_true rfl)⟩ (Nat.le_of_ble_eq_true rfl) ?_
  refine lc_aload_n E (pc := 4) dX2_init_4 rfl ?_
  refine lc_bipush E (pc := 5) dX2_init_5 kb_20 ?_
  refine lc_newa E (pc := 7) (N' := 20) dX2_init_7 mw_ai (by decide) (by decide +kernel) (by decide) ⟨(Nat.le_of_ble_eq_true rfl), (Nat.le_of_ble_eq_true rfl)⟩ (fun q1 => ?_)
  refine lc_ws (ws' := [(h0, .inr (2, [.int 0, .null, .null, .null, .null, .null, .null, .null])), (q1, .inl (cI, 20, .inl (fun _ => 0)))]) rfl ?_
  refine lc_putF E hin (pc := 9) (k9 := 1) (ws' := [(h0, .inr (2, [.int 0, .ref q1, .null, .null, .null, .null, .null, .null])), (q1, .inl (cI, 20, .inl (fun _ => 0)))]) 0 dX2_init_9 ff_X2_9 rfl (Nat.le_of_ble_eq_true rfl) rfl ?_
  refine lc_aload_n E (pc := 12) dX2_init_12 rfl ?_
  refine lc_bipush E (pc := 13) dX2_init_13 kb_20 ?_
  refine lc_newa E (pc := 15) (N' := 20) dX2_init_15 mw_ai (by decide) (by decide +kernel) (by decide) ⟨(Nat.le_of_ble_eq_true rfl), (Nat.le_of_ble_eq_true rfl)⟩ (fun q2 => ?_)
  refine lc_ws (ws' := [(h0, .inr (2, [.int 0, .ref q1, .null, .null, .null, .null, .null, .null])), (q1, .inl (cI, 20, .inl (fun _ => 0))), (q2, .inl (cI, 20, .inl (fun _ => 0)))]) rfl ?_
  refine lc_putF E hin (pc := 17) (k9 := 2) (ws' := [(h0, .inr (2, [.int 0, .ref q1, .ref q2, .null, .null, .null, .null, .null])), (q1, .inl (cI, 20, .inl (fun _ => 0))), (q2, .inl (cI, 20, .inl (fun _ => 0)))]) 0 dX2_init_17 ff_X2_15 rfl (Nat.le_of_ble_eq_true rfl) rfl ?_
  refine lc_aload_n E (pc := 20) dX2_init_20 rfl ?_
  refine lc_bipush E (pc := 21) dX2_init_21 kb_20 ?_
  refine lc_newa E (pc := 23) (N' := 20) dX2_init_23 mw_ai (by decide) (by decide +kernel) (by decide) ⟨(Nat.le_of_ble_eq_true rfl), (Nat.le_of_ble_eq_true rfl)⟩ (fun q3 => ?_)
  refine lc_ws (ws' := [(h0, .inr (2, [.int 0, .ref q1, .ref q2, .null, .null, .null, .null, .null])), (q1, .inl (cI, 20, .inl (fun _ => 0))), (q2, .inl (cI, 20, .inl (fun _ => 0))), (q3, .inl (cI, 20, .inl (fun _ => 0)))]) rfl ?_
  refine lc_putF E hin (pc := 25) (k9 := 3) (ws' := [(h0, .inr (2, [.int 0, .ref q1, .ref q2, .ref q3, .null, .null, .null, .null])), (q1, .inl (cI, 20, .inl (fun _ => 0))), (q2, .inl (cI, 20, .inl (fun _ => 0))), (q3, .inl (cI, 20, .inl (fun _ => 0)))]) 0 dX2_init_25 ff_X2_18 rfl (Nat.le_of_ble_eq_true rfl) rfl ?_
  refine lc_aload_n E (pc := 28) dX2_init_28 rfl ?_
  refine lc_sipush E (pc := 29) dX2_init_29 ks_400 ?_
  refine lc_newa E (pc := 32) (N' := 400) dX2_init_32 mw_ai (by decide) (by decide +kernel) (by decide) ⟨(Nat.le_of_ble_eq_true rfl), (Nat.le_of_ble_eq_true rfl)⟩ (fun q4 => ?_)
  refine lc_ws (ws' := [(h0, .inr (2, [.int 0, .ref q1, .ref q2, .ref q3, .null, .null, .null, .null])), (q1, .inl (cI, 20, .inl (fun _ => 0))), (q2, .inl (cI, 20, .inl (fun _ => 0))), (q3, .inl (cI, 20, .inl (fun _ => 0))), (q4, .inl (cI, 400, .inl (fun _ => 0)))]) rfl ?_
  refine lc_putF E hin (pc := 34) (k9 := 4) (ws' := [(h0, .inr (2, [.int 0, .ref q1, .ref q2, .ref q3, .ref q4, .null, .null, .null])), (q1, .inl (cI, 20, .inl (fun _ => 0))), (q2, .inl (cI, 20, .inl (fun _ => 0))), (q3, .inl (cI, 20, .inl (fun _ => 0))), (q4, .inl (cI, 400, .inl (fun _ => 0)))]) 0 dX2_init_34 ff_X2_21 rfl (Nat.le_of_ble_eq_true rfl) rfl ?_
  refine lc_aload_n E (pc := 37) dX2_init_37 rfl ?_
  refine lc_sipush E (pc := 38) dX2_init_38 ks_400 ?_
  refine lc_newa E (pc := 41) (N' := 400) dX2_init_41 mw_ai (by decide) (by decide +kernel) (by decide) ⟨(Nat.le_of_ble_eq_true rfl), (Nat.le_of_ble_eq_true rfl)⟩ (fun q5 => ?_)
  refine lc_ws (ws' := [(h0, .inr (2, [.int 0, .ref q1, .ref q2, .ref q3, .ref q4, .null, .null, .null])), (q1, .inl (cI, 20, .inl (fun _ => 0))), (q2, .inl (cI, 20, .inl (fun _ => 0))), (q3, .inl (cI, 20, .inl (fun _ => 0))), (q4, .inl (cI, 400, .inl (fun _ => 0))), (q5, .inl (cI, 400, .inl (fun _ => 0)))]) rfl ?_
  refine lc_putF E hin (pc := 43) (k9 := 5) (ws' := [(h0, .inr (2, [.int 0, .ref q1, .ref q2, .ref q3, .ref q4, .ref q5, .null, .null])), (q1, .inl (cI, 20, .inl (fun _ => 0))), (q2, .inl (cI, 20, .inl (fun _ => 0))), (q3, .inl (cI, 20, .inl (fun _ => 0))), (q4, .inl (cI, 400, .inl (fun _ => 0))), (q5, .inl (cI, 400, .inl (fun _ => 0)))]) 0 dX2_init_43 ff_X2_24 rfl (Nat.le_of_ble_eq_true rfl) rfl ?_
  refine lc_aload_n E (pc := 46) dX2_init_46 rfl ?_
  refine lc_bipush E (pc := 47) dX2_init_47 kb_20 ?_
  refine lc_newa E (pc := 49) (N' := 20) dX2_init_49 mw_ai (by decide) (by decide +kernel) (by decide) ⟨(Nat.le_of_ble_eq_true rfl), (Nat.le_of_ble_eq_true rfl)⟩ (fun q6 => ?_)
  refine lc_ws (ws' := [(h0, .inr (2, [.int 0, .ref q1, .ref q2, .ref q3, .ref q4, .ref q5, .null, .null])), (q1, .inl (cI, 20, .inl (fun _ => 0))), (q2, .inl (cI, 20, .inl (fun _ => 0))), (q3, .inl (cI, 20, .inl (fun _ => 0))), (q4, .inl (cI, 400, .inl (fun _ => 0))), (q5, .inl (cI, 400, .inl (fun _ => 0))), (q6, .inl (cI, 20, .inl (fun _ => 0)))]) rfl ?_
  refine lc_putF E hin (pc := 51) (k9 := 6) (ws' := [(h0, .inr (2, [.int 0, .ref q1, .ref q2, .ref q3, .ref q4, .ref q5, .ref q6, .null])), (q1, .inl (cI, 20, .inl (fun _ => 0))), (q2, .inl (cI, 20, .inl (fun _ => 0))), (q3, .inl (cI, 20, .inl (fun _ => 0))), (q4, .inl (cI, 400, .inl (fun _ => 0))), (q5, .inl (cI, 400, .inl (fun _ => 0))), (q6, .inl (cI, 20, .inl (fun _ => 0)))]) 0 dX2_init_51 ff_X2_27 rfl (Nat.le_of_ble_eq_true rfl) rfl ?_
  refine lc_aload_n E (pc := 54) dX2_init_54 rfl ?_
  refine lc_bipush E (pc := 55) dX2_init_55 kb_20 ?_
  refine lc_newa E (pc := 57) (N' := 20) dX2_init_57 mw_ai (by decide) (by decide +kernel) (by decide) ⟨(Nat.le_of_ble_eq_true rfl), (Nat.le_of_ble_eq_true rfl)⟩ (fun q7 => ?_)
  refine lc_ws (ws' := [(h0, .inr (2, [.int 0, .ref q1, .ref q2, .ref q3, .ref q4, .ref q5, .ref q6, .null])), (q1, .inl (cI, 20, .inl (fun _ => 0))), (q2, .inl (cI, 20, .inl (fun _ => 0))), (q3, .inl (cI, 20, .inl (fun _ => 0))), (q4, .inl (cI, 400, .inl (fun _ => 0))), (q5, .inl (cI, 400, .inl (fun _ => 0))), (q6, .inl (cI, 20, .inl (fun _ => 0))), (q7, .inl (cI, 20, .inl (fun _ => 0)))]) rfl ?_
  refine lc_putF E hin (pc := 59) (k9 := 7) (ws' := [(h0, .inr (2, [.int 0, .ref q1, .ref q2, .ref q3, .ref q4, .ref q5, .ref q6, .ref q7])), (q1, .inl (cI, 20, .inl (fun _ => 0))), (q2, .inl (cI, 20, .inl (fun _ => 0))), (q3, .inl (cI, 20, .inl (fun _ => 0))), (q4, .inl (cI, 400, .inl (fun _ => 0))), (q5, .inl (cI, 400, .inl (fun _ => 0))), (q6, .inl (cI, 20, .inl (fun _ => 0))), (q7, .inl (cI, 20, .inl (fun _ => 0)))]) 0 dX2_init_59 ff_X2_30 rfl (Nat.le_of_ble_eq_true rfl) rfl ?_
  exact lc_ret E (pc := 62) (fun k => [h0, q1, q2, q3, q4, q5, q6, q7].getD k 0) hr hA dX2_init_62 rfl rfl ⟨rfl, rfl⟩
def wL3 (cI : ClassId) (a : Nat → Nat) : va_W := [((a 0), .inr (3, [.ref (a 1), .ref (a 2), .int (1 : Int32), .int (1 : Int32)])), ((a 1), .inl (cI, 20, .inl (fun _ => 0))), ((a 2), .inl (cI, 1020, .inl (fun _ => 0)))]
theorem dX3_init_0 : decode cX3_init 0 = .ok (.aload_n 0, 1) := by decide +kernel
theorem dX3_init_1 : decode cX3_init 1 = .ok (.invokespecial 3, 3) := by decide +kernel
theorem dX3_init_4 : decode cX3_init 4 = .ok (.aload_n 0, 1) := by decide +kernel
theorem dX3_init_5 : decode cX3_init 5 = .ok (.bipush 20, 2) := by decide +kernel
theorem dX3_init_7 : decode cX3_init 7 = .ok (.newarray .int, 2) := by decide +kernel
theorem dX3_init_9 : decode cX3_init 9 = .ok (.putfield 9, 3) := by decide +kernel
theorem dX3_init_12 : decode cX3_init 12 = .ok (.aload_n 0, 1) := by decide +kernel
theorem dX3_init_13 : decode cX3_init 13 = .ok (.sipush 1020, 3) := by decide +kernel
theorem dX3_init_16 : decode cX3_init 16 = .ok (.newarray .int, 2) := by decide +kernel
theorem dX3_init_18 : decode cX3_init 18 = .ok (.putfield 15, 3) := by decide +kernel
theorem dX3_init_21 : decode cX3_init 21 = .ok (.aload_n 0, 1) := by decide +kernel
theorem dX3_init_22 : decode cX3_init 22 = .ok (.iconst 1, 1) := by decide +kernel
theorem dX3_init_23 : decode cX3_init 23 = .ok (.putfield 18, 3) := by decide +kernel
theorem dX3_init_26 : decode cX3_init 26 = .ok (.aload_n 0, 1) := by decide +kernel
theorem dX3_init_27 : decode cX3_init 27 = .ok (.iconst 1, 1) := by decide +kernel
theorem dX3_init_28 : decode cX3_init 28 = .ok (.putfield 22, 3) := by decide +kernel
theorem dX3_init_31 : decode cX3_init 31 = .ok (.return_, 1) := by decide +kernel
set_option maxHeartbeats 20000000 in
set_option maxRecDepth 100000 in
theorem ctX3_init {l : Launch} {D : va_G} {cI cR : ClassId} : CI l yX3_init cX3_init 1 1 2 1040 D cI cR (.inr (3, [.null, .null, .int 0, .int 0])) (wL3 cI) := by
  refine ci_of (own := RX3) (by decide +kernel) rfl rfl (Nat.le_of_ble_eq_true rfl) (fun h0 p e s m below meth c A0 E hr hin hA => ?_)
  refine lc_ws (ws' := [(h0, .inr (3, [.null, .null, .int 0, .int 0]))]) rfl ?_
  refine lc_aload_n E (pc := 0) dX3_init_0 rfl ?_
  refine lc_obj E (pc := 1) dX3_init_1 mo_X3_3 mo_1 mo_2 ⟨(Nat.le_of_ble_eq_true rfl), (Nat.le_of_ble_eq_true rfl)⟩ (Nat.le_of_ble_eq_true rfl) ?_
  refine lc_aload_n E (pc := 4) dX3_init_4 rfl ?_
  refine lc_bipush E (pc := 5) dX3_init_5 kb_20 ?_
  refine lc_newa E (pc := 7) (N' := 20) dX3_init_7 mw_ai (by decide) (by decide +kernel) (by decide) ⟨(Nat.le_of_ble_eq_true rfl), (Nat.le_of_ble_eq_true rfl)⟩ (fun q1 => ?_)
  refine lc_ws (ws' := [(h0, .inr (3, [.null, .null, .int 0, .int 0])), (q1, .inl (cI, 20, .inl (fun _ => 0)))]) rfl ?_
  refine lc_putF E hin (pc := 9) (k9 := 0) (ws' := [(h0, .inr (3, [.ref q1, .null, .int 0, .int 0])), (q1, .inl (cI, 20, .inl (fun _ => 0)))]) 0 dX3_init_9 ff_X3_9 rfl (Nat.le_of_ble_eq_true rfl) rfl ?_
  refine lc_aload_n E (pc := 12) dX3_init_12 rfl ?_
  refine lc_sipush E (pc := 13) dX3_init_13 ks_1020 ?_
  refine lc_newa E (pc := 16) (N' := 1020) dX3_init_16 mw_ai (by decide) (by decide +kernel) (by decide) ⟨(Nat.le_of_ble_eq_true rfl), (Nat.le_of_ble_eq_true rfl)⟩ (fun q2 => ?_)
  refine lc_ws (ws' := [(h0, .inr (3, [.ref q1, .null, .int 0, .int 0])), (q1, .inl (cI, 20, .inl (fun _ => 0))), (q2, .inl (cI, 1020, .inl (fun _ => 0)))]) rfl ?_
  refine lc_putF E hin (pc := 18) (k9 := 1) (ws' := [(h0, .inr (3, [.ref q1, .ref q2, .int 0, .int 0])), (q1, .inl (cI, 20, .inl (fun _ => 0))), (q2, .inl (cI, 1020, .inl (fun _ => 0)))]) 0 dX3_init_18 ff_X3_15 rfl (Nat.le_of_ble_eq_true rfl) rfl ?_
  refine lc_aload_n E (pc := 21) dX3_init_21 rfl ?_
  refine lc_iconst E (pc := 22) dX3_init_22 kc_1 ?_
  refine lc_put E (pc := 23) (k9 := 2) (ws' := [(h0, .inr (3, [.ref q1, .ref q2, .int (1 : Int32), .int 0])), (q1, .inl (cI, 20, .inl (fun _ => 0))), (q2, .inl (cI, 1020, .inl (fun _ => 0)))]) 0 dX3_init_23 fw_X3_18 rfl (Nat.le_of_ble_eq_true rfl) rfl rfl rfl ?_
  refine lc_aload_n E (pc := 26) dX3_init_26 rfl ?_
  refine lc_iconst E (pc := 27) dX3_init_27 kc_1 ?_
  refine lc_put E (pc := 28) (k9 := 3) (ws' := [(h0, .inr (3, [.ref q1, .ref q2, .int (1 : Int32), .int (1 : Int32)])), (q1, .inl (cI, 20, .inl (fun _ => 0))), (q2, .inl (cI, 1020, .inl (fun _ => 0)))]) 0 dX3_init_28 fw_X3_22 rfl (Nat.le_of_ble_eq_true rfl) rfl rfl rfl ?_
  exact lc_ret E (pc := 31) (fun k => [h0, q1, q2].getD k 0) hr hA dX3_init_31 rfl rfl ⟨rfl, rfl⟩
def wL4 (cI : ClassId) (a : Nat → Nat) : va_W := [((a 0), .inr (4, [.ref (a 1), .ref (a 2)])), ((a 1), .inl (cI, 20, .inl (fun _ => 0))), ((a 2), .inl (cI, 3, .inl (fun _ => 0)))]
theorem dX4_init_0 : decode cX4_init 0 = .ok (.aload_n 0, 1) := by decide +kernel
theorem dX4_init_1 : decode cX4_init 1 = .ok (.invokespecial 3, 3) := by decide +kernel
theorem dX4_init_4 : decode cX4_init 4 = .ok (.aload_n 0, 1) := by decide +kernel
theorem dX4_init_5 : decode cX4_init 5 = .ok (.bipush 20, 2) := by decide +kernel
theorem dX4_init_7 : decode cX4_init 7 = .ok (.newarray .int, 2) := by decide +kernel
theorem dX4_init_9 : decode cX4_init 9 = .ok (.putfield 9, 3) := by decide +kernel
theorem dX4_init_12 : decode cX4_init 12 = .ok (.aload_n 0, 1) := by decide +kernel
theorem dX4_init_13 : decode cX4_init 13 = .ok (.iconst 3, 1) := by decide +kernel
theorem dX4_init_14 : decode cX4_init 14 = .ok (.newarray .int, 2) := by decide +kernel
theorem dX4_init_16 : decode cX4_init 16 = .ok (.putfield 15, 3) := by decide +kernel
theorem dX4_init_19 : decode cX4_init 19 = .ok (.return_, 1) := by decide +kernel
set_option maxHeartbeats 20000000 in
set_option maxRecDepth 100000 in
theorem ctX4_init {l : Launch} {D : va_G} {cI cR : ClassId} : CI l yX4_init cX4_init 1 1 2 23 D cI cR (.inr (4, [.null, .null])) (wL4 cI) := by
  refine ci_of (own := RX4) (by decide +kernel) rfl rfl (Nat.le_of_ble_eq_true rfl) (fun h0 p e s m below meth c A0 E hr hin hA => ?_)
  refine lc_ws (ws' := [(h0, .inr (4, [.null, .null]))]) rfl ?_
  refine lc_aload_n E (pc := 0) dX4_init_0 rfl ?_
  refine lc_obj E (pc := 1) dX4_init_1 mo_X4_3 mo_1 mo_2 ⟨(Nat.le_of_ble_eq_true rfl), (Nat.le_of_ble_eq_true rfl)⟩ (Nat.le_of_ble_eq_true rfl) ?_
  refine lc_aload_n E (pc := 4) dX4_init_4 rfl ?_
  refine lc_bipush E (pc := 5) dX4_init_5 kb_20 ?_
  refine lc_newa E (pc := 7) (N' := 20) dX4_init_7 mw_ai (by decide) (by decide +kernel) (by decide) ⟨(Nat.le_of_ble_eq_true rfl), (Nat.le_of_ble_eq_true rfl)⟩ (fun q1 => ?_)
  refine lc_ws (ws' := [(h0, .inr (4, [.null, .null])), (q1, .inl (cI, 20, .inl (fun _ => 0)))]) rfl ?_
  refine lc_putF E hin (pc := 9) (k9 := 0) (ws' := [(h0, .inr (4, [.ref q1, .null])), (q1, .inl (cI, 20, .inl (fun _ => 0)))]) 0 dX4_init_9 ff_X4_9 rfl (Nat.le_of_ble_eq_true rfl) rfl ?_
  refine lc_aload_n E (pc := 12) dX4_init_12 rfl ?_
  refine lc_iconst E (pc := 13) dX4_init_13 kc_3 ?_
  refine lc_newa E (pc := 14) (N' := 3) dX4_init_14 mw_ai (by decide) (by decide +kernel) (by decide) ⟨(Nat.le_of_ble_eq_true rfl), (Nat.le_of_ble_eq_true rfl)⟩ (fun q2 => ?_)
  refine lc_ws (ws' := [(h0, .inr (4, [.ref q1, .null])), (q1, .inl (cI, 20, .inl (fun _ => 0))), (q2, .inl (cI, 3, .inl (fun _ => 0)))]) rfl ?_
  refine lc_putF E hin (pc := 16) (k9 := 1) (ws' := [(h0, .inr (4, [.ref q1, .ref q2])), (q1, .inl (cI, 20, .inl (fun _ => 0))), (q2, .inl (cI, 3, .inl (fun _ => 0)))]) 0 dX4_init_16 ff_X4_15 rfl (Nat.le_of_ble_eq_true rfl) rfl ?_
  exact lc_ret E (pc := 19) (fun k => [h0, q1, q2].getD k 0) hr hA dX4_init_19 rfl rfl ⟨rfl, rfl⟩
def wL5 (cI : ClassId) (a : Nat → Nat) : va_W := [((a 0), .inr (5, [.ref (a 1), .ref (a 2), .ref (a 3), .ref (a 4)])), ((a 1), .inl (cI, 400, .inl (fun _ => 0))), ((a 2), .inl (cI, 400, .inl (fun _ => 0))), ((a 3), .inl (cI, 24, .inl (fun _ => 0))), ((a 4), .inl (cI, 24, .inl (fun _ => 0)))]
theorem dX5_init_0 : decode cX5_init 0 = .ok (.aload_n 0, 1) := by decide +kernel
theorem dX5_init_1 : decode cX5_init 1 = .ok (.invokespecial 3, 3) := by decide +kernel
theorem dX5_init_4 : decode cX5_init 4 = .ok (.aload_n 0, 1) := by decide +kernel
theorem dX5_init_5 : decode cX5_init 5 = .ok (.sipush 400, 3) := by decide +kernel
theorem dX5_init_8 : decode cX5_init 8 = .ok (.newarray .int, 2) := by decide +kernel
theorem dX5_init_10 : decode cX5_init 10 = .ok (.putfield 9, 3) := by decide +kernel
theorem dX5_init_13 : decode cX5_init 13 = .ok (.aload_n 0, 1) := by decide +kernel
theorem dX5_init_14 : decode cX5_init 14 = .ok (.sipush 400, 3) := by decide +kernel
theorem dX5_init_17 : decode cX5_init 17 = .ok (.newarray .int, 2) := by decide +kernel
theorem dX5_init_19 : decode cX5_init 19 = .ok (.putfield 15, 3) := by decide +kernel
theorem dX5_init_22 : decode cX5_init 22 = .ok (.aload_n 0, 1) := by decide +kernel
theorem dX5_init_23 : decode cX5_init 23 = .ok (.bipush 24, 2) := by decide +kernel
theorem dX5_init_25 : decode cX5_init 25 = .ok (.newarray .int, 2) := by decide +kernel
theorem dX5_init_27 : decode cX5_init 27 = .ok (.putfield 18, 3) := by decide +kernel
theorem dX5_init_30 : decode cX5_init 30 = .ok (.aload_n 0, 1) := by decide +kernel
theorem dX5_init_31 : decode cX5_init 31 = .ok (.bipush 24, 2) := by decide +kernel
theorem dX5_init_33 : decode cX5_init 33 = .ok (.newarray .int, 2) := by decide +kernel
theorem dX5_init_35 : decode cX5_init 35 = .ok (.putfield 21, 3) := by decide +kernel
theorem dX5_init_38 : decode cX5_init 38 = .ok (.return_, 1) := by decide +kernel
set_option maxHeartbeats 20000000 in
set_option maxRecDepth 100000 in
theorem ctX5_init {l : Launch} {D : va_G} {cI cR : ClassId} : CI l yX5_init cX5_init 1 1 4 848 D cI cR (.inr (5, [.null, .null, .null, .null])) (wL5 cI) := by
  refine ci_of (own := RX5) (by decide +kernel) rfl rfl (Nat.le_of_ble_eq_true rfl) (fun h0 p e s m below meth c A0 E hr hin hA => ?_)
  refine lc_ws (ws' := [(h0, .inr (5, [.null, .null, .null, .null]))]) rfl ?_
  refine lc_aload_n E (pc := 0) dX5_init_0 rfl ?_
  refine lc_obj E (pc := 1) dX5_init_1 mo_X5_3 mo_1 mo_2 ⟨(Nat.le_of_ble_eq_true rfl), (Nat.le_of_ble_eq_true rfl)⟩ (Nat.le_of_ble_eq_true rfl) ?_
  refine lc_aload_n E (pc := 4) dX5_init_4 rfl ?_
  refine lc_sipush E (pc := 5) dX5_init_5 ks_400 ?_
  refine lc_newa E (pc := 8) (N' := 400) dX5_init_8 mw_ai (by decide) (by decide +kernel) (by decide) ⟨(Nat.le_of_ble_eq_true rfl), (Nat.le_of_ble_eq_true rfl)⟩ (fun q1 => ?_)
  refine lc_ws (ws' := [(h0, .inr (5, [.null, .null, .null, .null])), (q1, .inl (cI, 400, .inl (fun _ => 0)))]) rfl ?_
  refine lc_putF E hin (pc := 10) (k9 := 0) (ws' := [(h0, .inr (5, [.ref q1, .null, .null, .null])), (q1, .inl (cI, 400, .inl (fun _ => 0)))]) 0 dX5_init_10 ff_X5_9 rfl (Nat.le_of_ble_eq_true rfl) rfl ?_
  refine lc_aload_n E (pc := 13) dX5_init_13 rfl ?_
  refine lc_sipush E (pc := 14) dX5_init_14 ks_400 ?_
  refine lc_newa E (pc := 17) (N' := 400) dX5_init_17 mw_ai (by decide) (by decide +kernel) (by decide) ⟨(Nat.le_of_ble_eq_true rfl), (Nat.le_of_ble_eq_true rfl)⟩ (fun q2 => ?_)
  refine lc_ws (ws' := [(h0, .inr (5, [.ref q1, .null, .null, .null])), (q1, .inl (cI, 400, .inl (fun _ => 0))), (q2, .inl (cI, 400, .inl (fun _ => 0)))]) rfl ?_
  refine lc_putF E hin (pc := 19) (k9 := 1) (ws' := [(h0, .inr (5, [.ref q1, .ref q2, .null, .null])), (q1, .inl (cI, 400, .inl (fun _ => 0))), (q2, .inl (cI, 400, .inl (fun _ => 0)))]) 0 dX5_init_19 ff_X5_15 rfl (Nat.le_of_ble_eq_true rfl) rfl ?_
  refine lc_aload_n E (pc := 22) dX5_init_22 rfl ?_
  refine lc_bipush E (pc := 23) dX5_init_23 kb_24 ?_
  refine lc_newa E (pc := 25) (N' := 24) dX5_init_25 mw_ai (by decide) (by decide +kernel) (by decide) ⟨(Nat.le_of_ble_eq_true rfl), (Nat.le_of_ble_eq_true rfl)⟩ (fun q3 => ?_)
  refine lc_ws (ws' := [(h0, .inr (5, [.ref q1, .ref q2, .null, .null])), (q1, .inl (cI, 400, .inl (fun _ => 0))), (q2, .inl (cI, 400, .inl (fun _ => 0))), (q3, .inl (cI, 24, .inl (fun _ => 0)))]) rfl ?_
  refine lc_putF E hin (pc := 27) (k9 := 2) (ws' := [(h0, .inr (5, [.ref q1, .ref q2, .ref q3, .null])), (q1, .inl (cI, 400, .inl (fun _ => 0))), (q2, .inl (cI, 400, .inl (fun _ => 0))), (q3, .inl (cI, 24, .inl (fun _ => 0)))]) 0 dX5_init_27 ff_X5_18 rfl (Nat.le_of_ble_eq_true rfl) rfl ?_
  refine lc_aload_n E (pc := 30) dX5_init_30 rfl ?_
  refine lc_bipush E (pc := 31) dX5_init_31 kb_24 ?_
  refine lc_newa E (pc := 33) (N' := 24) dX5_init_33 mw_ai (by decide) (by decide +kernel) (by decide) ⟨(Nat.le_of_ble_eq_true rfl), (Nat.le_of_ble_eq_true rfl)⟩ (fun q4 => ?_)
  refine lc_ws (ws' := [(h0, .inr (5, [.ref q1, .ref q2, .ref q3, .null])), (q1, .inl (cI, 400, .inl (fun _ => 0))), (q2, .inl (cI, 400, .inl (fun _ => 0))), (q3, .inl (cI, 24, .inl (fun _ => 0))), (q4, .inl (cI, 24, .inl (fun _ => 0)))]) rfl ?_
  refine lc_putF E hin (pc := 35) (k9 := 3) (ws' := [(h0, .inr (5, [.ref q1, .ref q2, .ref q3, .ref q4])), (q1, .inl (cI, 400, .inl (fun _ => 0))), (q2, .inl (cI, 400, .inl (fun _ => 0))), (q3, .inl (cI, 24, .inl (fun _ => 0))), (q4, .inl (cI, 24, .inl (fun _ => 0)))]) 0 dX5_init_35 ff_X5_21 rfl (Nat.le_of_ble_eq_true rfl) rfl ?_
  exact lc_ret E (pc := 38) (fun k => [h0, q1, q2, q3, q4].getD k 0) hr hA dX5_init_38 rfl rfl ⟨rfl, rfl⟩
def wL6 (cI : ClassId) (a : Nat → Nat) : va_W := [((a 0), .inr (6, [.int 0, .ref (a 1), .ref (a 2), .ref (a 3), .ref (a 4), .ref (a 5), .ref (a 6), .ref (a 7), .ref (a 8), .ref (a 9), .int (1 : Int32)])), ((a 1), .inl (cI, 20, .inl (fun _ => 0))), ((a 2), .inl (cI, 20, .inl (fun _ => 0))), ((a 3), .inl (cI, 20, .inl (fun _ => 0))), ((a 4), .inl (cI, 20, .inl (fun _ => 0))), ((a 5), .inl (cI, 20, .inl (fun _ => 0))), ((a 6), .inl (cI, 20, .inl (fun _ => 0))), ((a 7), .inl (cI, 24, .inl (fun _ => 0))), ((a 8), .inl (cI, 3, .inl (upd (upd (upd (fun _ => 0) 0 (2 : Int32)) 1 (1 : Int32)) 2 (1 : Int32)))), ((a 9), .inl (cI, 3, .inl (upd (upd (upd (fun _ => 0) 0 (1 : Int32)) 1 (3 : Int32)) 2 (2 : Int32))))]
theorem dX6_init_0 : decode cX6_init 0 = .ok (.aload_n 0, 1) := by decide +kernel
theorem dX6_init_1 : decode cX6_init 1 = .ok (.invokespecial 3, 3) := by decide +kernel
theorem dX6_init_4 : decode cX6_init 4 = .ok (.aload_n 0, 1) := by decide +kernel
theorem dX6_init_5 : decode cX6_init 5 = .ok (.bipush 20, 2) := by decide +kernel
theorem dX6_init_7 : decode cX6_init 7 = .ok (.newarray .int, 2) := by decide +kernel
theorem dX6_init_9 : decode cX6_init 9 = .ok (.putfield 9, 3) := by decide +kernel
theorem dX6_init_12 : decode cX6_init 12 = .ok (.aload_n 0, 1) := by decide +kernel
theorem dX6_init_13 : decode cX6_init 13 = .ok (.bipush 20, 2) := by decide +kernel
theorem dX6_init_15 : decode cX6_init 15 = .ok (.newarray .int, 2) := by decide +kernel
theorem dX6_init_17 : decode cX6_init 17 = .ok (.putfield 15, 3) := by decide +kernel
theorem dX6_init_20 : decode cX6_init 20 = .ok (.aload_n 0, 1) := by decide +kernel
theorem dX6_init_21 : decode cX6_init 21 = .ok (.bipush 20, 2) := by decide +kernel
theorem dX6_init_23 : decode cX6_init 23 = .ok (.newarray .int, 2) := by decide +kernel
theorem dX6_init_25 : decode cX6_init 25 = .ok (.putfield 18, 3) := by decide +kernel
theorem dX6_init_28 : decode cX6_init 28 = .ok (.aload_n 0, 1) := by decide +kernel
theorem dX6_init_29 : decode cX6_init 29 = .ok (.bipush 20, 2) := by decide +kernel
theorem dX6_init_31 : decode cX6_init 31 = .ok (.newarray .int, 2) := by decide +kernel
theorem dX6_init_33 : decode cX6_init 33 = .ok (.putfield 21, 3) := by decide +kernel
theorem dX6_init_36 : decode cX6_init 36 = .ok (.aload_n 0, 1) := by decide +kernel
theorem dX6_init_37 : decode cX6_init 37 = .ok (.bipush 20, 2) := by decide +kernel
theorem dX6_init_39 : decode cX6_init 39 = .ok (.newarray .int, 2) := by decide +kernel
theorem dX6_init_41 : decode cX6_init 41 = .ok (.putfield 24, 3) := by decide +kernel
theorem dX6_init_44 : decode cX6_init 44 = .ok (.aload_n 0, 1) := by decide +kernel
theorem dX6_init_45 : decode cX6_init 45 = .ok (.bipush 20, 2) := by decide +kernel
theorem dX6_init_47 : decode cX6_init 47 = .ok (.newarray .int, 2) := by decide +kernel
theorem dX6_init_49 : decode cX6_init 49 = .ok (.putfield 27, 3) := by decide +kernel
theorem dX6_init_52 : decode cX6_init 52 = .ok (.aload_n 0, 1) := by decide +kernel
theorem dX6_init_53 : decode cX6_init 53 = .ok (.bipush 24, 2) := by decide +kernel
theorem dX6_init_55 : decode cX6_init 55 = .ok (.newarray .int, 2) := by decide +kernel
theorem dX6_init_57 : decode cX6_init 57 = .ok (.putfield 30, 3) := by decide +kernel
theorem dX6_init_60 : decode cX6_init 60 = .ok (.aload_n 0, 1) := by decide +kernel
theorem dX6_init_61 : decode cX6_init 61 = .ok (.iconst 3, 1) := by decide +kernel
theorem dX6_init_62 : decode cX6_init 62 = .ok (.newarray .int, 2) := by decide +kernel
theorem dX6_init_64 : decode cX6_init 64 = .ok (.dup, 1) := by decide +kernel
theorem dX6_init_65 : decode cX6_init 65 = .ok (.iconst 0, 1) := by decide +kernel
theorem dX6_init_66 : decode cX6_init 66 = .ok (.iconst 2, 1) := by decide +kernel
theorem dX6_init_67 : decode cX6_init 67 = .ok (.iastore, 1) := by decide +kernel
theorem dX6_init_68 : decode cX6_init 68 = .ok (.dup, 1) := by decide +kernel
theorem dX6_init_69 : decode cX6_init 69 = .ok (.iconst 1, 1) := by decide +kernel
theorem dX6_init_70 : decode cX6_init 70 = .ok (.iconst 1, 1) := by decide +kernel
theorem dX6_init_71 : decode cX6_init 71 = .ok (.iastore, 1) := by decide +kernel
theorem dX6_init_72 : decode cX6_init 72 = .ok (.dup, 1) := by decide +kernel
theorem dX6_init_73 : decode cX6_init 73 = .ok (.iconst 2, 1) := by decide +kernel
theorem dX6_init_74 : decode cX6_init 74 = .ok (.iconst 1, 1) := by decide +kernel
theorem dX6_init_75 : decode cX6_init 75 = .ok (.iastore, 1) := by decide +kernel
theorem dX6_init_76 : decode cX6_init 76 = .ok (.putfield 33, 3) := by decide +kernel
theorem dX6_init_79 : decode cX6_init 79 = .ok (.aload_n 0, 1) := by decide +kernel
theorem dX6_init_80 : decode cX6_init 80 = .ok (.iconst 3, 1) := by decide +kernel
theorem dX6_init_81 : decode cX6_init 81 = .ok (.newarray .int, 2) := by decide +kernel
theorem dX6_init_83 : decode cX6_init 83 = .ok (.dup, 1) := by decide +kernel
theorem dX6_init_84 : decode cX6_init 84 = .ok (.iconst 0, 1) := by decide +kernel
theorem dX6_init_85 : decode cX6_init 85 = .ok (.iconst 1, 1) := by decide +kernel
theorem dX6_init_86 : decode cX6_init 86 = .ok (.iastore, 1) := by decide +kernel
theorem dX6_init_87 : decode cX6_init 87 = .ok (.dup, 1) := by decide +kernel
theorem dX6_init_88 : decode cX6_init 88 = .ok (.iconst 1, 1) := by decide +kernel
theorem dX6_init_89 : decode cX6_init 89 = .ok (.iconst 3, 1) := by decide +kernel
theorem dX6_init_90 : decode cX6_init 90 = .ok (.iastore, 1) := by decide +kernel
theorem dX6_init_91 : decode cX6_init 91 = .ok (.dup, 1) := by decide +kernel
theorem dX6_init_92 : decode cX6_init 92 = .ok (.iconst 2, 1) := by decide +kernel
theorem dX6_init_93 : decode cX6_init 93 = .ok (.iconst 2, 1) := by decide +kernel
theorem dX6_init_94 : decode cX6_init 94 = .ok (.iastore, 1) := by decide +kernel
theorem dX6_init_95 : decode cX6_init 95 = .ok (.putfield 36, 3) := by decide +kernel
theorem dX6_init_98 : decode cX6_init 98 = .ok (.aload_n 0, 1) := by decide +kernel
theorem dX6_init_99 : decode cX6_init 99 = .ok (.iconst 1, 1) := by decide +kernel
theorem dX6_init_100 : decode cX6_init 100 = .ok (.putfield 39, 3) := by decide +kernel
theorem dX6_init_103 : decode cX6_init 103 = .ok (.return_, 1) := by decide +kernel
set_option maxHeartbeats 20000000 in
set_option maxRecDepth 100000 in
theorem ctX6_init {l : Launch} {D : va_G} {cI cR : ClassId} : CI l yX6_init cX6_init 1 1 9 150 D cI cR (.inr (6, [.int 0, .null, .null, .null, .null, .null, .null, .null, .null, .null, .int 0])) (wL6 cI) := by
  refine ci_of (own := RX6) (by decide +kernel) rfl rfl (Nat.le_of_ble_eq_true rfl) (fun h0 p e s m below meth c A0 E hr hin hA => ?_)
  refine lc_ws (ws' := [(h0, .inr (6, [.int 0, .null, .null, .null, .null, .null, .null, .null, .null, .null, .int 0]))]) rfl ?_
  refine lc_aload_n E (pc := 0) dX6_init_0 rfl ?_
  refine lc_obj E (pc := 1) dX6_init_1 mo_X6_3 mo_1 mo_2 ⟨(Nat.le_of_ble_eq_true rfl), (Nat.le_of_ble_eq_true rfl)⟩ (Nat.le_of_ble_eq_true rfl) ?_
  refine lc_aload_n E (pc := 4) dX6_init_4 rfl ?_
  refine lc_bipush E (pc := 5) dX6_init_5 kb_20 ?_
  refine lc_newa E (pc := 7) (N' := 20) dX6_init_7 mw_ai (by decide) (by decide +kernel) (by decide) ⟨(Nat.le_of_ble_eq_true rfl), (Nat.le_of_ble_eq_true rfl)⟩ (fun q1 => ?_)
  refine lc_ws (ws' := [(h0, .inr (6, [.int 0, .null, .null, .null, .null, .null, .null, .null, .null, .null, .int 0])), (q1, .inl (cI, 20, .inl (fun _ => 0)))]) rfl ?_
  refine lc_putF E hin (pc := 9) (k9 := 1) (ws' := [(h0, .inr (6, [.int 0, .ref q1, .null, .null, .null, .null, .null, .null, .null, .null, .int 0])), (q1, .inl (cI, 20, .inl (fun _ => 0)))]) 0 dX6_init_9 ff_X6_9 rfl (Nat.le_of_ble_eq_true rfl) rfl ?_
  refine lc_aload_n E (pc := 12) dX6_init_12 rfl ?_
  refine lc_bipush E (pc := 13) dX6_init_13 kb_20 ?_
  refine lc_newa E (pc := 15) (N' := 20) dX6_init_15 mw_ai (by decide) (by decide +kernel) (by decide) ⟨(Nat.le_of_ble_eq_true rfl), (Nat.le_of_ble_eq_true rfl)⟩ (fun q2 => ?_)
  refine lc_ws (ws' := [(h0, .inr (6, [.int 0, .ref q1, .null, .null, .null, .null, .null, .null, .null, .null, .int 0])), (q1, .inl (cI, 20, .inl (fun _ => 0))), (q2, .inl (cI, 20, .inl (fun _ => 0)))]) rfl ?_
  refine lc_putF E hin (pc := 17) (k9 := 2) (ws' := [(h0, .inr (6, [.int 0, .ref q1, .ref q2, .null, .null, .null, .null, .null, .null, .null, .int 0])), (q1, .inl (cI, 20, .inl (fun _ => 0))), (q2, .inl (cI, 20, .inl (fun _ => 0)))]) 0 dX6_init_17 ff_X6_15 rfl (Nat.le_of_ble_eq_true rfl) rfl ?_
  refine lc_aload_n E (pc := 20) dX6_init_20 rfl ?_
  refine lc_bipush E (pc := 21) dX6_init_21 kb_20 ?_
  refine lc_newa E (pc := 23) (N' := 20) dX6_init_23 mw_ai (by decide) (by decide +kernel) (by decide) ⟨(Nat.le_of_ble_eq_true rfl), (Nat.le_of_ble_eq_true rfl)⟩ (fun q3 => ?_)
  refine lc_ws (ws' := [(h0, .inr (6, [.int 0, .ref q1, .ref q2, .null, .null, .null, .null, .null, .null, .null, .int 0])), (q1, .inl (cI, 20, .inl (fun _ => 0))), (q2, .inl (cI, 20, .inl (fun _ => 0))), (q3, .inl (cI, 20, .inl (fun _ => 0)))]) rfl ?_
  refine lc_putF E hin (pc := 25) (k9 := 3) (ws' := [(h0, .inr (6, [.int 0, .ref q1, .ref q2, .ref q3, .null, .null, .null, .null, .null, .null, .int 0])), (q1, .inl (cI, 20, .inl (fun _ => 0))), (q2, .inl (cI, 20, .inl (fun _ => 0))), (q3, .inl (cI, 20, .inl (fun _ => 0)))]) 0 dX6_init_25 ff_X6_18 rfl (Nat.le_of_ble_eq_true rfl) rfl ?_
  refine lc_aload_n E (pc := 28) dX6_init_28 rfl ?_
  refine lc_bipush E (pc := 29) dX6_init_29 kb_20 ?_
  refine lc_newa E (pc := 31) (N' := 20) dX6_init_31 mw_ai (by decide) (by decide +kernel) (by decide) ⟨(Nat.le_of_ble_eq_true rfl), (Nat.le_of_ble_eq_true rfl)⟩ (fun q4 => ?_)
  refine lc_ws (ws' := [(h0, .inr (6, [.int 0, .ref q1, .ref q2, .ref q3, .null, .null, .null, .null, .null, .null, .int 0])), (q1, .inl (cI, 20, .inl (fun _ => 0))), (q2, .inl (cI, 20, .inl (fun _ => 0))), (q3, .inl (cI, 20, .inl (fun _ => 0))), (q4, .inl (cI, 20, .inl (fun _ => 0)))]) rfl ?_
  refine lc_putF E hin (pc := 33) (k9 := 4) (ws' := [(h0, .inr (6, [.int 0, .ref q1, .ref q2, .ref q3, .ref q4, .null, .null, .null, .null, .null, .int 0])), (q1, .inl (cI, 20, .inl (fun _ => 0))), (q2, .inl (cI, 20, .inl (fun _ => 0))), (q3, .inl (cI, 20, .inl (fun _ => 0))), (q4, .inl (cI, 20, .inl (fun _ => 0)))]) 0 dX6_init_33 ff_X6_21 rfl (Nat.le_of_ble_eq_true rfl) rfl ?_
  refine lc_aload_n E (pc := 36) dX6_init_36 rfl ?_
  refine lc_bipush E (pc := 37) dX6_init_37 kb_20 ?_
  refine lc_newa E (pc := 39) (N' := 20) dX6_init_39 mw_ai (by decide) (by decide +kernel) (by decide) ⟨(Nat.le_of_ble_eq_true rfl), (Nat.le_of_ble_eq_true rfl)⟩ (fun q5 => ?_)
  refine lc_ws (ws' := [(h0, .inr (6, [.int 0, .ref q1, .ref q2, .ref q3, .ref q4, .null, .null, .null, .null, .null, .int 0])), (q1, .inl (cI, 20, .inl (fun _ => 0))), (q2, .inl (cI, 20, .inl (fun _ => 0))), (q3, .inl (cI, 20, .inl (fun _ => 0))), (q4, .inl (cI, 20, .inl (fun _ => 0))), (q5, .inl (cI, 20, .inl (fun _ => 0)))]) rfl ?_
  refine lc_putF E hin (pc := 41) (k9 := 5) (ws' := [(h0, .inr (6, [.int 0, .ref q1, .ref q2, .ref q3, .ref q4, .ref q5, .null, .null, .null, .null, .int 0])), (q1, .inl (cI, 20, .inl (fun _ => 0))), (q2, .inl (cI, 20, .inl (fun _ => 0))), (q3, .inl (cI, 20, .inl (fun _ => 0))), (q4, .inl (cI, 20, .inl (fun _ => 0))), (q5, .inl (cI, 20, .inl (fun _ => 0)))]) 0 dX6_init_41 ff_X6_24 rfl (Nat.le_of_ble_eq_true rfl) rfl ?_
  refine lc_aload_n E (pc := 44) dX6_init_44 rfl ?_
  refine lc_bipush E (pc := 45) dX6_init_45 kb_20 ?_
  refine lc_newa E (pc := 47) (N' := 20) dX6_init_47 mw_ai (by decide) (by decide +kernel) (by decide) ⟨(Nat.le_of_ble_eq_true rfl), (Nat.le_of_ble_eq_true rfl)⟩ (fun q6 => ?_)
  refine lc_ws (ws' := [(h0, .inr (6, [.int 0, .ref q1, .ref q2, .ref q3, .ref q4, .ref q5, .null, .null, .null, .null, .int 0])), (q1, .inl (cI, 20, .inl (fun _ => 0))), (q2, .inl (cI, 20, .inl (fun _ => 0))), (q3, .inl (cI, 20, .inl (fun _ => 0))), (q4, .inl (cI, 20, .inl (fun _ => 0))), (q5, .inl (cI, 20, .inl (fun _ => 0))), (q6, .inl (cI, 20, .inl (fun _ => 0)))]) rfl ?_
  refine lc_putF E hin (pc := 49) (k9 := 6) (ws' := [(h0, .inr (6, [.int 0, .ref q1, .ref q2, .ref q3, .ref q4, .ref q5, .ref q6, .null, .null, .null, .int 0])), (q1, .inl (cI, 20, .inl (fun _ => 0))), (q2, .inl (cI, 20, .inl (fun _ => 0))), (q3, .inl (cI, 20, .inl (fun _ => 0))), (q4, .inl (cI, 20, .inl (fun _ => 0))), (q5, .inl (cI, 20, .inl (fun _ => 0))), (q6, .inl (cI, 20, .inl (fun _ => 0)))]) 0 dX6_init_49 ff_X6_27 rfl (Nat.le_of_ble_eq_true rfl) rfl ?_
  refine lc_aload_n E (pc := 52) dX6_init_52 rfl ?_
  refine lc_bipush E (pc := 53) dX6_init_53 kb_24 ?_
  refine lc_newa E (pc := 55) (N' := 24) dX6_init_55 mw_ai (by decide) (by decide +kernel) (by decide) ⟨(Nat.le_of_ble_eq_true rfl), (Nat.le_of_ble_eq_true rfl)⟩ (fun q7 => ?_)
  refine lc_ws (ws' := [(h0, .inr (6, [.int 0, .ref q1, .ref q2, .ref q3, .ref q4, .ref q5, .ref q6, .null, .null, .null, .int 0])), (q1, .inl (cI, 20, .inl (fun _ => 0))), (q2, .inl (cI, 20, .inl (fun _ => 0))), (q3, .inl (cI, 20, .inl (fun _ => 0))), (q4, .inl (cI, 20, .inl (fun _ => 0))), (q5, .inl (cI, 20, .inl (fun _ => 0))), (q6, .inl (cI, 20, .inl (fun _ => 0))), (q7, .inl (cI, 24, .inl (fun _ => 0)))]) rfl ?_
  refine lc_putF E hin (pc := 57) (k9 := 7) (ws' := [(h0, .inr (6, [.int 0, .ref q1, .ref q2, .ref q3, .ref q4, .ref q5, .ref q6, .ref q7, .null, .null, .int 0])), (q1, .inl (cI, 20, .inl (fun _ => 0))), (q2, .inl (cI, 20, .inl (fun _ => 0))), (q3, .inl (cI, 20, .inl (fun _ => 0))), (q4, .inl (cI, 20, .inl (fun _ => 0))), (q5, .inl (cI, 20, .inl (fun _ => 0))), (q6, .inl (cI, 20, .inl (fun _ => 0))), (q7, .inl (cI, 24, .inl (fun _ => 0)))]) 0 dX6_init_57 ff_X6_30 rfl (Nat.le_of_ble_eq_true rfl) rfl ?_
  refine lc_aload_n E (pc := 60) dX6_init_60 rfl ?_
  refine lc_iconst E (pc := 61) dX6_init_61 kc_3 ?_
  refine lc_newa E (pc := 62) (N' := 3) dX6_init_62 mw_ai (by decide) (by decide +kernel) (by decide) ⟨(Nat.le_of_ble_eq_true rfl), (Nat.le_of_ble_eq_true rfl)⟩ (fun q8 => ?_)
  refine lc_ws (ws' := [(h0, .inr (6, [.int 0, .ref q1, .ref q2, .ref q3, .ref q4, .ref q5, .ref q6, .ref q7, .null, .null, .int 0])), (q1, .inl (cI, 20, .inl (fun _ => 0))), (q2, .inl (cI, 20, .inl (fun _ => 0))), (q3, .inl (cI, 20, .inl (fun _ => 0))), (q4, .inl (cI, 20, .inl (fun _ => 0))), (q5, .inl (cI, 20, .inl (fun _ => 0))), (q6, .inl (cI, 20, .inl (fun _ => 0))), (q7, .inl (cI, 24, .inl (fun _ => 0))), (q8, .inl (cI, 3, .inl (fun _ => 0)))]) rfl ?_
  refine lc_dup E (pc := 64) dX6_init_64 rfl ?_
  refine lc_iconst E (pc := 65) dX6_init_65 kc_0 ?_
  refine lc_iconst E (pc := 66) dX6_init_66 kc_2 ?_
  refine lc_iast E (pc := 67) (n := 3) (j := (0 : Int32)) (ws' := [(h0, .inr (6, [.int 0, .ref q1, .ref q2, .ref q3, .ref q4, .ref q5, .ref q6, .ref q7, .null, .null, .int 0])), (q1, .inl (cI, 20, .inl (fun _ => 0))), (q2, .inl (cI, 20, .inl (fun _ => 0))), (q3, .inl (cI, 20, .inl (fun _ => 0))), (q4, .inl (cI, 20, .inl (fun _ => 0))), (q5, .inl (cI, 20, .inl (fun _ => 0))), (q6, .inl (cI, 20, .inl (fun _ => 0))), (q7, .inl (cI, 24, .inl (fun _ => 0))), (q8, .inl (cI, 3, .inl (upd (fun _ => 0) 0 (2 : Int32))))]) 8 dX6_init_67 rfl (by decide +kernel) rfl ?_
  refine lc_dup E (pc := 68) dX6_init_68 rfl ?_
  refine lc_iconst E (pc := 69) dX6_init_69 kc_1 ?_
  refine lc_iconst E (pc := 70) dX6_init_70 kc_1 ?_
  refine lc_iast E (pc := 71) (n := 3) (j := (1 : Int32)) (ws' := [(h0, .inr (6, [.int 0, .ref q1, .ref q2, .ref q3, .ref q4, .ref q5, .ref q6, .ref q7, .null, .null, .int 0])), (q1, .inl (cI, 20, .inl (fun _ => 0))), (q2, .inl (cI, 20, .inl (fun _ => 0))), (q3, .inl (cI, 20, .inl (fun _ => 0))), (q4, .inl (cI, 20, .inl (fun _ => 0))), (q5, .inl (cI, 20, .inl (fun _ => 0))), (q6, .inl (cI, 20, .inl (fun _ => 0))), (q7, .inl (cI, 24, .inl (fun _ => 0))), (q8, .inl (cI, 3, .inl (upd (upd (fun _ => 0) 0 (2 : Int32)) 1 (1 : Int32))))]) 8 dX6_init_71 rfl (by decide +kernel) rfl ?_
  refine lc_dup E (pc := 72) dX6_init_72 rfl ?_
  refine lc_iconst E (pc := 73) dX6_init_73 kc_2 ?_
  refine lc_iconst E (pc := 74) dX6_init_74 kc_1 ?_
  refine lc_iast E (pc := 75) (n := 3) (j := (2 : Int32)) (ws' := [(h0, .inr (6, [.int 0, .ref q1, .ref q2, .ref q3, .ref q4, .ref q5, .ref q6, .ref q7, .null, .null, .int 0])), (q1, .inl (cI, 20, .inl (fun _ => 0))), (q2, .inl (cI, 20, .inl (fun _ => 0))), (q3, .inl (cI, 20, .inl (fun _ => 0))), (q4, .inl (cI, 20, .inl (fun _ => 0))), (q5, .inl (cI, 20, .inl (fun _ => 0))), (q6, .inl (cI, 20, .inl (fun _ => 0))), (q7, .inl (cI, 24, .inl (fun _ => 0))), (q8, .inl (cI, 3, .inl (upd (upd (upd (fun _ => 0) 0 (2 : Int32)) 1 (1 : Int32)) 2 (1 : Int32))))]) 8 dX6_init_75 rfl (by decide +kernel) rfl ?_
  refine lc_putF E hin (pc := 76) (k9 := 8) (ws' := [(h0, .inr (6, [.int 0, .ref q1, .ref q2, .ref q3, .ref q4, .ref q5, .ref q6, .ref q7, .ref q8, .null, .int 0])), (q1, .inl (cI, 20, .inl (fun _ => 0))), (q2, .inl (cI, 20, .inl (fun _ => 0))), (q3, .inl (cI, 20, .inl (fun _ => 0))), (q4, .inl (cI, 20, .inl (fun _ => 0))), (q5, .inl (cI, 20, .inl (fun _ => 0))), (q6, .inl (cI, 20, .inl (fun _ => 0))), (q7, .inl (cI, 24, .inl (fun _ => 0))), (q8, .inl (cI, 3, .inl (upd (upd (upd (fun _ => 0) 0 (2 : Int32)) 1 (1 : Int32)) 2 (1 : Int32))))]) 0 dX6_init_76 ff_X6_33 rfl (Nat.le_of_ble_eq_true rfl) rfl ?_
  refine lc_aload_n E (pc := 79) dX6_init_79 rfl ?_
  refine lc_iconst E (pc := 80) dX6_init_80 kc_3 ?_
  refine lc_newa E (pc := 81) (N' := 3) dX6_init_81 mw_ai (by decide) (by decide +kernel) (by decide) ⟨(Nat.le_of_ble_eq_true rfl), (Nat.le_of_ble_eq_true rfl)⟩ (fun q9 => ?_)
  refine lc_ws (ws' := [(h0, .inr (6, [.int 0, .ref q1, .ref q2, .ref q3, .ref q4, .ref q5, .ref q6, .ref q7, .ref q8, .null, .int 0])), (q1, .inl (cI, 20, .inl (fun _ => 0))), (q2, .inl (cI, 20, .inl (fun _ => 0))), (q3, .inl (cI, 20, .inl (fun _ => 0))), (q4, .inl (cI, 20, .inl (fun _ => 0))), (q5, .inl (cI, 20, .inl (fun _ => 0))), (q6, .inl (cI, 20, .inl (fun _ => 0))), (q7, .inl (cI, 24, .inl (fun _ => 0))), (q8, .inl (cI, 3, .inl (upd (upd (upd (fun _ => 0) 0 (2 : Int32)) 1 (1 : Int32)) 2 (1 : Int32)))), (q9, .inl (cI, 3, .inl (fun _ => 0)))]) rfl ?_
  refine lc_dup E (pc := 83) dX6_init_83 rfl ?_
  refine lc_iconst E (pc := 84) dX6_init_84 kc_0 ?_
  refine lc_iconst E (pc := 85) dX6_init_85 kc_1 ?_
  refine lc_iast E (pc := 86) (n := 3) (j := (0 : Int32)) (ws' := [(h0, .inr (6, [.int 0, .ref q1, .ref q2, .ref q3, .ref q4, .ref q5, .ref q6, .ref q7, .ref q8, .null, .int 0])), (q1, .inl (cI, 20, .inl (fun _ => 0))), (q2, .inl (cI, 20, .inl (fun _ => 0))), (q3, .inl (cI, 20, .inl (fun _ => 0))), (q4, .inl (cI, 20, .inl (fun _ => 0))), (q5, .inl (cI, 20, .inl (fun _ => 0))), (q6, .inl (cI, 20, .inl (fun _ => 0))), (q7, .inl (cI, 24, .inl (fun _ => 0))), (q8, .inl (cI, 3, .inl (upd (upd (upd (fun _ => 0) 0 (2 : Int32)) 1 (1 : Int32)) 2 (1 : Int32)))), (q9, .inl (cI, 3, .inl (upd (fun _ => 0) 0 (1 : Int32))))]) 9 dX6_init_86 rfl (by decide +kernel) rfl ?_
  refine lc_dup E (pc := 87) dX6_init_87 rfl ?_
  refine lc_iconst E (pc := 88) dX6_init_88 kc_1 ?_
  refine lc_iconst E (pc := 89) dX6_init_89 kc_3 ?_
  refine lc_iast E (pc := 90) (n := 3) (j := (1 : Int32)) (ws' := [(h0, .inr (6, [.int 0, .ref q1, .ref q2, .ref q3, .ref q4, .ref q5, .ref q6, .ref q7, .ref q8, .null, .int 0])), (q1, .inl (cI, 20, .inl (fun _ => 0))), (q2, .inl (cI, 20, .inl (fun _ => 0))), (q3, .inl (cI, 20, .inl (fun _ => 0))), (q4, .inl (cI, 20, .inl (fun _ => 0))), (q5, .inl (cI, 20, .inl (fun _ => 0))), (q6, .inl (cI, 20, .inl (fun _ => 0))), (q7, .inl (cI, 24, .inl (fun _ => 0))), (q8, .inl (cI, 3, .inl (upd (upd (upd (fun _ => 0) 0 (2 : Int32)) 1 (1 : Int32)) 2 (1 : Int32)))), (q9, .inl (cI, 3, .inl (upd (upd (fun _ => 0) 0 (1 : Int32)) 1 (3 : Int32))))]) 9 dX6_init_90 rfl (by decide +kernel) rfl ?_
  refine lc_dup E (pc := 91) dX6_init_91 rfl ?_
  refine lc_iconst E (pc := 92) dX6_init_92 kc_2 ?_
  refine lc_iconst E (pc := 93) dX6_init_93 kc_2 ?_
  refine lc_iast E (pc := 94) (n := 3) (j := (2 : Int32)) (ws' := [(h0, .inr (6, [.int 0, .ref q1, .ref q2, .ref q3, .ref q4, .ref q5, .ref q6, .ref q7, .ref q8, .null, .int 0])), (q1, .inl (cI, 20, .inl (fun _ => 0))), (q2, .inl (cI, 20, .inl (fun _ => 0))), (q3, .inl (cI, 20, .inl (fun _ => 0))), (q4, .inl (cI, 20, .inl (fun _ => 0))), (q5, .inl (cI, 20, .inl (fun _ => 0))), (q6, .inl (cI, 20, .inl (fun _ => 0))), (q7, .inl (cI, 24, .inl (fun _ => 0))), (q8, .inl (cI, 3, .inl (upd (upd (upd (fun _ => 0) 0 (2 : Int32)) 1 (1 : Int32)) 2 (1 : Int32)))), (q9, .inl (cI, 3, .inl (upd (upd (upd (fun _ => 0) 0 (1 : Int32)) 1 (3 : Int32)) 2 (2 : Int32))))]) 9 dX6_init_94 rfl (by decide +kernel) rfl ?_
  refine lc_putF E hin (pc := 95) (k9 := 9) (ws' := [(h0, .inr (6, [.int 0, .ref q1, .ref q2, .ref q3, .ref q4, .ref q5, .ref q6, .ref q7, .ref q8, .ref q9, .int 0])), (q1, .inl (cI, 20, .inl (fun _ => 0))), (q2, .inl (cI, 20, .inl (fun _ => 0))), (q3, .inl (cI, 20, .inl (fun _ => 0))), (q4, .inl (cI, 20, .inl (fun _ => 0))), (q5, .inl (cI, 20, .inl (fun _ => 0))), (q6, .inl (cI, 20, .inl (fun _ => 0))), (q7, .inl (cI, 24, .inl (fun _ => 0))), (q8, .inl (cI, 3, .inl (upd (upd (upd (fun _ => 0) 0 (2 : Int32)) 1 (1 : Int32)) 2 (1 : Int32)))), (q9, .inl (cI, 3, .inl (upd (upd (upd (fun _ => 0) 0 (1 : Int32)) 1 (3 : Int32)) 2 (2 : Int32))))]) 0 dX6_init_95 ff_X6_36 rfl (Nat.le_of_ble_eq_true rfl) rfl ?_
  refine lc_aload_n E (pc := 98) dX6_init_98 rfl ?_
  refine lc_iconst E (pc := 99) dX6_init_99 kc_1 ?_
  refine lc_put E (pc := 100) (k9 := 10) (ws' := [(h0, .inr (6, [.int 0, .ref q1, .ref q2, .ref q3, .ref q4, .ref q5, .ref q6, .ref q7, .ref q8, .ref q9, .int (1 : Int32)])), (q1, .inl (cI, 20, .inl (fun _ => 0))), (q2, .inl (cI, 20, .inl (fun _ => 0))), (q3, .inl (cI, 20, .inl (fun _ => 0))), (q4, .inl (cI, 20, .inl (fun _ => 0))), (q5, .inl (cI, 20, .inl (fun _ => 0))), (q6, .inl (cI, 20, .inl (fun _ => 0))), (q7, .inl (cI, 24, .inl (fun _ => 0))), (q8, .inl (cI, 3, .inl (upd (upd (upd (fun _ => 0) 0 (2 : Int32)) 1 (1 : Int32)) 2 (1 : Int32)))), (q9, .inl (cI, 3, .inl (upd (upd (upd (fun _ => 0) 0 (1 : Int32)) 1 (3 : Int32)) 2 (2 : Int32))))]) 0 dX6_init_100 fw_X6_39 rfl (Nat.le_of_ble_eq_true rfl) rfl rfl rfl ?_
  exact lc_ret E (pc := 103) (fun k => [h0, q1, q2, q3, q4, q5, q6, q7, q8, q9].getD k 0) hr hA dX6_init_103 rfl rfl ⟨rfl, rfl⟩
def wL7 (cI : ClassId) (a : Nat → Nat) : va_W := [((a 0), .inr (7, [.ref (a 1), .int 0])), ((a 1), .inl (cI, 60, .inl (fun _ => 0)))]
theorem dX7_init_0 : decode cX7_init 0 = .ok (.aload_n 0, 1) := by decide +kernel
theorem dX7_init_1 : decode cX7_init 1 = .ok (.invokespecial 3, 3) := by decide +kernel
theorem dX7_init_4 : decode cX7_init 4 = .ok (.aload_n 0, 1) := by decide +kernel
theorem dX7_init_5 : decode cX7_init 5 = .ok (.bipush 60, 2) := by decide +kernel
theorem dX7_init_7 : decode cX7_init 7 = .ok (.newarray .int, 2) := by decide +kernel
theorem dX7_init_9 : decode cX7_init 9 = .ok (.putfield 9, 3) := by decide +kernel
theorem dX7_init_12 : decode cX7_init 12 = .ok (.return_, 1) := by decide +kernel
set_option maxHeartbeats 20000000 in
set_option maxRecDepth 100000 in
theorem ctX7_init {l : Launch} {D : va_G} {cI cR : ClassId} : CI l yX7_init cX7_init 1 1 1 60 D cI cR (.inr (7, [.null, .int 0])) (wL7 cI) := by
  refine ci_of (own := RX7) (by decide +kernel) rfl rfl (Nat.le_of_ble_eq_true rfl) (fun h0 p e s m below meth c A0 E hr hin hA => ?_)
  refine lc_ws (ws' := [(h0, .inr (7, [.null, .int 0]))]) rfl ?_
  refine lc_aload_n E (pc := 0) dX7_init_0 rfl ?_
  refine lc_obj E (pc := 1) dX7_init_1 mo_X7_3 mo_1 mo_2 ⟨(Nat.le_of_ble_eq_true rfl), (Nat.le_of_ble_eq_true rfl)⟩ (Nat.le_of_ble_eq_true rfl) ?_
  refine lc_aload_n E (pc := 4) dX7_init_4 rfl ?_
  refine lc_bipush E (pc := 5) dX7_init_5 kb_60 ?_
  refine lc_newa E (pc := 7) (N' := 60) dX7_init_7 mw_ai (by decide) (by decide +kernel) (by decide) ⟨(Nat.le_of_ble_eq_true rfl), (Nat.le_of_ble_eq_true rfl)⟩ (fun q1 => ?_)
  refine lc_ws (ws' := [(h0, .inr (7, [.null, .int 0])), (q1, .inl (cI, 60, .inl (fun _ => 0)))]) rfl ?_
  refine lc_putF E hin (pc := 9) (k9 := 0) (ws' := [(h0, .inr (7, [.ref q1, .int 0])), (q1, .inl (cI, 60, .inl (fun _ => 0)))]) 0 dX7_init_9 ff_X7_9 rfl (Nat.le_of_ble_eq_true rfl) rfl ?_
  exact lc_ret E (pc := 12) (fun k => [h0, q1].getD k 0) hr hA dX7_init_12 rfl rfl ⟨rfl, rfl⟩
def wL1 (cI cR : ClassId) (a : Nat → Nat) : va_W := (a 0, .inr (1, [.ref (a 1), .int 0])) :: (a 1, .inl (cR, 5, .inr (.inr (.inr (.inr (va_up (va_up (va_up (va_up (va_up (fun _ => none) 0 (some (a 2))) 1 (some (a 12))) 2 (some (a 22))) 3 (some (a 32))) 4 (some (a 42)))))))) :: (((((([] : va_W) ++ wL6 cI (fun k => a (2 + k))) ++ wL6 cI (fun k => a (12 + k))) ++ wL6 cI (fun k => a (22 + k))) ++ wL6 cI (fun k => a (32 + k))) ++ wL6 cI (fun k => a (42 + k)))
theorem dX1_init_0 : decode cX1_init 0 = .ok (.aload_n 0, 1) := by decide +kernel
theorem dX1_init_1 : decode cX1_init 1 = .ok (.invokespecial 3, 3) := by decide +kernel
theorem dX1_init_4 : decode cX1_init 4 = .ok (.aload_n 0, 1) := by decide +kernel
theorem dX1_init_5 : decode cX1_init 5 = .ok (.iconst 5, 1) := by decide +kernel
theorem dX1_init_6 : decode cX1_init 6 = .ok (.anewarray 9, 3) := by decide +kernel
theorem dX1_init_9 : decode cX1_init 9 = .ok (.putfield 11, 3) := by decide +kernel
theorem dX1_init_12 : decode cX1_init 12 = .ok (.iconst 0, 1) := by decide +kernel
theorem dX1_init_13 : decode cX1_init 13 = .ok (.istore_n 1, 1) := by decide +kernel
theorem dX1_init_14 : decode cX1_init 14 = .ok (.iload_n 1, 1) := by decide +kernel
theorem dX1_init_15 : decode cX1_init 15 = .ok (.iconst 5, 1) := by decide +kernel
theorem dX1_init_16 : decode cX1_init 16 = .ok (.if_icmp .ge 22, 3) := by decide +kernel
theorem dX1_init_19 : decode cX1_init 19 = .ok (.aload_n 0, 1) := by decide +kernel
theorem dX1_init_20 : decode cX1_init 20 = .ok (.getfield 11, 3) := by decide +kernel
theorem dX1_init_23 : decode cX1_init 23 = .ok (.iload_n 1, 1) := by decide +kernel
theorem dX1_init_24 : decode cX1_init 24 = .ok (.new 9, 3) := by decide +kernel
theorem dX1_init_27 : decode cX1_init 27 = .ok (.dup, 1) := by decide +kernel
theorem dX1_init_28 : decode cX1_init 28 = .ok (.invokespecial 17, 3) := by decide +kernel
theorem dX1_init_31 : decode cX1_init 31 = .ok (.aastore, 1) := by decide +kernel
theorem dX1_init_32 : decode cX1_init 32 = .ok (.iinc 1 1, 3) := by decide +kernel
theorem dX1_init_35 : decode cX1_init 35 = .ok (.goto (-21), 3) := by decide +kernel
theorem dX1_init_38 : decode cX1_init 38 = .ok (.return_, 1) := by decide +kernel
set_option maxHeartbeats 20000000 in
set_option maxRecDepth 100000 in
theorem ctX1_init {l : Launch} {D : va_G} {cI cR : ClassId} : CI l yX1_init cX1_init 2 2 51 810 D cI cR (.inr (1, [.null, .int 0])) (wL1 cI cR) := by
  refine ci_of (own := RX1) (by decide +kernel) rfl rfl (Nat.le_of_ble_eq_true rfl) (fun h0 p e s m below meth c A0 E hr hin hA => ?_)
  refine lc_ws (ws' := ((h0, .inr (1, [.null, .int 0])) :: ([] : va_W))) rfl ?_
  refine lc_aload_n E (pc := 0) dX1_init_0 rfl ?_
  refine lc_obj E (pc := 1) dX1_init_1 mo_X1_3 mo_1 mo_2 ⟨(Nat.le_of_ble_eq_true rfl), (Nat.le_of_ble_eq_true rfl)⟩ (Nat.le_of_ble_eq_true rfl) ?_
  refine lc_aload_n E (pc := 4) dX1_init_4 rfl ?_
  refine lc_iconst E (pc := 5) dX1_init_5 kc_5 ?_
  refine lc_newq E (pc := 6) (N' := 5) dX1_init_6 mk_X1_9 (by decide) (by decide +kernel) (by decide) ⟨(Nat.le_of_ble_eq_true rfl), (Nat.le_of_ble_eq_true rfl)⟩ (fun q1 => ?_)
  refine lc_ws (ws' := ((h0, .inr (1, [.null, .int 0])) :: (q1, .inl (cR, 5, .inr (.inr (.inr (.inr (fun _ => none)))))) :: ([] : va_W))) rfl ?_
  refine lc_putF E hin (pc := 9) (k9 := 0) (ws' := ((h0, .inr (1, [.ref q1, .int 0])) :: (q1, .inl (cR, 5, .inr (.inr (.inr (.inr (fun _ => none)))))) :: ([] : va_W))) 0 dX1_init_9 ff_X1_11 rfl (Nat.le_of_ble_eq_true rfl) rfl ?_
  refine lc_iconst E (pc := 12) dX1_init_12 kc_0 ?_
  refine lc_istore_n E (pc := 13) (lo' := [some (.ref h0), some (.int (0 : Int32))]) dX1_init_13 (Nat.le_of_ble_eq_true rfl) rfl rfl ?_
  refine lc_iload_n E (pc := 14) dX1_init_14 rfl ?_
  refine lc_iconst E (pc := 15) dX1_init_15 kc_5 ?_
  refine lc_geN E (pc := 16) (tgt := 38) dX1_init_16 rfl (by decide) ?_
  refine lc_aload_n E (pc := 19) dX1_init_19 rfl ?_
  refine lc_get E (pc := 20) (k9 := 0) 0 dX1_init_20 fl_X1_11 rfl rfl ?_
  refine lc_iload_n E (pc := 23) dX1_init_23 rfl ?_
  refine lc_new E (pc := 24) (ci := 6) (fs := [.int 0, .null, .null, .null, .null, .null, .null, .null, .null, .null, .int 0]) dX1_init_24 rfl uw_6 tyX6_ok mk_X1_9 mi_6 mn_6 df_6 ⟨(Nat.le_of_ble_eq_true rfl), (Nat.le_of_ble_eq_true rfl)⟩ (fun q2 => ?_)
  refine lc_ws (ws' := ((h0, .inr (1, [.ref q1, .int 0])) :: (q1, .inl (cR, 5, .inr (.inr (.inr (.inr (fun _ => none)))))) :: (([] : va_W) ++ [(q2, .inr (6, [.int 0, .null, .null, .null, .null, .null, .null, .null, .null, .null, .int 0]))]))) rfl ?_
  refine lc_dup E (pc := 27) dX1_init_27 rfl ?_
  refine lc_call E (wr := ((h0, .inr (1, [.ref q1, .int 0])) :: (q1, .inl (cR, 5, .inr (.inr (.inr (.inr (fun _ => none)))))) :: ([] : va_W))) (pc := 28) (d := 1) (mc := 9) (ms := 150) dX1_init_28 ctX6_init (Or.inr ⟨_, E.2.2.2.2.2.2.2.2.1 ("BuntingBundles$History", 17, yX6_init, "BuntingBundles") (by decide +kernel)⟩) mj_6 mn_6 mc_6 rfl ⟨by decide +kernel, by decide +kernel, by decide +kernel⟩ (by decide) (Nat.le_of_ble_eq_true rfl) ⟨(Nat.le_of_ble_eq_true rfl), (Nat.le_of_ble_eq_true rfl)⟩ ⟨(Nat.le_of_ble_eq_true rfl), (Nat.le_of_ble_eq_true rfl)⟩ (fun a3 ha3 => ?_)
  subst ha3
  refine lc_ws (ws' := ((h0, .inr (1, [.ref q1, .int 0])) :: (q1, .inl (cR, 5, .inr (.inr (.inr (.inr (fun _ => none)))))) :: (([] : va_W) ++ wL6 cI a3))) rfl ?_
  refine lc_aast E (pc := 31) (n := 5) (j := (0 : Int32)) (ws' := ((h0, .inr (1, [.ref q1, .int 0])) :: (q1, .inl (cR, 5, .inr (.inr (.inr (.inr (va_up (fun _ => none) 0 (some (a3 0)))))))) :: (([] : va_W) ++ wL6 cI a3))) 1 2 dX1_init_31 rfl rfl (by decide +kernel) rfl ?_
  refine lc_iinc E (pc := 32) (v := (1 : Int32)) (lo' := [some (.ref h0), some (.int (1 : Int32))]) dX1_init_32 rfl (by decide +kernel) (Nat.le_of_ble_eq_true rfl) rfl rfl ?_
  refine lc_goto E (pc := 35) (tgt := 14) dX1_init_35 rfl ?_
  refine lc_iload_n E (pc := 14) dX1_init_14 rfl ?_
  refine lc_iconst E (pc := 15) dX1_init_15 kc_5 ?_
  refine lc_geN E (pc := 16) (tgt := 38) dX1_init_16 rfl (by decide) ?_
  refine lc_aload_n E (pc := 19) dX1_init_19 rfl ?_
  refine lc_get E (pc := 20) (k9 := 0) 0 dX1_init_20 fl_X1_11 rfl rfl ?_
  refine lc_iload_n E (pc := 23) dX1_init_23 rfl ?_
  refine lc_new E (pc := 24) (ci := 6) (fs := [.int 0, .null, .null, .null, .null, .null, .null, .null, .null, .null, .int 0]) dX1_init_24 rfl uw_6 tyX6_ok mk_X1_9 mi_6 mn_6 df_6 ⟨(Nat.le_of_ble_eq_true rfl), (Nat.le_of_ble_eq_true rfl)⟩ (fun q4 => ?_)
  refine lc_ws (ws' := ((h0, .inr (1, [.ref q1, .int 0])) :: (q1, .inl (cR, 5, .inr (.inr (.inr (.inr (va_up (fun _ => none) 0 (some (a3 0)))))))) :: ((([] : va_W) ++ wL6 cI a3) ++ [(q4, .inr (6, [.int 0, .null, .null, .null, .null, .null, .null, .null, .null, .null, .int 0]))]))) rfl ?_
  refine lc_dup E (pc := 27) dX1_init_27 rfl ?_
  refine lc_call E (wr := ((h0, .inr (1, [.ref q1, .int 0])) :: (q1, .inl (cR, 5, .inr (.inr (.inr (.inr (va_up (fun _ => none) 0 (some (a3 0)))))))) :: (([] : va_W) ++ wL6 cI a3))) (pc := 28) (d := 1) (mc := 9) (ms := 150) dX1_init_28 ctX6_init (Or.inr ⟨_, E.2.2.2.2.2.2.2.2.1 ("BuntingBundles$History", 17, yX6_init, "BuntingBundles") (by decide +kernel)⟩) mj_6 mn_6 mc_6 rfl ⟨by decide +kernel, by decide +kernel, by decide +kernel⟩ (by decide) (Nat.le_of_ble_eq_true rfl) ⟨(Nat.le_of_ble_eq_true rfl), (Nat.le_of_ble_eq_true rfl)⟩ ⟨(Nat.le_of_ble_eq_true rfl), (Nat.le_of_ble_eq_true rfl)⟩ (fun a5 ha5 => ?_)
  subst ha5
  refine lc_ws (ws' := ((h0, .inr (1, [.ref q1, .int 0])) :: (q1, .inl (cR, 5, .inr (.inr (.inr (.inr (va_up (fun _ => none) 0 (some (a3 0)))))))) :: ((([] : va_W) ++ wL6 cI a3) ++ wL6 cI a5))) rfl ?_
  refine lc_aast E (pc := 31) (n := 5) (j := (1 : Int32)) (ws' := ((h0, .inr (1, [.ref q1, .int 0])) :: (q1, .inl (cR, 5, .inr (.inr (.inr (.inr (va_up (va_up (fun _ => none) 0 (some (a3 0))) 1 (some (a5 0)))))))) :: ((([] : va_W) ++ wL6 cI a3) ++ wL6 cI a5))) 1 12 dX1_init_31 rfl rfl (by decide +kernel) rfl ?_
  refine lc_iinc E (pc := 32) (v := (2 : Int32)) (lo' := [some (.ref h0), some (.int (2 : Int32))]) dX1_init_32 rfl (by decide +kernel) (Nat.le_of_ble_eq_true rfl) rfl rfl ?_
  refine lc_goto E (pc := 35) (tgt := 14) dX1_init_35 rfl ?_
  refine lc_iload_n E (pc := 14) dX1_init_14 rfl ?_
  refine lc_iconst E (pc := 15) dX1_init_15 kc_5 ?_
  refine lc_geN E (pc := 16) (tgt := 38) dX1_init_16 rfl (by decide) ?_
  refine lc_aload_n E (pc := 19) dX1_init_19 rfl ?_
  refine lc_get E (pc := 20) (k9 := 0) 0 dX1_init_20 fl_X1_11 rfl rfl ?_
  refine lc_iload_n E (pc := 23) dX1_init_23 rfl ?_
  refine lc_new E (pc := 24) (ci := 6) (fs := [.int 0, .null, .null, .null, .null, .null, .null, .null, .null, .null, .int 0]) dX1_init_24 rfl uw_6 tyX6_ok mk_X1_9 mi_6 mn_6 df_6 ⟨(Nat.le_of_ble_eq_true rfl), (Nat.le_of_ble_eq_true rfl)⟩ (fun q6 => ?_)
  refine lc_ws (ws' := ((h0, .inr (1, [.ref q1, .int 0])) :: (q1, .inl (cR, 5, .inr (.inr (.inr (.inr (va_up (va_up (fun _ => none) 0 (some (a3 0))) 1 (some (a5 0)))))))) :: (((([] : va_W) ++ wL6 cI a3) ++ wL6 cI a5) ++ [(q6, .inr (6, [.int 0, .null, .null, .null, .null, .null, .null, .null, .null, .null, .int 0]))]))) rfl ?_
  refine lc_dup E (pc := 27) dX1_init_27 rfl ?_
  refine lc_call E (wr := ((h0, .inr (1, [.ref q1, .int 0])) :: (q1, .inl (cR, 5, .inr (.inr (.inr (.inr (va_up (va_up (fun _ => none) 0 (some (a3 0))) 1 (some (a5 0)))))))) :: ((([] : va_W) ++ wL6 cI a3) ++ wL6 cI a5))) (pc := 28) (d := 1) (mc := 9) (ms := 150) dX1_init_28 ctX6_init (Or.inr ⟨_, E.2.2.2.2.2.2.2.2.1 ("BuntingBundles$History", 17, yX6_init, "BuntingBundles") (by decide +kernel)⟩) mj_6 mn_6 mc_6 rfl ⟨by decide +kernel, by decide +kernel, by decide +kernel⟩ (by decide) (Nat.le_of_ble_eq_true rfl) ⟨(Nat.le_of_ble_eq_true rfl), (Nat.le_of_ble_eq_true rfl)⟩ ⟨(Nat.le_of_ble_eq_true rfl), (Nat.le_of_ble_eq_true rfl)⟩ (fun a7 ha7 => ?_)
  subst ha7
  refine lc_ws (ws' := ((h0, .inr (1, [.ref q1, .int 0])) :: (q1, .inl (cR, 5, .inr (.inr (.inr (.inr (va_up (va_up (fun _ => none) 0 (some (a3 0))) 1 (some (a5 0)))))))) :: (((([] : va_W) ++ wL6 cI a3) ++ wL6 cI a5) ++ wL6 cI a7))) rfl ?_
  refine lc_aast E (pc := 31) (n := 5) (j := (2 : Int32)) (ws' := ((h0, .inr (1, [.ref q1, .int 0])) :: (q1, .inl (cR, 5, .inr (.inr (.inr (.inr (va_up (va_up (va_up (fun _ => none) 0 (some (a3 0))) 1 (some (a5 0))) 2 (some (a7 0)))))))) :: (((([] : va_W) ++ wL6 cI a3) ++ wL6 cI a5) ++ wL6 cI a7))) 1 22 dX1_init_31 rfl rfl (by decide +kernel) rfl ?_
  refine lc_iinc E (pc := 32) (v := (3 : Int32)) (lo' := [some (.ref h0), some (.int (3 : Int32))]) dX1_init_32 rfl (by decide +kernel) (Nat.le_of_ble_eq_true rfl) rfl rfl ?_
  refine lc_goto E (pc := 35) (tgt := 14) dX1_init_35 rfl ?_
  refine lc_iload_n E (pc := 14) dX1_init_14 rfl ?_
  refine lc_iconst E (pc := 15) dX1_init_15 kc_5 ?_
  refine lc_geN E (pc := 16) (tgt := 38) dX1_init_16 rfl (by decide) ?_
  refine lc_aload_n E (pc := 19) dX1_init_19 rfl ?_
  refine lc_get E (pc := 20) (k9 := 0) 0 dX1_init_20 fl_X1_11 rfl rfl ?_
  refine lc_iload_n E (pc := 23) dX1_init_23 rfl ?_
  refine lc_new E (pc := 24) (ci := 6) (fs := [.int 0, .null, .null, .null, .null, .null, .null, .null, .null, .null, .int 0]) dX1_init_24 rfl uw_6 tyX6_ok mk_X1_9 mi_6 mn_6 df_6 ⟨(Nat.le_of_ble_eq_true rfl), (Nat.le_of_ble_eq_true rfl)⟩ (fun q8 => ?_)
  refine lc_ws (ws' := ((h0, .inr (1, [.ref q1, .int 0])) :: (q1, .inl (cR, 5, .inr (.inr (.inr (.inr (va_up (va_up (va_up (fun _ => none) 0 (some (a3 0))) 1 (some (a5 0))) 2 (some (a7 0)))))))) :: ((((([] : va_W) ++ wL6 cI a3) ++ wL6 cI a5) ++ wL6 cI a7) ++ [(q8, .inr (6, [.int 0, .null, .null, .null, .null, .null, .null, .null, .null, .null, .int 0]))]))) rfl ?_
  refine lc_dup E (pc := 27) dX1_init_27 rfl ?_
  refine lc_call E (wr := ((h0, .inr (1, [.ref q1, .int 0])) :: (q1, .inl (cR, 5, .inr (.inr (.inr (.inr (va_up (va_up (va_up (fun _ => none) 0 (some (a3 0))) 1 (some (a5 0))) 2 (some (a7 0)))))))) :: (((([] : va_W) ++ wL6 cI a3) ++ wL6 cI a5) ++ wL6 cI a7))) (pc := 28) (d := 1) (mc := 9) (ms := 150) dX1_init_28 ctX6_init (Or.inr ⟨_, E.2.2.2.2.2.2.2.2.1 ("BuntingBundles$History", 17, yX6_init, "BuntingBundles") (by decide +kernel)⟩) mj_6 mn_6 mc_6 rfl ⟨by decide +kernel, by decide +kernel, by decide +kernel⟩ (by decide) (Nat.le_of_ble_eq_true rfl) ⟨(Nat.le_of_ble_eq_true rfl), (Nat.le_of_ble_eq_true rfl)⟩ ⟨(Nat.le_of_ble_eq_true rfl), (Nat.le_of_ble_eq_true rfl)⟩ (fun a9 ha9 => ?_)
  subst ha9
  refine lc_ws (ws' := ((h0, .inr (1, [.ref q1, .int 0])) :: (q1, .inl (cR, 5, .inr (.inr (.inr (.inr (va_up (va_up (va_up (fun _ => none) 0 (some (a3 0))) 1 (some (a5 0))) 2 (some (a7 0)))))))) :: ((((([] : va_W) ++ wL6 cI a3) ++ wL6 cI a5) ++ wL6 cI a7) ++ wL6 cI a9))) rfl ?_
  refine lc_aast E (pc := 31) (n := 5) (j := (3 : Int32)) (ws' := ((h0, .inr (1, [.ref q1, .int 0])) :: (q1, .inl (cR, 5, .inr (.inr (.inr (.inr (va_up (va_up (va_up (va_up (fun _ => none) 0 (some (a3 0))) 1 (some (a5 0))) 2 (some (a7 0))) 3 (some (a9 0)))))))) :: ((((([] : va_W) ++ wL6 cI a3) ++ wL6 cI a5) ++ wL6 cI a7) ++ wL6 cI a9))) 1 32 dX1_init_31 rfl rfl (by decide +kernel) rfl ?_
  refine lc_iinc E (pc := 32) (v := (4 : Int32)) (lo' := [some (.ref h0), some (.int (4 : Int32))]) dX1_init_32 rfl (by decide +kernel) (Nat.le_of_ble_eq_true rfl) rfl rfl ?_
  refine lc_goto E (pc := 35) (tgt := 14) dX1_init_35 rfl ?_
  refine lc_iload_n E (pc := 14) dX1_init_14 rfl ?_
  refine lc_iconst E (pc := 15) dX1_init_15 kc_5 ?_
  refine lc_geN E (pc := 16) (tgt := 38) dX1_init_16 rfl (by decide) ?_
  refine lc_aload_n E (pc := 19) dX1_init_19 rfl ?_
  refine lc_get E (pc := 20) (k9 := 0) 0 dX1_init_20 fl_X1_11 rfl rfl ?_
  refine lc_iload_n E (pc := 23) dX1_init_23 rfl ?_
  refine lc_new E (pc := 24) (ci := 6) (fs := [.int 0, .null, .null, .null, .null, .null, .null, .null, .null, .null, .int 0]) dX1_init_24 rfl uw_6 tyX6_ok mk_X1_9 mi_6 mn_6 df_6 ⟨(Nat.le_of_ble_eq_true rfl), (Nat.le_of_ble_eq_true rfl)⟩ (fun q10 => ?_)
  refine lc_ws (ws' := ((h0, .inr (1, [.ref q1, .int 0])) :: (q1, .inl (cR, 5, .inr (.inr (.inr (.inr (va_up (va_up (va_up (va_up (fun _ => none) 0 (some (a3 0))) 1 (some (a5 0))) 2 (some (a7 0))) 3 (some (a9 0)))))))) :: (((((([] : va_W) ++ wL6 cI a3) ++ wL6 cI a5) ++ wL6 cI a7) ++ wL6 cI a9) ++ [(q10, .inr (6, [.int 0, .null, .null, .null, .null, .null, .null, .null, .null, .null, .int 0]))]))) rfl ?_
  refine lc_dup E (pc := 27) dX1_init_27 rfl ?_
  refine lc_call E (wr := ((h0, .inr (1, [.ref q1, .int 0])) :: (q1, .inl (cR, 5, .inr (.inr (.inr (.inr (va_up (va_up (va_up (va_up (fun _ => none) 0 (some (a3 0))) 1 (some (a5 0))) 2 (some (a7 0))) 3 (some (a9 0)))))))) :: ((((([] : va_W) ++ wL6 cI a3) ++ wL6 cI a5) ++ wL6 cI a7) ++ wL6 cI a9))) (pc := 28) (d := 1) (mc := 9) (ms := 150) dX1_init_28 ctX6_init (Or.inr ⟨_, E.2.2.2.2.2.2.2.2.1 ("BuntingBundles$History", 17, yX6_init, "BuntingBundles") (by decide +kernel)⟩) mj_6 mn_6 mc_6 rfl ⟨by decide +kernel, by decide +kernel, by decide +kernel⟩ (by decide) (Nat.le_of_ble_eq_true rfl) ⟨(Nat.le_of_ble_eq_true rfl), (Nat.le_of_ble_eq_true rfl)⟩ ⟨(Nat.le_of_ble_eq_true rfl), (Nat.le_of_ble_eq_true rfl)⟩ (fun a11 ha11 => ?_)
  subst ha11
  refine lc_ws (ws' := ((h0, .inr (1, [.ref q1, .int 0])) :: (q1, .inl (cR, 5, .inr (.inr (.inr (.inr (va_up (va_up (va_up (va_up (fun _ => none) 0 (some (a3 0))) 1 (some (a5 0))) 2 (some (a7 0))) 3 (some (a9 0)))))))) :: (((((([] : va_W) ++ wL6 cI a3) ++ wL6 cI a5) ++ wL6 cI a7) ++ wL6 cI a9) ++ wL6 cI a11))) rfl ?_
  refine lc_aast E (pc := 31) (n := 5) (j := (4 : Int32)) (ws' := ((h0, .inr (1, [.ref q1, .int 0])) :: (q1, .inl (cR, 5, .inr (.inr (.inr (.inr (va_up (va_up (va_up (va_up (va_up (fun _ => none) 0 (some (a3 0))) 1 (some (a5 0))) 2 (some (a7 0))) 3 (some (a9 0))) 4 (some (a11 0)))))))) :: (((((([] : va_W) ++ wL6 cI a3) ++ wL6 cI a5) ++ wL6 cI a7) ++ wL6 cI a9) ++ wL6 cI a11))) 1 42 dX1_init_31 rfl rfl (by decide +kernel) rfl ?_
  refine lc_iinc E (pc := 32) (v := (5 : Int32)) (lo' := [some (.ref h0), some (.int (5 : Int32))]) dX1_init_32 rfl (by decide +kernel) (Nat.le_of_ble_eq_true rfl) rfl rfl ?_
  refine lc_goto E (pc := 35) (tgt := 14) dX1_init_35 rfl ?_
  refine lc_iload_n E (pc := 14) dX1_init_14 rfl ?_
  refine lc_iconst E (pc := 15) dX1_init_15 kc_5 ?_
  refine lc_geY E (pc := 16) (tgt := 38) dX1_init_16 rfl (by decide) ?_
  exact lc_ret E (pc := 38) (fun k => [h0, q1, a3 0, a3 1, a3 2, a3 3, a3 4, a3 5, a3 6, a3 7, a3 8, a3 9, a5 0, a5 1, a5 2, a5 3, a5 4, a5 5, a5 6, a5 7, a5 8, a5 9, a7 0, a7 1, a7 2, a7 3, a7 4, a7 5, a7 6, a7 7, a7 8, a7 9, a9 0, a9 1, a9 2, a9 3, a9 4, a9 5, a9 6, a9 7, a9 8, a9 9, a11 0, a11 1, a11 2, a11 3, a11 4, a11 5, a11 6, a11 7, a11 8, a11 9].getD k 0) hr hA dX1_init_38 rfl rfl ⟨rfl, rfl⟩
