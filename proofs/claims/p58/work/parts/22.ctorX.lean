def wX8 (cI cR : ClassId) (h0 : Nat) (a2 : Nat → Nat) (a4 : Nat → Nat) (a6 : Nat → Nat) (a8 : Nat → Nat) (a10 : Nat → Nat) (a12 : Nat → Nat) (a14 : Nat → Nat) (a16 : Nat → Nat) (a18 : Nat → Nat) (q19 : Nat) (q20 : Nat) (q21 : Nat) (q22 : Nat) : va_W := ((h0, .inr (8, [.ref (a2 0), .ref (a4 0), .ref (a6 0), .int 0, .ref (a8 0), .ref (a10 0), .int 0, .ref (a12 0), .ref (a14 0), .ref (a16 0), .int 0, .ref (a18 0), .ref q19, .ref q20, .ref q21, .ref q22])) :: (((((((((((((([] : va_W) ++ wL6 cI a2) ++ wL1 cI cR a4) ++ wL6 cI a6) ++ wL7 cI a8) ++ wL2 cI a10) ++ wL4 cI a12) ++ wL0 cI a14) ++ wL3 cI a16) ++ wL5 cI a18) ++ [(q19, .inl (cI, 24, .inl (fun _ => 0)))]) ++ [(q20, .inl (cI, 24, .inl (fun _ => 0)))]) ++ [(q21, .inl (cI, 24, .inl (fun _ => 0)))]) ++ [(q22, .inl (cI, 24, .inl (fun _ => 0)))]))
theorem x8_seg1 {cI cR : ClassId} {h0 : Nat} {a2 : Nat → Nat} {a4 : Nat → Nat} {a6 : Nat → Nat} {a8 : Nat → Nat} {a10 : Nat → Nat} {a12 : Nat → Nat} {a14 : Nat → Nat} {a16 : Nat → Nat} {a18 : Nat → Nat} {q19 : Nat} {q20 : Nat} {q21 : Nat} {q22 : Nat} {j : Nat} {q : Nat × va_E} (h : (wL6 cI a2 : va_W)[j]? = some q) : (wX8 cI cR h0 a2 a4 a6 a8 a10 a12 a14 a16 a18 q19 q20 q21 q22)[1 + j]? = some q := by
  have h1 : (([] : va_W) : va_W).length = 0 := rfl
  rw [show 1 + j = (0 + j) + 1 by omega]
  unfold wX8
  exact (w_c (w_up (w_up (w_up (w_up (w_up (w_up (w_up (w_up (w_up (w_up (w_up (w_up (w_r h1 h))))))))))))))
theorem x8_seg11 {cI cR : ClassId} {h0 : Nat} {a2 : Nat → Nat} {a4 : Nat → Nat} {a6 : Nat → Nat} {a8 : Nat → Nat} {a10 : Nat → Nat} {a12 : Nat → Nat} {a14 : Nat → Nat} {a16 : Nat → Nat} {a18 : Nat → Nat} {q19 : Nat} {q20 : Nat} {q21 : Nat} {q22 : Nat} {j : Nat} {q : Nat × va_E} (h : (wL1 cI cR a4 : va_W)[j]? = some q) : (wX8 cI cR h0 a2 a4 a6 a8 a10 a12 a14 a16 a18 q19 q20 q21 q22)[11 + j]? = some q := by
  have h1 : ((([] : va_W) ++ wL6 cI a2) : va_W).length = 10 := rfl
  rw [show 11 + j = (10 + j) + 1 by omega]
  unfold wX8
  exact (w_c (w_up (w_up (w_up (w_up (w_up (w_up (w_up (w_up (w_up (w_up (w_up (w_r h1 h)))))))))))))
theorem x8_seg63 {cI cR : ClassId} {h0 : Nat} {a2 : Nat → Nat} {a4 : Nat → Nat} {a6 : Nat → Nat} {a8 : Nat → Nat} {a10 : Nat → Nat} {a12 : Nat → Nat} {a14 : Nat → Nat} {a16 : Nat → Nat} {a18 : Nat → Nat} {q19 : Nat} {q20 : Nat} {q21 : Nat} {q22 : Nat} {j : Nat} {q : Nat × va_E} (h : (wL6 cI a6 : va_W)[j]? = some q) : (wX8 cI cR h0 a2 a4 a6 a8 a10 a12 a14 a16 a18 q19 q20 q21 q22)[63 + j]? = some q := by
  have h1 : (((([] : va_W) ++ wL6 cI a2) ++ wL1 cI cR a4) : va_W).length = 62 := rfl
  rw [show 63 + j = (62 + j) + 1 by omega]
  unfold wX8
  exact (w_c (w_up (w_up (w_up (w_up (w_up (w_up (w_up (w_up (w_up (w_up (w_r h1 h))))))))))))
theorem x8_seg73 {cI cR : ClassId} {h0 : Nat} {a2 : Nat → Nat} {a4 : Nat → Nat} {a6 : Nat → Nat} {a8 : Nat → Nat} {a10 : Nat → Nat} {a12 : Nat → Nat} {a14 : Nat → Nat} {a16 : Nat → Nat} {a18 : Nat → Nat} {q19 : Nat} {q20 : Nat} {q21 : Nat} {q22 : Nat} {j : Nat} {q : Nat × va_E} (h : (wL7 cI a8 : va_W)[j]? = some q) : (wX8 cI cR h0 a2 a4 a6 a8 a10 a12 a14 a16 a18 q19 q20 q21 q22)[73 + j]? = some q := by
  have h1 : ((((([] : va_W) ++ wL6 cI a2) ++ wL1 cI cR a4) ++ wL6 cI a6) : va_W).length = 72 := rfl
  rw [show 73 + j = (72 + j) + 1 by omega]
  unfold wX8
  exact (w_c (w_up (w_up (w_up (w_up (w_up (w_up (w_up (w_up (w_up (w_r h1 h)))))))))))
theorem x8_seg75 {cI cR : ClassId} {h0 : Nat} {a2 : Nat → Nat} {a4 : Nat → Nat} {a6 : Nat → Nat} {a8 : Nat → Nat} {a10 : Nat → Nat} {a12 : Nat → Nat} {a14 : Nat → Nat} {a16 : Nat → Nat} {a18 : Nat → Nat} {q19 : Nat} {q20 : Nat} {q21 : Nat} {q22 : Nat} {j : Nat} {q : Nat × va_E} (h : (wL2 cI a10 : va_W)[j]? = some q) : (wX8 cI cR h0 a2 a4 a6 a8 a10 a12 a14 a16 a18 q19 q20 q21 q22)[75 + j]? = some q := by
  have h1 : (((((([] : va_W) ++ wL6 cI a2) ++ wL1 cI cR a4) ++ wL6 cI a6) ++ wL7 cI a8) : va_W).length = 74 := rfl
  rw [show 75 + j = (74 + j) + 1 by omega]
  unfold wX8
  exact (w_c (w_up (w_up (w_up (w_up (w_up (w_up (w_up (w_up (w_r h1 h))))))))))
theorem x8_seg83 {cI cR : ClassId} {h0 : Nat} {a2 : Nat → Nat} {a4 : Nat → Nat} {a6 : Nat → Nat} {a8 : Nat → Nat} {a10 : Nat → Nat} {a12 : Nat → Nat} {a14 : Nat → Nat} {a16 : Nat → Nat} {a18 : Nat → Nat} {q19 : Nat} {q20 : Nat} {q21 : Nat} {q22 : Nat} {j : Nat} {q : Nat × va_E} (h : (wL4 cI a12 : va_W)[j]? = some q) : (wX8 cI cR h0 a2 a4 a6 a8 a10 a12 a14 a16 a18 q19 q20 q21 q22)[83 + j]? = some q := by
  have h1 : ((((((([] : va_W) ++ wL6 cI a2) ++ wL1 cI cR a4) ++ wL6 cI a6) ++ wL7 cI a8) ++ wL2 cI a10) : va_W).length = 82 := rfl
  rw [show 83 + j = (82 + j) + 1 by omega]
  unfold wX8
  exact (w_c (w_up (w_up (w_up (w_up (w_up (w_up (w_up (w_r h1 h)))))))))
theorem x8_seg86 {cI cR : ClassId} {h0 : Nat} {a2 : Nat → Nat} {a4 : Nat → Nat} {a6 : Nat → Nat} {a8 : Nat → Nat} {a10 : Nat → Nat} {a12 : Nat → Nat} {a14 : Nat → Nat} {a16 : Nat → Nat} {a18 : Nat → Nat} {q19 : Nat} {q20 : Nat} {q21 : Nat} {q22 : Nat} {j : Nat} {q : Nat × va_E} (h : (wL0 cI a14 : va_W)[j]? = some q) : (wX8 cI cR h0 a2 a4 a6 a8 a10 a12 a14 a16 a18 q19 q20 q21 q22)[86 + j]? = some q := by
  have h1 : (((((((([] : va_W) ++ wL6 cI a2) ++ wL1 cI cR a4) ++ wL6 cI a6) ++ wL7 cI a8) ++ wL2 cI a10) ++ wL4 cI a12) : va_W).length = 85 := rfl
  rw [show 86 + j = (85 + j) + 1 by omega]
  unfold wX8
  exact (w_c (w_up (w_up (w_up (w_up (w_up (w_up (w_r h1 h))))))))
theorem x8_seg89 {cI cR : ClassId} {h0 : Nat} {a2 : Nat → Nat} {a4 : Nat → Nat} {a6 : Nat → Nat} {a8 : Nat → Nat} {a10 : Nat → Nat} {a12 : Nat → Nat} {a14 : Nat → Nat} {a16 : Nat → Nat} {a18 : Nat → Nat} {q19 : Nat} {q20 : Nat} {q21 : Nat} {q22 : Nat} {j : Nat} {q : Nat × va_E} (h : (wL3 cI a16 : va_W)[j]? = some q) : (wX8 cI cR h0 a2 a4 a6 a8 a10 a12 a14 a16 a18 q19 q20 q21 q22)[89 + j]? = some q := by
  have h1 : ((((((((([] : va_W) ++ wL6 cI a2) ++ wL1 cI cR a4) ++ wL6 cI a6) ++ wL7 cI a8) ++ wL2 cI a10) ++ wL4 cI a12) ++ wL0 cI a14) : va_W).length = 88 := rfl
  rw [show 89 + j = (88 + j) + 1 by omega]
  unfold wX8
  exact (w_c (w_up (w_up (w_up (w_up (w_up (w_r h1 h)))))))
theorem x8_seg92 {cI cR : ClassId} {h0 : Nat} {a2 : Nat → Nat} {a4 : Nat → Nat} {a6 : Nat → Nat} {a8 : Nat → Nat} {a10 : Nat → Nat} {a12 : Nat → Nat} {a14 : Nat → Nat} {a16 : Nat → Nat} {a18 : Nat → Nat} {q19 : Nat} {q20 : Nat} {q21 : Nat} {q22 : Nat} {j : Nat} {q : Nat × va_E} (h : (wL5 cI a18 : va_W)[j]? = some q) : (wX8 cI cR h0 a2 a4 a6 a8 a10 a12 a14 a16 a18 q19 q20 q21 q22)[92 + j]? = some q := by
  have h1 : (((((((((([] : va_W) ++ wL6 cI a2) ++ wL1 cI cR a4) ++ wL6 cI a6) ++ wL7 cI a8) ++ wL2 cI a10) ++ wL4 cI a12) ++ wL0 cI a14) ++ wL3 cI a16) : va_W).length = 91 := rfl
  rw [show 92 + j = (91 + j) + 1 by omega]
  unfold wX8
  exact (w_c (w_up (w_up (w_up (w_up (w_r h1 h))))))
theorem x8_seg97 {cI cR : ClassId} {h0 : Nat} {a2 : Nat → Nat} {a4 : Nat → Nat} {a6 : Nat → Nat} {a8 : Nat → Nat} {a10 : Nat → Nat} {a12 : Nat → Nat} {a14 : Nat → Nat} {a16 : Nat → Nat} {a18 : Nat → Nat} {q19 : Nat} {q20 : Nat} {q21 : Nat} {q22 : Nat} {j : Nat} {q : Nat × va_E} (h : ([(q19, .inl (cI, 24, .inl (fun _ => 0)))] : va_W)[j]? = some q) : (wX8 cI cR h0 a2 a4 a6 a8 a10 a12 a14 a16 a18 q19 q20 q21 q22)[97 + j]? = some q := by
  have h1 : ((((((((((([] : va_W) ++ wL6 cI a2) ++ wL1 cI cR a4) ++ wL6 cI a6) ++ wL7 cI a8) ++ wL2 cI a10) ++ wL4 cI a12) ++ wL0 cI a14) ++ wL3 cI a16) ++ wL5 cI a18) : va_W).length = 96 := rfl
  rw [show 97 + j = (96 + j) + 1 by omega]
  unfold wX8
  exact (w_c (w_up (w_up (w_up (w_r h1 h)))))
theorem x8_seg98 {cI cR : ClassId} {h0 : Nat} {a2 : Nat → Nat} {a4 : Nat → Nat} {a6 : Nat → Nat} {a8 : Nat → Nat} {a10 : Nat → Nat} {a12 : Nat → Nat} {a14 : Nat → Nat} {a16 : Nat → Nat} {a18 : Nat → Nat} {q19 : Nat} {q20 : Nat} {q21 : Nat} {q22 : Nat} {j : Nat} {q : Nat × va_E} (h : ([(q20, .inl (cI, 24, .inl (fun _ => 0)))] : va_W)[j]? = some q) : (wX8 cI cR h0 a2 a4 a6 a8 a10 a12 a14 a16 a18 q19 q20 q21 q22)[98 + j]? = some q := by
  have h1 : (((((((((((([] : va_W) ++ wL6 cI a2) ++ wL1 cI cR a4) ++ wL6 cI a6) ++ wL7 cI a8) ++ wL2 cI a10) ++ wL4 cI a12) ++ wL0 cI a14) ++ wL3 cI a16) ++ wL5 cI a18) ++ [(q19, .inl (cI, 24, .inl (fun _ => 0)))]) : va_W).length = 97 := rfl
  rw [show 98 + j = (97 + j) + 1 by omega]
  unfold wX8
  exact (w_c (w_up (w_up (w_r h1 h))))
theorem x8_seg99 {cI cR : ClassId} {h0 : Nat} {a2 : Nat → Nat} {a4 : Nat → Nat} {a6 : Nat → Nat} {a8 : Nat → Nat} {a10 : Nat → Nat} {a12 : Nat → Nat} {a14 : Nat → Nat} {a16 : Nat → Nat} {a18 : Nat → Nat} {q19 : Nat} {q20 : Nat} {q21 : Nat} {q22 : Nat} {j : Nat} {q : Nat × va_E} (h : ([(q21, .inl (cI, 24, .inl (fun _ => 0)))] : va_W)[j]? = some q) : (wX8 cI cR h0 a2 a4 a6 a8 a10 a12 a14 a16 a18 q19 q20 q21 q22)[99 + j]? = some q := by
  have h1 : ((((((((((((([] : va_W) ++ wL6 cI a2) ++ wL1 cI cR a4) ++ wL6 cI a6) ++ wL7 cI a8) ++ wL2 cI a10) ++ wL4 cI a12) ++ wL0 cI a14) ++ wL3 cI a16) ++ wL5 cI a18) ++ [(q19, .inl (cI, 24, .inl (fun _ => 0)))]) ++ [(q20, .inl (cI, 24, .inl (fun _ => 0)))]) : va_W).length = 98 := rfl
  rw [show 99 + j = (98 + j) + 1 by omega]
  unfold wX8
  exact (w_c (w_up (w_r h1 h)))
theorem x8_seg100 {cI cR : ClassId} {h0 : Nat} {a2 : Nat → Nat} {a4 : Nat → Nat} {a6 : Nat → Nat} {a8 : Nat → Nat} {a10 : Nat → Nat} {a12 : Nat → Nat} {a14 : Nat → Nat} {a16 : Nat → Nat} {a18 : Nat → Nat} {q19 : Nat} {q20 : Nat} {q21 : Nat} {q22 : Nat} {j : Nat} {q : Nat × va_E} (h : ([(q22, .inl (cI, 24, .inl (fun _ => 0)))] : va_W)[j]? = some q) : (wX8 cI cR h0 a2 a4 a6 a8 a10 a12 a14 a16 a18 q19 q20 q21 q22)[100 + j]? = some q := by
  have h1 : (((((((((((((([] : va_W) ++ wL6 cI a2) ++ wL1 cI cR a4) ++ wL6 cI a6) ++ wL7 cI a8) ++ wL2 cI a10) ++ wL4 cI a12) ++ wL0 cI a14) ++ wL3 cI a16) ++ wL5 cI a18) ++ [(q19, .inl (cI, 24, .inl (fun _ => 0)))]) ++ [(q20, .inl (cI, 24, .inl (fun _ => 0)))]) ++ [(q21, .inl (cI, 24, .inl (fun _ => 0)))]) : va_W).length = 99 := rfl
  rw [show 100 + j = (99 + j) + 1 by omega]
  unfold wX8
  exact (w_c (w_r h1 h))
set_option maxRecDepth 100000 in
theorem x8_c1 {cI cR : ClassId} {ad a : Nat → Nat} (g : ∀ j, j < 10 → ad (1 + j) = a j) (j : Nat) (hj : j < 10) : (wL6 cI a)[j]? = some (ad (1 + j), cont cI cR ad (shX (1 + j)) (μ0X (1 + j))) := by
  have hg : wL6 cI a = wL6 cI (fun j => ad (1 + j)) := by
    unfold wL6
    simp only [g 0 (Nat.le_of_ble_eq_true rfl), g 1 (Nat.le_of_ble_eq_true rfl), g 2 (Nat.le_of_ble_eq_true rfl), g 3 (Nat.le_of_ble_eq_true rfl), g 4 (Nat.le_of_ble_eq_true rfl), g 5 (Nat.le_of_ble_eq_true rfl), g 6 (Nat.le_of_ble_eq_true rfl), g 7 (Nat.le_of_ble_eq_true rfl), g 8 (Nat.le_of_ble_eq_true rfl), g 9 (Nat.le_of_ble_eq_true rfl)]
  rw [hg]
  match j, hj with
  | 0, _ => rfl
  | 1, _ => rfl
  | 2, _ => rfl
  | 3, _ => rfl
  | 4, _ => rfl
  | 5, _ => rfl
  | 6, _ => rfl
  | 7, _ => rfl
  | 8, _ => rfl
  | 9, _ => rfl
  | n + 10, h => exact absurd h (by omega)
set_option maxRecDepth 100000 in
theorem x8_c63 {cI cR : ClassId} {ad a : Nat → Nat} (g : ∀ j, j < 10 → ad (63 + j) = a j) (j : Nat) (hj : j < 10) : (wL6 cI a)[j]? = some (ad (63 + j), cont cI cR ad (shX (63 + j)) (μ0X (63 + j))) := by
  have hg : wL6 cI a = wL6 cI (fun j => ad (63 + j)) := by
    unfold wL6
    simp only [g 0 (Nat.le_of_ble_eq_true rfl), g 1 (Nat.le_of_ble_eq_true rfl), g 2 (Nat.le_of_ble_eq_true rfl), g 3 (Nat.le_of_ble_eq_true rfl), g 4 (Nat.le_of_ble_eq_true rfl), g 5 (Nat.le_of_ble_eq_true rfl), g 6 (Nat.le_of_ble_eq_true rfl), g 7 (Nat.le_of_ble_eq_true rfl), g 8 (Nat.le_of_ble_eq_true rfl), g 9 (Nat.le_of_ble_eq_true rfl)]
  rw [hg]
  match j, hj with
  | 0, _ => rfl
  | 1, _ => rfl
  | 2, _ => rfl
  | 3, _ => rfl
  | 4, _ => rfl
  | 5, _ => rfl
  | 6, _ => rfl
  | 7, _ => rfl
  | 8, _ => rfl
  | 9, _ => rfl
  | n + 10, h => exact absurd h (by omega)
set_option maxRecDepth 100000 in
theorem x8_c73 {cI cR : ClassId} {ad a : Nat → Nat} (g : ∀ j, j < 2 → ad (73 + j) = a j) (j : Nat) (hj : j < 2) : (wL7 cI a)[j]? = some (ad (73 + j), cont cI cR ad (shX (73 + j)) (μ0X (73 + j))) := by
  have hg : wL7 cI a = wL7 cI (fun j => ad (73 + j)) := by
    unfold wL7
    simp only [g 0 (Nat.le_of_ble_eq_true rfl), g 1 (Nat.le_of_ble_eq_true rfl)]
  rw [hg]
  match j, hj with
  | 0, _ => rfl
  | 1, _ => rfl
  | n + 2, h => exact absurd h (by omega)
set_option maxRecDepth 100000 in
theorem x8_c75 {cI cR : ClassId} {ad a : Nat → Nat} (g : ∀ j, j < 8 → ad (75 + j) = a j) (j : Nat) (hj : j < 8) : (wL2 cI a)[j]? = some (ad (75 + j), cont cI cR ad (shX (75 + j)) (μ0X (75 + j))) := by
  have hg : wL2 cI a = wL2 cI (fun j => ad (75 + j)) := by
    unfold wL2
    simp only [g 0 (Nat.le_of_ble_eq_true rfl), g 1 (Nat.le_of_ble_eq_true rfl), g 2 (Nat.le_of_ble_eq_true rfl), g 3 (Nat.le_of_ble_eq_true rfl), g 4 (Nat.le_of_ble_eq_true rfl), g 5 (Nat.le_of_ble_eq_true rfl), g 6 (Nat.le_of_ble_eq_true rfl), g 7 (Nat.le_of_ble_eq_true rfl)]
  rw [hg]
  match j, hj with
  | 0, _ => rfl
  | 1, _ => rfl
  | 2, _ => rfl
  | 3, _ => rfl
  | 4, _ => rfl
  | 5, _ => rfl
  | 6, _ => rfl
  | 7, _ => rfl
  | n + 8, h => exact absurd h (by omega)
set_option maxRecDepth 100000 in
theorem x8_c83 {cI cR : ClassId} {ad a : Nat → Nat} (g : ∀ j, j < 3 → ad (83 + j) = a j) (j : Nat) (hj : j < 3) : (wL4 cI a)[j]? = some (ad (83 + j), cont cI cR ad (shX (83 + j)) (μ0X (83 + j))) := by
  have hg : wL4 cI a = wL4 cI (fun j => ad (83 + j)) := by
    unfold wL4
    simp only [g 0 (Nat.le_of_ble_eq_true rfl), g 1 (Nat.le_of_ble_eq_true rfl), g 2 (Nat.le_of_ble_eq_true rfl)]
  rw [hg]
  match j, hj with
  | 0, _ => rfl
  | 1, _ => rfl
  | 2, _ => rfl
  | n + 3, h => exact absurd h (by omega)
set_option maxRecDepth 100000 in
theorem x8_c86 {cI cR : ClassId} {ad a : Nat → Nat} (g : ∀ j, j < 3 → ad (86 + j) = a j) (j : Nat) (hj : j < 3) : (wL0 cI a)[j]? = some (ad (86 + j), cont cI cR ad (shX (86 + j)) (μ0X (86 + j))) := by
  have hg : wL0 cI a = wL0 cI (fun j => ad (86 + j)) := by
    unfold wL0
    simp only [g 0 (Nat.le_of_ble_eq_true rfl), g 1 (Nat.le_of_ble_eq_true rfl), g 2 (Nat.le_of_ble_eq_true rfl)]
  rw [hg]
  match j, hj with
  | 0, _ => rfl
  | 1, _ => rfl
  | 2, _ => rfl
  | n + 3, h => exact absurd h (by omega)
set_option maxRecDepth 100000 in
theorem x8_c89 {cI cR : ClassId} {ad a : Nat → Nat} (g : ∀ j, j < 3 → ad (89 + j) = a j) (j : Nat) (hj : j < 3) : (wL3 cI a)[j]? = some (ad (89 + j), cont cI cR ad (shX (89 + j)) (μ0X (89 + j))) := by
  have hg : wL3 cI a = wL3 cI (fun j => ad (89 + j)) := by
    unfold wL3
    simp only [g 0 (Nat.le_of_ble_eq_true rfl), g 1 (Nat.le_of_ble_eq_true rfl), g 2 (Nat.le_of_ble_eq_true rfl)]
  rw [hg]
  match j, hj with
  | 0, _ => rfl
  | 1, _ => rfl
  | 2, _ => rfl
  | n + 3, h => exact absurd h (by omega)
set_option maxRecDepth 100000 in
theorem x8_c92 {cI cR : ClassId} {ad a : Nat → Nat} (g : ∀ j, j < 5 → ad (92 + j) = a j) (j : Nat) (hj : j < 5) : (wL5 cI a)[j]? = some (ad (92 + j), cont cI cR ad (shX (92 + j)) (μ0X (92 + j))) := by
  have hg : wL5 cI a = wL5 cI (fun j => ad (92 + j)) := by
    unfold wL5
    simp only [g 0 (Nat.le_of_ble_eq_true rfl), g 1 (Nat.le_of_ble_eq_true rfl), g 2 (Nat.le_of_ble_eq_true rfl), g 3 (Nat.le_of_ble_eq_true rfl), g 4 (Nat.le_of_ble_eq_true rfl)]
  rw [hg]
  match j, hj with
  | 0, _ => rfl
  | 1, _ => rfl
  | 2, _ => rfl
  | 3, _ => rfl
  | 4, _ => rfl
  | n + 5, h => exact absurd h (by omega)
set_option maxRecDepth 100000 in
theorem x8_c13 {cI cR : ClassId} {ad a : Nat → Nat} (g : ∀ j, j < 10 → ad (13 + j) = a j) (j : Nat) (hj : j < 10) : (wL6 cI a)[j]? = some (ad (13 + j), cont cI cR ad (shX (13 + j)) (μ0X (13 + j))) := by
  have hg : wL6 cI a = wL6 cI (fun j => ad (13 + j)) := by
    unfold wL6
    simp only [g 0 (Nat.le_of_ble_eq_true rfl), g 1 (Nat.le_of_ble_eq_true rfl), g 2 (Nat.le_of_ble_eq_true rfl), g 3 (Nat.le_of_ble_eq_true rfl), g 4 (Nat.le_of_ble_eq_true rfl), g 5 (Nat.le_of_ble_eq_true rfl), g 6 (Nat.le_of_ble_eq_true rfl), g 7 (Nat.le_of_ble_eq_true rfl), g 8 (Nat.le_of_ble_eq_true rfl), g 9 (Nat.le_of_ble_eq_true rfl)]
  rw [hg]
  match j, hj with
  | 0, _ => rfl
  | 1, _ => rfl
  | 2, _ => rfl
  | 3, _ => rfl
  | 4, _ => rfl
  | 5, _ => rfl
  | 6, _ => rfl
  | 7, _ => rfl
  | 8, _ => rfl
  | 9, _ => rfl
  | n + 10, h => exact absurd h (by omega)
set_option maxRecDepth 100000 in
theorem x8_c23 {cI cR : ClassId} {ad a : Nat → Nat} (g : ∀ j, j < 10 → ad (23 + j) = a j) (j : Nat) (hj : j < 10) : (wL6 cI a)[j]? = some (ad (23 + j), cont cI cR ad (shX (23 + j)) (μ0X (23 + j))) := by
  have hg : wL6 cI a = wL6 cI (fun j => ad (23 + j)) := by
    unfold wL6
    simp only [g 0 (Nat.le_of_ble_eq_true rfl), g 1 (Nat.le_of_ble_eq_true rfl), g 2 (Nat.le_of_ble_eq_true rfl), g 3 (Nat.le_of_ble_eq_true rfl), g 4 (Nat.le_of_ble_eq_true rfl), g 5 (Nat.le_of_ble_eq_true rfl), g 6 (Nat.le_of_ble_eq_true rfl), g 7 (Nat.le_of_ble_eq_true rfl), g 8 (Nat.le_of_ble_eq_true rfl), g 9 (Nat.le_of_ble_eq_true rfl)]
  rw [hg]
  match j, hj with
  | 0, _ => rfl
  | 1, _ => rfl
  | 2, _ => rfl
  | 3, _ => rfl
  | 4, _ => rfl
  | 5, _ => rfl
  | 6, _ => rfl
  | 7, _ => rfl
  | 8, _ => rfl
  | 9, _ => rfl
  | n + 10, h => exact absurd h (by omega)
set_option maxRecDepth 100000 in
theorem x8_c33 {cI cR : ClassId} {ad a : Nat → Nat} (g : ∀ j, j < 10 → ad (33 + j) = a j) (j : Nat) (hj : j < 10) : (wL6 cI a)[j]? = some (ad (33 + j), cont cI cR ad (shX (33 + j)) (μ0X (33 + j))) := by
  have hg : wL6 cI a = wL6 cI (fun j => ad (33 + j)) := by
    unfold wL6
    simp only [g 0 (Nat.le_of_ble_eq_true rfl), g 1 (Nat.le_of_ble_eq_true rfl), g 2 (Nat.le_of_ble_eq_true rfl), g 3 (Nat.le_of_ble_eq_true rfl), g 4 (Nat.le_of_ble_eq_true rfl), g 5 (Nat.le_of_ble_eq_true rfl), g 6 (Nat.le_of_ble_eq_true rfl), g 7 (Nat.le_of_ble_eq_true rfl), g 8 (Nat.le_of_ble_eq_true rfl), g 9 (Nat.le_of_ble_eq_true rfl)]
  rw [hg]
  match j, hj with
  | 0, _ => rfl
  | 1, _ => rfl
  | 2, _ => rfl
  | 3, _ => rfl
  | 4, _ => rfl
  | 5, _ => rfl
  | 6, _ => rfl
  | 7, _ => rfl
  | 8, _ => rfl
  | 9, _ => rfl
  | n + 10, h => exact absurd h (by omega)
set_option maxRecDepth 100000 in
theorem x8_c43 {cI cR : ClassId} {ad a : Nat → Nat} (g : ∀ j, j < 10 → ad (43 + j) = a j) (j : Nat) (hj : j < 10) : (wL6 cI a)[j]? = some (ad (43 + j), cont cI cR ad (shX (43 + j)) (μ0X (43 + j))) := by
  have hg : wL6 cI a = wL6 cI (fun j => ad (43 + j)) := by
    unfold wL6
    simp only [g 0 (Nat.le_of_ble_eq_true rfl), g 1 (Nat.le_of_ble_eq_true rfl), g 2 (Nat.le_of_ble_eq_true rfl), g 3 (Nat.le_of_ble_eq_true rfl), g 4 (Nat.le_of_ble_eq_true rfl), g 5 (Nat.le_of_ble_eq_true rfl), g 6 (Nat.le_of_ble_eq_true rfl), g 7 (Nat.le_of_ble_eq_true rfl), g 8 (Nat.le_of_ble_eq_true rfl), g 9 (Nat.le_of_ble_eq_true rfl)]
  rw [hg]
  match j, hj with
  | 0, _ => rfl
  | 1, _ => rfl
  | 2, _ => rfl
  | 3, _ => rfl
  | 4, _ => rfl
  | 5, _ => rfl
  | 6, _ => rfl
  | 7, _ => rfl
  | 8, _ => rfl
  | 9, _ => rfl
  | n + 10, h => exact absurd h (by omega)
set_option maxRecDepth 100000 in
theorem x8_c53 {cI cR : ClassId} {ad a : Nat → Nat} (g : ∀ j, j < 10 → ad (53 + j) = a j) (j : Nat) (hj : j < 10) : (wL6 cI a)[j]? = some (ad (53 + j), cont cI cR ad (shX (53 + j)) (μ0X (53 + j))) := by
  have hg : wL6 cI a = wL6 cI (fun j => ad (53 + j)) := by
    unfold wL6
    simp only [g 0 (Nat.le_of_ble_eq_true rfl), g 1 (Nat.le_of_ble_eq_true rfl), g 2 (Nat.le_of_ble_eq_true rfl), g 3 (Nat.le_of_ble_eq_true rfl), g 4 (Nat.le_of_ble_eq_true rfl), g 5 (Nat.le_of_ble_eq_true rfl), g 6 (Nat.le_of_ble_eq_true rfl), g 7 (Nat.le_of_ble_eq_true rfl), g 8 (Nat.le_of_ble_eq_true rfl), g 9 (Nat.le_of_ble_eq_true rfl)]
  rw [hg]
  match j, hj with
  | 0, _ => rfl
  | 1, _ => rfl
  | 2, _ => rfl
  | 3, _ => rfl
  | 4, _ => rfl
  | 5, _ => rfl
  | 6, _ => rfl
  | 7, _ => rfl
  | 8, _ => rfl
  | 9, _ => rfl
  | n + 10, h => exact absurd h (by omega)
theorem x8_h {cI cR : ClassId} {ad a : Nat → Nat} (g : ∀ j, j < 52 → ad (11 + j) = a j) (j : Nat) (hj : j < 52) (h1 : j ≠ 1) : (wL1 cI cR a)[j]? = some (ad (11 + j), cont cI cR ad (shX (11 + j)) (μ0X (11 + j))) := by
  by_cases h0 : j = 0
  · subst h0
    have hg : (wL1 cI cR a)[0]? = some (a 0, .inr (1, [.ref (a 1), .int 0])) := rfl
    rw [hg, ← g 0 (by decide), ← g 1 (by decide)]
    rfl
  by_cases h2 : j < 12
  · have h : (wL1 cI cR a)[(0 + (j - 2)) + 1 + 1]? = some (ad (13 + (j - 2)), cont cI cR ad (shX (13 + (j - 2))) (μ0X (13 + (j - 2)))) := by
      unfold wL1
      exact w_c (w_c (w_up (w_up (w_up (w_up (w_r (b := 0) (j := j - 2) (w := ([] : va_W)) rfl (x8_c13 (fun j hj => by have := g (2 + j) (by omega); rw [show 11 + (2 + j) = 13 + j by omega] at this; exact this) (j - 2) (by omega))))))))
    rw [show 0 + (j - 2) + 1 + 1 = j by omega, show 13 + (j - 2) = 11 + j by omega] at h
    exact h
  by_cases h3 : j < 22
  · have h : (wL1 cI cR a)[(10 + (j - 12)) + 1 + 1]? = some (ad (23 + (j - 12)), cont cI cR ad (shX (23 + (j - 12))) (μ0X (23 + (j - 12)))) := by
      unfold wL1
      exact w_c (w_c (w_up (w_up (w_up (w_r (b := 10) (j := j - 12) (w := (([] : va_W) ++ wL6 cI (fun k => a (2 + k)))) rfl (x8_c23 (fun j hj => by have := g (12 + j) (by omega); rw [show 11 + (12 + j) = 23 + j by omega] at this; exact this) (j - 12) (by omega)))))))
    rw [show 10 + (j - 12) + 1 + 1 = j by omega, show 23 + (j - 12) = 11 + j by omega] at h
    exact h
  by_cases h4 : j < 32
  · have h : (wL1 cI cR a)[(20 + (j - 22)) + 1 + 1]? = some (ad (33 + (j - 22)), cont cI cR ad (shX (33 + (j - 22))) (μ0X (33 + (j - 22)))) := by
      unfold wL1
      exact w_c (w_c (w_up (w_up (w_r (b := 20) (j := j - 22) (w := ((([] : va_W) ++ wL6 cI (fun k => a (2 + k))) ++ wL6 cI (fun k => a (12 + k)))) rfl (x8_c33 (fun j hj => by have := g (22 + j) (by omega); rw [show 11 + (22 + j) = 33 + j by omega] at this; exact this) (j - 22) (by omega))))))
    rw [show 20 + (j - 22) + 1 + 1 = j by omega, show 33 + (j - 22) = 11 + j by omega] at h
    exact h
  by_cases h5 : j < 42
  · have h : (wL1 cI cR a)[(30 + (j - 32)) + 1 + 1]? = some (ad (43 + (j - 32)), cont cI cR ad (shX (43 + (j - 32))) (μ0X (43 + (j - 32)))) := by
      unfold wL1
      exact w_c (w_c (w_up (w_r (b := 30) (j := j - 32) (w := (((([] : va_W) ++ wL6 cI (fun k => a (2 + k))) ++ wL6 cI (fun k => a (12 + k))) ++ wL6 cI (fun k => a (22 + k)))) rfl (x8_c43 (fun j hj => by have := g (32 + j) (by omega); rw [show 11 + (32 + j) = 43 + j by omega] at this; exact this) (j - 32) (by omega)))))
    rw [show 30 + (j - 32) + 1 + 1 = j by omega, show 43 + (j - 32) = 11 + j by omega] at h
    exact h
  by_cases h6 : j < 52
  · have h : (wL1 cI cR a)[(40 + (j - 42)) + 1 + 1]? = some (ad (53 + (j - 42)), cont cI cR ad (shX (53 + (j - 42))) (μ0X (53 + (j - 42)))) := by
      unfold wL1
      exact w_c (w_c (w_r (b := 40) (j := j - 42) (w := ((((([] : va_W) ++ wL6 cI (fun k => a (2 + k))) ++ wL6 cI (fun k => a (12 + k))) ++ wL6 cI (fun k => a (22 + k))) ++ wL6 cI (fun k => a (32 + k)))) rfl (x8_c53 (fun j hj => by have := g (42 + j) (by omega); rw [show 11 + (42 + j) = 53 + j by omega] at this; exact this) (j - 42) (by omega))))
    rw [show 40 + (j - 42) + 1 + 1 = j by omega, show 53 + (j - 42) = 11 + j by omega] at h
    exact h
  exact absurd hj (by omega)
set_option maxRecDepth 100000 in
theorem x8_at {cI cR : ClassId} {ad : Nat → Nat} {h0 : Nat} {a2 : Nat → Nat} {a4 : Nat → Nat} {a6 : Nat → Nat} {a8 : Nat → Nat} {a10 : Nat → Nat} {a12 : Nat → Nat} {a14 : Nat → Nat} {a16 : Nat → Nat} {a18 : Nat → Nat} {q19 : Nat} {q20 : Nat} {q21 : Nat} {q22 : Nat} (g0 : ad 0 = h0) (ga2 : ∀ j, j < 10 → ad (1 + j) = a2 j) (ga4 : ∀ j, j < 52 → ad (11 + j) = a4 j) (ga6 : ∀ j, j < 10 → ad (63 + j) = a6 j) (ga8 : ∀ j, j < 2 → ad (73 + j) = a8 j) (ga10 : ∀ j, j < 8 → ad (75 + j) = a10 j) (ga12 : ∀ j, j < 3 → ad (83 + j) = a12 j) (ga14 : ∀ j, j < 3 → ad (86 + j) = a14 j) (ga16 : ∀ j, j < 3 → ad (89 + j) = a16 j) (ga18 : ∀ j, j < 5 → ad (92 + j) = a18 j) (gq19 : ad 97 = q19) (gq20 : ad 98 = q20) (gq21 : ad 99 = q21) (gq22 : ad 100 = q22) (k : Nat) (hk : k < 101) (h12 : k ≠ 12) : (wX8 cI cR h0 a2 a4 a6 a8 a10 a12 a14 a16 a18 q19 q20 q21 q22)[k]? = some (ad k, cont cI cR ad (shX k) (μ0X k)) := by
  by_cases u0 : k = 0
  · subst u0
    have hg : (wX8 cI cR h0 a2 a4 a6 a8 a10 a12 a14 a16 a18 q19 q20 q21 q22)[0]? = some (h0, .inr (8, [.ref (a2 0), .ref (a4 0), .ref (a6 0), .int 0, .ref (a8 0), .ref (a10 0), .int 0, .ref (a12 0), .ref (a14 0), .ref (a16 0), .int 0, .ref (a18 0), .ref q19, .ref q20, .ref q21, .ref q22])) := rfl
    rw [hg, ← ga2 0 (Nat.le_of_ble_eq_true rfl), ← ga4 0 (Nat.le_of_ble_eq_true rfl), ← ga6 0 (Nat.le_of_ble_eq_true rfl), ← ga8 0 (Nat.le_of_ble_eq_true rfl), ← ga10 0 (Nat.le_of_ble_eq_true rfl), ← ga12 0 (Nat.le_of_ble_eq_true rfl), ← ga14 0 (Nat.le_of_ble_eq_true rfl), ← ga16 0 (Nat.le_of_ble_eq_true rfl), ← ga18 0 (Nat.le_of_ble_eq_true rfl), ← gq19, ← gq20, ← gq21, ← gq22, ← g0]
    rfl
  by_cases u1 : k < 11
  · have h := x8_seg1 (cI := cI) (cR := cR) (h0 := h0) (a2 := a2) (a4 := a4) (a6 := a6) (a8 := a8) (a10 := a10) (a12 := a12) (a14 := a14) (a16 := a16) (a18 := a18) (q19 := q19) (q20 := q20) (q21 := q21) (q22 := q22) (x8_c1 (cI := cI) (cR := cR) ga2 (k - 1) (by omega))
    rw [show 1 + (k - 1) = k by omega] at h
    exact h
  by_cases u11 : k < 63
  · have h := x8_seg11 (cI := cI) (cR := cR) (h0 := h0) (a2 := a2) (a4 := a4) (a6 := a6) (a8 := a8) (a10 := a10) (a12 := a12) (a14 := a14) (a16 := a16) (a18 := a18) (q19 := q19) (q20 := q20) (q21 := q21) (q22 := q22) (x8_h (cI := cI) (cR := cR) ga4 (k - 11) (by omega) (by omega))
    rw [show 11 + (k - 11) = k by omega] at h
    exact h
  by_cases u63 : k < 73
  · have h := x8_seg63 (cI := cI) (cR := cR) (h0 := h0) (a2 := a2) (a4 := a4) (a6 := a6) (a8 := a8) (a10 := a10) (a12 := a12) (a14 := a14) (a16 := a16) (a18 := a18) (q19 := q19) (q20 := q20) (q21 := q21) (q22 := q22) (x8_c63 (cI := cI) (cR := cR) ga6 (k - 63) (by omega))
    rw [show 63 + (k - 63) = k by omega] at h
    exact h
  by_cases u73 : k < 75
  · have h := x8_seg73 (cI := cI) (cR := cR) (h0 := h0) (a2 := a2) (a4 := a4) (a6 := a6) (a8 := a8) (a10 := a10) (a12 := a12) (a14 := a14) (a16 := a16) (a18 := a18) (q19 := q19) (q20 := q20) (q21 := q21) (q22 := q22) (x8_c73 (cI := cI) (cR := cR) ga8 (k - 73) (by omega))
    rw [show 73 + (k - 73) = k by omega] at h
    exact h
  by_cases u75 : k < 83
  · have h := x8_seg75 (cI := cI) (cR := cR) (h0 := h0) (a2 := a2) (a4 := a4) (a6 := a6) (a8 := a8) (a10 := a10) (a12 := a12) (a14 := a14) (a16 := a16) (a18 := a18) (q19 := q19) (q20 := q20) (q21 := q21) (q22 := q22) (x8_c75 (cI := cI) (cR := cR) ga10 (k - 75) (by omega))
    rw [show 75 + (k - 75) = k by omega] at h
    exact h
  by_cases u83 : k < 86
  · have h := x8_seg83 (cI := cI) (cR := cR) (h0 := h0) (a2 := a2) (a4 := a4) (a6 := a6) (a8 := a8) (a10 := a10) (a12 := a12) (a14 := a14) (a16 := a16) (a18 := a18) (q19 := q19) (q20 := q20) (q21 := q21) (q22 := q22) (x8_c83 (cI := cI) (cR := cR) ga12 (k - 83) (by omega))
    rw [show 83 + (k - 83) = k by omega] at h
    exact h
  by_cases u86 : k < 89
  · have h := x8_seg86 (cI := cI) (cR := cR) (h0 := h0) (a2 := a2) (a4 := a4) (a6 := a6) (a8 := a8) (a10 := a10) (a12 := a12) (a14 := a14) (a16 := a16) (a18 := a18) (q19 := q19) (q20 := q20) (q21 := q21) (q22 := q22) (x8_c86 (cI := cI) (cR := cR) ga14 (k - 86) (by omega))
    rw [show 86 + (k - 86) = k by omega] at h
    exact h
  by_cases u89 : k < 92
  · have h := x8_seg89 (cI := cI) (cR := cR) (h0 := h0) (a2 := a2) (a4 := a4) (a6 := a6) (a8 := a8) (a10 := a10) (a12 := a12) (a14 := a14) (a16 := a16) (a18 := a18) (q19 := q19) (q20 := q20) (q21 := q21) (q22 := q22) (x8_c89 (cI := cI) (cR := cR) ga16 (k - 89) (by omega))
    rw [show 89 + (k - 89) = k by omega] at h
    exact h
  by_cases u92 : k < 97
  · have h := x8_seg92 (cI := cI) (cR := cR) (h0 := h0) (a2 := a2) (a4 := a4) (a6 := a6) (a8 := a8) (a10 := a10) (a12 := a12) (a14 := a14) (a16 := a16) (a18 := a18) (q19 := q19) (q20 := q20) (q21 := q21) (q22 := q22) (x8_c92 (cI := cI) (cR := cR) ga18 (k - 92) (by omega))
    rw [show 92 + (k - 92) = k by omega] at h
    exact h
  by_cases u97 : k < 98
  · have hk9 : k = 97 := by omega
    subst hk9
    have h : (wX8 cI cR h0 a2 a4 a6 a8 a10 a12 a14 a16 a18 q19 q20 q21 q22)[97]? = some (q19, .inl (cI, 24, .inl (fun _ => 0))) := x8_seg97 (j := 0) rfl
    rw [h, ← gq19]
    rfl
  by_cases u98 : k < 99
  · have hk9 : k = 98 := by omega
    subst hk9
    have h : (wX8 cI cR h0 a2 a4 a6 a8 a10 a12 a14 a16 a18 q19 q20 q21 q22)[98]? = some (q20, .inl (cI, 24, .inl (fun _ => 0))) := x8_seg98 (j := 0) rfl
    rw [h, ← gq20]
    rfl
  by_cases u99 : k < 100
  · have hk9 : k = 99 := by omega
    subst hk9
    have h : (wX8 cI cR h0 a2 a4 a6 a8 a10 a12 a14 a16 a18 q19 q20 q21 q22)[99]? = some (q21, .inl (cI, 24, .inl (fun _ => 0))) := x8_seg99 (j := 0) rfl
    rw [h, ← gq21]
    rfl
  by_cases u100 : k < 101
  · have hk9 : k = 100 := by omega
    subst hk9
    have h : (wX8 cI cR h0 a2 a4 a6 a8 a10 a12 a14 a16 a18 q19 q20 q21 q22)[100]? = some (q22, .inl (cI, 24, .inl (fun _ => 0))) := x8_seg100 (j := 0) rfl
    rw [h, ← gq22]
    rfl
  exact absurd hk (by omega)
theorem x8_12 {cI cR : ClassId} {ad : Nat → Nat} {h0 : Nat} {a2 : Nat → Nat} {a4 : Nat → Nat} {a6 : Nat → Nat} {a8 : Nat → Nat} {a10 : Nat → Nat} {a12 : Nat → Nat} {a14 : Nat → Nat} {a16 : Nat → Nat} {a18 : Nat → Nat} {q19 : Nat} {q20 : Nat} {q21 : Nat} {q22 : Nat} (g0 : ad 0 = h0) (ga2 : ∀ j, j < 10 → ad (1 + j) = a2 j) (ga4 : ∀ j, j < 52 → ad (11 + j) = a4 j) (ga6 : ∀ j, j < 10 → ad (63 + j) = a6 j) (ga8 : ∀ j, j < 2 → ad (73 + j) = a8 j) (ga10 : ∀ j, j < 8 → ad (75 + j) = a10 j) (ga12 : ∀ j, j < 3 → ad (83 + j) = a12 j) (ga14 : ∀ j, j < 3 → ad (86 + j) = a14 j) (ga16 : ∀ j, j < 3 → ad (89 + j) = a16 j) (ga18 : ∀ j, j < 5 → ad (92 + j) = a18 j) (gq19 : ad 97 = q19) (gq20 : ad 98 = q20) (gq21 : ad 99 = q21) (gq22 : ad 100 = q22) : (wX8 cI cR h0 a2 a4 a6 a8 a10 a12 a14 a16 a18 q19 q20 q21 q22)[12]? = some (ad 12, .inl (cR, 5, .inr (.inr (.inr (.inr (rows0 ad)))))) := by
  have h := x8_seg11 (cI := cI) (cR := cR) (h0 := h0) (a2 := a2) (a4 := a4) (a6 := a6) (a8 := a8) (a10 := a10) (a12 := a12) (a14 := a14) (a16 := a16) (a18 := a18) (q19 := q19) (q20 := q20) (q21 := q21) (q22 := q22) (j := 1) (q := _) rfl
  rw [← ga4 1 (by decide), ← ga4 2 (by decide), ← ga4 12 (by decide), ← ga4 22 (by decide), ← ga4 32 (by decide), ← ga4 42 (by decide)] at h
  exact h
def adOf (w : va_W) (k : Nat) : Nat := (w[k]?.map (fun q => q.1)).getD 0
theorem adOf_eq {w : va_W} {k a : Nat} {e : va_E} (h : w[k]? = some (a, e)) : adOf w k = a := by
  unfold adOf
  rw [h]
  rfl
set_option maxRecDepth 100000 in
theorem x8_a1 {cI cR : ClassId} (a : Nat → Nat) (j : Nat) (hj : j < 10) : ∃ e, (wL6 cI a)[j]? = some (a j, e) := by
  match j, hj with
  | 0, _ => exact ⟨_, rfl⟩
  | 1, _ => exact ⟨_, rfl⟩
  | 2, _ => exact ⟨_, rfl⟩
  | 3, _ => exact ⟨_, rfl⟩
  | 4, _ => exact ⟨_, rfl⟩
  | 5, _ => exact ⟨_, rfl⟩
  | 6, _ => exact ⟨_, rfl⟩
  | 7, _ => exact ⟨_, rfl⟩
  | 8, _ => exact ⟨_, rfl⟩
  | 9, _ => exact ⟨_, rfl⟩
  | n + 10, h => exact absurd h (by omega)
set_option maxRecDepth 100000 in
theorem x8_a11 {cI cR : ClassId} (a : Nat → Nat) (j : Nat) (hj : j < 52) : ∃ e, (wL1 cI cR a)[j]? = some (a j, e) := by
  match j, hj with
  | 0, _ => exact ⟨_, rfl⟩
  | 1, _ => exact ⟨_, rfl⟩
  | 2, _ => exact ⟨_, rfl⟩
  | 3, _ => exact ⟨_, rfl⟩
  | 4, _ => exact ⟨_, rfl⟩
  | 5, _ => exact ⟨_, rfl⟩
  | 6, _ => exact ⟨_, rfl⟩
  | 7, _ => exact ⟨_, rfl⟩
  | 8, _ => exact ⟨_, rfl⟩
  | 9, _ => exact ⟨_, rfl⟩
  | 10, _ => exact ⟨_, rfl⟩
  | 11, _ => exact ⟨_, rfl⟩
  | 12, _ => exact ⟨_, rfl⟩
  | 13, _ => exact ⟨_, rfl⟩
  | 14, _ => exact ⟨_, rfl⟩
  | 15, _ => exact ⟨_, rfl⟩
  | 16, _ => exact ⟨_, rfl⟩
  | 17, _ => exact ⟨_, rfl⟩
  | 18, _ => exact ⟨_, rfl⟩
  | 19, _ => exact ⟨_, rfl⟩
  | 20, _ => exact ⟨_, rfl⟩
  | 21, _ => exact ⟨_, rfl⟩
  | 22, _ => exact ⟨_, rfl⟩
  | 23, _ => exact ⟨_, rfl⟩
  | 24, _ => exact ⟨_, rfl⟩
  | 25, _ => exact ⟨_, rfl⟩
  | 26, _ => exact ⟨_, rfl⟩
  | 27, _ => exact ⟨_, rfl⟩
  | 28, _ => exact ⟨_, rfl⟩
  | 29, _ => exact ⟨_, rfl⟩
  | 30, _ => exact ⟨_, rfl⟩
  | 31, _ => exact ⟨_, rfl⟩
  | 32, _ => exact ⟨_, rfl⟩
  | 33, _ => exact ⟨_, rfl⟩
  | 34, _ => exact ⟨_, rfl⟩
  | 35, _ => exact ⟨_, rfl⟩
  | 36, _ => exact ⟨_, rfl⟩
  | 37, _ => exact ⟨_, rfl⟩
  | 38, _ => exact ⟨_, rfl⟩
  | 39, _ => exact ⟨_, rfl⟩
  | 40, _ => exact ⟨_, rfl⟩
  | 41, _ => exact ⟨_, rfl⟩
  | 42, _ => exact ⟨_, rfl⟩
  | 43, _ => exact ⟨_, rfl⟩
  | 44, _ => exact ⟨_, rfl⟩
  | 45, _ => exact ⟨_, rfl⟩
  | 46, _ => exact ⟨_, rfl⟩
  | 47, _ => exact ⟨_, rfl⟩
  | 48, _ => exact ⟨_, rfl⟩
  | 49, _ => exact ⟨_, rfl⟩
  | 50, _ => exact ⟨_, rfl⟩
  | 51, _ => exact ⟨_, rfl⟩
  | n + 52, h => exact absurd h (by omega)
set_option maxRecDepth 100000 in
theorem x8_a63 {cI cR : ClassId} (a : Nat → Nat) (j : Nat) (hj : j < 10) : ∃ e, (wL6 cI a)[j]? = some (a j, e) := by
  match j, hj with
  | 0, _ => exact ⟨_, rfl⟩
  | 1, _ => exact ⟨_, rfl⟩
  | 2, _ => exact ⟨_, rfl⟩
  | 3, _ => exact ⟨_, rfl⟩
  | 4, _ => exact ⟨_, rfl⟩
  | 5, _ => exact ⟨_, rfl⟩
  | 6, _ => exact ⟨_, rfl⟩
  | 7, _ => exact ⟨_, rfl⟩
  | 8, _ => exact ⟨_, rfl⟩
  | 9, _ => exact ⟨_, rfl⟩
  | n + 10, h => exact absurd h (by omega)
set_option maxRecDepth 100000 in
theorem x8_a73 {cI cR : ClassId} (a : Nat → Nat) (j : Nat) (hj : j < 2) : ∃ e, (wL7 cI a)[j]? = some (a j, e) := by
  match j, hj with
  | 0, _ => exact ⟨_, rfl⟩
  | 1, _ => exact ⟨_, rfl⟩
  | n + 2, h => exact absurd h (by omega)
set_option maxRecDepth 100000 in
theorem x8_a75 {cI cR : ClassId} (a : Nat → Nat) (j : Nat) (hj : j < 8) : ∃ e, (wL2 cI a)[j]? = some (a j, e) := by
  match j, hj with
  | 0, _ => exact ⟨_, rfl⟩
  | 1, _ => exact ⟨_, rfl⟩
  | 2, _ => exact ⟨_, rfl⟩
  | 3, _ => exact ⟨_, rfl⟩
  | 4, _ => exact ⟨_, rfl⟩
  | 5, _ => exact ⟨_, rfl⟩
  | 6, _ => exact ⟨_, rfl⟩
  | 7, _ => exact ⟨_, rfl⟩
  | n + 8, h => exact absurd h (by omega)
set_option maxRecDepth 100000 in
theorem x8_a83 {cI cR : ClassId} (a : Nat → Nat) (j : Nat) (hj : j < 3) : ∃ e, (wL4 cI a)[j]? = some (a j, e) := by
  match j, hj with
  | 0, _ => exact ⟨_, rfl⟩
  | 1, _ => exact ⟨_, rfl⟩
  | 2, _ => exact ⟨_, rfl⟩
  | n + 3, h => exact absurd h (by omega)
set_option maxRecDepth 100000 in
theorem x8_a86 {cI cR : ClassId} (a : Nat → Nat) (j : Nat) (hj : j < 3) : ∃ e, (wL0 cI a)[j]? = some (a j, e) := by
  match j, hj with
  | 0, _ => exact ⟨_, rfl⟩
  | 1, _ => exact ⟨_, rfl⟩
  | 2, _ => exact ⟨_, rfl⟩
  | n + 3, h => exact absurd h (by omega)
set_option maxRecDepth 100000 in
theorem x8_a89 {cI cR : ClassId} (a : Nat → Nat) (j : Nat) (hj : j < 3) : ∃ e, (wL3 cI a)[j]? = some (a j, e) := by
  match j, hj with
  | 0, _ => exact ⟨_, rfl⟩
  | 1, _ => exact ⟨_, rfl⟩
  | 2, _ => exact ⟨_, rfl⟩
  | n + 3, h => exact absurd h (by omega)
set_option maxRecDepth 100000 in
theorem x8_a92 {cI cR : ClassId} (a : Nat → Nat) (j : Nat) (hj : j < 5) : ∃ e, (wL5 cI a)[j]? = some (a j, e) := by
  match j, hj with
  | 0, _ => exact ⟨_, rfl⟩
  | 1, _ => exact ⟨_, rfl⟩
  | 2, _ => exact ⟨_, rfl⟩
  | 3, _ => exact ⟨_, rfl⟩
  | 4, _ => exact ⟨_, rfl⟩
  | n + 5, h => exact absurd h (by omega)
theorem dX8_init_0 : decode cX8_init 0 = .ok (.aload_n 0, 1) := by decide +kernel
theorem dX8_init_1 : decode cX8_init 1 = .ok (.invokespecial 3, 3) := by decide +kernel
theorem dX8_init_4 : decode cX8_init 4 = .ok (.aload_n 0, 1) := by decide +kernel
theorem dX8_init_5 : decode cX8_init 5 = .ok (.new 9, 3) := by decide +kernel
theorem dX8_init_8 : decode cX8_init 8 = .ok (.dup, 1) := by decide +kernel
theorem dX8_init_9 : decode cX8_init 9 = .ok (.invokespecial 11, 3) := by decide +kernel
theorem dX8_init_12 : decode cX8_init 12 = .ok (.putfield 12, 3) := by decide +kernel
theorem dX8_init_15 : decode cX8_init 15 = .ok (.aload_n 0, 1) := by decide +kernel
theorem dX8_init_16 : decode cX8_init 16 = .ok (.new 16, 3) := by decide +kernel
theorem dX8_init_19 : decode cX8_init 19 = .ok (.dup, 1) := by decide +kernel
theorem dX8_init_20 : decode cX8_init 20 = .ok (.invokespecial 18, 3) := by decide +kernel
theorem dX8_init_23 : decode cX8_init 23 = .ok (.putfield 19, 3) := by decide +kernel
theorem dX8_init_26 : decode cX8_init 26 = .ok (.aload_n 0, 1) := by decide +kernel
theorem dX8_init_27 : decode cX8_init 27 = .ok (.new 9, 3) := by decide +kernel
theorem dX8_init_30 : decode cX8_init 30 = .ok (.dup, 1) := by decide +kernel
theorem dX8_init_31 : decode cX8_init 31 = .ok (.invokespecial 11, 3) := by decide +kernel
theorem dX8_init_34 : decode cX8_init 34 = .ok (.putfield 23, 3) := by decide +kernel
theorem dX8_init_37 : decode cX8_init 37 = .ok (.aload_n 0, 1) := by decide +kernel
theorem dX8_init_38 : decode cX8_init 38 = .ok (.new 26, 3) := by decide +kernel
theorem dX8_init_41 : decode cX8_init 41 = .ok (.dup, 1) := by decide +kernel
theorem dX8_init_42 : decode cX8_init 42 = .ok (.invokespecial 28, 3) := by decide +kernel
theorem dX8_init_45 : decode cX8_init 45 = .ok (.putfield 29, 3) := by decide +kernel
theorem dX8_init_48 : decode cX8_init 48 = .ok (.aload_n 0, 1) := by decide +kernel
theorem dX8_init_49 : decode cX8_init 49 = .ok (.new 33, 3) := by decide +kernel
theorem dX8_init_52 : decode cX8_init 52 = .ok (.dup, 1) := by decide +kernel
theorem dX8_init_53 : decode cX8_init 53 = .ok (.invokespecial 35, 3) := by decide +kernel
theorem dX8_init_56 : decode cX8_init 56 = .ok (.putfield 36, 3) := by decide +kernel
theorem dX8_init_59 : decode cX8_init 59 = .ok (.aload_n 0, 1) := by decide +kernel
theorem dX8_init_60 : decode cX8_init 60 = .ok (.new 40, 3) := by decide +kernel
theorem dX8_init_63 : decode cX8_init 63 = .ok (.dup, 1) := by decide +kernel
theorem dX8_init_64 : decode cX8_init 64 = .ok (.invokespecial 42, 3) := by decide +kernel
theorem dX8_init_67 : decode cX8_init 67 = .ok (.putfield 43, 3) := by decide +kernel
theorem dX8_init_70 : decode cX8_init 70 = .ok (.aload_n 0, 1) := by decide +kernel
theorem dX8_init_71 : decode cX8_init 71 = .ok (.new 47, 3) := by decide +kernel
theorem dX8_init_74 : decode cX8_init 74 = .ok (.dup, 1) := by decide +kernel
theorem dX8_init_75 : decode cX8_init 75 = .ok (.invokespecial 49, 3) := by decide +kernel
theorem dX8_init_78 : decode cX8_init 78 = .ok (.putfield 50, 3) := by decide +kernel
theorem dX8_init_81 : decode cX8_init 81 = .ok (.aload_n 0, 1) := by decide +kernel
theorem dX8_init_82 : decode cX8_init 82 = .ok (.new 54, 3) := by decide +kernel
theorem dX8_init_85 : decode cX8_init 85 = .ok (.dup, 1) := by decide +kernel
theorem dX8_init_86 : decode cX8_init 86 = .ok (.invokespecial 56, 3) := by decide +kernel
theorem dX8_init_89 : decode cX8_init 89 = .ok (.putfield 57, 3) := by decide +kernel
theorem dX8_init_92 : decode cX8_init 92 = .ok (.aload_n 0, 1) := by decide +kernel
theorem dX8_init_93 : decode cX8_init 93 = .ok (.new 61, 3) := by decide +kernel
theorem dX8_init_96 : decode cX8_init 96 = .ok (.dup, 1) := by decide +kernel
theorem dX8_init_97 : decode cX8_init 97 = .ok (.invokespecial 63, 3) := by decide +kernel
theorem dX8_init_100 : decode cX8_init 100 = .ok (.putfield 64, 3) := by decide +kernel
theorem dX8_init_103 : decode cX8_init 103 = .ok (.aload_n 0, 1) := by decide +kernel
theorem dX8_init_104 : decode cX8_init 104 = .ok (.bipush 24, 2) := by decide +kernel
theorem dX8_init_106 : decode cX8_init 106 = .ok (.newarray .int, 2) := by decide +kernel
theorem dX8_init_108 : decode cX8_init 108 = .ok (.putfield 68, 3) := by decide +kernel
theorem dX8_init_111 : decode cX8_init 111 = .ok (.aload_n 0, 1) := by decide +kernel
theorem dX8_init_112 : decode cX8_init 112 = .ok (.bipush 24, 2) := by decide +kernel
theorem dX8_init_114 : decode cX8_init 114 = .ok (.newarray .int, 2) := by decide +kernel
theorem dX8_init_116 : decode cX8_init 116 = .ok (.putfield 72, 3) := by decide +kernel
theorem dX8_init_119 : decode cX8_init 119 = .ok (.aload_n 0, 1) := by decide +kernel
theorem dX8_init_120 : decode cX8_init 120 = .ok (.bipush 24, 2) := by decide +kernel
theorem dX8_init_122 : decode cX8_init 122 = .ok (.newarray .int, 2) := by decide +kernel
theorem dX8_init_124 : decode cX8_init 124 = .ok (.putfield 75, 3) := by decide +kernel
theorem dX8_init_127 : decode cX8_init 127 = .ok (.aload_n 0, 1) := by decide +kernel
theorem dX8_init_128 : decode cX8_init 128 = .ok (.bipush 24, 2) := by decide +kernel
theorem dX8_init_130 : decode cX8_init 130 = .ok (.newarray .int, 2) := by decide +kernel
theorem dX8_init_132 : decode cX8_init 132 = .ok (.putfield 78, 3) := by decide +kernel
theorem dX8_init_135 : decode cX8_init 135 = .ok (.return_, 1) := by decide +kernel
set_option maxHeartbeats 20000000 in
set_option maxRecDepth 100000 in
theorem ctX8_init {l : Launch} {D : va_G} {cI cR : ClassId} : CI l yX8_init cX8_init 1 3 100 4543 D cI cR (.inr (8, [.null, .null, .null, .int 0, .null, .null, .int 0, .null, .null, .null, .int 0, .null, .null, .null, .null, .null])) (fun a => wo cI cR a shX NX μ0X) := by
  refine ci_of (own := RX8) (by decide +kernel) rfl rfl (Nat.le_of_ble_eq_true rfl) (fun h0 p e s m below meth c A0 E hr hin hA => ?_)
  refine lc_ws (ws' := ((h0, .inr (8, [.null, .null, .null, .int 0, .null, .null, .int 0, .null, .null, .null, .int 0, .null, .null, .null, .null, .null])) :: ([] : va_W))) rfl ?_
  refine lc_aload_n E (pc := 0) dX8_init_0 rfl ?_
  refine lc_obj E (pc := 1) dX8_init_1 mo_X8_3 mo_1 mo_2 ⟨(Nat.le_of_ble_eq_true rfl), (Nat.le_of_ble_eq_true rfl)⟩ (Nat.le_of_ble_eq_true rfl) ?_
  refine lc_aload_n E (pc := 4) dX8_init_4 rfl ?_
  refine lc_new E (pc := 5) (ci := 6) (fs := [.int 0, .null, .null, .null, .null, .null, .null, .null, .null, .null, .int 0]) dX8_init_5 rfl uw_6 tyX6_ok mk_X8_9 mi_6 mn_6 df_6 ⟨(Nat.le_of_ble_eq_true rfl), (Nat.le_of_ble_eq_true rfl)⟩ (fun q1 => ?_)
  refine lc_ws (ws' := ((h0, .inr (8, [.null, .null, .null, .int 0, .null, .null, .int 0, .null, .null, .null, .int 0, .null, .null, .null, .null, .null])) :: (([] : va_W) ++ [(q1, .inr (6, [.int 0, .null, .null, .null, .null, .null, .null, .null, .null, .null, .int 0]))]))) rfl ?_
  refine lc_dup E (pc := 8) dX8_init_8 rfl ?_
  refine lc_call E (wr := ((h0, .inr (8, [.null, .null, .null, .int 0, .null, .null, .int 0, .null, .null, .null, .int 0, .null, .null, .null, .null, .null])) :: ([] : va_W))) (pc := 9) (d := 1) (mc := 9) (ms := 150) dX8_init_9 ctX6_init (Or.inr ⟨_, E.2.2.2.2.2.2.2.2.1 ("BuntingBundles", 11, yX6_init, "BuntingBundles") (by decide +kernel)⟩) mj_6 mn_6 mc_6 rfl ⟨by decide +kernel, by decide +kernel, by decide +kernel⟩ (by decide) (Nat.le_of_ble_eq_true rfl) ⟨(Nat.le_of_ble_eq_true rfl), (Nat.le_of_ble_eq_true rfl)⟩ ⟨(Nat.le_of_ble_eq_true rfl), (Nat.le_of_ble_eq_true rfl)⟩ (fun a2 ha2 => ?_)
  subst ha2
  refine lc_ws (ws' := ((h0, .inr (8, [.null, .null, .null, .int 0, .null, .null, .int 0, .null, .null, .null, .int 0, .null, .null, .null, .null, .null])) :: (([] : va_W) ++ wL6 cI a2))) rfl ?_
  refine lc_putF E hin (pc := 12) (k9 := 0) (ws' := ((h0, .inr (8, [.ref (a2 0), .null, .null, .int 0, .null, .null, .int 0, .null, .null, .null, .int 0, .null, .null, .null, .null, .null])) :: (([] : va_W) ++ wL6 cI a2))) 0 dX8_init_12 ff_X8_12 rfl (Nat.le_of_ble_eq_true rfl) rfl ?_
  refine lc_aload_n E (pc := 15) dX8_init_15 rfl ?_
  refine lc_new E (pc := 16) (ci := 1) (fs := [.null, .int 0]) dX8_init_16 rfl uw_1 tyX1_ok mk_X8_16 mi_1 mn_1 df_1 ⟨(Nat.le_of_ble_eq_true rfl), (Nat.le_of_ble_eq_true rfl)⟩ (fun q3 => ?_)
  refine lc_ws (ws' := ((h0, .inr (8, [.ref (a2 0), .null, .null, .int 0, .null, .null, .int 0, .null, .null, .null, .int 0, .null, .null, .null, .null, .null])) :: ((([] : va_W) ++ wL6 cI a2) ++ [(q3, .inr (1, [.null, .int 0]))]))) rfl ?_
  refine lc_dup E (pc := 19) dX8_init_19 rfl ?_
  refine lc_call E (wr := ((h0, .inr (8, [.ref (a2 0), .null, .null, .int 0, .null, .null, .int 0, .null, .null, .null, .int 0, .null, .null, .null, .null, .null])) :: (([] : va_W) ++ wL6 cI a2))) (pc := 20) (d := 2) (mc := 51) (ms := 810) dX8_init_20 ctX1_init (Or.inl ml_X8_18) mj_1 mn_1 mc_1 rfl ⟨by decide +kernel, by decide +kernel, by decide +kernel⟩ (by decide) (Nat.le_of_ble_eq_true rfl) ⟨(Nat.le_of_ble_eq_true rfl), (Nat.le_of_ble_eq_true rfl)⟩ ⟨(Nat.le_of_ble_eq_true rfl), (Nat.le_of_ble_eq_true rfl)⟩ (fun a4 ha4 => ?_)
  subst ha4
  refine lc_ws (ws' := ((h0, .inr (8, [.ref (a2 0), .null, .null, .int 0, .null, .null, .int 0, .null, .null, .null, .int 0, .null, .null, .null, .null, .null])) :: ((([] : va_W) ++ wL6 cI a2) ++ wL1 cI cR a4))) rfl ?_
  refine lc_putF E hin (pc := 23) (k9 := 1) (ws' := ((h0, .inr (8, [.ref (a2 0), .ref (a4 0), .null, .int 0, .null, .null, .int 0, .null, .null, .null, .int 0, .null, .null, .null, .null, .null])) :: ((([] : va_W) ++ wL6 cI a2) ++ wL1 cI cR a4))) 0 dX8_init_23 ff_X8_19 rfl (Nat.le_of_ble_eq_true rfl) rfl ?_
  refine lc_aload_n E (pc := 26) dX8_init_26 rfl ?_
  refine lc_new E (pc := 27) (ci := 6) (fs := [.int 0, .null, .null, .null, .null, .null, .null, .null, .null, .null, .int 0]) dX8_init_27 rfl uw_6 tyX6_ok mk_X8_9 mi_6 mn_6 df_6 ⟨(Nat.le_of_ble_eq_true rfl), (Nat.le_of_ble_eq_true rfl)⟩ (fun q5 => ?_)
  refine lc_ws (ws' := ((h0, .inr (8, [.ref (a2 0), .ref (a4 0), .null, .int 0, .null, .null, .int 0, .null, .null, .null, .int 0, .null, .null, .null, .null, .null])) :: (((([] : va_W) ++ wL6 cI a2) ++ wL1 cI cR a4) ++ [(q5, .inr (6, [.int 0, .null, .null, .null, .null, .null, .null, .null, .null, .null, .int 0]))]))) rfl ?_
  refine lc_dup E (pc := 30) dX8_init_30 rfl ?_
  refine lc_call E (wr := ((h0, .inr (8, [.ref (a2 0), .ref (a4 0), .null, .int 0, .null, .null, .int 0, .null, .null, .null, .int 0, .null, .null, .null, .null, .null])) :: ((([] : va_W) ++ wL6 cI a2) ++ wL1 cI cR a4))) (pc := 31) (d := 1) (mc := 9) (ms := 150) dX8_init_31 ctX6_init (Or.inr ⟨_, E.2.2.2.2.2.2.2.2.1 ("BuntingBundles", 11, yX6_init, "BuntingBundles") (by decide +kernel)⟩) mj_6 mn_6 mc_6 rfl ⟨by decide +kernel, by decide +kernel, by decide +kernel⟩ (by decide) (Nat.le_of_ble_eq_true rfl) ⟨(Nat.le_of_ble_eq_true rfl), (Nat.le_of_ble_eq_true rfl)⟩ ⟨(Nat.le_of_ble_eq_true rfl), (Nat.le_of_ble_eq_true rfl)⟩ (fun a6 ha6 => ?_)
  subst ha6
  refine lc_ws (ws' := ((h0, .inr (8, [.ref (a2 0), .ref (a4 0), .null, .int 0, .null, .null, .int 0, .null, .null, .null, .int 0, .null, .null, .null, .null, .null])) :: (((([] : va_W) ++ wL6 cI a2) ++ wL1 cI cR a4) ++ wL6 cI a6))) rfl ?_
  refine lc_putF E hin (pc := 34) (k9 := 2) (ws' := ((h0, .inr (8, [.ref (a2 0), .ref (a4 0), .ref (a6 0), .int 0, .null, .null, .int 0, .null, .null, .null, .int 0, .null, .null, .null, .null, .null])) :: (((([] : va_W) ++ wL6 cI a2) ++ wL1 cI cR a4) ++ wL6 cI a6))) 0 dX8_init_34 ff_X8_23 rfl (Nat.le_of_ble_eq_true rfl) rfl ?_
  refine lc_aload_n E (pc := 37) dX8_init_37 rfl ?_
  refine lc_new E (pc := 38) (ci := 7) (fs := [.null, .int 0]) dX8_init_38 rfl uw_7 tyX7_ok mk_X8_26 mi_7 mn_7 df_7 ⟨(Nat.le_of_ble_eq_true rfl), (Nat.le_of_ble_eq_true rfl)⟩ (fun q7 => ?_)
  refine lc_ws (ws' := ((h0, .inr (8, [.ref (a2 0), .ref (a4 0), .ref (a6 0), .int 0, .null, .null, .int 0, .null, .null, .null, .int 0, .null, .null, .null, .null, .null])) :: ((((([] : va_W) ++ wL6 cI a2) ++ wL1 cI cR a4) ++ wL6 cI a6) ++ [(q7, .inr (7, [.null, .int 0]))]))) rfl ?_
  refine lc_dup E (pc := 41) dX8_init_41 rfl ?_
  refine lc_call E (wr := ((h0, .inr (8, [.ref (a2 0), .ref (a4 0), .ref (a6 0), .int 0, .null, .null, .int 0, .null, .null, .null, .int 0, .null, .null, .null, .null, .null])) :: (((([] : va_W) ++ wL6 cI a2) ++ wL1 cI cR a4) ++ wL6 cI a6))) (pc := 42) (d := 1) (mc := 1) (ms := 60) dX8_init_42 ctX7_init (Or.inr ⟨_, E.2.2.2.2.2.2.2.2.1 ("BuntingBundles", 28, yX7_init, "BuntingBundles") (by decide +kernel)⟩) mj_7 mn_7 mc_7 rfl ⟨by decide +kernel, by decide +kernel, by decide +kernel⟩ (by decide) (Nat.le_of_ble_eq_true rfl) ⟨(Nat.le_of_ble_eq_true rfl), (Nat.le_of_ble_eq_true rfl)⟩ ⟨(Nat.le_of_ble_eq_true rfl), (Nat.le_of_ble_eq_true rfl)⟩ (fun a8 ha8 => ?_)
  subst ha8
  refine lc_ws (ws' := ((h0, .inr (8, [.ref (a2 0), .ref (a4 0), .ref (a6 0), .int 0, .null, .null, .int 0, .null, .null, .null, .int 0, .null, .null, .null, .null, .null])) :: ((((([] : va_W) ++ wL6 cI a2) ++ wL1 cI cR a4) ++ wL6 cI a6) ++ wL7 cI a8))) rfl ?_
  refine lc_putF E hin (pc := 45) (k9 := 4) (ws' := ((h0, .inr (8, [.ref (a2 0), .ref (a4 0), .ref (a6 0), .int 0, .ref (a8 0), .null, .int 0, .null, .null, .null, .int 0, .null, .null, .null, .null, .null])) :: ((((([] : va_W) ++ wL6 cI a2) ++ wL1 cI cR a4) ++ wL6 cI a6) ++ wL7 cI a8))) 0 dX8_init_45 ff_X8_29 rfl (Nat.le_of_ble_eq_true rfl) rfl ?_
  refine lc_aload_n E (pc := 48) dX8_init_48 rfl ?_
  refine lc_new E (pc := 49) (ci := 2) (fs := [.int 0, .null, .null, .null, .null, .null, .null, .null]) dX8_init_49 rfl uw_2 tyX2_ok mk_X8_33 mi_2 mn_2 df_2 ⟨(Nat.le_of_ble_eq_true rfl), (Nat.le_of_ble_eq_true rfl)⟩ (fun q9 => ?_)
  refine lc_ws (ws' := ((h0, .inr (8, [.ref (a2 0), .ref (a4 0), .ref (a6 0), .int 0, .ref (a8 0), .null, .int 0, .null, .null, .null, .int 0, .null, .null, .null, .null, .null])) :: (((((([] : va_W) ++ wL6 cI a2) ++ wL1 cI cR a4) ++ wL6 cI a6) ++ wL7 cI a8) ++ [(q9, .inr (2, [.int 0, .null, .null, .null, .null, .null, .null, .null]))]))) rfl ?_
  refine lc_dup E (pc := 52) dX8_init_52 rfl ?_
  refine lc_call E (wr := ((h0, .inr (8, [.ref (a2 0), .ref (a4 0), .ref (a6 0), .int 0, .ref (a8 0), .null, .int 0, .null, .null, .null, .int 0, .null, .null, .null, .null, .null])) :: ((((([] : va_W) ++ wL6 cI a2) ++ wL1 cI cR a4) ++ wL6 cI a6) ++ wL7 cI a8))) (pc := 53) (d := 1) (mc := 7) (ms := 900) dX8_init_53 ctX2_init (Or.inr ⟨_, E.2.2.2.2.2.2.2.2.1 ("BuntingBundles", 35, yX2_init, "BuntingBundles") (by decide +kernel)⟩) mj_2 mn_2 mc_2 rfl ⟨by decide +kernel, by decide +kernel, by decide +kernel⟩ (by decide) (Nat.le_of_ble_eq_true rfl) ⟨(Nat.le_of_ble_eq_true rfl), (Nat.le_of_ble_eq_true rfl)⟩ ⟨(Nat.le_of_ble_eq_true rfl), (Nat.le_of_ble_eq_true rfl)⟩ (fun a10 ha10 => ?_)
  subst ha10
  refine lc_ws (ws' := ((h0, .inr (8, [.ref (a2 0), .ref (a4 0), .ref (a6 0), .int 0, .ref (a8 0), .null, .int 0, .null, .null, .null, .int 0, .null, .null, .null, .null, .null])) :: (((((([] : va_W) ++ wL6 cI a2) ++ wL1 cI cR a4) ++ wL6 cI a6) ++ wL7 cI a8) ++ wL2 cI a10))) rfl ?_
  refine lc_putF E hin (pc := 56) (k9 := 5) (ws' := ((h0, .inr (8, [.ref (a2 0), .ref (a4 0), .ref (a6 0), .int 0, .ref (a8 0), .ref (a10 0), .int 0, .null, .null, .null, .int 0, .null, .null, .null, .null, .null])) :: (((((([] : va_W) ++ wL6 cI a2) ++ wL1 cI cR a4) ++ wL6 cI a6) ++ wL7 cI a8) ++ wL2 cI a10))) 0 dX8_init_56 ff_X8_36 rfl (Nat.le_of_ble_eq_true rfl) rfl ?_
  refine lc_aload_n E (pc := 59) dX8_init_59 rfl ?_
  refine lc_new E (pc := 60) (ci := 4) (fs := [.null, .null]) dX8_init_60 rfl uw_4 tyX4_ok mk_X8_40 mi_4 mn_4 df_4 ⟨(Nat.le_of_ble_eq_true rfl), (Nat.le_of_ble_eq_true rfl)⟩ (fun q11 => ?_)
  refine lc_ws (ws' := ((h0, .inr (8, [.ref (a2 0), .ref (a4 0), .ref (a6 0), .int 0, .ref (a8 0), .ref (a10 0), .int 0, .null, .null, .null, .int 0, .null, .null, .null, .null, .null])) :: ((((((([] : va_W) ++ wL6 cI a2) ++ wL1 cI cR a4) ++ wL6 cI a6) ++ wL7 cI a8) ++ wL2 cI a10) ++ [(q11, .inr (4, [.null, .null]))]))) rfl ?_
  refine lc_dup E (pc := 63) dX8_init_63 rfl ?_
  refine lc_call E (wr := ((h0, .inr (8, [.ref (a2 0), .ref (a4 0), .ref (a6 0), .int 0, .ref (a8 0), .ref (a10 0), .int 0, .null, .null, .null, .int 0, .null, .null, .null, .null, .null])) :: (((((([] : va_W) ++ wL6 cI a2) ++ wL1 cI cR a4) ++ wL6 cI a6) ++ wL7 cI a8) ++ wL2 cI a10))) (pc := 64) (d := 1) (mc := 2) (ms := 23) dX8_init_64 ctX4_init (Or.inr ⟨_, E.2.2.2.2.2.2.2.2.1 ("BuntingBundles", 42, yX4_init, "BuntingBundles") (by decide +kernel)⟩) mj_4 mn_4 mc_4 rfl ⟨by decide +kernel, by decide +kernel, by decide +kernel⟩ (by decide) (Nat.le_of_ble_eq_true rfl) ⟨(Nat.le_of_ble_eq_true rfl), (Nat.le_of_ble_eq_true rfl)⟩ ⟨(Nat.le_of_ble_eq_true rfl), (Nat.le_of_ble_eq_true rfl)⟩ (fun a12 ha12 => ?_)
  subst ha12
  refine lc_ws (ws' := ((h0, .inr (8, [.ref (a2 0), .ref (a4 0), .ref (a6 0), .int 0, .ref (a8 0), .ref (a10 0), .int 0, .null, .null, .null, .int 0, .null, .null, .null, .null, .null])) :: ((((((([] : va_W) ++ wL6 cI a2) ++ wL1 cI cR a4) ++ wL6 cI a6) ++ wL7 cI a8) ++ wL2 cI a10) ++ wL4 cI a12))) rfl ?_
  refine lc_putF E hin (pc := 67) (k9 := 7) (ws' := ((h0, .inr (8, [.ref (a2 0), .ref (a4 0), .ref (a6 0), .int 0, .ref (a8 0), .ref (a10 0), .int 0, .ref (a12 0), .null, .null, .int 0, .null, .null, .null, .null, .null])) :: ((((((([] : va_W) ++ wL6 cI a2) ++ wL1 cI cR a4) ++ wL6 cI a6) ++ wL7 cI a8) ++ wL2 cI a10) ++ wL4 cI a12))) 0 dX8_init_67 ff_X8_43 rfl (Nat.le_of_ble_eq_true rfl) rfl ?_
  refine lc_aload_n E (pc := 70) dX8_init_70 rfl ?_
  refine lc_new E (pc := 71) (ci := 0) (fs := [.null, .null]) dX8_init_71 rfl uw_0 tyX0_ok mk_X8_47 mi_0 mn_0 df_0 ⟨(Nat.le_of_ble_eq_true rfl), (Nat.le_of_ble_eq_true rfl)⟩ (fun q13 => ?_)
  refine lc_ws (ws' := ((h0, .inr (8, [.ref (a2 0), .ref (a4 0), .ref (a6 0), .int 0, .ref (a8 0), .ref (a10 0), .int 0, .ref (a12 0), .null, .null, .int 0, .null, .null, .null, .null, .null])) :: (((((((([] : va_W) ++ wL6 cI a2) ++ wL1 cI cR a4) ++ wL6 cI a6) ++ wL7 cI a8) ++ wL2 cI a10) ++ wL4 cI a12) ++ [(q13, .inr (0, [.null, .null]))]))) rfl ?_
  refine lc_dup E (pc := 74) dX8_init_74 rfl ?_
  refine lc_call E (wr := ((h0, .inr (8, [.ref (a2 0), .ref (a4 0), .ref (a6 0), .int 0, .ref (a8 0), .ref (a10 0), .int 0, .ref (a12 0), .null, .null, .int 0, .null, .null, .null, .null, .null])) :: ((((((([] : va_W) ++ wL6 cI a2) ++ wL1 cI cR a4) ++ wL6 cI a6) ++ wL7 cI a8) ++ wL2 cI a10) ++ wL4 cI a12))) (pc := 75) (d := 1) (mc := 2) (ms := 420) dX8_init_75 ctX0_init (Or.inr ⟨_, E.2.2.2.2.2.2.2.2.1 ("BuntingBundles", 49, yX0_init, "BuntingBundles") (by decide +kernel)⟩) mj_0 mn_0 mc_0 rfl ⟨by decide +kernel, by decide +kernel, by decide +kernel⟩ (by decide) (Nat.le_of_ble_eq_true rfl) ⟨(Nat.le_of_ble_eq_true rfl), (Nat.le_of_ble_eq_true rfl)⟩ ⟨(Nat.le_of_ble_eq_true rfl), (Nat.le_of_ble_eq_true rfl)⟩ (fun a14 ha14 => ?_)
  subst ha14
  refine lc_ws (ws' := ((h0, .inr (8, [.ref (a2 0), .ref (a4 0), .ref (a6 0), .int 0, .ref (a8 0), .ref (a10 0), .int 0, .ref (a12 0), .null, .null, .int 0, .null, .null, .null, .null, .null])) :: (((((((([] : va_W) ++ wL6 cI a2) ++ wL1 cI cR a4) ++ wL6 cI a6) ++ wL7 cI a8) ++ wL2 cI a10) ++ wL4 cI a12) ++ wL0 cI a14))) rfl ?_
  refine lc_putF E hin (pc := 78) (k9 := 8) (ws' := ((h0, .inr (8, [.ref (a2 0), .ref (a4 0), .ref (a6 0), .int 0, .ref (a8 0), .ref (a10 0), .int 0, .ref (a12 0), .ref (a14 0), .null, .int 0, .null, .null, .null, .null, .null])) :: (((((((([] : va_W) ++ wL6 cI a2) ++ wL1 cI cR a4) ++ wL6 cI a6) ++ wL7 cI a8) ++ wL2 cI a10) ++ wL4 cI a12) ++ wL0 cI a14))) 0 dX8_init_78 ff_X8_50 rfl (Nat.le_of_ble_eq_true rfl) rfl ?_
  refine lc_aload_n E (pc := 81) dX8_init_81 rfl ?_
  refine lc_new E (pc := 82) (ci := 3) (fs := [.null, .null, .int 0, .int 0]) dX8_init_82 rfl uw_3 tyX3_ok mk_X8_54 mi_3 mn_3 df_3 ⟨(Nat.le_of_ble_eq_true rfl), (Nat.le_of_ble_eq_true rfl)⟩ (fun q15 => ?_)
  refine lc_ws (ws' := ((h0, .inr (8, [.ref (a2 0), .ref (a4 0), .ref (a6 0), .int 0, .ref (a8 0), .ref (a10 0), .int 0, .ref (a12 0), .ref (a14 0), .null, .int 0, .null, .null, .null, .null, .null])) :: ((((((((([] : va_W) ++ wL6 cI a2) ++ wL1 cI cR a4) ++ wL6 cI a6) ++ wL7 cI a8) ++ wL2 cI a10) ++ wL4 cI a12) ++ wL0 cI a14) ++ [(q15, .inr (3, [.null, .null, .int 0, .int 0]))]))) rfl ?_
  refine lc_dup E (pc := 85) dX8_init_85 rfl ?_
  refine lc_call E (wr := ((h0, .inr (8, [.ref (a2 0), .ref (a4 0), .ref (a6 0), .int 0, .ref (a8 0), .ref (a10 0), .int 0, .ref (a12 0), .ref (a14 0), .null, .int 0, .null, .null, .null, .null, .null])) :: (((((((([] : va_W) ++ wL6 cI a2) ++ wL1 cI cR a4) ++ wL6 cI a6) ++ wL7 cI a8) ++ wL2 cI a10) ++ wL4 cI a12) ++ wL0 cI a14))) (pc := 86) (d := 1) (mc := 2) (ms := 1040) dX8_init_86 ctX3_init (Or.inr ⟨_, E.2.2.2.2.2.2.2.2.1 ("BuntingBundles", 56, yX3_init, "BuntingBundles") (by decide +kernel)⟩) mj_3 mn_3 mc_3 rfl ⟨by decide +kernel, by decide +kernel, by decide +kernel⟩ (by decide) (Nat.le_of_ble_eq_true rfl) ⟨(Nat.le_of_ble_eq_true rfl), (Nat.le_of_ble_eq_true rfl)⟩ ⟨(Nat.le_of_ble_eq_true rfl), (Nat.le_of_ble_eq_true rfl)⟩ (fun a16 ha16 => ?_)
  subst ha16
  refine lc_ws (ws' := ((h0, .inr (8, [.ref (a2 0), .ref (a4 0), .ref (a6 0), .int 0, .ref (a8 0), .ref (a10 0), .int 0, .ref (a12 0), .ref (a14 0), .null, .int 0, .null, .null, .null, .null, .null])) :: ((((((((([] : va_W) ++ wL6 cI a2) ++ wL1 cI cR a4) ++ wL6 cI a6) ++ wL7 cI a8) ++ wL2 cI a10) ++ wL4 cI a12) ++ wL0 cI a14) ++ wL3 cI a16))) rfl ?_
  refine lc_putF E hin (pc := 89) (k9 := 9) (ws' := ((h0, .inr (8, [.ref (a2 0), .ref (a4 0), .ref (a6 0), .int 0, .ref (a8 0), .ref (a10 0), .int 0, .ref (a12 0), .ref (a14 0), .ref (a16 0), .int 0, .null, .null, .null, .null, .null])) :: ((((((((([] : va_W) ++ wL6 cI a2) ++ wL1 cI cR a4) ++ wL6 cI a6) ++ wL7 cI a8) ++ wL2 cI a10) ++ wL4 cI a12) ++ wL0 cI a14) ++ wL3 cI a16))) 0 dX8_init_89 ff_X8_57 rfl (Nat.le_of_ble_eq_true rfl) rfl ?_
  refine lc_aload_n E (pc := 92) dX8_init_92 rfl ?_
  refine lc_new E (pc := 93) (ci := 5) (fs := [.null, .null, .null, .null]) dX8_init_93 rfl uw_5 tyX5_ok mk_X8_61 mi_5 mn_5 df_5 ⟨(Nat.le_of_ble_eq_true rfl), (Nat.le_of_ble_eq_true rfl)⟩ (fun q17 => ?_)
  refine lc_ws (ws' := ((h0, .inr (8, [.ref (a2 0), .ref (a4 0), .ref (a6 0), .int 0, .ref (a8 0), .ref (a10 0), .int 0, .ref (a12 0), .ref (a14 0), .ref (a16 0), .int 0, .null, .null, .null, .null, .null])) :: (((((((((([] : va_W) ++ wL6 cI a2) ++ wL1 cI cR a4) ++ wL6 cI a6) ++ wL7 cI a8) ++ wL2 cI a10) ++ wL4 cI a12) ++ wL0 cI a14) ++ wL3 cI a16) ++ [(q17, .inr (5, [.null, .null, .null, .null]))]))) rfl ?_
  refine lc_dup E (pc := 96) dX8_init_96 rfl ?_
  refine lc_call E (wr := ((h0, .inr (8, [.ref (a2 0), .ref (a4 0), .ref (a6 0), .int 0, .ref (a8 0), .ref (a10 0), .int 0, .ref (a12 0), .ref (a14 0), .ref (a16 0), .int 0, .null, .null, .null, .null, .null])) :: ((((((((([] : va_W) ++ wL6 cI a2) ++ wL1 cI cR a4) ++ wL6 cI a6) ++ wL7 cI a8) ++ wL2 cI a10) ++ wL4 cI a12) ++ wL0 cI a14) ++ wL3 cI a16))) (pc := 97) (d := 1) (mc := 4) (ms := 848) dX8_init_97 ctX5_init (Or.inr ⟨_, E.2.2.2.2.2.2.2.2.1 ("BuntingBundles", 63, yX5_init, "BuntingBundles") (by decide +kernel)⟩) mj_5 mn_5 mc_5 rfl ⟨by decide +kernel, by decide +kernel, by decide +kernel⟩ (by decide) (Nat.le_of_ble_eq_true rfl) ⟨(Nat.le_of_ble_eq_true rfl), (Nat.le_of_ble_eq_true rfl)⟩ ⟨(Nat.le_of_ble_eq_true rfl), (Nat.le_of_ble_eq_true rfl)⟩ (fun a18 ha18 => ?_)
  subst ha18
  refine lc_ws (ws' := ((h0, .inr (8, [.ref (a2 0), .ref (a4 0), .ref (a6 0), .int 0, .ref (a8 0), .ref (a10 0), .int 0, .ref (a12 0), .ref (a14 0), .ref (a16 0), .int 0, .null, .null, .null, .null, .null])) :: (((((((((([] : va_W) ++ wL6 cI a2) ++ wL1 cI cR a4) ++ wL6 cI a6) ++ wL7 cI a8) ++ wL2 cI a10) ++ wL4 cI a12) ++ wL0 cI a14) ++ wL3 cI a16) ++ wL5 cI a18))) rfl ?_
  refine lc_putF E hin (pc := 100) (k9 := 11) (ws' := ((h0, .inr (8, [.ref (a2 0), .ref (a4 0), .ref (a6 0), .int 0, .ref (a8 0), .ref (a10 0), .int 0, .ref (a12 0), .ref (a14 0), .ref (a16 0), .int 0, .ref (a18 0), .null, .null, .null, .null])) :: (((((((((([] : va_W) ++ wL6 cI a2) ++ wL1 cI cR a4) ++ wL6 cI a6) ++ wL7 cI a8) ++ wL2 cI a10) ++ wL4 cI a12) ++ wL0 cI a14) ++ wL3 cI a16) ++ wL5 cI a18))) 0 dX8_init_100 ff_X8_64 rfl (Nat.le_of_ble_eq_true rfl) rfl ?_
  refine lc_aload_n E (pc := 103) dX8_init_103 rfl ?_
  refine lc_bipush E (pc := 104) dX8_init_104 kb_24 ?_
  refine lc_newa E (pc := 106) (N' := 24) dX8_init_106 mw_ai (by decide) (by decide +kernel) (by decide) ⟨(Nat.le_of_ble_eq_true rfl), (Nat.le_of_ble_eq_true rfl)⟩ (fun q19 => ?_)
  refine lc_ws (ws' := ((h0, .inr (8, [.ref (a2 0), .ref (a4 0), .ref (a6 0), .int 0, .ref (a8 0), .ref (a10 0), .int 0, .ref (a12 0), .ref (a14 0), .ref (a16 0), .int 0, .ref (a18 0), .null, .null, .null, .null])) :: ((((((((((([] : va_W) ++ wL6 cI a2) ++ wL1 cI cR a4) ++ wL6 cI a6) ++ wL7 cI a8) ++ wL2 cI a10) ++ wL4 cI a12) ++ wL0 cI a14) ++ wL3 cI a16) ++ wL5 cI a18) ++ [(q19, .inl (cI, 24, .inl (fun _ => 0)))]))) rfl ?_
  refine lc_putF E hin (pc := 108) (k9 := 12) (ws' := ((h0, .inr (8, [.ref (a2 0), .ref (a4 0), .ref (a6 0), .int 0, .ref (a8 0), .ref (a10 0), .int 0, .ref (a12 0), .ref (a14 0), .ref (a16 0), .int 0, .ref (a18 0), .ref q19, .null, .null, .null])) :: ((((((((((([] : va_W) ++ wL6 cI a2) ++ wL1 cI cR a4) ++ wL6 cI a6) ++ wL7 cI a8) ++ wL2 cI a10) ++ wL4 cI a12) ++ wL0 cI a14) ++ wL3 cI a16) ++ wL5 cI a18) ++ [(q19, .inl (cI, 24, .inl (fun _ => 0)))]))) 0 dX8_init_108 ff_X8_68 rfl (Nat.le_of_ble_eq_true rfl) rfl ?_
  refine lc_aload_n E (pc := 111) dX8_init_111 rfl ?_
  refine lc_bipush E (pc := 112) dX8_init_112 kb_24 ?_
  refine lc_newa E (pc := 114) (N' := 24) dX8_init_114 mw_ai (by decide) (by decide +kernel) (by decide) ⟨(Nat.le_of_ble_eq_true rfl), (Nat.le_of_ble_eq_true rfl)⟩ (fun q20 => ?_)
  refine lc_ws (ws' := ((h0, .inr (8, [.ref (a2 0), .ref (a4 0), .ref (a6 0), .int 0, .ref (a8 0), .ref (a10 0), .int 0, .ref (a12 0), .ref (a14 0), .ref (a16 0), .int 0, .ref (a18 0), .ref q19, .null, .null, .null])) :: (((((((((((([] : va_W) ++ wL6 cI a2) ++ wL1 cI cR a4) ++ wL6 cI a6) ++ wL7 cI a8) ++ wL2 cI a10) ++ wL4 cI a12) ++ wL0 cI a14) ++ wL3 cI a16) ++ wL5 cI a18) ++ [(q19, .inl (cI, 24, .inl (fun _ => 0)))]) ++ [(q20, .inl (cI, 24, .inl (fun _ => 0)))]))) rfl ?_
  refine lc_putF E hin (pc := 116) (k9 := 13) (ws' := ((h0, .inr (8, [.ref (a2 0), .ref (a4 0), .ref (a6 0), .int 0, .ref (a8 0), .ref (a10 0), .int 0, .ref (a12 0), .ref (a14 0), .ref (a16 0), .int 0, .ref (a18 0), .ref q19, .ref q20, .null, .null])) :: (((((((((((([] : va_W) ++ wL6 cI a2) ++ wL1 cI cR a4) ++ wL6 cI a6) ++ wL7 cI a8) ++ wL2 cI a10) ++ wL4 cI a12) ++ wL0 cI a14) ++ wL3 cI a16) ++ wL5 cI a18) ++ [(q19, .inl (cI, 24, .inl (fun _ => 0)))]) ++ [(q20, .inl (cI, 24, .inl (fun _ => 0)))]))) 0 dX8_init_116 ff_X8_72 rfl (Nat.le_of_ble_eq_true rfl) rfl ?_
  refine lc_aload_n E (pc := 119) dX8_init_119 rfl ?_
  refine lc_bipush E (pc := 120) dX8_init_120 kb_24 ?_
  refine lc_newa E (pc := 122) (N' := 24) dX8_init_122 mw_ai (by decide) (by decide +kernel) (by decide) ⟨(Nat.le_of_ble_eq_true rfl), (Nat.le_of_ble_eq_true rfl)⟩ (fun q21 => ?_)
  refine lc_ws (ws' := ((h0, .inr (8, [.ref (a2 0), .ref (a4 0), .ref (a6 0), .int 0, .ref (a8 0), .ref (a10 0), .int 0, .ref (a12 0), .ref (a14 0), .ref (a16 0), .int 0, .ref (a18 0), .ref q19, .ref q20, .null, .null])) :: ((((((((((((([] : va_W) ++ wL6 cI a2) ++ wL1 cI cR a4) ++ wL6 cI a6) ++ wL7 cI a8) ++ wL2 cI a10) ++ wL4 cI a12) ++ wL0 cI a14) ++ wL3 cI a16) ++ wL5 cI a18) ++ [(q19, .inl (cI, 24, .inl (fun _ => 0)))]) ++ [(q20, .inl (cI, 24, .inl (fun _ => 0)))]) ++ [(q21, .inl (cI, 24, .inl (fun _ => 0)))]))) rfl ?_
  refine lc_putF E hin (pc := 124) (k9 := 14) (ws' := ((h0, .inr (8, [.ref (a2 0), .ref (a4 0), .ref (a6 0), .int 0, .ref (a8 0), .ref (a10 0), .int 0, .ref (a12 0), .ref (a14 0), .ref (a16 0), .int 0, .ref (a18 0), .ref q19, .ref q20, .ref q21, .null])) :: ((((((((((((([] : va_W) ++ wL6 cI a2) ++ wL1 cI cR a4) ++ wL6 cI a6) ++ wL7 cI a8) ++ wL2 cI a10) ++ wL4 cI a12) ++ wL0 cI a14) ++ wL3 cI a16) ++ wL5 cI a18) ++ [(q19, .inl (cI, 24, .inl (fun _ => 0)))]) ++ [(q20, .inl (cI, 24, .inl (fun _ => 0)))]) ++ [(q21, .inl (cI, 24, .inl (fun _ => 0)))]))) 0 dX8_init_124 ff_X8_75 rfl (Nat.le_of_ble_eq_true rfl) rfl ?_
  refine lc_aload_n E (pc := 127) dX8_init_127 rfl ?_
  refine lc_bipush E (pc := 128) dX8_init_128 kb_24 ?_
  refine lc_newa E (pc := 130) (N' := 24) dX8_init_130 mw_ai (by decide) (by decide +kernel) (by decide) ⟨(Nat.le_of_ble_eq_true rfl), (Nat.le_of_ble_eq_true rfl)⟩ (fun q22 => ?_)
  refine lc_ws (ws' := ((h0, .inr (8, [.ref (a2 0), .ref (a4 0), .ref (a6 0), .int 0, .ref (a8 0), .ref (a10 0), .int 0, .ref (a12 0), .ref (a14 0), .ref (a16 0), .int 0, .ref (a18 0), .ref q19, .ref q20, .ref q21, .null])) :: (((((((((((((([] : va_W) ++ wL6 cI a2) ++ wL1 cI cR a4) ++ wL6 cI a6) ++ wL7 cI a8) ++ wL2 cI a10) ++ wL4 cI a12) ++ wL0 cI a14) ++ wL3 cI a16) ++ wL5 cI a18) ++ [(q19, .inl (cI, 24, .inl (fun _ => 0)))]) ++ [(q20, .inl (cI, 24, .inl (fun _ => 0)))]) ++ [(q21, .inl (cI, 24, .inl (fun _ => 0)))]) ++ [(q22, .inl (cI, 24, .inl (fun _ => 0)))]))) rfl ?_
  refine lc_putF E hin (pc := 132) (k9 := 15) (ws' := ((h0, .inr (8, [.ref (a2 0), .ref (a4 0), .ref (a6 0), .int 0, .ref (a8 0), .ref (a10 0), .int 0, .ref (a12 0), .ref (a14 0), .ref (a16 0), .int 0, .ref (a18 0), .ref q19, .ref q20, .ref q21, .ref q22])) :: (((((((((((((([] : va_W) ++ wL6 cI a2) ++ wL1 cI cR a4) ++ wL6 cI a6) ++ wL7 cI a8) ++ wL2 cI a10) ++ wL4 cI a12) ++ wL0 cI a14) ++ wL3 cI a16) ++ wL5 cI a18) ++ [(q19, .inl (cI, 24, .inl (fun _ => 0)))]) ++ [(q20, .inl (cI, 24, .inl (fun _ => 0)))]) ++ [(q21, .inl (cI, 24, .inl (fun _ => 0)))]) ++ [(q22, .inl (cI, 24, .inl (fun _ => 0)))]))) 0 dX8_init_132 ff_X8_78 rfl (Nat.le_of_ble_eq_true rfl) rfl ?_
  refine lc_ws (ws' := wX8 cI cR h0 a2 a4 a6 a8 a10 a12 a14 a16 a18 q19 q20 q21 q22) rfl ?_
  refine lc_fin (ws' := wo cI cR (adOf (wX8 cI cR h0 a2 a4 a6 a8 a10 a12 a14 a16 a18 q19 q20 q21 q22)) shX NX μ0X) (x8_finP (fun k h1 h2 => x8_at rfl (fun j hj => by obtain ⟨e9, h9⟩ := x8_a1 (cI := cI) (cR := cR) a2 j hj; exact adOf_eq (x8_seg1 h9)) (fun j hj => by obtain ⟨e9, h9⟩ := x8_a11 (cI := cI) (cR := cR) a4 j hj; exact adOf_eq (x8_seg11 h9)) (fun j hj => by obtain ⟨e9, h9⟩ := x8_a63 (cI := cI) (cR := cR) a6 j hj; exact adOf_eq (x8_seg63 h9)) (fun j hj => by obtain ⟨e9, h9⟩ := x8_a73 (cI := cI) (cR := cR) a8 j hj; exact adOf_eq (x8_seg73 h9)) (fun j hj => by obtain ⟨e9, h9⟩ := x8_a75 (cI := cI) (cR := cR) a10 j hj; exact adOf_eq (x8_seg75 h9)) (fun j hj => by obtain ⟨e9, h9⟩ := x8_a83 (cI := cI) (cR := cR) a12 j hj; exact adOf_eq (x8_seg83 h9)) (fun j hj => by obtain ⟨e9, h9⟩ := x8_a86 (cI := cI) (cR := cR) a14 j hj; exact adOf_eq (x8_seg86 h9)) (fun j hj => by obtain ⟨e9, h9⟩ := x8_a89 (cI := cI) (cR := cR) a16 j hj; exact adOf_eq (x8_seg89 h9)) (fun j hj => by obtain ⟨e9, h9⟩ := x8_a92 (cI := cI) (cR := cR) a18 j hj; exact adOf_eq (x8_seg92 h9)) (adOf_eq (x8_seg97 (j := 0) rfl)) (adOf_eq (x8_seg98 (j := 0) rfl)) (adOf_eq (x8_seg99 (j := 0) rfl)) (adOf_eq (x8_seg100 (j := 0) rfl)) k h1 h2) (x8_12 rfl (fun j hj => by obtain ⟨e9, h9⟩ := x8_a1 (cI := cI) (cR := cR) a2 j hj; exact adOf_eq (x8_seg1 h9)) (fun j hj => by obtain ⟨e9, h9⟩ := x8_a11 (cI := cI) (cR := cR) a4 j hj; exact adOf_eq (x8_seg11 h9)) (fun j hj => by obtain ⟨e9, h9⟩ := x8_a63 (cI := cI) (cR := cR) a6 j hj; exact adOf_eq (x8_seg63 h9)) (fun j hj => by obtain ⟨e9, h9⟩ := x8_a73 (cI := cI) (cR := cR) a8 j hj; exact adOf_eq (x8_seg73 h9)) (fun j hj => by obtain ⟨e9, h9⟩ := x8_a75 (cI := cI) (cR := cR) a10 j hj; exact adOf_eq (x8_seg75 h9)) (fun j hj => by obtain ⟨e9, h9⟩ := x8_a83 (cI := cI) (cR := cR) a12 j hj; exact adOf_eq (x8_seg83 h9)) (fun j hj => by obtain ⟨e9, h9⟩ := x8_a86 (cI := cI) (cR := cR) a14 j hj; exact adOf_eq (x8_seg86 h9)) (fun j hj => by obtain ⟨e9, h9⟩ := x8_a89 (cI := cI) (cR := cR) a16 j hj; exact adOf_eq (x8_seg89 h9)) (fun j hj => by obtain ⟨e9, h9⟩ := x8_a92 (cI := cI) (cR := cR) a18 j hj; exact adOf_eq (x8_seg92 h9)) (adOf_eq (x8_seg97 (j := 0) rfl)) (adOf_eq (x8_seg98 (j := 0) rfl)) (adOf_eq (x8_seg99 (j := 0) rfl)) (adOf_eq (x8_seg100 (j := 0) rfl)))) (x8_finD (fun k h1 h2 => x8_at rfl (fun j hj => by obtain ⟨e9, h9⟩ := x8_a1 (cI := cI) (cR := cR) a2 j hj; exact adOf_eq (x8_seg1 h9)) (fun j hj => by obtain ⟨e9, h9⟩ := x8_a11 (cI := cI) (cR := cR) a4 j hj; exact adOf_eq (x8_seg11 h9)) (fun j hj => by obtain ⟨e9, h9⟩ := x8_a63 (cI := cI) (cR := cR) a6 j hj; exact adOf_eq (x8_seg63 h9)) (fun j hj => by obtain ⟨e9, h9⟩ := x8_a73 (cI := cI) (cR := cR) a8 j hj; exact adOf_eq (x8_seg73 h9)) (fun j hj => by obtain ⟨e9, h9⟩ := x8_a75 (cI := cI) (cR := cR) a10 j hj; exact adOf_eq (x8_seg75 h9)) (fun j hj => by obtain ⟨e9, h9⟩ := x8_a83 (cI := cI) (cR := cR) a12 j hj; exact adOf_eq (x8_seg83 h9)) (fun j hj => by obtain ⟨e9, h9⟩ := x8_a86 (cI := cI) (cR := cR) a14 j hj; exact adOf_eq (x8_seg86 h9)) (fun j hj => by obtain ⟨e9, h9⟩ := x8_a89 (cI := cI) (cR := cR) a16 j hj; exact adOf_eq (x8_seg89 h9)) (fun j hj => by obtain ⟨e9, h9⟩ := x8_a92 (cI := cI) (cR := cR) a18 j hj; exact adOf_eq (x8_seg92 h9)) (adOf_eq (x8_seg97 (j := 0) rfl)) (adOf_eq (x8_seg98 (j := 0) rfl)) (adOf_eq (x8_seg99 (j := 0) rfl)) (adOf_eq (x8_seg100 (j := 0) rfl)) k h1 h2) (x8_12 rfl (fun j hj => by obtain ⟨e9, h9⟩ := x8_a1 (cI := cI) (cR := cR) a2 j hj; exact adOf_eq (x8_seg1 h9)) (fun j hj => by obtain ⟨e9, h9⟩ := x8_a11 (cI := cI) (cR := cR) a4 j hj; exact adOf_eq (x8_seg11 h9)) (fun j hj => by obtain ⟨e9, h9⟩ := x8_a63 (cI := cI) (cR := cR) a6 j hj; exact adOf_eq (x8_seg63 h9)) (fun j hj => by obtain ⟨e9, h9⟩ := x8_a73 (cI := cI) (cR := cR) a8 j hj; exact adOf_eq (x8_seg73 h9)) (fun j hj => by obtain ⟨e9, h9⟩ := x8_a75 (cI := cI) (cR := cR) a10 j hj; exact adOf_eq (x8_seg75 h9)) (fun j hj => by obtain ⟨e9, h9⟩ := x8_a83 (cI := cI) (cR := cR) a12 j hj; exact adOf_eq (x8_seg83 h9)) (fun j hj => by obtain ⟨e9, h9⟩ := x8_a86 (cI := cI) (cR := cR) a14 j hj; exact adOf_eq (x8_seg86 h9)) (fun j hj => by obtain ⟨e9, h9⟩ := x8_a89 (cI := cI) (cR := cR) a16 j hj; exact adOf_eq (x8_seg89 h9)) (fun j hj => by obtain ⟨e9, h9⟩ := x8_a92 (cI := cI) (cR := cR) a18 j hj; exact adOf_eq (x8_seg92 h9)) (adOf_eq (x8_seg97 (j := 0) rfl)) (adOf_eq (x8_seg98 (j := 0) rfl)) (adOf_eq (x8_seg99 (j := 0) rfl)) (adOf_eq (x8_seg100 (j := 0) rfl)))) ?_
  exact lc_ret E (pc := 135) (adOf (wX8 cI cR h0 a2 a4 a6 a8 a10 a12 a14 a16 a18 q19 q20 q21 q22)) hr hA dX8_init_135 rfl rfl ⟨rfl, rfl⟩
