def qst0 : Nat → Int := SN 107839786706265169593911148206435629804202279104238053496864565624832
theorem qwt0 : WF qst0 := wf_sn (by decide +kernel)
theorem qnt0 : nn qst0 = 0 := by decide +kernel
def qkt1 : Cf := (qst0, (fun _ _ => 0), 0, false, (fun _ => 0), (fun _ => 0), 0)
def qkt2 : Cf := ct qkt1 []
theorem qstartt : KC qkt2 μ0X := kc_start (by decide +kernel) qwt0
theorem qft0 : typ (6372661 : Int64) 8 = [97, 61, 53] := by decide +kernel
theorem qft1 : typ (0 : Int64) 8 = [] := by decide +kernel
theorem qft2 : run (tl [97, 61, 53]) 0 0 3 ≠ -1 ∧ run (tl [97, 61, 53]) 0 0 (3 + 1) = -1 := by decide +kernel
def qkt3 : Cf := ct qkt1 [97, 61, 53]
theorem qft3 : typ (1631399989 : Int64) 8 = [97, 61, 48, 53] := by decide +kernel
theorem qft4 : run (tl [97, 61, 48, 53]) 0 0 3 ≠ -1 ∧ run (tl [97, 61, 48, 53]) 0 0 (3 + 1) = -1 := by decide +kernel
def qkt4 : Cf := ct qkt1 [97, 61, 48, 53]
theorem qft5 : typ (417638461488 : Int64) 8 = [97, 61, 49, 48, 48] := by decide +kernel
theorem qft6 : run (tl [97, 61, 49, 48, 48]) 0 0 4 ≠ -1 ∧ run (tl [97, 61, 49, 48, 48]) 0 0 (4 + 1) = -1 := by decide +kernel
def qkt5 : Cf := ct qkt1 [97, 61, 49, 48, 48]
theorem qft7 : typ (6372653 : Int64) 8 = [97, 61, 45] := by decide +kernel
theorem qft8 : run (tl [97, 61, 45]) 0 0 3 ≠ -1 ∧ run (tl [97, 61, 45]) 0 0 (3 + 1) = -1 := by decide +kernel
def qkt6 : Cf := ct qkt1 [97, 61, 45]
theorem qft9 : typ (6372706 : Int64) 8 = [97, 61, 98] := by decide +kernel
theorem qft10 : run (tl [97, 61, 98]) 0 0 3 ≠ -1 ∧ run (tl [97, 61, 98]) 0 0 (3 + 1) = -1 := by decide +kernel
def qkt7 : Cf := ct qkt1 [97, 61, 98]
theorem qft11 : typ (417641671523 : Int64) 8 = [97, 61, 98, 43, 99] := by decide +kernel
theorem qft12 : run (tl [97, 61, 98, 43, 99]) 0 0 5 ≠ -1 ∧ run (tl [97, 61, 98, 43, 99]) 0 0 (5 + 1) = -1 := by decide +kernel
def qkt8 : Cf := ct qkt1 [97, 61, 98, 43, 99]
theorem qft13 : typ (417641672547 : Int64) 8 = [97, 61, 98, 47, 99] := by decide +kernel
theorem qft14 : run (tl [97, 61, 98, 47, 99]) 0 0 3 ≠ -1 ∧ run (tl [97, 61, 98, 47, 99]) 0 0 (3 + 1) = -1 := by decide +kernel
def qkt9 : Cf := ct qkt1 [97, 61, 98, 47, 99]
theorem qft15 : typ (7006857072447926621 : Int64) 8 = [97, 61, 91, 98, 43, 49, 49, 93] := by decide +kernel
theorem qft16 : run (tl [97, 61, 91, 98, 43, 49, 49, 93]) 0 0 8 ≠ -1 ∧ run (tl [97, 61, 91, 98, 43, 49, 49, 93]) 0 0 (8 + 1) = -1 := by decide +kernel
def qkt10 : Cf := ct qkt1 [97, 61, 91, 98, 43, 49, 49, 93]
theorem qft17 : typ (7006857072447926877 : Int64) 8 = [97, 61, 91, 98, 43, 49, 50, 93] := by decide +kernel
theorem qft18 : run (tl [97, 61, 91, 98, 43, 49, 50, 93]) 0 0 6 ≠ -1 ∧ run (tl [97, 61, 91, 98, 43, 49, 50, 93]) 0 0 (6 + 1) = -1 := by decide +kernel
def qkt11 : Cf := ct qkt1 [97, 61, 91, 98, 43, 49, 50, 93]
theorem qft19 : typ (27370535439380829 : Int64) 8 = [97, 61, 91, 98, 45, 49, 93] := by decide +kernel
theorem qft20 : run (tl [97, 61, 91, 98, 45, 49, 93]) 0 0 4 ≠ -1 ∧ run (tl [97, 61, 91, 98, 45, 49, 93]) 0 0 (4 + 1) = -1 := by decide +kernel
def qkt12 : Cf := ct qkt1 [97, 61, 91, 98, 45, 49, 93]
theorem qft21 : typ (25722160515202403 : Int64) 8 = [91, 98, 43, 48, 93, 61, 99] := by decide +kernel
theorem qft22 : run (tl [91, 98, 43, 48, 93, 61, 99]) 0 0 7 ≠ -1 ∧ run (tl [91, 98, 43, 48, 93, 61, 99]) 0 0 (7 + 1) = -1 := by decide +kernel
def qkt13 : Cf := ct qkt1 [91, 98, 43, 48, 93, 61, 99]
theorem qft23 : typ (392489021533 : Int64) 8 = [91, 98, 43, 48, 93] := by decide +kernel
theorem qft24 : run (tl [91, 98, 43, 48, 93]) 0 0 5 ≠ -1 ∧ run (tl [91, 98, 43, 48, 93]) 0 0 (5 + 1) = -1 := by decide +kernel
def qkt14 : Cf := ct qkt1 [91, 98, 43, 48, 93]
theorem qft25 : typ (7159089 : Int64) 8 = [109, 61, 49] := by decide +kernel
theorem qft26 : run (tl [109, 61, 49]) 0 0 0 ≠ -1 ∧ run (tl [109, 61, 49]) 0 0 (0 + 1) = -1 := by decide +kernel
def qkt15 : Cf := ct qkt1 [109, 61, 49]
theorem qft27 : typ (1631400251 : Int64) 8 = [97, 61, 49, 59] := by decide +kernel
theorem qft28 : run (tl [97, 61, 49, 59]) 0 0 4 ≠ -1 ∧ run (tl [97, 61, 49, 59]) 0 0 (4 + 1) = -1 := by decide +kernel
def qkt16 : Cf := ct qkt1 [97, 61, 49, 59]
theorem qft29 : typ (417638198577 : Int64) 8 = [97, 61, 45, 45, 49] := by decide +kernel
theorem qft30 : run (tl [97, 61, 45, 45, 49]) 0 0 3 ≠ -1 ∧ run (tl [97, 61, 45, 45, 49]) 0 0 (3 + 1) = -1 := by decide +kernel
def qkt17 : Cf := ct qkt1 [97, 61, 45, 45, 49]
theorem qft31 : run (tl []) 0 0 0 ≠ -1 ∧ run (tl []) 0 0 (0 + 1) = -1 := by decide +kernel
def qkt18 : Cf := ct qkt1 []
theorem qft32 : typ (7006806280436333921 : Int64) 8 = [97, 61, 45, 48, 59, 98, 61, 97] := by decide +kernel
theorem qft33 : typ (24172 : Int64) 8 = [94, 108] := by decide +kernel
theorem qft34 : run (tl [97, 61, 45, 48, 59, 98, 61, 97, 94, 108]) 0 0 10 ≠ -1 ∧ run (tl [97, 61, 45, 48, 59, 98, 61, 97, 94, 108]) 0 0 (10 + 1) = -1 := by decide +kernel
def qkt19 : Cf := ct qkt1 [97, 61, 45, 48, 59, 98, 61, 97, 94, 108]
theorem qft35 : typ (27370564584942436 : Int64) 8 = [97, 61, 98, 43, 99, 43, 100] := by decide +kernel
theorem qft36 : run (tl [97, 61, 98, 43, 99, 43, 100]) 0 0 5 ≠ -1 ∧ run (tl [97, 61, 98, 43, 99, 43, 100]) 0 0 (5 + 1) = -1 := by decide +kernel
def qkt20 : Cf := ct qkt1 [97, 61, 98, 43, 99, 43, 100]
theorem qft37 : typ (392673571165 : Int64) 8 = [91, 109, 43, 49, 93] := by decide +kernel
theorem qft38 : run (tl [91, 109, 43, 49, 93]) 0 0 1 ≠ -1 ∧ run (tl [91, 109, 43, 49, 93]) 0 0 (1 + 1) = -1 := by decide +kernel
def qkt21 : Cf := ct qkt1 [91, 109, 43, 49, 93]
theorem qft39 : typ (4275505 : Int64) 8 = [65, 61, 49] := by decide +kernel
theorem qft40 : run (tl [65, 61, 49]) 0 0 0 ≠ -1 ∧ run (tl [65, 61, 49]) 0 0 (0 + 1) = -1 := by decide +kernel
def qkt22 : Cf := ct qkt1 [65, 61, 49]
theorem qft41 : whole (tl [65, 61, 49]) 3 = false := by decide +kernel
def qkt23 : Cf := ct qkt1 []
theorem qft42 : typ (7006806310501760313 : Int64) 8 = [97, 61, 45, 55, 59, 108, 61, 57] := by decide +kernel
def qkt24 : Cf := ct qkt1 [97, 61, 45, 55, 59, 108, 61, 57]
def qspt0 (k : Nat) : Nat := match k with
  | 0 => 0
  | 1 => 5
  | _ => 9
def qcst0 (k : Nat) : Nat → Int := match k with
  | 0 => tl5 0 0 0 0 (-7)
  | 1 => tl5 0 11 0 0 9
  | _ => tl5 0 0 0 0 0
theorem qwst0 : WS (tl [97, 61, 45, 55, 59, 108, 61, 57]) 2 qspt0 qcst0 := ⟨rfl, fun k hk => by
  rcases (show k = 0 ∨ k = 1 by omega) with rfl | rfl
  · exact ⟨Or.inr (Or.inr (Or.inl ⟨1, 7, by decide +kernel, by decide +kernel, Or.inr ⟨by decide +kernel, by unfold Nu; decide +kernel, rfl, rfl⟩⟩)), by decide, ns_of (by decide +kernel), by decide +kernel⟩
  · exact ⟨Or.inr (Or.inr (Or.inl ⟨1, 9, by decide +kernel, by decide +kernel, Or.inl ⟨by unfold Nu; decide +kernel, rfl, rfl⟩⟩)), by decide, ns_of (by decide +kernel), by decide +kernel⟩⟩
theorem qft43 : whole (tl [97, 61, 45, 55, 59, 108, 61, 57]) 8 = true := by decide +kernel
def qst1 : Nat → Int := SN 1649202693624358418939931706606667848780813395167122504929209716099717444343500530704953781459908066268807069696769222104461997285605778272717780202460374359794284627126950949658163051073644338051898713858390308351572847729602831230640458286138034314589865742220766719484798720181839126168716817295980358489306822578896563871968349645133855757200698773864010962563026469444397672955281864754080804538885566367793156
theorem qwt1 : WF qst1 := wf_sn (by decide +kernel)
theorem qnt1 : nn qst1 = 2 := by decide +kernel
theorem qft44 : agb (addS qst0 (qcst0) 2) qst1 = true := by decide +kernel
def qkt25 : Cf := nx qkt24 qst1
def qkt26 : Cf := ct qkt25 []
theorem qft45 : ord qst1 1 (V0 qst1) 0 = (-7 : Int32) := by decide +kernel
theorem qft46 : ord qst1 1 (V0 qst1) 11 = (9 : Int32) := by decide +kernel
def qkt27 : Cf := cfS qkt26 qst0 (Cf.HS qkt26) 0
theorem g_texts_L343 {X : Mem} (h : KC qkt27 X) : OK1 (fL_texts_L343 X) := by
  unfold fL_texts_L343
  exact sg_loop (c := qkt27) 60 0 62 _ (by omega) (by omega) h
theorem g_texts_L256 {X : Mem} (h : KC qkt22 X) : OK1 (fL_texts_L256 X) := by
  unfold fL_texts_L256
  refine st_bif (v := (-2012 : Int32)) OK1 (by rw [call_9]; exact clo_x (k := 2) (n_addAll0 h qft41)) (fun X1 (h1 : KC qkt22 X1) => ?_)
  refine st_bif (v := (3 : Int32)) OK1 (z_clearBuffer h1 (M := 3) rfl) (fun X2 (h2 : KC qkt23 X2) => ?_)
  refine st_bel (v := (1 : Int32)) OK1 (x_types (c := qkt23) (l := []) h2 qft42 (by decide) (by decide)) (by decide) (fun X3 (h3 : KC qkt24 X3) => ?_)
  refine st_zif (v := (2 : Int32)) OK1 (z_addAll h3 qft43 (K := 2) qwst0 (by decide) rfl (w := 2) (by rw [show nn (Cf.S qkt24) = 0 from qnt0]) (by decide) (S' := qst1) (agb_of qft44) qwt1) (fun X4 (h4 : KC qkt26 X4) => ?_)
  refine st_zif (v := (-7 : Int32)) OK1 (z_registerInOrder h4 (n := 0) (by decide) qft45) (fun X5 (h5 : KC qkt26 X5) => ?_)
  refine st_zif (v := (9 : Int32)) OK1 (z_registerInOrder h5 (n := 11) (by decide) qft46) (fun X6 (h6 : KC qkt26 X6) => ?_)
  refine st_bif (v := (1 : Int32)) OK1 (z_savedStates h6 (M := 1) rfl) (fun X7 (h7 : KC qkt26 X7) => ?_)
  refine st_zif (v := (0 : Int32)) OK1 (z_undo h7 (M := 0) rfl) (fun X8 (h8 : KC qkt27 X8) => ?_)
  refine st_bif (v := (0 : Int32)) OK1 (z_steps h8 qnt0) (fun X9 (h9 : KC qkt27 X9) => ?_)
  exact g_texts_L343 h9
theorem g_texts_L132 {X : Mem} (h : KC qkt12 X) : OK1 (fL_texts_L132 X) := by
  unfold fL_texts_L132
  refine st_bel (v := (1 : Int32)) OK1 (x_isError h qft21 qft1 (by decide) (by decide) (by decide) (i := 7) qft22) (by decide) (fun X1 (h1 : KC qkt13 X1) => ?_)
  refine st_bel (v := (1 : Int32)) OK1 (x_isError h1 qft23 qft1 (by decide) (by decide) (by decide) (i := 5) qft24) (by decide) (fun X2 (h2 : KC qkt14 X2) => ?_)
  refine st_bel (v := (1 : Int32)) OK1 (x_isError h2 qft25 qft1 (by decide) (by decide) (by decide) (i := 0) qft26) (by decide) (fun X3 (h3 : KC qkt15 X3) => ?_)
  refine st_bel (v := (1 : Int32)) OK1 (x_isError h3 qft27 qft1 (by decide) (by decide) (by decide) (i := 4) qft28) (by decide) (fun X4 (h4 : KC qkt16 X4) => ?_)
  refine st_bel (v := (1 : Int32)) OK1 (x_isError h4 qft29 qft1 (by decide) (by decide) (by decide) (i := 3) qft30) (by decide) (fun X5 (h5 : KC qkt17 X5) => ?_)
  refine st_bel (v := (1 : Int32)) OK1 (x_isError h5 qft1 qft1 (by decide) (by decide) (by decide) (i := 0) qft31) (by decide) (fun X6 (h6 : KC qkt18 X6) => ?_)
  refine st_bel (v := (1 : Int32)) OK1 (x_isError h6 qft32 qft33 (by decide) (by decide) (by decide) (i := 10) qft34) (by decide) (fun X7 (h7 : KC qkt19 X7) => ?_)
  refine st_bel (v := (1 : Int32)) OK1 (x_isError h7 qft35 qft1 (by decide) (by decide) (by decide) (i := 5) qft36) (by decide) (fun X8 (h8 : KC qkt20 X8) => ?_)
  refine st_bel (v := (1 : Int32)) OK1 (x_isError h8 qft37 qft1 (by decide) (by decide) (by decide) (i := 1) qft38) (by decide) (fun X9 (h9 : KC qkt21 X9) => ?_)
  refine st_bel (v := (1 : Int32)) OK1 (x_isError h9 qft39 qft1 (by decide) (by decide) (by decide) (i := 0) qft40) (by decide) (fun X10 (h10 : KC qkt22 X10) => ?_)
  exact g_texts_L256 h10
theorem ok_texts {μ : Mem} : OK1 (fL_texts μ) := by
  unfold fL_texts
  refine st_bel (v := (1 : Int32)) OK1 (x_isError qstartt qft0 qft1 (by decide) (by decide) (by decide) (i := 3) qft2) (by decide) (fun X1 (h1 : KC qkt3 X1) => ?_)
  refine st_bel (v := (1 : Int32)) OK1 (x_isError h1 qft3 qft1 (by decide) (by decide) (by decide) (i := 3) qft4) (by decide) (fun X2 (h2 : KC qkt4 X2) => ?_)
  refine st_bel (v := (1 : Int32)) OK1 (x_isError h2 qft5 qft1 (by decide) (by decide) (by decide) (i := 4) qft6) (by decide) (fun X3 (h3 : KC qkt5 X3) => ?_)
  refine st_bel (v := (1 : Int32)) OK1 (x_isError h3 qft7 qft1 (by decide) (by decide) (by decide) (i := 3) qft8) (by decide) (fun X4 (h4 : KC qkt6 X4) => ?_)
  refine st_bel (v := (1 : Int32)) OK1 (x_isError h4 qft9 qft1 (by decide) (by decide) (by decide) (i := 3) qft10) (by decide) (fun X5 (h5 : KC qkt7 X5) => ?_)
  refine st_bel (v := (1 : Int32)) OK1 (x_isError h5 qft11 qft1 (by decide) (by decide) (by decide) (i := 5) qft12) (by decide) (fun X6 (h6 : KC qkt8 X6) => ?_)
  refine st_bel (v := (1 : Int32)) OK1 (x_isError h6 qft13 qft1 (by decide) (by decide) (by decide) (i := 3) qft14) (by decide) (fun X7 (h7 : KC qkt9 X7) => ?_)
  refine st_bel (v := (1 : Int32)) OK1 (x_isError h7 qft15 qft1 (by decide) (by decide) (by decide) (i := 8) qft16) (by decide) (fun X8 (h8 : KC qkt10 X8) => ?_)
  refine st_bel (v := (1 : Int32)) OK1 (x_isError h8 qft17 qft1 (by decide) (by decide) (by decide) (i := 6) qft18) (by decide) (fun X9 (h9 : KC qkt11 X9) => ?_)
  refine st_bel (v := (1 : Int32)) OK1 (x_isError h9 qft19 qft1 (by decide) (by decide) (by decide) (i := 4) qft20) (by decide) (fun X10 (h10 : KC qkt12 X10) => ?_)
  exact g_texts_L132 h10
