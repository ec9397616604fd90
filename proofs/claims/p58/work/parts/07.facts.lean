theorem kc_m1 : Int32.ofInt (-1) = (-1 : Int32) := by decide +kernel
theorem kc_0 : Int32.ofInt (0) = (0 : Int32) := by decide +kernel
theorem kc_1 : Int32.ofInt (1) = (1 : Int32) := by decide +kernel
theorem kc_2 : Int32.ofInt (2) = (2 : Int32) := by decide +kernel
theorem kc_3 : Int32.ofInt (3) = (3 : Int32) := by decide +kernel
theorem kc_4 : Int32.ofInt (4) = (4 : Int32) := by decide +kernel
theorem kc_5 : Int32.ofInt (5) = (5 : Int32) := by decide +kernel
theorem kc_6 : Int32.ofInt (6) = (6 : Int32) := by decide +kernel
theorem kc_7 : Int32.ofInt (7) = (7 : Int32) := by decide +kernel
theorem kc_8 : Int32.ofInt (8) = (8 : Int32) := by decide +kernel
theorem kc_9 : Int32.ofInt (9) = (9 : Int32) := by decide +kernel
theorem kc_10 : Int32.ofInt (10) = (10 : Int32) := by decide +kernel
theorem kc_11 : Int32.ofInt (11) = (11 : Int32) := by decide +kernel
theorem kc_12 : Int32.ofInt (12) = (12 : Int32) := by decide +kernel
theorem kc_13 : Int32.ofInt (13) = (13 : Int32) := by decide +kernel
theorem kc_14 : Int32.ofInt (14) = (14 : Int32) := by decide +kernel
theorem kc_15 : Int32.ofInt (15) = (15 : Int32) := by decide +kernel
theorem kc_16 : Int32.ofInt (16) = (16 : Int32) := by decide +kernel
theorem kc_17 : Int32.ofInt (17) = (17 : Int32) := by decide +kernel
theorem kc_18 : Int32.ofInt (18) = (18 : Int32) := by decide +kernel
theorem kc_19 : Int32.ofInt (19) = (19 : Int32) := by decide +kernel
theorem kb_m99 : (Int8.ofInt (-99)).toInt32 = (-99 : Int32) := by decide +kernel
theorem kb_6 : (Int8.ofInt (6)).toInt32 = (6 : Int32) := by decide +kernel
theorem kb_7 : (Int8.ofInt (7)).toInt32 = (7 : Int32) := by decide +kernel
theorem kb_8 : (Int8.ofInt (8)).toInt32 = (8 : Int32) := by decide +kernel
theorem kb_9 : (Int8.ofInt (9)).toInt32 = (9 : Int32) := by decide +kernel
theorem kb_10 : (Int8.ofInt (10)).toInt32 = (10 : Int32) := by decide +kernel
theorem kb_11 : (Int8.ofInt (11)).toInt32 = (11 : Int32) := by decide +kernel
theorem kb_12 : (Int8.ofInt (12)).toInt32 = (12 : Int32) := by decide +kernel
theorem kb_13 : (Int8.ofInt (13)).toInt32 = (13 : Int32) := by decide +kernel
theorem kb_14 : (Int8.ofInt (14)).toInt32 = (14 : Int32) := by decide +kernel
theorem kb_15 : (Int8.ofInt (15)).toInt32 = (15 : Int32) := by decide +kernel
theorem kb_16 : (Int8.ofInt (16)).toInt32 = (16 : Int32) := by decide +kernel
theorem kb_17 : (Int8.ofInt (17)).toInt32 = (17 : Int32) := by decide +kernel
theorem kb_18 : (Int8.ofInt (18)).toInt32 = (18 : Int32) := by decide +kernel
theorem kb_19 : (Int8.ofInt (19)).toInt32 = (19 : Int32) := by decide +kernel
theorem kb_20 : (Int8.ofInt (20)).toInt32 = (20 : Int32) := by decide +kernel
theorem kb_24 : (Int8.ofInt (24)).toInt32 = (24 : Int32) := by decide +kernel
theorem kb_33 : (Int8.ofInt (33)).toInt32 = (33 : Int32) := by decide +kernel
theorem kb_42 : (Int8.ofInt (42)).toInt32 = (42 : Int32) := by decide +kernel
theorem kb_43 : (Int8.ofInt (43)).toInt32 = (43 : Int32) := by decide +kernel
theorem kb_45 : (Int8.ofInt (45)).toInt32 = (45 : Int32) := by decide +kernel
theorem kb_48 : (Int8.ofInt (48)).toInt32 = (48 : Int32) := by decide +kernel
theorem kb_49 : (Int8.ofInt (49)).toInt32 = (49 : Int32) := by decide +kernel
theorem kb_52 : (Int8.ofInt (52)).toInt32 = (52 : Int32) := by decide +kernel
theorem kb_57 : (Int8.ofInt (57)).toInt32 = (57 : Int32) := by decide +kernel
theorem kb_59 : (Int8.ofInt (59)).toInt32 = (59 : Int32) := by decide +kernel
theorem kb_60 : (Int8.ofInt (60)).toInt32 = (60 : Int32) := by decide +kernel
theorem kb_61 : (Int8.ofInt (61)).toInt32 = (61 : Int32) := by decide +kernel
theorem kb_91 : (Int8.ofInt (91)).toInt32 = (91 : Int32) := by decide +kernel
theorem kb_93 : (Int8.ofInt (93)).toInt32 = (93 : Int32) := by decide +kernel
theorem kb_94 : (Int8.ofInt (94)).toInt32 = (94 : Int32) := by decide +kernel
theorem kb_97 : (Int8.ofInt (97)).toInt32 = (97 : Int32) := by decide +kernel
theorem kb_99 : (Int8.ofInt (99)).toInt32 = (99 : Int32) := by decide +kernel
theorem kb_108 : (Int8.ofInt (108)).toInt32 = (108 : Int32) := by decide +kernel
theorem kb_120 : (Int8.ofInt (120)).toInt32 = (120 : Int32) := by decide +kernel
theorem kb_126 : (Int8.ofInt (126)).toInt32 = (126 : Int32) := by decide +kernel
theorem ks_200 : (Int16.ofInt (200)).toInt32 = (200 : Int32) := by decide +kernel
theorem ks_205 : (Int16.ofInt (205)).toInt32 = (205 : Int32) := by decide +kernel
theorem ks_340 : (Int16.ofInt (340)).toInt32 = (340 : Int32) := by decide +kernel
theorem ks_400 : (Int16.ofInt (400)).toInt32 = (400 : Int32) := by decide +kernel
theorem ks_1020 : (Int16.ofInt (1020)).toInt32 = (1020 : Int32) := by decide +kernel
theorem ks_1100 : (Int16.ofInt (1100)).toInt32 = (1100 : Int32) := by decide +kernel
theorem kt_0 : (Int32.ofInt 0).toInt = 0 := by decide +kernel
theorem kt0_0 : (0 : Int32).toInt = 0 := by decide +kernel
theorem kt_1 : (Int32.ofInt 1).toInt = 1 := by decide +kernel
theorem kt0_1 : (1 : Int32).toInt = 1 := by decide +kernel
theorem kt_2 : (Int32.ofInt 2).toInt = 2 := by decide +kernel
theorem kt0_2 : (2 : Int32).toInt = 2 := by decide +kernel
theorem kt_3 : (Int32.ofInt 3).toInt = 3 := by decide +kernel
theorem kt0_3 : (3 : Int32).toInt = 3 := by decide +kernel
theorem kt_4 : (Int32.ofInt 4).toInt = 4 := by decide +kernel
theorem kt0_4 : (4 : Int32).toInt = 4 := by decide +kernel
theorem kt_5 : (Int32.ofInt 5).toInt = 5 := by decide +kernel
theorem kt0_5 : (5 : Int32).toInt = 5 := by decide +kernel
theorem kt_6 : (Int32.ofInt 6).toInt = 6 := by decide +kernel
theorem kt0_6 : (6 : Int32).toInt = 6 := by decide +kernel
theorem kt_7 : (Int32.ofInt 7).toInt = 7 := by decide +kernel
theorem kt0_7 : (7 : Int32).toInt = 7 := by decide +kernel
theorem kt_8 : (Int32.ofInt 8).toInt = 8 := by decide +kernel
theorem kt0_8 : (8 : Int32).toInt = 8 := by decide +kernel
theorem kt_9 : (Int32.ofInt 9).toInt = 9 := by decide +kernel
theorem kt0_9 : (9 : Int32).toInt = 9 := by decide +kernel
theorem kt_10 : (Int32.ofInt 10).toInt = 10 := by decide +kernel
theorem kt0_10 : (10 : Int32).toInt = 10 := by decide +kernel
theorem kt_11 : (Int32.ofInt 11).toInt = 11 := by decide +kernel
theorem kt0_11 : (11 : Int32).toInt = 11 := by decide +kernel
theorem kt_12 : (Int32.ofInt 12).toInt = 12 := by decide +kernel
theorem kt0_12 : (12 : Int32).toInt = 12 := by decide +kernel
theorem kt_13 : (Int32.ofInt 13).toInt = 13 := by decide +kernel
theorem kt0_13 : (13 : Int32).toInt = 13 := by decide +kernel
theorem kt_14 : (Int32.ofInt 14).toInt = 14 := by decide +kernel
theorem kt0_14 : (14 : Int32).toInt = 14 := by decide +kernel
theorem kt_15 : (Int32.ofInt 15).toInt = 15 := by decide +kernel
theorem kt0_15 : (15 : Int32).toInt = 15 := by decide +kernel
theorem kt_16 : (Int32.ofInt 16).toInt = 16 := by decide +kernel
theorem kt0_16 : (16 : Int32).toInt = 16 := by decide +kernel
theorem kt_17 : (Int32.ofInt 17).toInt = 17 := by decide +kernel
theorem kt0_17 : (17 : Int32).toInt = 17 := by decide +kernel
theorem kt_18 : (Int32.ofInt 18).toInt = 18 := by decide +kernel
theorem kt0_18 : (18 : Int32).toInt = 18 := by decide +kernel
theorem kt_19 : (Int32.ofInt 19).toInt = 19 := by decide +kernel
theorem kt0_19 : (19 : Int32).toInt = 19 := by decide +kernel
theorem kt_20 : (Int32.ofInt 20).toInt = 20 := by decide +kernel
theorem kt0_20 : (20 : Int32).toInt = 20 := by decide +kernel
theorem kt_21 : (Int32.ofInt 21).toInt = 21 := by decide +kernel
theorem kt0_21 : (21 : Int32).toInt = 21 := by decide +kernel
theorem kt_22 : (Int32.ofInt 22).toInt = 22 := by decide +kernel
theorem kt0_22 : (22 : Int32).toInt = 22 := by decide +kernel
theorem kt_23 : (Int32.ofInt 23).toInt = 23 := by decide +kernel
theorem kt0_23 : (23 : Int32).toInt = 23 := by decide +kernel
theorem tab_ne {x k : Int32} {i : Int} (h : ¬ x = k) (hk : k.toInt = i) : x.toInt ≠ i := fun q => h (Int32.toInt_inj.mp (q.trans hk.symm))
def fu : Nat := 5000
def sfX_0 : Nat → Option Nat := fun k => match k with
  | 0 => some 1
  | 1 => some 11
  | 2 => some 63
  | 4 => some 73
  | 5 => some 75
  | 7 => some 83
  | 8 => some 86
  | 9 => some 89
  | 11 => some 92
  | 12 => some 97
  | 13 => some 98
  | 14 => some 99
  | 15 => some 100
  | _ => none
def sfX_1 : Nat → Option Nat := fun k => match k with
  | 1 => some 2
  | 2 => some 3
  | 3 => some 4
  | 4 => some 5
  | 5 => some 6
  | 6 => some 7
  | 7 => some 8
  | 8 => some 9
  | 9 => some 10
  | _ => none
def sfX_11 : Nat → Option Nat := fun k => match k with
  | 0 => some 12
  | _ => none
def sfX_13 : Nat → Option Nat := fun k => match k with
  | 1 => some 14
  | 2 => some 15
  | 3 => some 16
  | 4 => some 17
  | 5 => some 18
  | 6 => some 19
  | 7 => some 20
  | 8 => some 21
  | 9 => some 22
  | _ => none
def sfX_23 : Nat → Option Nat := fun k => match k with
  | 1 => some 24
  | 2 => some 25
  | 3 => some 26
  | 4 => some 27
  | 5 => some 28
  | 6 => some 29
  | 7 => some 30
  | 8 => some 31
  | 9 => some 32
  | _ => none
def sfX_33 : Nat → Option Nat := fun k => match k with
  | 1 => some 34
  | 2 => some 35
  | 3 => some 36
  | 4 => some 37
  | 5 => some 38
  | 6 => some 39
  | 7 => some 40
  | 8 => some 41
  | 9 => some 42
  | _ => none
def sfX_43 : Nat → Option Nat := fun k => match k with
  | 1 => some 44
  | 2 => some 45
  | 3 => some 46
  | 4 => some 47
  | 5 => some 48
  | 6 => some 49
  | 7 => some 50
  | 8 => some 51
  | 9 => some 52
  | _ => none
def sfX_53 : Nat → Option Nat := fun k => match k with
  | 1 => some 54
  | 2 => some 55
  | 3 => some 56
  | 4 => some 57
  | 5 => some 58
  | 6 => some 59
  | 7 => some 60
  | 8 => some 61
  | 9 => some 62
  | _ => none
def sfX_63 : Nat → Option Nat := fun k => match k with
  | 1 => some 64
  | 2 => some 65
  | 3 => some 66
  | 4 => some 67
  | 5 => some 68
  | 6 => some 69
  | 7 => some 70
  | 8 => some 71
  | 9 => some 72
  | _ => none
def sfX_73 : Nat → Option Nat := fun k => match k with
  | 0 => some 74
  | _ => none
def sfX_75 : Nat → Option Nat := fun k => match k with
  | 1 => some 76
  | 2 => some 77
  | 3 => some 78
  | 4 => some 79
  | 5 => some 80
  | 6 => some 81
  | 7 => some 82
  | _ => none
def sfX_83 : Nat → Option Nat := fun k => match k with
  | 0 => some 84
  | 1 => some 85
  | _ => none
def sfX_86 : Nat → Option Nat := fun k => match k with
  | 0 => some 87
  | 1 => some 88
  | _ => none
def sfX_89 : Nat → Option Nat := fun k => match k with
  | 0 => some 90
  | 1 => some 91
  | _ => none
def sfX_92 : Nat → Option Nat := fun k => match k with
  | 0 => some 93
  | 1 => some 94
  | 2 => some 95
  | 3 => some 96
  | _ => none
def shXL : List Shp := [(10, 16, sfX_0), (8, 11, sfX_1), (0, 20, (fun _ => none : Nat → Option Nat)), (0, 20, (fun _ => none : Nat → Option Nat)), (0, 20, (fun _ => none : Nat → Option Nat)), (0, 20, (fun _ => none : Nat → Option Nat)), (0, 20, (fun _ => none : Nat → Option Nat)), (0, 20, (fun _ => none : Nat → Option Nat)), (0, 24, (fun _ => none : Nat → Option Nat)), (0, 3, (fun _ => none : Nat → Option Nat)), (0, 3, (fun _ => none : Nat → Option Nat)), (3, 2, sfX_11), (1, 5, (fun _ => none : Nat → Option Nat)), (8, 11, sfX_13), (0, 20, (fun _ => none : Nat → Option Nat)), (0, 20, (fun _ => none : Nat → Option Nat)), (0, 20, (fun _ => none : Nat → Option Nat)), (0, 20, (fun _ => none : Nat → Option Nat)), (0, 20, (fun _ => none : Nat → Option Nat)), (0, 20, (fun _ => none : Nat → Option Nat)), (0, 24, (fun _ => none : Nat → Option Nat)), (0, 3, (fun _ => none : Nat → Option Nat)), (0, 3, (fun _ => none : Nat → Option Nat)), (8, 11, sfX_23), (0, 20, (fun _ => none : Nat → Option Nat)), (0, 20, (fun _ => none : Nat → Option Nat)), (0, 20, (fun _ => none : Nat → Option Nat)), (0, 20, (fun _ => none : Nat → Option Nat)), (0, 20, (fun _ => none : Nat → Option Nat)), (0, 20, (fun _ => none : Nat → Option Nat)), (0, 24, (fun _ => none : Nat → Option Nat)), (0, 3, (fun _ => none : Nat → Option Nat)), (0, 3, (fun _ => none : Nat → Option Nat)), (8, 11, sfX_33), (0, 20, (fun _ => none : Nat → Option Nat)), (0, 20, (fun _ => none : Nat → Option Nat)), (0, 20, (fun _ => none : Nat → Option Nat)), (0, 20, (fun _ => none : Nat → Option Nat)), (0, 20, (fun _ => none : Nat → Option Nat)), (0, 20, (fun _ => none : Nat → Option Nat)), (0, 24, (fun _ => none : Nat → Option Nat)), (0, 3, (fun _ => none : Nat → Option Nat)), (0, 3, (fun _ => none : Nat → Option Nat)), (8, 11, sfX_43), (0, 20, (fun _ => none : Nat → Option Nat)), (0, 20, (fun _ => none : Nat → Option Nat)), (0, 20, (fun _ => none : Nat → Option Nat)), (0, 20, (fun _ => none : Nat → Option Nat)), (0, 20, (fun _ => none : Nat → Option Nat)), (0, 20, (fun _ => none : Nat → Option Nat)), (0, 24, (fun _ => none : Nat → Option Nat)), (0, 3, (fun _ => none : Nat → Option Nat)), (0, 3, (fun _ => none : Nat → Option Nat)), (8, 11, sfX_53), (0, 20, (fun _ => none : Nat → Option Nat)), (0, 20, (fun _ => none : Nat → Option Nat)), (0, 20, (fun _ => none : Nat → Option Nat)), (0, 20, (fun _ => none : Nat → Option Nat)), (0, 20, (fun _ => none : Nat → Option Nat)), (0, 20, (fun _ => none : Nat → Option Nat)), (0, 24, (fun _ => none : Nat → Option Nat)), (0, 3, (fun _ => none : Nat → Option Nat)), (0, 3, (fun _ => none : Nat → Option Nat)), (8, 11, sfX_63), (0, 20, (fun _ => none : Nat → Option Nat)), (0, 20, (fun _ => none : Nat → Option Nat)), (0, 20, (fun _ => none : Nat → Option Nat)), (0, 20, (fun _ => none : Nat → Option Nat)), (0, 20, (fun _ => none : Nat → Option Nat)), (0, 20, (fun _ => none : Nat → Option Nat)), (0, 24, (fun _ => none : Nat → Option Nat)), (0, 3, (fun _ => none : Nat → Option Nat)), (0, 3, (fun _ => none : Nat → Option Nat)), (9, 2, sfX_73), (0, 60, (fun _ => none : Nat → Option Nat)), (4, 8, sfX_75), (0, 20, (fun _ => none : Nat → Option Nat)), (0, 20, (fun _ => none : Nat → Option Nat)), (0, 20, (fun _ => none : Nat → Option Nat)), (0, 400, (fun _ => none : Nat → Option Nat)), (0, 400, (fun _ => none : Nat → Option Nat)), (0, 20, (fun _ => none : Nat → Option Nat)), (0, 20, (fun _ => none : Nat → Option Nat)), (6, 2, sfX_83), (0, 20, (fun _ => none : Nat → Option Nat)), (0, 3, (fun _ => none : Nat → Option Nat)), (2, 2, sfX_86), (0, 400, (fun _ => none : Nat → Option Nat)), (0, 20, (fun _ => none : Nat → Option Nat)), (5, 4, sfX_89), (0, 20, (fun _ => none : Nat → Option Nat)), (0, 1020, (fun _ => none : Nat → Option Nat)), (7, 4, sfX_92), (0, 400, (fun _ => none : Nat → Option Nat)), (0, 400, (fun _ => none : Nat → Option Nat)), (0, 24, (fun _ => none : Nat → Option Nat)), (0, 24, (fun _ => none : Nat → Option Nat)), (0, 24, (fun _ => none : Nat → Option Nat)), (0, 24, (fun _ => none : Nat → Option Nat)), (0, 24, (fun _ => none : Nat → Option Nat)), (0, 24, (fun _ => none : Nat → Option Nat))]
def shX (k : Nat) : Shp := shXL.getD k (9999, 0, (fun _ => none : Nat → Option Nat))
abbrev NX : Nat := 101
def Pa (shf : Nat → Shp) (N n a : Nat) : Prop := a < N ∧ ak (shf a) = some n
theorem px_2 : Pa shX NX 20 2 := ⟨(Nat.le_of_ble_eq_true rfl), rfl⟩
theorem px_3 : Pa shX NX 20 3 := ⟨(Nat.le_of_ble_eq_true rfl), rfl⟩
theorem px_4 : Pa shX NX 20 4 := ⟨(Nat.le_of_ble_eq_true rfl), rfl⟩
theorem px_5 : Pa shX NX 20 5 := ⟨(Nat.le_of_ble_eq_true rfl), rfl⟩
theorem px_6 : Pa shX NX 20 6 := ⟨(Nat.le_of_ble_eq_true rfl), rfl⟩
theorem px_7 : Pa shX NX 20 7 := ⟨(Nat.le_of_ble_eq_true rfl), rfl⟩
theorem px_8 : Pa shX NX 24 8 := ⟨(Nat.le_of_ble_eq_true rfl), rfl⟩
theorem px_9 : Pa shX NX 3 9 := ⟨(Nat.le_of_ble_eq_true rfl), rfl⟩
theorem px_10 : Pa shX NX 3 10 := ⟨(Nat.le_of_ble_eq_true rfl), rfl⟩
theorem px_74 : Pa shX NX 60 74 := ⟨(Nat.le_of_ble_eq_true rfl), rfl⟩
theorem px_76 : Pa shX NX 20 76 := ⟨(Nat.le_of_ble_eq_true rfl), rfl⟩
theorem px_77 : Pa shX NX 20 77 := ⟨(Nat.le_of_ble_eq_true rfl), rfl⟩
theorem px_78 : Pa shX NX 20 78 := ⟨(Nat.le_of_ble_eq_true rfl), rfl⟩
theorem px_79 : Pa shX NX 400 79 := ⟨(Nat.le_of_ble_eq_true rfl), rfl⟩
theorem px_80 : Pa shX NX 400 80 := ⟨(Nat.le_of_ble_eq_true rfl), rfl⟩
theorem px_81 : Pa shX NX 20 81 := ⟨(Nat.le_of_ble_eq_true rfl), rfl⟩
theorem px_82 : Pa shX NX 20 82 := ⟨(Nat.le_of_ble_eq_true rfl), rfl⟩
theorem px_84 : Pa shX NX 20 84 := ⟨(Nat.le_of_ble_eq_true rfl), rfl⟩
theorem px_85 : Pa shX NX 3 85 := ⟨(Nat.le_of_ble_eq_true rfl), rfl⟩
theorem px_87 : Pa shX NX 400 87 := ⟨(Nat.le_of_ble_eq_true rfl), rfl⟩
theorem px_88 : Pa shX NX 20 88 := ⟨(Nat.le_of_ble_eq_true rfl), rfl⟩
theorem px_90 : Pa shX NX 20 90 := ⟨(Nat.le_of_ble_eq_true rfl), rfl⟩
theorem px_91 : Pa shX NX 1020 91 := ⟨(Nat.le_of_ble_eq_true rfl), rfl⟩
theorem px_93 : Pa shX NX 400 93 := ⟨(Nat.le_of_ble_eq_true rfl), rfl⟩
theorem px_94 : Pa shX NX 400 94 := ⟨(Nat.le_of_ble_eq_true rfl), rfl⟩
theorem px_95 : Pa shX NX 24 95 := ⟨(Nat.le_of_ble_eq_true rfl), rfl⟩
theorem px_96 : Pa shX NX 24 96 := ⟨(Nat.le_of_ble_eq_true rfl), rfl⟩
theorem px_97 : Pa shX NX 24 97 := ⟨(Nat.le_of_ble_eq_true rfl), rfl⟩
theorem px_98 : Pa shX NX 24 98 := ⟨(Nat.le_of_ble_eq_true rfl), rfl⟩
theorem px_99 : Pa shX NX 24 99 := ⟨(Nat.le_of_ble_eq_true rfl), rfl⟩
theorem px_100 : Pa shX NX 24 100 := ⟨(Nat.le_of_ble_eq_true rfl), rfl⟩
theorem pr_12 : rk (shX 12) = some 5 := rfl
theorem fx_0_0 : fk (shX 0) 8 0 = some (some 1) := rfl
theorem fx_0_1 : fk (shX 0) 8 1 = some (some 11) := rfl
theorem fx_0_2 : fk (shX 0) 8 2 = some (some 63) := rfl
theorem fx_0_3 : fk (shX 0) 8 3 = some none := rfl
theorem fx_0_4 : fk (shX 0) 8 4 = some (some 73) := rfl
theorem fx_0_5 : fk (shX 0) 8 5 = some (some 75) := rfl
theorem fx_0_6 : fk (shX 0) 8 6 = some none := rfl
theorem fx_0_7 : fk (shX 0) 8 7 = some (some 83) := rfl
theorem fx_0_8 : fk (shX 0) 8 8 = some (some 86) := rfl
theorem fx_0_9 : fk (shX 0) 8 9 = some (some 89) := rfl
theorem fx_0_10 : fk (shX 0) 8 10 = some none := rfl
theorem fx_0_11 : fk (shX 0) 8 11 = some (some 92) := rfl
theorem fx_0_12 : fk (shX 0) 8 12 = some (some 97) := rfl
theorem fx_0_13 : fk (shX 0) 8 13 = some (some 98) := rfl
theorem fx_0_14 : fk (shX 0) 8 14 = some (some 99) := rfl
theorem fx_0_15 : fk (shX 0) 8 15 = some (some 100) := rfl
theorem fx_1_0 : fk (shX 1) 6 0 = some none := rfl
theorem fx_1_1 : fk (shX 1) 6 1 = some (some 2) := rfl
theorem fx_1_2 : fk (shX 1) 6 2 = some (some 3) := rfl
theorem fx_1_3 : fk (shX 1) 6 3 = some (some 4) := rfl
theorem fx_1_4 : fk (shX 1) 6 4 = some (some 5) := rfl
theorem fx_1_5 : fk (shX 1) 6 5 = some (some 6) := rfl
theorem fx_1_6 : fk (shX 1) 6 6 = some (some 7) := rfl
theorem fx_1_7 : fk (shX 1) 6 7 = some (some 8) := rfl
theorem fx_1_8 : fk (shX 1) 6 8 = some (some 9) := rfl
theorem fx_1_9 : fk (shX 1) 6 9 = some (some 10) := rfl
theorem fx_1_10 : fk (shX 1) 6 10 = some none := rfl
theorem fx_11_0 : fk (shX 11) 1 0 = some (some 12) := rfl
theorem fx_11_1 : fk (shX 11) 1 1 = some none := rfl
theorem fx_73_0 : fk (shX 73) 7 0 = some (some 74) := rfl
theorem fx_73_1 : fk (shX 73) 7 1 = some none := rfl
theorem fx_75_0 : fk (shX 75) 2 0 = some none := rfl
theorem fx_75_1 : fk (shX 75) 2 1 = some (some 76) := rfl
theorem fx_75_2 : fk (shX 75) 2 2 = some (some 77) := rfl
theorem fx_75_3 : fk (shX 75) 2 3 = some (some 78) := rfl
theorem fx_75_4 : fk (shX 75) 2 4 = some (some 79) := rfl
theorem fx_75_5 : fk (shX 75) 2 5 = some (some 80) := rfl
theorem fx_75_6 : fk (shX 75) 2 6 = some (some 81) := rfl
theorem fx_75_7 : fk (shX 75) 2 7 = some (some 82) := rfl
theorem fx_83_0 : fk (shX 83) 4 0 = some (some 84) := rfl
theorem fx_83_1 : fk (shX 83) 4 1 = some (some 85) := rfl
theorem fx_86_0 : fk (shX 86) 0 0 = some (some 87) := rfl
theorem fx_86_1 : fk (shX 86) 0 1 = some (some 88) := rfl
theorem fx_89_0 : fk (shX 89) 3 0 = some (some 90) := rfl
theorem fx_89_1 : fk (shX 89) 3 1 = some (some 91) := rfl
theorem fx_89_2 : fk (shX 89) 3 2 = some none := rfl
theorem fx_89_3 : fk (shX 89) 3 3 = some none := rfl
theorem fx_92_0 : fk (shX 92) 5 0 = some (some 93) := rfl
theorem fx_92_1 : fk (shX 92) 5 1 = some (some 94) := rfl
theorem fx_92_2 : fk (shX 92) 5 2 = some (some 95) := rfl
theorem fx_92_3 : fk (shX 92) 5 3 = some (some 96) := rfl
theorem sx_0 : (shX 0).1 = 8 + 2 := rfl
theorem sx_1 : (shX 1).1 = 6 + 2 := rfl
theorem sx_11 : (shX 11).1 = 1 + 2 := rfl
theorem sx_63 : (shX 63).1 = 6 + 2 := rfl
theorem sx_73 : (shX 73).1 = 7 + 2 := rfl
theorem sx_75 : (shX 75).1 = 2 + 2 := rfl
theorem sx_83 : (shX 83).1 = 4 + 2 := rfl
theorem sx_86 : (shX 86).1 = 0 + 2 := rfl
theorem sx_89 : (shX 89).1 = 3 + 2 := rfl
theorem sx_92 : (shX 92).1 = 5 + 2 := rfl
theorem ci_0 : (vwCl[0]?).map (fun q => q.1) = some RX0 := rfl
theorem ci_1 : (vwCl[1]?).map (fun q => q.1) = some RX1 := rfl
theorem ci_2 : (vwCl[2]?).map (fun q => q.1) = some RX2 := rfl
theorem ci_3 : (vwCl[3]?).map (fun q => q.1) = some RX3 := rfl
theorem ci_4 : (vwCl[4]?).map (fun q => q.1) = some RX4 := rfl
theorem ci_5 : (vwCl[5]?).map (fun q => q.1) = some RX5 := rfl
theorem ci_6 : (vwCl[6]?).map (fun q => q.1) = some RX6 := rfl
theorem ci_7 : (vwCl[7]?).map (fun q => q.1) = some RX7 := rfl
theorem ci_8 : (vwCl[8]?).map (fun q => q.1) = some RX8 := rfl
def stB : List Nat := [1, 13, 23, 33, 43, 53, 63]
def Pst (q : Nat) : Prop := q ∈ stB
def oks (q : Nat) : Bool := decide (q ∈ stB)
theorem pst_of {q : Nat} (h : oks q = true) : Pst q := by
  unfold oks at h
  unfold Pst
  exact of_decide_eq_true h
theorem pst_c (q : Nat) (h : oks q = true) : Pst q := by
  unfold oks at h
  unfold Pst
  exact of_decide_eq_true h
theorem pst_all {P : Nat → Prop} (h : ∀ q ∈ stB, P q) {q : Nat} (hq : Pst q) : P q := h q hq
theorem pst_lt {q : Nat} (h : Pst q) : q < NX := by
  unfold Pst stB at h
  simp only [List.mem_cons, List.not_mem_nil, or_false] at h
  rcases h with rfl | rfl | rfl | rfl | rfl | rfl | rfl <;> decide
theorem pst_s {q : Nat} (h : Pst q) : (shX q).1 = 6 + 2 := by
  unfold Pst stB at h
  simp only [List.mem_cons, List.not_mem_nil, or_false] at h
  rcases h with rfl | rfl | rfl | rfl | rfl | rfl | rfl <;> rfl
theorem pst_f0 {q : Nat} (h : Pst q) : fk (shX q) 6 0 = some none := by
  unfold Pst stB at h
  simp only [List.mem_cons, List.not_mem_nil, or_false] at h
  rcases h with rfl | rfl | rfl | rfl | rfl | rfl | rfl <;> rfl
theorem pst_f1 {q : Nat} (h : Pst q) : fk (shX q) 6 1 = some (some (q + 1)) := by
  unfold Pst stB at h
  simp only [List.mem_cons, List.not_mem_nil, or_false] at h
  rcases h with rfl | rfl | rfl | rfl | rfl | rfl | rfl <;> rfl
theorem pst_a1 {q : Nat} (h : Pst q) : Pa shX NX 20 (q + 1) := by
  unfold Pst stB at h
  simp only [List.mem_cons, List.not_mem_nil, or_false] at h
  rcases h with rfl | rfl | rfl | rfl | rfl | rfl | rfl <;> exact ⟨Nat.le_of_ble_eq_true rfl, rfl⟩
theorem pst_f2 {q : Nat} (h : Pst q) : fk (shX q) 6 2 = some (some (q + 2)) := by
  unfold Pst stB at h
  simp only [List.mem_cons, List.not_mem_nil, or_false] at h
  rcases h with rfl | rfl | rfl | rfl | rfl | rfl | rfl <;> rfl
theorem pst_a2 {q : Nat} (h : Pst q) : Pa shX NX 20 (q + 2) := by
  unfold Pst stB at h
  simp only [List.mem_cons, List.not_mem_nil, or_false] at h
  rcases h with rfl | rfl | rfl | rfl | rfl | rfl | rfl <;> exact ⟨Nat.le_of_ble_eq_true rfl, rfl⟩
theorem pst_f3 {q : Nat} (h : Pst q) : fk (shX q) 6 3 = some (some (q + 3)) := by
  unfold Pst stB at h
  simp only [List.mem_cons, List.not_mem_nil, or_false] at h
  rcases h with rfl | rfl | rfl | rfl | rfl | rfl | rfl <;> rfl
theorem pst_a3 {q : Nat} (h : Pst q) : Pa shX NX 20 (q + 3) := by
  unfold Pst stB at h
  simp only [List.mem_cons, List.not_mem_nil, or_false] at h
  rcases h with rfl | rfl | rfl | rfl | rfl | rfl | rfl <;> exact ⟨Nat.le_of_ble_eq_true rfl, rfl⟩
theorem pst_f4 {q : Nat} (h : Pst q) : fk (shX q) 6 4 = some (some (q + 4)) := by
  unfold Pst stB at h
  simp only [List.mem_cons, List.not_mem_nil, or_false] at h
  rcases h with rfl | rfl | rfl | rfl | rfl | rfl | rfl <;> rfl
theorem pst_a4 {q : Nat} (h : Pst q) : Pa shX NX 20 (q + 4) := by
  unfold Pst stB at h
  simp only [List.mem_cons, List.not_mem_nil, or_false] at h
  rcases h with rfl | rfl | rfl | rfl | rfl | rfl | rfl <;> exact ⟨Nat.le_of_ble_eq_true rfl, rfl⟩
theorem pst_f5 {q : Nat} (h : Pst q) : fk (shX q) 6 5 = some (some (q + 5)) := by
  unfold Pst stB at h
  simp only [List.mem_cons, List.not_mem_nil, or_false] at h
  rcases h with rfl | rfl | rfl | rfl | rfl | rfl | rfl <;> rfl
theorem pst_a5 {q : Nat} (h : Pst q) : Pa shX NX 20 (q + 5) := by
  unfold Pst stB at h
  simp only [List.mem_cons, List.not_mem_nil, or_false] at h
  rcases h with rfl | rfl | rfl | rfl | rfl | rfl | rfl <;> exact ⟨Nat.le_of_ble_eq_true rfl, rfl⟩
theorem pst_f6 {q : Nat} (h : Pst q) : fk (shX q) 6 6 = some (some (q + 6)) := by
  unfold Pst stB at h
  simp only [List.mem_cons, List.not_mem_nil, or_false] at h
  rcases h with rfl | rfl | rfl | rfl | rfl | rfl | rfl <;> rfl
theorem pst_a6 {q : Nat} (h : Pst q) : Pa shX NX 20 (q + 6) := by
  unfold Pst stB at h
  simp only [List.mem_cons, List.not_mem_nil, or_false] at h
  rcases h with rfl | rfl | rfl | rfl | rfl | rfl | rfl <;> exact ⟨Nat.le_of_ble_eq_true rfl, rfl⟩
theorem pst_f7 {q : Nat} (h : Pst q) : fk (shX q) 6 7 = some (some (q + 7)) := by
  unfold Pst stB at h
  simp only [List.mem_cons, List.not_mem_nil, or_false] at h
  rcases h with rfl | rfl | rfl | rfl | rfl | rfl | rfl <;> rfl
theorem pst_a7 {q : Nat} (h : Pst q) : Pa shX NX 24 (q + 7) := by
  unfold Pst stB at h
  simp only [List.mem_cons, List.not_mem_nil, or_false] at h
  rcases h with rfl | rfl | rfl | rfl | rfl | rfl | rfl <;> exact ⟨Nat.le_of_ble_eq_true rfl, rfl⟩
theorem pst_f8 {q : Nat} (h : Pst q) : fk (shX q) 6 8 = some (some (q + 8)) := by
  unfold Pst stB at h
  simp only [List.mem_cons, List.not_mem_nil, or_false] at h
  rcases h with rfl | rfl | rfl | rfl | rfl | rfl | rfl <;> rfl
theorem pst_a8 {q : Nat} (h : Pst q) : Pa shX NX 3 (q + 8) := by
  unfold Pst stB at h
  simp only [List.mem_cons, List.not_mem_nil, or_false] at h
  rcases h with rfl | rfl | rfl | rfl | rfl | rfl | rfl <;> exact ⟨Nat.le_of_ble_eq_true rfl, rfl⟩
theorem pst_f9 {q : Nat} (h : Pst q) : fk (shX q) 6 9 = some (some (q + 9)) := by
  unfold Pst stB at h
  simp only [List.mem_cons, List.not_mem_nil, or_false] at h
  rcases h with rfl | rfl | rfl | rfl | rfl | rfl | rfl <;> rfl
theorem pst_a9 {q : Nat} (h : Pst q) : Pa shX NX 3 (q + 9) := by
  unfold Pst stB at h
  simp only [List.mem_cons, List.not_mem_nil, or_false] at h
  rcases h with rfl | rfl | rfl | rfl | rfl | rfl | rfl <;> exact ⟨Nat.le_of_ble_eq_true rfl, rfl⟩
theorem pst_f10 {q : Nat} (h : Pst q) : fk (shX q) 6 10 = some none := by
  unfold Pst stB at h
  simp only [List.mem_cons, List.not_mem_nil, or_false] at h
  rcases h with rfl | rfl | rfl | rfl | rfl | rfl | rfl <;> rfl
