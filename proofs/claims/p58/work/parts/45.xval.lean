def HV (a : Nat) (V : Nat → Int32) (μ : Mem) : Prop := ∀ k, k < 24 → μ a k = V k
theorem HV.of {a : Nat} {V : Nat → Int32} {μ μ' : Mem} {l : List Nat} (h : HV a V μ) (hF : Fr l μ μ') (hl : a ∉ l) : HV a V μ' := fun k hk => by
  rw [hF a hl]
  exact h k hk
theorem hv_upd {a : Nat} {V : Nat → Int32} {μ : Mem} (h : HV a V μ) (j : Nat) (v : Int32) : HV a (upd V j v) (mu μ a j v) := fun k hk => by
  rw [mu_at]
  unfold upd
  by_cases q : k = j
  · simp [q]
  · simp [q, h k hk]
theorem v_ld {a : Nat} {V : Nat → Int32} {μ : Mem} (h : HV a V μ) {x : Int} (hx : 0 ≤ x ∧ x < 24) : ld 24 (μ a) (ic x) = some (V x.toNat) := by
  rw [ld_ic (by omega), h _ (by omega)]
/-- the values at first -/
def V0 (S : Nat → Int) : Nat → Int32 := fun k => ic (S (8 + k))
section XV
variable {S : Nat → Int} {μ μ0 : Mem} {i j a a2 : Nat} {p : Nat → Int} {V : Nat → Int32}
theorem x_cellPlace (h : XS 1 S μ) (hW : WF S) (hV : HV a V μ) (hi : i < nn S) : fX5_cellPlace μ (ic i) a = some (ic (adr S V i), μ) := by
  have h1 := hW.on hi
  have h2 := hW.nb hi
  have h3 := i32_rg (V (on S i).toNat)
  simp (disch := omega) only [fX5_cellPlace, x_on h hW hi, Option.bind_some, v_ld hV, x_nb h hW hi, jc_of, ic_toInt, jc_add, jc_lit, floorMod12L, bd_some, jc_to32, ic_lit, ic_add]
  unfold adr
  congr 3
  omega
theorem x_placeOf (h : XS 1 S μ) (hW : WF S) (hV : HV a V μ) (hi : i < nn S) : fX5_placeOf μ (ic i) a = some (ic (plc S V i), μ) := by
  have h1 := hW.kd hi
  have h2 := hW.tg hi
  simp (disch := omega) only [fX5_placeOf, x_kd h hW hi, Option.bind_some, ic_lit, ic_eq, x_cellPlace h hW hV hi, bd_some, x_tg h hW hi]
  unfold plc
  split
  · rfl
  · congr 3
    omega
theorem x_resultOf (h : XS 1 S μ) (hW : WF S) (hV : HV a V μ) (hi : i < nn S) : fX5_resultOf μ (ic i) a = some (rsl S V i, μ) := by
  have h1 := hW.kd hi
  have h2 := hW.on hi
  have h3 := hW.tw hi
  have h4 := adr_lt S V i
  have e : ((adr S V i : Nat) : Int).toNat = adr S V i := by omega
  simp (disch := omega) only [fX5_resultOf, x_kd h hW hi, x_on h hW hi, x_tw h hW hi, x_nb h hW hi, Option.bind_some, v_ld hV, ic_lit, ic_eq, x_cellPlace h hW hV hi, bd_some, e]
  unfold rsl jmax
  repeat' split
  all_goals rfl
theorem x_ordk (h : XS 1 S μ0) (hW : WF S) (ha : 11 ≤ a) (K : Int32 → Int32 → Mem → Option (Unit × Mem)) (r m : Int32) (hF : Fr [a] μ0 μ) (hV : HV a V μ) : ∃ μ', (Fr [a] μ0 μ' ∧ HV a (ordk S (nn S) V) μ') ∧ fX5_doInOrder_L24 a K fu r m (ic 0) μ = K r (m + 1) μ' := by
  have hn := hW.n
  have key := lq_m (fun f v ν => fX5_doInOrder_L24 a K f r m v ν) (fun ν => K r (m + 1) ν) 0 (nn S) (fun k ν => Fr [a] μ0 ν ∧ HV a (ordk S k V) ν) (by omega) ?_ ?_ μ fu (fu_lt (by omega)) ⟨hF, hV⟩
  · exact key
  · rintro f k ν - hk ⟨h2, h3⟩
    have x1 : XS 1 S ν := h.fr h2 (by simp; omega)
    have hp := plc_lt hW (ordk S k V) hk
    have e : ((plc S (ordk S k V) k : Nat) : Int).toNat = plc S (ordk S k V) k := by omega
    refine ⟨mu ν a (plc S (ordk S k V) k) (rsl S (ordk S k V) k), ⟨h2.trans (Fr_mu (by simp)), hv_upd h3 _ _⟩, ?_⟩
    simp (disch := omega) only [fX5_doInOrder_L24, x_n x1 hW, ic_le, x_placeOf x1 hW h3 hk, bd_some, x_resultOf x1 hW h3 hk, ast_ic, e, Option.bind_some, ic_lit, ic_add]
    rw [if_neg (by omega)]
    rfl
  · rintro f ν ⟨h2, h3⟩
    have x1 : XS 1 S ν := h.fr h2 (by simp; omega)
    simp (disch := omega) only [fX5_doInOrder_L24, x_n x1 hW, ic_le]
    rw [if_pos (by omega)]
theorem HV0 (h : XS 1 S μ) : HV a (V0 S) (ms μ a (va_cpy (μ 8) (μ a) 0 0 24)) := fun k hk => by
  unfold ms va_cpy
  rw [if_pos rfl, if_pos (by omega), show 0 + (k - 0) = k by omega, x_fi h hk]
  rfl
theorem x_doInOrder (h : XS 1 S μ) (hW : WF S) (ha : 11 ≤ a) {r : Nat} (hr : r ≤ 20) : ∃ μ', fX5_doInOrder μ (ic r) a = some ((), μ') ∧ Fr [a] μ μ' ∧ HV a (ord S r (V0 S)) μ' := by
  have hn := hW.n
  have e1 := acp_ic (μ := μ) (n0 := 24) (n1 := 24) (a0 := 8) (a1 := a) (sp := 0) (dp := 0) (n := 24) (by omega)
  have f1 : Fr [a] μ (ms μ a (va_cpy (μ 8) (μ a) 0 0 24)) := Fr_ms (by simp)
  have key := lq_m (fun f v ν => fX5_doInOrder_L15 a f (ic r) v ν) (fun ν => some ((), ν)) 0 r (fun m ν => Fr [a] μ ν ∧ HV a (ord S m (V0 S)) ν) (by omega) ?_ ?_ (ms μ a (va_cpy (μ 8) (μ a) 0 0 24)) fu (fu_lt (by omega)) ⟨f1, HV0 h⟩
  · obtain ⟨ν, ⟨h2, h3⟩, h4⟩ := key
    refine ⟨ν, ?_, h2, h3⟩
    unfold fX5_doInOrder
    simp only [ic_lit]
    have e1' : acp 24 24 μ 8 (ic 0) a (ic 0) (ic 24) = _ := e1
    rw [e1', Option.bind_some]
    exact h4
  · rintro f m ν - hm ⟨h2, h3⟩
    obtain ⟨ν', h5, h6⟩ := x_ordk h hW ha (fX5_doInOrder_L15 a f) (ic r) (ic m) h2 h3
    refine ⟨ν', h5, ?_⟩
    simp (disch := omega) only [fX5_doInOrder_L15, ic_le, ic_lit]
    rw [if_neg (by omega), h6]
    simp only [ic_lit, ic_add]
    rfl
  · rintro f ν ⟨h2, h3⟩
    simp (disch := omega) only [fX5_doInOrder_L15, ic_le]
    rw [if_pos (by omega)]
theorem x_roundOf {past beat rounds : Int} (h1 : -2147483648 ≤ past ∧ past < 2147483648) (h2 : 1 ≤ beat ∧ beat ≤ 10000) (h3 : 0 ≤ rounds ∧ rounds ≤ 20) : fX5_roundOf μ (ic past) (ic beat) (ic rounds) = some (ic (rnd past beat rounds), μ) := by
  unfold rnd
  by_cases c1 : past < 0
  · simp (disch := omega) only [fX5_roundOf, ic_lit, ic_lt, ic_neg]
    rw [if_pos c1, if_pos c1]
  · have hd : 0 ≤ past / beat ∧ past / beat ≤ past := div_rg (by omega) h2.1
    have he : 0 ≤ past % beat ∧ past % beat < beat := ⟨Int.emod_nonneg _ (by omega), Int.emod_lt_of_pos _ (by omega)⟩
    simp (disch := omega) only [fX5_roundOf, ic_lit, ic_lt, ic_neg, rmd_ic, Option.bind_some, ic_eq, dv_ic, ic_le]
    rw [if_neg c1, if_neg c1, if_neg (by omega)]
    by_cases c2 : past % beat = 0
    · rw [if_pos c2]
      by_cases c3 : past / beat < rounds
      · rw [if_neg (by omega), if_neg (by omega), if_pos ⟨c2, c3⟩]
      · rw [if_pos (by omega), if_neg (by omega)]
    · rw [if_neg c2, if_neg (by omega)]
end XV

