def cw0 (S : Nat → Int) (b : Int) (i j : Nat) : Int := if over S i j = -99 then (if nearT S i j = -99 then -1000000 else nearT S i j) else max (if nearT S i j = -99 then -1000000 else nearT S i j) (over S i j - b)
def cw (S : Nat → Int) (b : Int) : Nat → Nat → Nat → Int
  | 0 => cw0 S b
  | k + 1 => fun i j => if cw S b k i k = -1000000 then cw S b k i j else if cw S b k k j = -1000000 then cw S b k i j else max (cw S b k i j) (cw S b k i k + cw S b k k j)
section CW
variable {S : Nat → Int} {b : Int}
theorem cw0_sp (hW : WF S) (hb : 1 ≤ b ∧ b ≤ 200) (i j : Nat) : (gE S i j → cw0 S b i j = gw S b i j) ∧ (¬ gE S i j → cw0 S b i j = -1000000) := by
  have h1 := nearT_rg hW i j
  have h2 := over_rg hW i j
  unfold gw gE cw0
  by_cases c1 : nearT S i j = -99
  · by_cases c2 : over S i j = -99
    · rw [if_pos c2, if_pos c1, if_pos c2, if_pos c1]
      exact ⟨fun q => by omega, fun _ => rfl⟩
    · rw [if_neg c2, if_pos c1, if_neg c2, if_pos c1]
      exact ⟨fun q => by omega, fun q => by omega⟩
  · by_cases c2 : over S i j = -99
    · rw [if_pos c2, if_neg c1, if_pos c2, if_neg c1]
      exact ⟨fun q => rfl, fun q => by omega⟩
    · rw [if_neg c2, if_neg c1, if_neg c2, if_neg c1]
      exact ⟨fun q => rfl, fun q => by omega⟩
theorem cw_rg (hW : WF S) (hb : 1 ≤ b ∧ b ≤ 200) : ∀ k i j, -1000000 ≤ cw S b k i j ∧ cw S b k i j ≤ fw (gw S b) k i j
  | 0, i, j => by
    have h1 := cw0_sp hW hb i j
    have h2 := gw_rg hW hb i j
    simp only [cw, fw]
    by_cases hE : gE S i j
    · rw [h1.1 hE]
      omega
    · rw [h1.2 hE, h2.2.2.2 hE]
      omega
  | k + 1, i, j => by
    have h1 := cw_rg hW hb k i j
    have h2 := cw_rg hW hb k i k
    have h3 := cw_rg hW hb k k j
    simp only [cw, fw]
    split
    · omega
    · split <;> omega
theorem cw_th (hW : WF S) (hb : 1 ≤ b ∧ b ≤ 200) : ∀ k : Nat, k ≤ 20 → (∀ a, a < k → cw S b a a a ≤ 0) → (∀ a, a < k → fw (gw S b) a a a ≤ 0) ∧ ∀ i j, -9999 + 144 * (k : Int) < fw (gw S b) k i j → cw S b k i j = fw (gw S b) k i j
  | 0, _, _ => by
    refine ⟨fun a ha => by omega, fun i j h => ?_⟩
    have h1 := cw0_sp hW hb i j
    have h2 := gw_rg hW hb i j
    simp only [fw] at h
    by_cases hE : gE S i j
    · exact h1.1 hE
    · rw [h2.2.2.2 hE] at h
      omega
  | k + 1, hk, h => by
    obtain ⟨i1, i2⟩ := cw_th hW hb k (by omega) fun a ha => h a (by omega)
    have hkk : fw (gw S b) k k k ≤ 0 := by
      by_cases hq : 0 < fw (gw S b) k k k
      · have := i2 k k (by omega)
        have := h k (by omega)
        omega
      · omega
    have hbd := fw_bd (w := gw S b) (fun i j => (gw_rg hW hb i j).2.1) i1
    refine ⟨fun a ha => ?_, fun i j hij => ?_⟩
    · by_cases hak : a = k
      · rw [hak]
        exact hkk
      · exact i1 a (by omega)
    · have b1 := hbd i k
      have b2 := hbd k j
      have r1 := cw_rg hW hb k i j
      have r2 := cw_rg hW hb k i k
      have r3 := cw_rg hW hb k k j
      simp only [fw] at hij
      simp only [cw, fw]
      by_cases hc : fw (gw S b) k i k + fw (gw S b) k k j ≤ fw (gw S b) k i j
      · have := i2 i j (by omega)
        split
        · omega
        · split <;> omega
      · have h1 := i2 i k (by omega)
        have h2 := i2 k j (by omega)
        rw [if_neg (by omega), if_neg (by omega), h1, h2]
        omega
theorem cw_row {k : Nat} (h : cw S b k k k ≤ 0) (j : Nat) : cw S b (k + 1) k j = cw S b k k j := by
  simp only [cw]
  split
  · rfl
  · split
    · rfl
    · omega
end CW
section XK
variable {S : Nat → Int} {μ μ0 : Mem} {i j : Nat}
theorem x_wayOf (hG : LG S μ) (hW : WF S) {b : Int} (hb : 1 ≤ b ∧ b ≤ 200) (hi : i < nn S) (hj : j < nn S) : fX0_wayOf μ (ic i) (ic j) (ic b) = some (ic (cw0 S b i j), μ) := by
  have h1 := nearT_rg hW i j
  have h2 := over_rg hW i j
  simp (disch := omega) only [fX0_wayOf, x_nearOf hG hW hi hj, x_overOf hG hW hi hj, bd_some, ic_lit, ic_neg, ic_eq]
  unfold cw0
  by_cases c1 : nearT S i j = -99
  · rw [if_pos c1, if_pos c1]
    simp (disch := omega) only [fX0_wayOf_L30, ic_lit, ic_neg, ic_eq, ic_sub, jmax_ic]
    split <;> rfl
  · rw [if_neg c1, if_neg c1]
    simp (disch := omega) only [fX0_wayOf_L30, ic_lit, ic_neg, ic_eq, ic_sub, jmax_ic]
    split <;> rfl
theorem x_tinit_in (hW : WF S) (hG : LG S μ0) {b : Int} (hb : 1 ≤ b ∧ b ≤ 200) (K : Int32 → Int32 → Int32 → Mem → Option (Int32 × Mem)) (hi : i < nn S) (hF : Fr [87] μ0 μ) (hT : ∀ i' j', i' < i → j' < nn S → μ 87 (20 * i' + j') = ic (cw0 S b i' j')) :
    ∃ μ', (Fr [87] μ0 μ' ∧ ∀ i' j', i' < i + 1 → j' < nn S → μ' 87 (20 * i' + j') = ic (cw0 S b i' j')) ∧ fX0_growsInTable_L17 K fu (ic b) (ic (nn S)) (ic i) (ic 0) μ = K (ic b) (ic (nn S)) (ic ((i + 1 : Nat) : Int)) μ' := by
  have hn := hW.n
  have key := lq_m (fun f v ν => fX0_growsInTable_L17 K f (ic b) (ic (nn S)) (ic i) v ν) (fun ν => K (ic b) (ic (nn S)) (ic ((i + 1 : Nat) : Int)) ν) 0 (nn S) (fun k ν => Fr [87] μ0 ν ∧ ∀ i' j', (i' < i ∨ (i' = i ∧ j' < k)) → j' < nn S → ν 87 (20 * i' + j') = ic (cw0 S b i' j')) (by omega) ?_ ?_ μ fu (fu_lt (by omega)) ⟨hF, fun i' j' h1 h2 => hT i' j' (by omega) h2⟩
  · obtain ⟨ν, ⟨h2, h3⟩, h4⟩ := key
    exact ⟨ν, ⟨h2, fun i' j' hc h5 => h3 i' j' (by omega) h5⟩, h4⟩
  · rintro f k ν - hk ⟨h2, h3⟩
    have g1 := hG.of h2 (by decide)
    have e1 : ((i : Int) * 20 + k).toNat = 20 * i + k := by omega
    refine ⟨mu ν 87 (20 * i + k) (ic (cw0 S b i k)), ⟨h2.trans (Fr_mu (by decide)), ?_⟩, ?_⟩
    · intro i' j' hc h5
      rw [mu_at]
      by_cases hq : 20 * i' + j' = 20 * i + k
      · obtain ⟨rfl, rfl⟩ : i' = i ∧ j' = k := by omega
        rw [if_pos ⟨rfl, rfl⟩]
      · rw [if_neg (by omega)]
        exact h3 i' j' (by omega) h5
    · simp (disch := omega) only [fX0_growsInTable_L17, ic_le, x_wayOf g1 hW hb hi hk, bd_some, ic_lit, ic_mul, ic_add, ast_ic, e1, Option.bind_some]
      rw [if_neg (by omega)]
      rfl
  · rintro f ν ⟨h2, h3⟩
    simp (disch := omega) only [fX0_growsInTable_L17, ic_le, ic_lit, ic_add]
    rw [if_pos (by omega)]
    rfl
theorem x_tinit (hW : WF S) (hG : LG S μ) {b : Int} (hb : 1 ≤ b ∧ b ≤ 200) : ∃ μ', (Fr [87] μ μ' ∧ TB 87 (nn S) (cw0 S b) μ') ∧ fX0_growsInTable_L8 fu (ic b) (ic (nn S)) (ic 0) μ = fX0_growsInTable_L60 fu (ic (nn S)) (ic 0) μ' := by
  have hn := hW.n
  have key := lq_m (fun f v ν => fX0_growsInTable_L8 f (ic b) (ic (nn S)) v ν) (fun ν => fX0_growsInTable_L60 fu (ic (nn S)) (ic 0) ν) 0 (nn S) (fun k ν => Fr [87] μ ν ∧ ∀ i' j', i' < k → j' < nn S → ν 87 (20 * i' + j') = ic (cw0 S b i' j')) (by omega) ?_ ?_ μ fu (fu_lt (by omega)) ⟨Fr.rfl', fun i' j' h1 h2 => by omega⟩
  · exact key
  · rintro f k ν - hk ⟨h2, h3⟩
    obtain ⟨ν', i1, i2⟩ := x_tinit_in hW hG hb (fX0_growsInTable_L8 f) hk h2 h3
    refine ⟨ν', i1, ?_⟩
    simp (disch := omega) only [fX0_growsInTable_L8, ic_le, ic_lit]
    rw [if_neg (by omega)]
    exact i2
  · rintro f ν ⟨h2, h3⟩
    simp (disch := omega) only [fX0_growsInTable_L8, ic_le, ic_lit]
    rw [if_pos (by omega)]
theorem x_hasCircle {T : Nat → Nat → Int} (hn : nn S ≤ 20) (hT : TB 87 (nn S) T μ) (hr : ∀ i, -1000000 ≤ T i i ∧ T i i ≤ 100000) :
    ∃ x, fX0_hasCircle μ (ic (nn S)) = some (b2 x, μ) ∧ (x = false → ∀ i, i < nn S → T i i ≤ 0) ∧ (x = true → ∃ i, i < nn S ∧ 0 < T i i) := by
  have key := loop_up (fun f s => fX0_hasCircle_L2 f (ic (nn S)) s μ) 0 (nn S) (fun i s => s = ic (i : Int) ∧ ∀ i', i' < i → T i' i' ≤ 0) (fun o => ∃ x, o = some (b2 x, μ) ∧ (x = false → ∀ i, i < nn S → T i i ≤ 0) ∧ (x = true → ∃ i, i < nn S ∧ 0 < T i i)) (by omega) ?_ ?_ (ic 0) fu (fu_lt (by omega)) ⟨rfl, fun i hi => by omega⟩
  · rw [fX0_hasCircle]
    exact key
  · rintro f i s - hi ⟨rfl, h3⟩
    have e3 : ((i : Int) * 20 + i).toNat = 20 * i + i := by omega
    have b3 := hr i
    simp (disch := omega) only [fX0_hasCircle_L2, ic_le, ic_lit, ic_mul, ic_add, ld_ic, e3, hT i i hi hi, Option.bind_some]
    rw [if_neg (by omega)]
    by_cases hc : T i i ≤ 0
    · left
      refine ⟨ic ((i + 1 : Nat) : Int), ⟨rfl, fun i' hi' => ?_⟩, ?_⟩
      · by_cases hq : i' = i
        · rw [hq]
          exact hc
        · exact h3 i' (by omega)
      · rw [if_pos hc]
        rfl
    · right
      rw [if_neg hc]
      exact ⟨true, rfl, fun q => (by cases q), fun _ => ⟨i, hi, by omega⟩⟩
  · rintro f s ⟨rfl, h3⟩
    simp (disch := omega) only [fX0_hasCircle_L2, ic_le, ic_lit]
    rw [if_pos (by omega)]
    exact ⟨false, rfl, fun _ => h3, fun q => (by cases q)⟩
/-- the table within a turn -/
def cwm (S : Nat → Int) (b : Int) (k i j : Nat) : Nat → Nat → Int := fun a c => if a < i ∨ (a = i ∧ c < j) then cw S b (k + 1) a c else cw S b k a c
theorem x_gorow (hW : WF S) {b : Int} (hb : 1 ≤ b ∧ b ≤ 200) {k : Nat} (hk : k < nn S) (hkk : cw S b k k k ≤ 0) (hup : ∀ i j, cw S b k i j ≤ 200) (K : Int32 → Int32 → Int32 → Mem → Option (Unit × Mem)) (hi : i < nn S) (hno : cw S b k i k ≠ -1000000) (hF : Fr [87] μ0 μ) (hT : TB 87 (nn S) (cwm S b k i 0) μ) :
    ∃ μ', (Fr [87] μ0 μ' ∧ TB 87 (nn S) (cwm S b k (i + 1) 0) μ') ∧ fX0_goByWayOf_L33 K fu (ic k) (ic (nn S)) (ic i) (ic (cw S b k i k)) (ic 0) μ = K (ic k) (ic (nn S)) (ic ((i + 1 : Nat) : Int)) μ' := by
  have hn := hW.n
  have key := lq_m (fun f v ν => fX0_goByWayOf_L33 K f (ic k) (ic (nn S)) (ic i) (ic (cw S b k i k)) v ν) (fun ν => K (ic k) (ic (nn S)) (ic ((i + 1 : Nat) : Int)) ν) 0 (nn S) (fun j ν => Fr [87] μ0 ν ∧ TB 87 (nn S) (cwm S b k i j) ν) (by omega) ?_ ?_ μ fu (fu_lt (by omega)) ⟨hF, hT⟩
  · obtain ⟨ν, ⟨h2, h3⟩, h4⟩ := key
    refine ⟨ν, ⟨h2, fun a c ha hc => ?_⟩, h4⟩
    rw [h3 a c ha hc]
    unfold cwm
    by_cases h5 : a < i ∨ (a = i ∧ c < nn S)
    · rw [if_pos h5, if_pos (by omega)]
    · rw [if_neg h5, if_neg (by omega)]
  · rintro f j ν - hj ⟨h2, h3⟩
    have e2 : ((k : Int) * 20 + j).toNat = 20 * k + j := by omega
    have e3 : ((i : Int) * 20 + j).toNat = 20 * i + j := by omega
    have t2 : ν 87 (20 * k + j) = ic (cw S b k k j) := by
      rw [h3 k j hk hj]
      unfold cwm
      split
      · rw [cw_row hkk]
      · rfl
    have t3 : ν 87 (20 * i + j) = ic (cw S b k i j) := by
      rw [h3 i j hi hj]
      unfold cwm
      rw [if_neg (by omega)]
    have r1 := (cw_rg hW hb k i j).1
    have r2 := (cw_rg hW hb k i k).1
    have r3 := (cw_rg hW hb k k j).1
    have u1 := hup i j
    have u2 := hup i k
    have u3 := hup k j
    have hnew : ∀ a c, cwm S b k i (j + 1) a c = if a = i ∧ c = j then cw S b (k + 1) i j else cwm S b k i j a c := by
      intro a c
      unfold cwm
      by_cases hq : a = i ∧ c = j
      · obtain ⟨rfl, rfl⟩ := hq
        rw [if_pos (by omega), if_pos ⟨rfl, rfl⟩]
      · rw [if_neg hq]
        by_cases h5 : a < i ∨ (a = i ∧ c < j)
        · rw [if_pos h5, if_pos (by omega)]
        · rw [if_neg h5, if_neg (by omega)]
    have hsame : cw S b (k + 1) i j = cw S b k i j → TB 87 (nn S) (cwm S b k i (j + 1)) ν := by
      intro hs a c ha hc
      rw [hnew a c, h3 a c ha hc]
      split
      · next hq =>
        obtain ⟨rfl, rfl⟩ := hq
        unfold cwm
        rw [if_neg (by omega), hs]
      · rfl
    by_cases c1 : cw S b k k j = -1000000
    · refine ⟨ν, ⟨h2, hsame (by simp only [cw]; rw [if_neg hno, if_pos c1])⟩, ?_⟩
      simp (disch := omega) only [fX0_goByWayOf_L33, fX0_goByWayOf_L97, ic_le, ic_lit, ic_neg, ic_mul, ic_add, ld_ic, e2, t2, Option.bind_some, ic_eq]
      rw [if_neg (by omega), if_pos c1]
      rfl
    · by_cases c2 : cw S b k i k + cw S b k k j ≤ cw S b k i j
      · refine ⟨ν, ⟨h2, hsame (by simp only [cw]; rw [if_neg hno, if_neg c1]; omega)⟩, ?_⟩
        simp (disch := omega) only [fX0_goByWayOf_L33, fX0_goByWayOf_L97, ic_le, ic_lit, ic_neg, ic_mul, ic_add, ld_ic, e2, e3, t2, t3, Option.bind_some, ic_eq]
        rw [if_neg (by omega), if_neg c1, if_pos c2]
        rfl
      · have hv : cw S b (k + 1) i j = cw S b k i k + cw S b k k j := by
          simp only [cw]
          rw [if_neg hno, if_neg c1]
          omega
        refine ⟨mu ν 87 (20 * i + j) (ic (cw S b (k + 1) i j)), ⟨h2.trans (Fr_mu (by decide)), h3.set hn.1 hj hnew⟩, ?_⟩
        rw [hv]
        simp (disch := omega) only [fX0_goByWayOf_L33, fX0_goByWayOf_L97, ic_le, ic_lit, ic_neg, ic_mul, ic_add, ld_ic, e2, e3, t2, t3, Option.bind_some, ic_eq, ast_ic]
        rw [if_neg (by omega), if_neg c1, if_neg c2]
        rfl
  · rintro f ν ⟨h2, h3⟩
    simp (disch := omega) only [fX0_goByWayOf_L33, fX0_goByWayOf_L103, ic_le, ic_lit, ic_add]
    rw [if_pos (by omega)]
    rfl
theorem x_go (hW : WF S) {b : Int} (hb : 1 ≤ b ∧ b ≤ 200) {k : Nat} (hk : k < nn S) (hkk : cw S b k k k ≤ 0) (hup : ∀ i j, cw S b k i j ≤ 200) (hT : TB 87 (nn S) (cw S b k) μ) : ∃ μ', fX0_goByWayOf μ (ic k) (ic (nn S)) = some ((), μ') ∧ Fr [87] μ μ' ∧ TB 87 (nn S) (cw S b (k + 1)) μ' := by
  have hn := hW.n
  have key := lq_m (fun f v ν => fX0_goByWayOf_L2 f (ic k) (ic (nn S)) v ν) (fun ν => some ((), ν)) 0 (nn S) (fun i ν => Fr [87] μ ν ∧ TB 87 (nn S) (cwm S b k i 0) ν) (by omega) ?_ ?_ μ fu (fu_lt (by omega)) ⟨Fr.rfl', fun a c ha hc => by rw [hT a c ha hc]; unfold cwm; rw [if_neg (by omega)]⟩
  · obtain ⟨ν, ⟨h2, h3⟩, h4⟩ := key
    refine ⟨ν, ?_, h2, fun a c ha hc => ?_⟩
    · rw [fX0_goByWayOf]
      exact h4
    · rw [h3 a c ha hc]
      unfold cwm
      rw [if_pos (by omega)]
  · rintro f i ν - hi ⟨h2, h3⟩
    have e1 : ((i : Int) * 20 + k).toNat = 20 * i + k := by omega
    have t1 : ν 87 (20 * i + k) = ic (cw S b k i k) := by
      rw [h3 i k hi hk]
      unfold cwm
      rw [if_neg (by omega)]
    have r2 := (cw_rg hW hb k i k).1
    have u2 := hup i k
    by_cases hno : cw S b k i k = -1000000
    · refine ⟨ν, ⟨h2, fun a c ha hc => ?_⟩, ?_⟩
      · rw [h3 a c ha hc]
        unfold cwm
        by_cases h5 : a < i
        · rw [if_pos (by omega), if_pos (by omega)]
        · rw [if_neg (by omega)]
          split
          · obtain rfl : a = i := by omega
            simp only [cw]
            rw [if_pos hno]
          · rfl
      · simp (disch := omega) only [fX0_goByWayOf_L2, fX0_goByWayOf_L103, ic_le, ic_lit, ic_neg, ic_mul, ic_add, ld_ic, e1, t1, Option.bind_some, ic_eq]
        rw [if_neg (by omega), if_pos hno]
        rfl
    · obtain ⟨ν', i1, i2⟩ := x_gorow hW hb hk hkk hup (fX0_goByWayOf_L2 f) hi hno h2 h3
      refine ⟨ν', i1, ?_⟩
      simp (disch := omega) only [fX0_goByWayOf_L2, ic_le, ic_lit, ic_neg, ic_mul, ic_add, ld_ic, e1, t1, Option.bind_some, ic_eq]
      rw [if_neg (by omega), if_neg hno]
      exact i2
  · rintro f ν ⟨h2, h3⟩
    simp (disch := omega) only [fX0_goByWayOf_L2, ic_le]
    rw [if_pos (by omega)]
theorem x_growsInTable (hW : WF S) (hG : LG S μ) {b : Int} (hb : 1 ≤ b ∧ b ≤ 200) : ∃ μ' x, fX0_growsInTable μ (ic b) = some (b2 x, μ') ∧ Fr [87] μ μ' ∧ (x = false ↔ Pot S b) := by
  have hn := hW.n
  obtain ⟨μ1, ⟨f1, t1⟩, e1⟩ := x_tinit hW hG hb
  have key := loop_up (fun f (s : Int32 × Mem) => fX0_growsInTable_L60 f (ic (nn S)) s.1 s.2) 0 (nn S) (fun k s => s.1 = ic (k : Int) ∧ Fr [87] μ s.2 ∧ TB 87 (nn S) (cw S b k) s.2 ∧ ∀ a, a < k → cw S b a a a ≤ 0) (fun o => ∃ μ' x, o = some (b2 x, μ') ∧ Fr [87] μ μ' ∧ (x = false ↔ Pot S b)) (by omega) ?_ ?_ (ic 0, μ1) fu (fu_lt (by omega)) ⟨rfl, f1, t1, fun a ha => by omega⟩
  · obtain ⟨μ', x, h1, h2⟩ := key
    refine ⟨μ', x, ?_, h2⟩
    unfold fX0_growsInTable
    simp only [ic_lit]
    rw [hG.1, e1]
    exact h1
  · rintro f k ⟨v, ν⟩ - hk ⟨h1, h2, h3, h4⟩
    dsimp only at h1 h2 h3 ⊢
    subst h1
    obtain ⟨d1, _⟩ := cw_th hW hb k (by omega) h4
    have hbd := fw_bd (w := gw S b) (fun i j => (gw_rg hW hb i j).2.1) d1
    have hup : ∀ i j, cw S b k i j ≤ 200 := fun i j => by
      have h5 := (cw_rg hW hb k i j).2
      have h6 := hbd i j
      omega
    obtain ⟨x, g1, g2, g3⟩ := x_hasCircle hn.1 h3 (fun i => by
      have h5 := (cw_rg hW hb k i i).1
      have h6 := hup i i
      omega)
    simp (disch := omega) only [fX0_growsInTable_L60, ic_le, g1, bd_some, ic_lit, b2_0, ic_add]
    rw [if_neg (by omega)]
    by_cases hx : x = false
    · left
      have hkk := g2 hx k hk
      obtain ⟨ν', j1, j2, j3⟩ := x_go hW hb hk hkk hup h3
      refine ⟨(ic ((k + 1 : Nat) : Int), ν'), ⟨rfl, h2.trans j2, j3, ?_⟩, ?_⟩
      · intro a ha
        by_cases hak : a = k
        · rw [hak]
          exact hkk
        · exact h4 a (by omega)
      · rw [if_pos hx, j1]
        rfl
    · right
      rw [if_neg hx]
      refine ⟨ν, true, rfl, h2, ⟨fun q => (by cases q), fun hp => ?_⟩⟩
      exfalso
      obtain ⟨i, hi, hpos⟩ := g3 (by simpa using hx)
      have h5 := pot_diag hW hb hp (k := k) (by omega) hi
      have h6 := (cw_rg hW hb k i i).2
      omega
  · rintro f ⟨v, ν⟩ ⟨h1, h2, h3, h4⟩
    dsimp only at h1 h2 h3 ⊢
    subst h1
    obtain ⟨d1, _⟩ := cw_th hW hb (nn S) (by omega) h4
    have hbd := fw_bd (w := gw S b) (fun i j => (gw_rg hW hb i j).2.1) d1
    obtain ⟨x, g1, g2, g3⟩ := x_hasCircle hn.1 h3 (fun i => by
      have h5 := cw_rg hW hb (nn S) i i
      have h6 := hbd i i
      omega)
    refine ⟨ν, x, ?_, h2, ⟨fun _ => diag_pot d1, fun hp => ?_⟩⟩
    · simp (disch := omega) only [fX0_growsInTable_L60, ic_le, g1, bd_some, zret_b2]
      rw [if_pos (by omega)]
    · by_cases hx : x = false
      · exact hx
      · exfalso
        obtain ⟨i, hi, hpos⟩ := g3 (by simpa using hx)
        have h5 := pot_diag hW hb hp (k := nn S) (Nat.le_refl _) hi
        have h6 := (cw_rg hW hb (nn S) i i).2
        omega
theorem x_leastByTable (hW : WF S) (hG : LG S μ) {k : Nat} (hk : isLb S k) (hk2 : k ≤ 120) : ∃ μ', fX0_leastByTable μ = some (ic k, μ') ∧ Fr [87] μ μ' := by
  have hk1 := hk.1
  have key := loop_up (fun f (s : Int32 × Int32 × Int32 × Mem) => fX0_leastByTable_L8 f s.1 s.2.1 s.2.2.1 s.2.2.2) 0 120 (fun t s => ∃ lo hi : Nat, s.1 = ic lo ∧ s.2.1 = ic hi ∧ s.2.2.1 = ic (t : Int) ∧ Fr [87] μ s.2.2.2 ∧ 1 ≤ lo ∧ lo ≤ k ∧ k ≤ hi ∧ hi ≤ 120 ∧ hi - lo + t ≤ 119) (fun o => ∃ μ', o = some (ic k, μ') ∧ Fr [87] μ μ') (by omega) ?_ ?_ (ic 1, ic 120, ic 0, μ) fu (fu_lt (by omega)) ⟨1, 120, rfl, rfl, rfl, Fr.rfl', by omega, by omega, by omega, by omega, by omega⟩
  · simp only [fX0_leastByTable, ic_lit]
    exact key
  · rintro f t ⟨v1, v2, v3, ν⟩ - ht ⟨lo, hi, h1, h2, h3, h4, h5, h6, h7, h8, h9⟩
    dsimp only at h1 h2 h3 h4 ⊢
    subst h1 h2 h3
    by_cases hlh : hi ≤ lo
    · right
      refine ⟨ν, ?_, h4⟩
      simp (disch := omega) only [fX0_leastByTable_L8, ic_le, ic_lit]
      rw [if_neg (by omega), if_pos (by omega)]
      congr 3
      omega
    · left
      obtain ⟨m, hm⟩ : ∃ m, m = (lo + hi) / 2 := ⟨_, rfl⟩
      have hmz : ((lo : Int) + hi) / 2 = (m : Nat) := by omega
      obtain ⟨ν', x, g1, g2, g3⟩ := x_growsInTable hW (hG.of h4 (by decide)) (b := m) (by omega)
      have hpm := lb_iff hk (b := m) (by omega)
      have hm1 : ((m : Nat) : Int) + 1 = ((m + 1 : Nat) : Int) := by omega
      by_cases hx : x = false
      · have hkm := hpm.mp (g3.mp hx)
        refine ⟨(ic lo, ic m, ic ((t + 1 : Nat) : Int), ν'), ⟨lo, m, rfl, rfl, rfl, h4.trans g2, by omega, by omega, by omega, by omega, by omega⟩, ?_⟩
        simp (disch := omega) only [fX0_leastByTable_L8, fX0_leastByTable_L48, ic_le, ic_lit, ic_add, dv_ic, Option.bind_some, hmz, g1, bd_some, b2_0]
        rw [if_neg (by omega), if_neg (by omega), if_pos hx]
        rfl
      · have hkm : ¬ k ≤ m := fun q => hx (g3.mpr (hpm.mpr q))
        refine ⟨(ic ((m + 1 : Nat) : Int), ic hi, ic ((t + 1 : Nat) : Int), ν'), ⟨m + 1, hi, rfl, rfl, rfl, h4.trans g2, by omega, by omega, by omega, by omega, by omega⟩, ?_⟩
        simp (disch := omega) only [fX0_leastByTable_L8, fX0_leastByTable_L48, ic_le, ic_lit, ic_add, dv_ic, Option.bind_some, hmz, g1, bd_some, b2_0]
        rw [if_neg (by omega), if_neg (by omega), if_neg hx]
        rfl
  · rintro f ⟨v1, v2, v3, ν⟩ ⟨lo, hi, h1, h2, h3, h4, h5, h6, h7, h8, h9⟩
    omega
end XK

