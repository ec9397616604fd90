/-! pushes -/
def cor (b d : Nat → Int) : Nat → Nat
  | 0 => 0
  | k + 1 => cor b d k + (if b k = d k then 1 else 0)
theorem cor_le (b d : Nat → Int) : ∀ n, cor b d n ≤ n
  | 0 => Nat.le_refl _
  | n + 1 => by
    have := cor_le b d n
    simp only [cor]
    split <;> omega
theorem cor_mono {b c d : Nat → Int} : ∀ {n : Nat}, (∀ v, v < n → b v = d v → c v = d v) → cor b d n ≤ cor c d n
  | 0, _ => Nat.le_refl _
  | n + 1, h => by
    have h1 := cor_mono (n := n) fun v hv => h v (by omega)
    have h2 := h n (by omega)
    simp only [cor]
    by_cases hq : b n = d n
    · rw [if_pos hq, if_pos (h2 hq)]
      omega
    · rw [if_neg hq]
      split <;> omega
theorem cor_lt {b c d : Nat → Int} : ∀ {n : Nat}, (∀ v, v < n → b v = d v → c v = d v) → ∀ v, v < n → b v ≠ d v → c v = d v → cor b d n < cor c d n
  | 0, _, v, hv, _, _ => by omega
  | n + 1, h, v, hv, h1, h2 => by
    have hm := cor_mono (n := n) fun v hv => h v (by omega)
    simp only [cor]
    by_cases hvn : v = n
    · subst hvn
      rw [if_neg h1, if_pos h2]
      omega
    · have := cor_lt (n := n) (fun v hv => h v (by omega)) v (by omega) h1 h2
      have h3 := h n (by omega)
      by_cases hq : b n = d n
      · rw [if_pos hq, if_pos (h3 hq)]
        omega
      · rw [if_neg hq]
        split <;> omega
theorem cor_pos {b d : Nat → Int} : ∀ {n v : Nat}, v < n → b v = d v → 0 < cor b d n
  | 0, v, hv, _ => by omega
  | n + 1, v, hv, h => by
    simp only [cor]
    by_cases hvn : v = n
    · subst hvn
      rw [if_pos h]
      omega
    · have := cor_pos (n := n) (v := v) (by omega) h
      omega
section LP
variable {n : Nat} {E : Nat → Nat → Prop} {w : Nat → Nat → Int}
/-- the least places -/
theorem least_pot {p : Nat → Int} (h : PotP n E w p) (hw : ∀ i j, w i j ≤ 6) : ∃ d : Nat → Int, PotP n E w d ∧ (∀ v, v < n → 0 ≤ d v) ∧ ∀ q, PotP n E w q → (∀ v, v < n → 0 ≤ q v) → ∀ v, v < n → d v ≤ q v := by
  obtain ⟨q0, h1, h2⟩ := pot_bd hw h
  have hex : ∀ v, ∃ m : Nat, (∃ q, PotP n E w q ∧ (∀ u, u < n → 0 ≤ q u) ∧ q v = (m : Int)) ∧ ∀ i : Nat, i < m → ¬ ∃ q, PotP n E w q ∧ (∀ u, u < n → 0 ≤ q u) ∧ q v = (i : Int) := by
    intro v
    have h3 := h2 v
    exact least_nat (fun m => ∃ q, PotP n E w q ∧ (∀ u, u < n → 0 ≤ q u) ∧ q v = (m : Int)) (q0 v).toNat ⟨q0, h1, fun u _ => (h2 u).1, by omega⟩
  obtain ⟨f, hf⟩ := Classical.axiomOfChoice hex
  have hmin : ∀ q, PotP n E w q → (∀ v, v < n → 0 ≤ q v) → ∀ v, v < n → (f v : Int) ≤ q v := by
    intro q hq hq0 v hv
    have h5 := hq0 v hv
    by_cases hlt : (f v : Int) ≤ q v
    · exact hlt
    · exact absurd ⟨q, hq, hq0, by omega⟩ ((hf v).2 (q v).toNat (by omega))
  refine ⟨fun v => (f v : Int), fun i j hi hj hE => ?_, fun v _ => by dsimp only; omega, hmin⟩
  obtain ⟨q, hq, hq0, hqv⟩ := (hf j).1
  have h6 := hmin q hq hq0 i hi
  have h7 := hq i j hi hj hE
  dsimp only
  omega
theorem tight {d b : Nat → Int} (h1 : PotP n E w d) (h3 : ∀ q, PotP n E w q → (∀ v, v < n → 0 ≤ q v) → ∀ v, v < n → d v ≤ q v) (hb : ∀ v, v < n → 0 ≤ b v ∧ b v ≤ d v) {v0 : Nat} (hv0 : v0 < n) (hne : b v0 < d v0) :
    ∃ u v, u < n ∧ v < n ∧ b u = d u ∧ b v < d v ∧ E u v ∧ d u + w u v = d v := by
  by_cases hc : ∃ u v, u < n ∧ v < n ∧ b u = d u ∧ b v < d v ∧ E u v ∧ d u + w u v = d v
  · exact hc
  · exfalso
    have hp : PotP n E w (fun v => if b v < d v then d v - 1 else d v) := by
      intro i j hi hj hE
      have h4 := h1 i j hi hj hE
      have h5 := hb i hi
      dsimp only
      by_cases c1 : b i < d i
      · rw [if_pos c1]
        split <;> omega
      · rw [if_neg c1]
        by_cases c2 : b j < d j
        · rw [if_pos c2]
          have : ¬ d i + w i j = d j := fun q => hc ⟨i, j, hi, hj, by omega, c2, hE, q⟩
          omega
        · rw [if_neg c2]
          exact h4
    have h6 := h3 _ hp (fun v hv => by
      have := hb v hv
      split <;> omega) v0 hv0
    rw [if_pos hne] at h6
    omega
end LP
def PV (n : Nat) (c : Nat → Int) (μ : Mem) : Prop := ∀ v, v < n → μ 88 v = ic (c v)
def PQ (S : Nat → Int) (b : Int) (b0 : Nat → Int) (B : Int) (i j : Nat) (c : Nat → Int) (mv : Bool) : Prop :=
  (∀ v, v < nn S → b0 v ≤ c v ∧ c v ≤ B + 6 * (20 * (i : Int) + j)) ∧ (∀ u v, u < nn S → v < nn S → (u < i ∨ (u = i ∧ v < j)) → gE S u v → b0 u + gw S b u v ≤ c v) ∧
  (mv = false → ∀ v, v < nn S → c v = b0 v) ∧ (mv = true → ∃ v, v < nn S ∧ b0 v < c v) ∧ ∀ d, PotP (nn S) (gE S) (gw S b) d → (∀ v, v < nn S → b0 v ≤ d v) → ∀ v, v < nn S → c v ≤ d v
section XU
variable {S : Nat → Int} {μ μ0 : Mem} {i j : Nat} {b0 : Nat → Int}
theorem x_pushrow (hW : WF S) (hG : LG S μ0) {b B : Int} (hb : 1 ≤ b ∧ b ≤ 200) (hB : 0 ≤ B ∧ B ≤ 1000000) (h00 : ∀ v, v < nn S → 0 ≤ b0 v) (K : Int32 → Int32 → Int32 → Mem → Option (Int32 × Mem)) (hi : i < nn S) {c : Nat → Int} {mv : Bool} (hF : Fr [88] μ0 μ) (hV : PV (nn S) c μ) (hQ : PQ S b b0 B i 0 c mv) :
    ∃ μ' c' mv', (Fr [88] μ0 μ' ∧ PV (nn S) c' μ' ∧ PQ S b b0 B (i + 1) 0 c' mv') ∧ fX0_pushAll_L17 K fu (ic b) (b2 mv) (ic i) (ic 0) μ = K (ic b) (b2 mv') (ic ((i + 1 : Nat) : Int)) μ' := by
  have hn := hW.n
  have key := loop_up (fun f (s : Int32 × Int32 × Mem) => fX0_pushAll_L17 K f (ic b) s.1 (ic i) s.2.1 s.2.2) 0 (nn S) (fun j s => ∃ c mv, s.1 = b2 mv ∧ s.2.1 = ic (j : Int) ∧ Fr [88] μ0 s.2.2 ∧ PV (nn S) c s.2.2 ∧ PQ S b b0 B i j c mv) (fun o => ∃ μ' c' mv', (Fr [88] μ0 μ' ∧ PV (nn S) c' μ' ∧ PQ S b b0 B (i + 1) 0 c' mv') ∧ o = K (ic b) (b2 mv') (ic ((i + 1 : Nat) : Int)) μ') (by omega) ?_ ?_ (b2 mv, ic 0, μ) fu (fu_lt (by omega)) ⟨c, mv, rfl, rfl, hF, hV, hQ⟩
  · exact key
  · rintro f j ⟨v3, v5, ν⟩ - hj ⟨c, mv, h1, h2, h3, h4, h5⟩
    dsimp only at h1 h2 h3 h4 ⊢
    subst h1 h2
    left
    have g1 := hG.of h3 (by decide)
    obtain ⟨q1, q2, q3, q4, q5⟩ := h5
    have w1 := cw0_sp hW hb i j
    have w2 := gw_rg hW hb i j
    have ci := q1 i hi
    have cj := q1 j hj
    have z1 := h00 i hi
    have z2 := h00 j hj
    have ei : (i : Int).toNat = i := by omega
    have ej : (j : Int).toNat = j := by omega
    by_cases hE : gE S i j
    · have hw := w1.1 hE
      have hw3 := w2.2.2.1 hE
      by_cases hle : c i + gw S b i j ≤ c j
      · refine ⟨(b2 mv, ic ((j + 1 : Nat) : Int), ν), ⟨c, mv, rfl, rfl, h3, h4, ?_, ?_, q3, q4, q5⟩, ?_⟩
        · intro v hv
          have := q1 v hv
          omega
        · intro u v hu hv hc hEuv
          by_cases hq : u = i ∧ v = j
          · obtain ⟨rfl, rfl⟩ := hq
            omega
          · exact q2 u v hu hv (by omega) hEuv
        · simp (disch := omega) only [fX0_pushAll_L17, fX0_pushAll_L83, g1.1, ic_le, x_wayOf g1 hW hb hi hj, bd_some, hw, ic_lit, ic_neg, ic_eq, ld_ic, ei, ej, h4 i hi, h4 j hj, Option.bind_some, ic_add]
          rw [if_neg (by omega), if_neg (by omega), if_pos hle]
          rfl
      · refine ⟨(b2 true, ic ((j + 1 : Nat) : Int), mu ν 88 j (ic (c i + gw S b i j))), ⟨updI c j (c i + gw S b i j), true, rfl, rfl, h3.trans (Fr_mu (by decide)), ?_, ?_, ?_, fun q => (by cases q), fun _ => ⟨j, hj, ?_⟩, ?_⟩, ?_⟩
        · intro v hv
          show mu ν 88 j (ic (c i + gw S b i j)) 88 v = _
          rw [mu_at]
          unfold updI
          by_cases hq : v = j
          · simp [hq]
          · simp [hq, h4 v hv]
        · intro v hv
          have := q1 v hv
          unfold updI
          by_cases hq : v = j
          · subst hq
            rw [if_pos rfl]
            omega
          · rw [if_neg hq]
            omega
        · intro u v hu hv hc hEuv
          unfold updI
          by_cases hq : v = j
          · rw [if_pos hq]
            by_cases hui : u = i
            · rw [hui, hq]
              omega
            · have := q2 u v hu hv (by omega) hEuv
              rw [hq] at this ⊢
              omega
          · rw [if_neg hq]
            exact q2 u v hu hv (by omega) hEuv
        · unfold updI
          rw [if_pos rfl]
          omega
        · intro d hd hd0 v hv
          have h6 := q5 d hd hd0
          unfold updI
          split
          · next hq =>
            have h7 := hd i j hi hj hE
            have h8 := h6 i hi
            rw [hq]
            omega
          · exact h6 v hv
        · simp (disch := omega) only [fX0_pushAll_L17, fX0_pushAll_L83, g1.1, ic_le, x_wayOf g1 hW hb hi hj, bd_some, hw, ic_lit, ic_neg, ic_eq, ld_ic, ei, ej, h4 i hi, h4 j hj, Option.bind_some, ic_add, ast_ic]
          rw [if_neg (by omega), if_neg (by omega), if_neg hle]
          rfl
    · have hw := w1.2 hE
      refine ⟨(b2 mv, ic ((j + 1 : Nat) : Int), ν), ⟨c, mv, rfl, rfl, h3, h4, ?_, ?_, q3, q4, q5⟩, ?_⟩
      · intro v hv
        have := q1 v hv
        omega
      · intro u v hu hv hc hEuv
        by_cases hq : u = i ∧ v = j
        · obtain ⟨rfl, rfl⟩ := hq
          exact absurd hEuv hE
        · exact q2 u v hu hv (by omega) hEuv
      · simp (disch := omega) only [fX0_pushAll_L17, fX0_pushAll_L83, g1.1, ic_le, x_wayOf g1 hW hb hi hj, bd_some, hw, ic_lit, ic_neg, ic_add]
        rw [if_neg (by omega), if_pos trivial]
        rfl
  · rintro f ⟨v3, v5, ν⟩ ⟨c, mv, h1, h2, h3, h4, h5⟩
    dsimp only at h1 h2 h3 h4 ⊢
    subst h1 h2
    have g1 := hG.of h3 (by decide)
    obtain ⟨q1, q2, q3, q4, q5⟩ := h5
    refine ⟨ν, c, mv, ⟨h3, h4, ?_, ?_, q3, q4, q5⟩, ?_⟩
    · intro v hv
      have := q1 v hv
      omega
    · intro u v hu hv hc hEuv
      exact q2 u v hu hv (by omega) hEuv
    · simp (disch := omega) only [fX0_pushAll_L17, g1.1, ic_le, ic_lit, ic_add]
      rw [if_pos (by omega)]
      rfl
theorem x_pushAll (hW : WF S) (hG : LG S μ) {b B : Int} (hb : 1 ≤ b ∧ b ≤ 200) (hB : 0 ≤ B ∧ B ≤ 1000000) (h00 : ∀ v, v < nn S → 0 ≤ b0 v ∧ b0 v ≤ B) (hV : PV (nn S) b0 μ) :
    ∃ μ' c mv, fX0_pushAll μ (ic b) = some (b2 mv, μ') ∧ Fr [88] μ μ' ∧ PV (nn S) c μ' ∧ PQ S b b0 B (nn S) 0 c mv := by
  have hn := hW.n
  have key := loop_up (fun f (s : Int32 × Int32 × Mem) => fX0_pushAll_L5 f (ic b) s.1 s.2.1 s.2.2) 0 (nn S) (fun i s => ∃ c mv, s.1 = b2 mv ∧ s.2.1 = ic (i : Int) ∧ Fr [88] μ s.2.2 ∧ PV (nn S) c s.2.2 ∧ PQ S b b0 B i 0 c mv) (fun o => ∃ μ' c mv, o = some (b2 mv, μ') ∧ Fr [88] μ μ' ∧ PV (nn S) c μ' ∧ PQ S b b0 B (nn S) 0 c mv) (by omega) ?_ ?_ (b2 false, ic 0, μ) fu (fu_lt (by omega)) ⟨b0, false, rfl, rfl, Fr.rfl', hV, fun v hv => by have := h00 v hv; omega, fun u v _ _ hc => by omega, fun _ v _ => rfl, fun q => (by cases q), fun d _ h v hv => h v hv⟩
  · simp only [fX0_pushAll, ic_lit]
    exact key
  · rintro f i ⟨v3, v4, ν⟩ - hi ⟨c, mv, h1, h2, h3, h4, h5⟩
    dsimp only at h1 h2 h3 h4 ⊢
    subst h1 h2
    left
    obtain ⟨ν', c', mv', ⟨i1, i2, i3⟩, i4⟩ := x_pushrow hW hG hb hB (fun v hv => (h00 v hv).1) (fX0_pushAll_L5 f) hi h3 h4 h5
    refine ⟨(b2 mv', ic ((i + 1 : Nat) : Int), ν'), ⟨c', mv', rfl, rfl, i1, i2, i3⟩, ?_⟩
    simp (disch := omega) only [fX0_pushAll_L5, (hG.of h3 (by decide)).1, ic_le, ic_lit]
    rw [if_neg (by omega)]
    exact i4
  · rintro f ⟨v3, v4, ν⟩ ⟨c, mv, h1, h2, h3, h4, h5⟩
    dsimp only at h1 h2 h3 h4 ⊢
    subst h1 h2
    refine ⟨ν, c, mv, ?_, h3, h4, h5⟩
    simp (disch := omega) only [fX0_pushAll_L5, (hG.of h3 (by decide)).1, ic_le, zret_b2]
    rw [if_pos (by omega)]
theorem x_growsByPushes (hW : WF S) (hG : LG S μ) {b : Int} (hb : 1 ≤ b ∧ b ≤ 200) : ∃ μ' x, fX0_growsByPushes μ (ic b) = some (b2 x, μ') ∧ Fr [88] μ μ' ∧ (x = false ↔ Pot S b) := by
  have hn := hW.n
  have hgw6 : ∀ i j, gw S b i j ≤ 6 := fun i j => (gw_rg hW hb i j).2.1
  have k1 := lq_m (fun f v ν => fX0_growsByPushes_L2 f (ic b) v ν) (fun ν => fX0_growsByPushes_L25 fu (ic b) (ic 0) ν) 0 (nn S) (fun k ν => Fr [88] μ ν ∧ ∀ v, v < k → ν 88 v = ic 0) (by omega) ?_ ?_ μ fu (fu_lt (by omega)) ⟨Fr.rfl', fun v hv => by omega⟩
  · obtain ⟨μ1, ⟨f1, z1⟩, e1⟩ := k1
    have key := loop_up (fun f (s : Int32 × Mem) => fX0_growsByPushes_L25 f (ic b) s.1 s.2) 0 (nn S) (fun r s => ∃ c : Nat → Int, s.1 = ic (r : Int) ∧ Fr [88] μ s.2 ∧ PV (nn S) c s.2 ∧ (∀ v, v < nn S → 0 ≤ c v ∧ c v ≤ 2400 * (r : Int)) ∧ (0 < nn S → ∀ d, PotP (nn S) (gE S) (gw S b) d → (∀ v, v < nn S → 0 ≤ d v) → (∀ q, PotP (nn S) (gE S) (gw S b) q → (∀ v, v < nn S → 0 ≤ q v) → ∀ v, v < nn S → d v ≤ q v) → (∀ v, v < nn S → c v ≤ d v) ∧ r + 1 ≤ cor c d (nn S))) (fun o => ∃ μ' x, o = some (b2 x, μ') ∧ Fr [88] μ μ' ∧ (x = false ↔ Pot S b)) (by omega) ?_ ?_ (ic 0, μ1) fu (fu_lt (by omega)) ⟨fun _ => 0, rfl, f1, z1, fun v hv => by show (0 : Int) ≤ 0 ∧ (0 : Int) ≤ 2400 * ((0 : Nat) : Int); omega, ?_⟩
    · obtain ⟨μ', x, h1, h2⟩ := key
      refine ⟨μ', x, ?_, h2⟩
      rw [fX0_growsByPushes]
      exact e1.trans h1
    · rintro f r ⟨v, ν⟩ - hr ⟨c, h1, h2, h3, h4, h5⟩
      dsimp only at h1 h2 h3 ⊢
      subst h1
      have g1 := hG.of h2 (by decide)
      obtain ⟨ν', c', mv, i1, i2, i3, q1, q2, q3, q4, q5⟩ := x_pushAll hW g1 hb (B := 2400 * (r : Int)) (by omega) h4 h3
      simp (disch := omega) only [fX0_growsByPushes_L25, g1.1, ic_le, i1, bd_some, ic_lit, b2_0, ic_add]
      rw [if_neg (by omega)]
      by_cases hm : mv = false
      · right
        rw [if_pos hm]
        refine ⟨ν', false, rfl, h2.trans i2, ⟨fun _ => ⟨c, fun u v hu hv hE => ?_⟩, fun _ => rfl⟩⟩
        have h6 := q2 u v hu hv (Or.inl hu) hE
        rw [q3 hm v hv] at h6
        exact h6
      · left
        rw [if_neg hm]
        refine ⟨(ic ((r + 1 : Nat) : Int), ν'), ⟨c', rfl, h2.trans i2, i3, fun v hv => ?_, ?_⟩, rfl⟩
        · have h6 := q1 v hv
          have h7 := h4 v hv
          omega
        · intro hn0 d hd hd0 hdl
          obtain ⟨d1, d2⟩ := h5 hn0 d hd hd0 hdl
          have d3 := q5 d hd d1
          refine ⟨d3, ?_⟩
          obtain ⟨v1, hv1, hv2⟩ := q4 (by simpa using hm)
          have hlt : c v1 < d v1 := by
            have := d3 v1 hv1
            omega
          obtain ⟨u, v, hu, hv, t1, t2, t3, t4⟩ := tight hd hdl (fun v hv => ⟨(h4 v hv).1, d1 v hv⟩) hv1 hlt
          have hcv : c' v = d v := by
            have h6 := q2 u v hu hv (Or.inl hu) t3
            have h7 := d3 v hv
            omega
          have := cor_lt (b := c) (c := c') (d := d) (n := nn S) (fun v hv he => by
            have h6 := (q1 v hv).1
            have h7 := d3 v hv
            omega) v hv (by omega) hcv
          omega
    · rintro f ⟨v, ν⟩ ⟨c, h1, h2, h3, h4, h5⟩
      dsimp only at h1 h2 h3 ⊢
      subst h1
      have g1 := hG.of h2 (by decide)
      simp (disch := omega) only [fX0_growsByPushes_L25, g1.1, ic_le, ic_lit]
      rw [if_pos (by omega)]
      by_cases hn0 : (nn S : Int) ≤ 0
      · rw [if_pos hn0]
        exact ⟨ν, false, rfl, h2, ⟨fun _ => ⟨fun _ => 0, fun i j hi => by omega⟩, fun _ => rfl⟩⟩
      · rw [if_neg hn0]
        refine ⟨ν, true, rfl, h2, ⟨fun q => (by cases q), fun hp => ?_⟩⟩
        exfalso
        obtain ⟨p, hp⟩ := hp
        obtain ⟨d, hd, hd0, hdl⟩ := least_pot hp hgw6
        have h6 := (h5 (by omega) d hd hd0 hdl).2
        have h7 := cor_le c d (nn S)
        omega
    · intro hn0 d hd hd0 hdl
      refine ⟨hd0, ?_⟩
      by_cases hc : (0 : Int) = d 0
      · have := cor_pos (b := fun _ => (0 : Int)) (d := d) (n := nn S) hn0 hc
        omega
      · have h8 := hd0 0 hn0
        obtain ⟨u, v, hu, hv, t1, _⟩ := tight (b := fun _ => 0) hd hdl (fun v hv => ⟨Int.le_refl _, hd0 v hv⟩) hn0 (by omega)
        have := cor_pos (b := fun _ => (0 : Int)) (d := d) hu t1
        omega
  · rintro f k ν - hk ⟨h2, h3⟩
    have g1 := hG.of h2 (by decide)
    have e3 : (k : Int).toNat = k := by omega
    refine ⟨mu ν 88 k (ic 0), ⟨h2.trans (Fr_mu (by decide)), ?_⟩, ?_⟩
    · intro v hv
      rw [mu_at]
      by_cases hq : v = k
      · simp [hq]
      · rw [if_neg (by omega)]
        exact h3 v (by omega)
    · simp (disch := omega) only [fX0_growsByPushes_L2, g1.1, ic_le, ic_lit, ast_ic, e3, Option.bind_some, ic_add]
      rw [if_neg (by omega)]
      rfl
  · rintro f ν ⟨h2, h3⟩
    have g1 := hG.of h2 (by decide)
    simp (disch := omega) only [fX0_growsByPushes_L2, g1.1, ic_le, ic_lit]
    rw [if_pos (by omega)]
theorem x_leastByPushes (hW : WF S) (hG : LG S μ) {k : Nat} (hk : isLb S k) (hk2 : k ≤ 120) : ∃ μ', fX0_leastByPushes μ = some (ic k, μ') ∧ Fr [88] μ μ' := by
  have hk1 := hk.1
  have key := loop_up (fun f (s : Int32 × Int32 × Int32 × Mem) => fX0_leastByPushes_L8 f s.1 s.2.1 s.2.2.1 s.2.2.2) 0 120 (fun t s => ∃ lo hi : Nat, s.1 = ic lo ∧ s.2.1 = ic hi ∧ s.2.2.1 = ic (t : Int) ∧ Fr [88] μ s.2.2.2 ∧ 1 ≤ lo ∧ lo ≤ k ∧ k ≤ hi ∧ hi ≤ 120 ∧ hi - lo + t ≤ 119) (fun o => ∃ μ', o = some (ic k, μ') ∧ Fr [88] μ μ') (by omega) ?_ ?_ (ic 1, ic 120, ic 0, μ) fu (fu_lt (by omega)) ⟨1, 120, rfl, rfl, rfl, Fr.rfl', by omega, by omega, by omega, by omega, by omega⟩
  · simp only [fX0_leastByPushes, ic_lit]
    exact key
  · rintro f t ⟨v1, v2, v3, ν⟩ - ht ⟨lo, hi, h1, h2, h3, h4, h5, h6, h7, h8, h9⟩
    dsimp only at h1 h2 h3 h4 ⊢
    subst h1 h2 h3
    by_cases hlh : hi ≤ lo
    · right
      refine ⟨ν, ?_, h4⟩
      simp (disch := omega) only [fX0_leastByPushes_L8, ic_le, ic_lit]
      rw [if_neg (by omega), if_pos (by omega)]
      congr 3
      omega
    · left
      obtain ⟨m, hm⟩ : ∃ m, m = (lo + hi) / 2 := ⟨_, rfl⟩
      have hmz : ((lo : Int) + hi) / 2 = (m : Nat) := by omega
      obtain ⟨ν', x, g1, g2, g3⟩ := x_growsByPushes hW (hG.of h4 (by decide)) (b := m) (by omega)
      have hpm := lb_iff hk (b := m) (by omega)
      have hm1 : ((m : Nat) : Int) + 1 = ((m + 1 : Nat) : Int) := by omega
      by_cases hx : x = false
      · have hkm := hpm.mp (g3.mp hx)
        refine ⟨(ic lo, ic m, ic ((t + 1 : Nat) : Int), ν'), ⟨lo, m, rfl, rfl, rfl, h4.trans g2, by omega, by omega, by omega, by omega, by omega⟩, ?_⟩
        simp (disch := omega) only [fX0_leastByPushes_L8, fX0_leastByPushes_L48, ic_le, ic_lit, ic_add, dv_ic, Option.bind_some, hmz, g1, bd_some, b2_0]
        rw [if_neg (by omega), if_neg (by omega), if_pos hx]
        rfl
      · have hkm : ¬ k ≤ m := fun q => hx (g3.mpr (hpm.mpr q))
        refine ⟨(ic ((m + 1 : Nat) : Int), ic hi, ic ((t + 1 : Nat) : Int), ν'), ⟨m + 1, hi, rfl, rfl, rfl, h4.trans g2, by omega, by omega, by omega, by omega, by omega⟩, ?_⟩
        simp (disch := omega) only [fX0_leastByPushes_L8, fX0_leastByPushes_L48, ic_le, ic_lit, ic_add, dv_ic, Option.bind_some, hmz, g1, bd_some, b2_0]
        rw [if_neg (by omega), if_neg (by omega), if_neg hx]
        rfl
  · rintro f ⟨v1, v2, v3, ν⟩ ⟨lo, hi, h1, h2, h3, h4, h5, h6, h7, h8, h9⟩
    omega
end XU

