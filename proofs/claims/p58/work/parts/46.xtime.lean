def LW (W : Nat → Int) (t : Int) (μ : Mem) : Prop := ∀ q, q < 24 → ∃ x : Int, μ 95 q = ic x ∧ -1 ≤ x ∧ x ≤ t ∧ ((x = t ∧ μ 96 q = ic (W q)) ∨ (x ≠ t ∧ W q = -1))
/-- what has begun ahead of the time t, and at it of the steps ahead of k0 -/
def Bg (p : Nat → Int) (beat rounds t : Int) (k0 k m : Nat) : Prop := p k ≠ -1 ∧ (m : Int) < rounds ∧ (p k + m * beat < t ∨ (k < k0 ∧ p k + m * beat ≤ t))
def BR (S : Nat → Int) (p : Nat → Int) (beat rounds t : Int) (k0 : Nat) (R : Nat → Nat → Int32) (P : Nat → Nat → Nat) (μ : Mem) : Prop := ∀ k m, k < nn S → m < 20 → Bg p beat rounds t k0 k m → μ 93 (20 * k + m) = R k m ∧ μ 94 (20 * k + m) = ic (P k m)
section XT
variable {S : Nat → Int} {μ μ0 : Mem} {i j a a2 : Nat} {p : Nat → Int} {V : Nat → Int32}
theorem x_land1 {W : Nat → Int} {t : Int} {k m q : Nat} {v : Int32} (ha : 97 ≤ a) (ht : 0 ≤ t ∧ t ≤ 100000) (hV : HV a V μ) (hL : LW W t μ) (hWr : ∀ q, -1 ≤ W q ∧ W q ≤ 10000) (hk : k < 20) (hm : m < 20) (hq : q < 24) (e93 : μ 93 (20 * k + m) = v) (e94 : μ 94 (20 * k + m) = ic (q : Int)) :
    ∃ μ', fX5_land μ (ic k) (ic m) (ic t) a = some ((), μ') ∧ Fr [95, 96, a] μ μ' ∧ HV a (if W q ≤ m then upd V q v else V) μ' ∧ LW (if W q ≤ m then fun q' => if q' = q then (m : Int) else W q' else W) t μ' := by
  obtain ⟨x, h1, h2, h3, h4⟩ := hL q hq
  have e1 : ((k : Int) * 20 + m).toNat = 20 * k + m := by omega
  have e2 : (q : Int).toNat = q := by omega
  have hw := hWr q
  have hgo : ∃ μ', fX5_land_L42 a (ic k) (ic m) (ic t) (ic (q : Int)) μ = some ((), μ') ∧ Fr [95, 96, a] μ μ' ∧ HV a (upd V q v) μ' ∧ LW (fun q' => if q' = q then (m : Int) else W q') t μ' := by
    refine ⟨mu (mu (mu μ 95 q (ic t)) 96 q (ic m)) a q v, ?_, ((Fr_mu (by simp)).trans (Fr_mu (by simp))).trans (Fr_mu (by simp)), ?_, ?_⟩
    · have e3 : (mu (mu μ 95 q (ic t)) 96 q (ic m)) 93 (20 * k + m) = v := by
        rw [mu_ne (by decide), mu_ne (by decide), e93]
      simp (disch := omega) only [fX5_land_L42, ast_ic, e2, Option.bind_some, ic_lit, ic_mul, ic_add, ld_ic, e1, e3]
    · refine hv_upd ?_ _ _
      exact (hV.of (Fr_mu (l := [95]) (by decide)) (by simp; omega)).of (Fr_mu (l := [96]) (by decide)) (by simp; omega)
    · have m95 : (mu (mu (mu μ 95 q (ic t)) 96 q (ic m)) a q v) 95 = (mu μ 95 q (ic t)) 95 := by
        rw [mu_ne (by omega), mu_ne (by decide)]
      have m96 : (mu (mu (mu μ 95 q (ic t)) 96 q (ic m)) a q v) 96 = (mu (mu μ 95 q (ic t)) 96 q (ic m)) 96 := mu_ne (by omega)
      unfold LW
      rw [m95, m96]
      intro q' hq'
      by_cases hqq : q' = q
      · subst hqq
        refine ⟨t, ?_, by omega, by omega, Or.inl ⟨rfl, ?_⟩⟩
        · rw [mu_at, if_pos ⟨rfl, rfl⟩]
        · rw [mu_at, if_pos ⟨rfl, rfl⟩]
          simp
      · obtain ⟨x', g1, g2, g3, g4⟩ := hL q' hq'
        refine ⟨x', ?_, g2, g3, ?_⟩
        · rw [mu_at, if_neg (by omega), g1]
        · rw [mu_at, if_neg (by omega), mu_ne (by decide)]
          simp only [hqq, if_false]
          exact g4
  simp (disch := omega) only [fX5_land, ic_lit, ic_neg, ic_eq, ic_mul, ic_add, ld_ic, e1, e94, Option.bind_some, e2, h1]
  rw [if_neg (by omega)]
  rcases h4 with ⟨h5, h6⟩ | ⟨h5, h6⟩
  · rw [if_pos h5]
    simp (disch := omega) only [h6, ic_le]
    by_cases hc : W q ≤ m
    · rw [if_pos hc, if_pos hc, if_pos hc]
      exact hgo
    · rw [if_neg hc, if_neg hc, if_neg hc]
      exact ⟨μ, rfl, Fr.rfl', hV, hL⟩
  · rw [if_neg h5, if_pos (by omega), if_pos (by omega)]
    exact hgo
theorem x_landm1 {t : Int} {k : Nat} : fX5_land μ (ic k) (ic (-1)) (ic t) a = some ((), μ) := by
  simp only [fX5_land, ic_lit, ic_neg]
  rw [if_pos trivial]
theorem rnp_sp {pk past beat rounds : Int} (hb : 1 ≤ beat) (h : rnp pk past beat rounds ≠ -1) : pk ≠ -1 ∧ rnp pk past beat rounds = rnd past beat rounds ∧ 0 ≤ rnp pk past beat rounds ∧ rnp pk past beat rounds < rounds ∧ rnp pk past beat rounds * beat = past := by
  unfold rnp at h ⊢
  split
  · next hc => rw [if_pos hc] at h; exact absurd rfl h
  · next hc =>
    rw [if_neg hc] at h
    have := (rnd_rg (past := past) (rounds := rounds) hb).2 h
    exact ⟨hc, rfl, this⟩
theorem x_lands (hW : WF S) (h : XS 1 S μ0) (ha2 : a2 < 93) (ha : 97 ≤ a) (hp : ∀ k, k < nn S → μ0 a2 k = ic (p k)) (hpr : ∀ k, k < nn S → -1 ≤ p k ∧ p k ≤ 10000) {beat rounds t e : Int} (hb : 1 ≤ beat ∧ beat ≤ 10000) (hr : 0 ≤ rounds ∧ rounds ≤ 20) (ht : 0 ≤ t ∧ t ≤ 100000)
    {R : Nat → Nat → Int32} {P : Nat → Nat → Nat} (hP : ∀ k m, P k m < 24) (K : Int32 → Int32 → Int32 → Int32 → Mem → Option (Unit × Mem)) (hF : Fr [93, 94, 95, 96, a] μ0 μ) (hV : HV a V μ) (hL : LW (fun _ => -1) t μ) (hB : BR S p beat rounds t 0 R P μ) :
    ∃ μ', (Fr [93, 94, 95, 96, a] μ0 μ' ∧ HV a (lnd S p beat rounds t R P V (nn S)).1 μ' ∧ LW (lnd S p beat rounds t R P V (nn S)).2 t μ' ∧ BR S p beat rounds t 0 R P μ') ∧ fX5_doInTime_L50 a2 a K fu (ic beat) (ic rounds) (ic e) (ic t) (ic 0) μ = fX5_doInTime_L110 a2 a K fu (ic beat) (ic rounds) (ic e) (ic t) (ic 0) μ' := by
  have hn := hW.n
  have key := lq_m (fun f v ν => fX5_doInTime_L50 a2 a K f (ic beat) (ic rounds) (ic e) (ic t) v ν) (fun ν => fX5_doInTime_L110 a2 a K fu (ic beat) (ic rounds) (ic e) (ic t) (ic 0) ν) 0 (nn S) (fun k ν => Fr [93, 94, 95, 96, a] μ0 ν ∧ HV a (lnd S p beat rounds t R P V k).1 ν ∧ LW (lnd S p beat rounds t R P V k).2 t ν ∧ BR S p beat rounds t 0 R P ν) (by omega) ?_ ?_ μ fu (fu_lt (by omega)) ⟨hF, hV, hL, hB⟩
  · exact key
  · rintro f k ν - hk ⟨h2, h3, h4, h5⟩
    have x1 : XS 1 S ν := h.fr h2 (by simp; omega)
    have hpk := hpr k hk
    have hla := la_rg hW k
    have ek : ld 20 (ν a2) (ic (k : Int)) = some (ic (p k)) := by
      rw [ld_k k rfl (by omega), h2 a2 (by simp; omega), hp k hk]
    by_cases hpm : p k = -1
    · refine ⟨ν, ⟨h2, ?_⟩, ?_⟩
      · simp only [lnd]
        rw [show rnp (p k) (t - p k - la S k) beat rounds = -1 by unfold rnp; rw [if_pos hpm], if_pos rfl]
        exact ⟨h3, h4, h5⟩
      · simp (disch := omega) only [fX5_doInTime_L50, fX5_doInTime_L101, x_n x1 hW, ic_le, ek, Option.bind_some, ic_lit, ic_neg, ic_eq, ic_add]
        rw [if_neg (by omega), if_pos hpm]
        rfl
    · have er : rnp (p k) (t - p k - la S k) beat rounds = rnd (t - p k - la S k) beat rounds := by unfold rnp; rw [if_neg hpm]
      by_cases hm : rnp (p k) (t - p k - la S k) beat rounds = -1
      · refine ⟨ν, ⟨h2, ?_⟩, ?_⟩
        · simp only [lnd]
          rw [hm, if_pos rfl]
          exact ⟨h3, h4, h5⟩
        · simp (disch := omega) only [fX5_doInTime_L50, fX5_doInTime_L101, x_n x1 hW, ic_le, ek, Option.bind_some, ic_lit, ic_neg, ic_eq, x_lengthOf x1 hW hk, bd_some, ic_sub, x_roundOf, ← er, hm, x_landm1, ic_add]
          rw [if_neg (by omega), if_neg hpm]
          rfl
      · obtain ⟨_, _, g1, g2, g3⟩ := rnp_sp hb.1 hm
        obtain ⟨m, hmm⟩ : ∃ m : Nat, m = (rnp (p k) (t - p k - la S k) beat rounds).toNat := ⟨_, rfl⟩
        have hmz : rnp (p k) (t - p k - la S k) beat rounds = m := by omega
        rw [hmz] at g2 g3
        have hbg : Bg p beat rounds t 0 k m := ⟨hpm, g2, Or.inl (by omega)⟩
        obtain ⟨b1, b2⟩ := h5 k m hk (by omega) hbg
        obtain ⟨ν', i1, i2, i3, i4⟩ := x_land1 (t := t) (k := k) (m := m) ha ht h3 h4 (fun q => by
          have := lnd_W (S := S) (p := p) (rounds := rounds) (t := t) (R := R) (P := P) (V := V) hb.1 k q
          omega) (by omega) (by omega) (hP k m) b1 b2
        refine ⟨ν', ⟨h2.trans (i2.mono (by simp)), ?_⟩, ?_⟩
        · simp only [lnd]
          rw [if_neg hm, hmz, Int.toNat_natCast]
          have hB' : BR S p beat rounds t 0 R P ν' := fun k' m' q1 q2 q3 => by
            rw [i2 93 (by simp; omega), i2 94 (by simp; omega)]
            exact h5 k' m' q1 q2 q3
          by_cases hc : (lnd S p beat rounds t R P V k).2 (P k m) ≤ m
          · rw [if_pos hc] at i3 i4 ⊢
            exact ⟨i3, i4, hB'⟩
          · rw [if_neg hc] at i3 i4 ⊢
            exact ⟨i3, i4, hB'⟩
        · simp (disch := omega) only [fX5_doInTime_L50, fX5_doInTime_L101, x_n x1 hW, ic_le, ek, Option.bind_some, ic_lit, ic_neg, ic_eq, x_lengthOf x1 hW hk, bd_some, ic_sub, x_roundOf, ← er, hmz, i1, ic_add]
          rw [if_neg (by omega), if_neg hpm]
          rfl
  · rintro f ν ⟨h2, h3⟩
    have x1 : XS 1 S ν := h.fr h2 (by simp; omega)
    simp (disch := omega) only [fX5_doInTime_L50, x_n x1 hW, ic_le, ic_lit]
    rw [if_pos (by omega)]
/-- begun steps -/
theorem x_begins (hW : WF S) (h : XS 1 S μ0) (ha2 : a2 < 93) (ha : 97 ≤ a) (hp : ∀ k, k < nn S → μ0 a2 k = ic (p k)) (hpr : ∀ k, k < nn S → -1 ≤ p k ∧ p k ≤ 10000) {beat rounds t e : Int} (hb : 1 ≤ beat ∧ beat ≤ 10000) (hr : 0 ≤ rounds ∧ rounds ≤ 20) (ht : 0 ≤ t ∧ t ≤ 100000)
    {R : Nat → Nat → Int32} {P : Nat → Nat → Nat} {W : Nat → Int} (K : Int32 → Int32 → Int32 → Int32 → Mem → Option (Unit × Mem)) (hF : Fr [93, 94, 95, 96, a] μ0 μ) (hV : HV a V μ) (hL : LW W t μ) (hB : BR S p beat rounds t 0 R P μ) :
    ∃ μ', (Fr [93, 94, 95, 96, a] μ0 μ' ∧ HV a V μ' ∧ LW W t μ' ∧ BR S p beat rounds t (nn S) (beg S p beat rounds t V R P (nn S)).1 (beg S p beat rounds t V R P (nn S)).2 μ') ∧ fX5_doInTime_L110 a2 a K fu (ic beat) (ic rounds) (ic e) (ic t) (ic 0) μ = K (ic beat) (ic rounds) (ic e) (ic (t + 1)) μ' := by
  have hn := hW.n
  have key := lq_m (fun f v ν => fX5_doInTime_L110 a2 a K f (ic beat) (ic rounds) (ic e) (ic t) v ν) (fun ν => K (ic beat) (ic rounds) (ic e) (ic (t + 1)) ν) 0 (nn S) (fun k ν => Fr [93, 94, 95, 96, a] μ0 ν ∧ HV a V ν ∧ LW W t ν ∧ BR S p beat rounds t k (beg S p beat rounds t V R P k).1 (beg S p beat rounds t V R P k).2 ν) (by omega) ?_ ?_ μ fu (fu_lt (by omega)) ⟨hF, hV, hL, hB⟩
  · exact key
  · rintro f k ν - hk ⟨h2, h3, h4, h5⟩
    have x1 : XS 1 S ν := h.fr h2 (by simp; omega)
    have hpk := hpr k hk
    have ek : ld 20 (ν a2) (ic (k : Int)) = some (ic (p k)) := by
      rw [ld_k k rfl (by omega), h2 a2 (by simp; omega), hp k hk]
    by_cases hpm : p k = -1
    · have e0 : rnp (p k) (t - p k) beat rounds = -1 := by unfold rnp; rw [if_pos hpm]
      refine ⟨ν, ⟨h2, h3, h4, ?_⟩, ?_⟩
      · simp only [beg]
        rw [e0, if_pos rfl]
        rintro k' m' q1 q2 ⟨q3, q4, q5⟩
        refine h5 k' m' q1 q2 ⟨q3, q4, ?_⟩
        rcases q5 with q5 | ⟨q5, q6⟩
        · exact Or.inl q5
        · by_cases hkk : k' = k
          · rw [hkk] at q3
            exact absurd hpm q3
          · exact Or.inr ⟨by omega, q6⟩
      · simp (disch := omega) only [fX5_doInTime_L110, fX5_doInTime_L153, x_n x1 hW, ic_le, ek, Option.bind_some, ic_lit, ic_neg, ic_eq, ic_add]
        rw [if_neg (by omega), if_pos hpm]
        rfl
    · have er : rnp (p k) (t - p k) beat rounds = rnd (t - p k) beat rounds := by unfold rnp; rw [if_neg hpm]
      by_cases hm : rnp (p k) (t - p k) beat rounds = -1
      · refine ⟨ν, ⟨h2, h3, h4, ?_⟩, ?_⟩
        · simp only [beg]
          rw [hm, if_pos rfl]
          rintro k' m' q1 q2 ⟨q3, q4, q5⟩
          refine h5 k' m' q1 q2 ⟨q3, q4, ?_⟩
          rcases q5 with q5 | ⟨q5, q6⟩
          · exact Or.inl q5
          · by_cases hkk : k' = k
            · subst hkk
              left
              by_cases hlt : p k' + m' * beat < t
              · exact hlt
              · exfalso
                have e9 : t - p k' = m' * beat := by omega
                rw [er] at hm
                unfold rnd at hm
                have hnn : 0 ≤ (m' : Int) * beat := Int.mul_nonneg (by omega) (by omega)
                rw [e9, if_neg (by omega), Int.mul_emod_left, Int.mul_ediv_cancel _ (by omega), if_pos ⟨rfl, q4⟩] at hm
                omega
            · exact Or.inr ⟨by omega, q6⟩
        · simp (disch := omega) only [fX5_doInTime_L110, fX5_doInTime_L153, x_n x1 hW, ic_le, ek, Option.bind_some, ic_lit, ic_neg, ic_eq, bd_some, ic_sub, x_roundOf, ← er, hm, fX5_begin, ic_add]
          rw [if_neg (by omega), if_neg hpm]
          simp only [if_true, bd_some]
          rfl
      · obtain ⟨_, _, g1, g2, g3⟩ := rnp_sp hb.1 hm
        obtain ⟨m, hmm⟩ : ∃ m : Nat, m = (rnp (p k) (t - p k) beat rounds).toNat := ⟨_, rfl⟩
        have hmz : rnp (p k) (t - p k) beat rounds = m := by omega
        rw [hmz] at g2 g3
        have e1 : ((k : Int) * 20 + m).toNat = 20 * k + m := by omega
        have f1 : Fr [94] ν (mu ν 94 (20 * k + m) (ic (plc S V k))) := Fr_mu (by decide)
        have x2 : XS 1 S (mu ν 94 (20 * k + m) (ic (plc S V k))) := x1.fr f1 (by decide)
        have v2 : HV a V (mu ν 94 (20 * k + m) (ic (plc S V k))) := h3.of f1 (by simp; omega)
        have hf2 : Fr [93, 94] ν (mu (mu ν 94 (20 * k + m) (ic (plc S V k))) 93 (20 * k + m) (rsl S V k)) := (f1.mono (by decide)).trans (Fr_mu (by decide))
        refine ⟨mu (mu ν 94 (20 * k + m) (ic (plc S V k))) 93 (20 * k + m) (rsl S V k), ⟨h2.trans (hf2.mono (by simp)), h3.of hf2 (by simp; omega), ?_, ?_⟩, ?_⟩
        · unfold LW
          rw [hf2 95 (by decide), hf2 96 (by decide)]
          exact h4
        · simp only [beg]
          rw [if_neg hm, hmz, Int.toNat_natCast]
          rintro k' m' q1 q2 ⟨q3, q4, q5⟩
          simp only [upd2, mu_at]
          by_cases hkm : k' = k ∧ m' = m
          · obtain ⟨rfl, rfl⟩ := hkm
            simp
          · have hne : ¬ 20 * k' + m' = 20 * k + m := by omega
            simp only [hkm, hne]
            have := h5 k' m' q1 q2 ⟨q3, q4, ?_⟩
            · simpa using this
            · rcases q5 with q5 | ⟨q5, q6⟩
              · exact Or.inl q5
              · by_cases hkk : k' = k
                · subst hkk
                  left
                  by_cases hlt : p k' + m' * beat < t
                  · exact hlt
                  · exfalso
                    have e9 : (m' : Int) * beat = m * beat := by omega
                    have := Int.eq_of_mul_eq_mul_right (by omega) e9
                    omega
                · exact Or.inr ⟨by omega, q6⟩
        · simp (disch := omega) only [fX5_doInTime_L110, fX5_doInTime_L153, x_n x1 hW, ic_le, ek, Option.bind_some, ic_lit, ic_neg, ic_eq, bd_some, ic_sub, x_roundOf, ← er, hmz, fX5_begin, x_placeOf x1 hW h3 hk, ic_mul, ic_add, ast_ic, e1, x_resultOf x2 hW v2 hk]
          rw [if_neg (by omega), if_neg hpm, if_neg (by omega)]
          rfl
  · rintro f ν ⟨h2, h3⟩
    have x1 : XS 1 S ν := h.fr h2 (by simp; omega)
    simp (disch := omega) only [fX5_doInTime_L110, x_n x1 hW, ic_le, ic_lit, ic_add]
    rw [if_pos (by omega)]
theorem x_times (hW : WF S) (h : XS 1 S μ) (ha2 : a2 < 93) (ha : 97 ≤ a) (hp : ∀ k, k < nn S → μ a2 k = ic (p k)) (hpr : ∀ k, k < nn S → -1 ≤ p k ∧ p k ≤ 10000) {beat rounds : Int} {e : Nat} (hb : 1 ≤ beat ∧ beat ≤ 10000) (hr : 0 ≤ rounds ∧ rounds ≤ 20) (he : e ≤ 4990) (hV : HV a (V0 S) μ) (hL : ∀ q, q < 24 → μ 95 q = ic (-1)) :
    ∃ μ', fX5_doInTime_L40 a2 a fu (ic beat) (ic rounds) (ic e) (ic 0) μ = some ((), μ') ∧ Fr [93, 94, 95, 96, a] μ μ' ∧ HV a (tm S p beat rounds (V0 S) (e + 1)).1 μ' := by
  have hn := hW.n
  have key := lq_m (fun f v ν => fX5_doInTime_L40 a2 a f (ic beat) (ic rounds) (ic e) v ν) (fun ν => some ((), ν)) 0 (e + 1) (fun t ν => Fr [93, 94, 95, 96, a] μ ν ∧ HV a (tm S p beat rounds (V0 S) t).1 ν ∧ LW (fun _ => -1) t ν ∧ BR S p beat rounds t 0 (tm S p beat rounds (V0 S) t).2.1 (tm S p beat rounds (V0 S) t).2.2 ν) (by omega) ?_ ?_ μ fu (fu_lt (by omega)) ⟨Fr.rfl', hV, fun q hq => ⟨-1, hL q hq, by omega, by omega, Or.inr ⟨by omega, rfl⟩⟩, ?_⟩
  · obtain ⟨ν, ⟨h2, h3, _, _⟩, h4⟩ := key
    exact ⟨ν, h4, h2, h3⟩
  · rintro f t ν - ht ⟨h2, h3, h4, h5⟩
    obtain ⟨ν1, ⟨j1, j2, j3, j4⟩, j5⟩ := x_lands hW h ha2 ha hp hpr (e := e) hb hr (t := t) (by omega) (tm_lt hW t) (fX5_doInTime_L40 a2 a f) h2 h3 h4 h5
    obtain ⟨ν2, ⟨k1, k2, k3, k4⟩, k5⟩ := x_begins hW h ha2 ha hp hpr (e := e) hb hr (t := t) (by omega) (fX5_doInTime_L40 a2 a f) j1 j2 j3 j4
    refine ⟨ν2, ⟨k1, k2, ?_, ?_⟩, ?_⟩
    · intro q hq
      obtain ⟨x, q1, q2, q3, _⟩ := k3 q hq
      exact ⟨x, q1, q2, by omega, Or.inr ⟨by omega, rfl⟩⟩
    · rintro k m q1 q2 ⟨q3, q4, q5⟩
      exact k4 k m q1 q2 ⟨q3, q4, by omega⟩
    · simp (disch := omega) only [fX5_doInTime_L40, ic_lt, ic_lit]
      rw [if_neg (by omega), j5, k5]
      rfl
  · rintro f ν ⟨h2, h3⟩
    simp (disch := omega) only [fX5_doInTime_L40, ic_lt]
    rw [if_pos (by omega)]
  · rintro k m q1 q2 ⟨q3, q4, q5⟩
    exfalso
    have := hpr k q1
    have hnn : 0 ≤ (m : Int) * beat := Int.mul_nonneg (by omega) (by omega)
    omega
theorem x_doInTime (hW : WF S) (h : XS 1 S μ) (ha2 : a2 < 93) (ha : 97 ≤ a) (hp : ∀ k, k < nn S → μ a2 k = ic (p k)) (hpr : ∀ k, k < nn S → -1 ≤ p k ∧ p k ≤ 10000) {beat rounds : Int} {e : Nat} (hb : 1 ≤ beat ∧ beat ≤ 10000) (hr : 0 ≤ rounds ∧ rounds ≤ 20) (he : e ≤ 4990) :
    ∃ μ', fX5_doInTime μ a2 (ic beat) (ic rounds) (ic e) a = some ((), μ') ∧ Fr [93, 94, 95, 96, a] μ μ' ∧ HV a (tm S p beat rounds (V0 S) (e + 1)).1 μ' := by
  have e1 := acp_ic (μ := μ) (n0 := 24) (n1 := 24) (a0 := 8) (a1 := a) (sp := 0) (dp := 0) (n := 24) (by omega)
  have f1 : Fr [a] μ (ms μ a (va_cpy (μ 8) (μ a) 0 0 24)) := Fr_ms (by simp)
  have key := lq_m (fun f v ν => fX5_doInTime_L16 a2 a f (ic beat) (ic rounds) (ic e) v ν) (fun ν => fX5_doInTime_L40 a2 a fu (ic beat) (ic rounds) (ic e) (ic 0) ν) 0 24 (fun k ν => Fr [95, a] μ ν ∧ HV a (V0 S) ν ∧ ∀ q, q < k → ν 95 q = ic (-1)) (by omega) ?_ ?_ (ms μ a (va_cpy (μ 8) (μ a) 0 0 24)) fu (fu_lt (by omega)) ⟨f1.mono (by simp), HV0 h, fun q hq => by omega⟩
  · obtain ⟨ν, ⟨h2, h3, h4⟩, h5⟩ := key
    obtain ⟨μ', i1, i2, i3⟩ := x_times hW (h.fr h2 (by simp; omega)) ha2 ha (fun k hk => by rw [h2 a2 (by simp; omega)]; exact hp k hk) hpr hb hr he h3 h4
    refine ⟨μ', ?_, (h2.mono (by simp)).trans i2, i3⟩
    unfold fX5_doInTime
    simp only [ic_lit]
    have e1' : acp 24 24 μ 8 (ic 0) a (ic 0) (ic 24) = _ := e1
    rw [e1', Option.bind_some]
    exact h5.trans i1
  · rintro f k ν - hk ⟨h2, h3, h4⟩
    have e3 : (k : Int).toNat = k := by omega
    refine ⟨mu ν 95 k (ic (-1)), ⟨h2.trans (Fr_mu (by simp)), h3.of (Fr_mu (l := [95]) (by decide)) (by simp; omega), ?_⟩, ?_⟩
    · intro q hq
      rw [mu_at]
      by_cases hqk : q = k
      · simp [hqk]
      · rw [if_neg (by omega)]
        exact h4 q (by omega)
    · simp (disch := omega) only [fX5_doInTime_L16, ic_le, ic_lit, ic_neg, ast_ic, e3, Option.bind_some, ic_add]
      rw [if_neg (by omega)]
      rfl
  · rintro f ν ⟨h2, h3⟩
    simp (disch := omega) only [fX5_doInTime_L16, ic_le, ic_lit]
    rw [if_pos (by omega)]
end XT

