def RW (W : Nat → Int) (μ : Mem) : Prop := ∀ q, q < 24 → μ 6 q = ic (W q)
def BM (S : Nat → Int) (p : Nat → Int) (beat rounds t : Int) (k0 : Nat) (R : Nat → Nat → Int32) (P : Nat → Nat → Nat) (μ : Mem) : Prop := ∀ k m, k < nn S → m < 20 → Bg p beat rounds t k0 k m → μ 11 (20 * m + k) = R k m ∧ μ 12 (20 * m + k) = ic (P k m)
section RT
variable {S : Nat → Int} {μ μ0 : Mem} {i j : Nat} {p : Nat → Int} {V : Nat → Int32}
theorem tmod_add12 {y z : Int} : (y.tmod 12 + z) % 12 = (y + z) % 12 := by
  have h5 := tmod12 y
  split at h5 <;> omega
theorem r_addressB (h : MS S μ) (hW : WF S) (hi : i < nn S) {y : Int} (h3 : -2147483648 ≤ y ∧ y < 2147483648) (e1 : ld 24 (μ 5) (ic (on S i)) = some (ic y)) : fX9_addressOf μ (ic i) = some (ic (12 + (y + nb S i) % 12), μ) := by
  have hn := hW.n
  have h1 := hW.on hi
  have h2 := hW.nb hi
  have h4 := tmod12r y
  have h6 : 0 ≤ (y + nb S i) % 12 ∧ (y + nb S i) % 12 < 12 := by omega
  unfold fX9_addressOf
  simp only [ic_lit]
  rw [r_its2 h (by omega), bd_some, e1, Option.bind_some, rmd_ict (by omega), Option.bind_some, r_its4 h (by omega), bd_some, ic_add, r_cellBy (by omega), bd_some, ic_add, tmod_add12]
theorem r_addressOf (h : MS S μ) (hW : WF S) (hV : HV 5 V μ) (hi : i < nn S) : fX9_addressOf μ (ic i) = some (ic (adr S V i), μ) := by
  have h1 := hW.on hi
  have e1 : ld 24 (μ 5) (ic (on S i)) = some (V (on S i).toNat) := v_ld hV (by omega)
  rw [r_addressB h hW hi (i32_rg (V (on S i).toNat)) (by rw [ic_of]; exact e1)]
  unfold adr
  congr 3
  omega
theorem r_placeOf (h : MS S μ) (hW : WF S) (hV : HV 5 V μ) (hi : i < nn S) : fX9_placeOf μ (ic i) = some (ic (plc S V i), μ) := by
  have hn := hW.n
  have h1 := hW.kd hi
  have h2 := hW.tg hi
  simp (disch := omega) only [fX9_placeOf, ic_lit, r_its0 h, r_its1 h, bd_some, ic_eq, r_addressOf h hW hV hi]
  unfold plc
  split
  · rfl
  · congr 3
    omega
theorem r_gr (x y : Int32) : fX9_greater μ x y = some (jmax x y, μ) := by
  unfold fX9_greater jmax
  by_cases h : x < y
  · rw [if_pos h, if_pos (Int32.le_of_lt h)]
  · rw [if_neg h]
    by_cases h2 : x ≤ y
    · rw [if_pos h2]
      have : x = y := Int32.le_antisymm h2 (Int32.not_lt.mp h)
      rw [this]
    · rw [if_neg h2]
theorem r_resultOf (h : MS S μ) (hW : WF S) (hV : HV 5 V μ) (hi : i < nn S) : fX9_resultOf μ (ic i) = some (rsl S V i, μ) := by
  have hn := hW.n
  have h1 := hW.kd hi
  have h2 := hW.on hi
  have h3 := hW.tw hi
  have h4 := adr_lt S V i
  have e : ((adr S V i : Nat) : Int).toNat = adr S V i := by omega
  simp (disch := omega) only [fX9_resultOf, ic_lit, r_its0 h, r_its2 h, r_its3 h, r_its4 h, bd_some, v_ld hV, Option.bind_some, ic_eq, r_gr, r_addressOf h hW hV hi, e]
  unfold rsl
  repeat' split
  all_goals rfl
theorem r_begins (h : MS S μ) : ∃ μ', fX9_begins μ = some ((), μ') ∧ Fr [5] μ μ' ∧ HV 5 (V0 S) μ' := by
  have key := lq_m fX9_begins_L2 (fun ν => some ((), ν)) 0 24 (fun k ν => Fr [5] μ ν ∧ ∀ q, q < k → ν 5 q = V0 S q) (by omega) ?_ ?_ μ fu (fu_lt (by omega)) ⟨Fr.rfl', fun q hq => by omega⟩
  · obtain ⟨ν, ⟨h2, h3⟩, h4⟩ := key
    refine ⟨ν, ?_, h2, h3⟩
    rw [fX9_begins]
    exact h4
  · rintro f k ν - hk ⟨h2, h3⟩
    have m1 : MS S ν := h.fr h2 (by decide)
    have e3 : (k : Int).toNat = k := by omega
    have e4 := ms_ld m1 (8 + k) (i := 8 + (k : Int)) (by omega) (by omega)
    refine ⟨mu ν 5 k (V0 S k), ⟨h2.trans (Fr_mu (by decide)), ?_⟩, ?_⟩
    · intro q hq
      rw [mu_at]
      by_cases hqk : q = k
      · simp [hqk]
      · rw [if_neg (by omega)]
        exact h3 q (by omega)
    · simp (disch := omega) only [fX9_begins_L2, ic_le, ic_lit, ic_add, e4, Option.bind_some, ast_ic, e3]
      rw [if_neg (by omega)]
      rfl
  · rintro f ν ⟨h2, h3⟩
    simp (disch := omega) only [fX9_begins_L2, ic_le, ic_lit]
    rw [if_pos (by omega)]
theorem r_ordk (h : MS S μ0) (hW : WF S) (K : Int32 → Int32 → Mem → Option (Unit × Mem)) (r m : Int32) (hF : Fr [5] μ0 μ) (hV : HV 5 V μ) : ∃ μ', (Fr [5] μ0 μ' ∧ HV 5 (ordk S (nn S) V) μ') ∧ fX9_inOrder_L13 K fu r m (ic 0) μ = K r (m + 1) μ' := by
  have hn := hW.n
  have key := lq_m (fun f v ν => fX9_inOrder_L13 K f r m v ν) (fun ν => K r (m + 1) ν) 0 (nn S) (fun k ν => Fr [5] μ0 ν ∧ HV 5 (ordk S k V) ν) (by omega) ?_ ?_ μ fu (fu_lt (by omega)) ⟨hF, hV⟩
  · exact key
  · rintro f k ν - hk ⟨h2, h3⟩
    have x1 : MS S ν := h.fr h2 (by decide)
    have hp := plc_lt hW (ordk S k V) hk
    have e : ((plc S (ordk S k V) k : Nat) : Int).toNat = plc S (ordk S k V) k := by omega
    refine ⟨mu ν 5 (plc S (ordk S k V) k) (rsl S (ordk S k V) k), ⟨h2.trans (Fr_mu (by simp)), hv_upd h3 _ _⟩, ?_⟩
    simp (disch := omega) only [fX9_inOrder_L13, ms_n x1 hW, Option.bind_some, ic_le, r_placeOf x1 hW h3 hk, bd_some, r_resultOf x1 hW h3 hk, ast_ic, e, ic_lit, ic_add]
    rw [if_neg (by omega)]
    rfl
  · rintro f ν ⟨h2, h3⟩
    have x1 : MS S ν := h.fr h2 (by decide)
    simp (disch := omega) only [fX9_inOrder_L13, ms_n x1 hW, Option.bind_some, ic_le, ic_lit]
    rw [if_pos (by omega)]
theorem r_inOrder (h : MS S μ) (hW : WF S) {r : Nat} (hr : r ≤ 20) : ∃ μ', fX9_inOrder μ (ic r) = some ((), μ') ∧ Fr [5] μ μ' ∧ HV 5 (ord S r (V0 S)) μ' := by
  have hn := hW.n
  obtain ⟨μ1, e1, f1, h1⟩ := r_begins (μ := μ) h
  have key := lq_m (fun f v ν => fX9_inOrder_L6 f (ic r) v ν) (fun ν => some ((), ν)) 0 r (fun m ν => Fr [5] μ ν ∧ HV 5 (ord S m (V0 S)) ν) (by omega) ?_ ?_ μ1 fu (fu_lt (by omega)) ⟨f1, h1⟩
  · obtain ⟨ν, ⟨h2, h3⟩, h4⟩ := key
    refine ⟨ν, ?_, h2, h3⟩
    rw [fX9_inOrder, e1, bd_some]
    exact h4
  · rintro f m ν - hm ⟨h2, h3⟩
    obtain ⟨ν', h5, h6⟩ := r_ordk h hW (fX9_inOrder_L6 f) (ic r) (ic m) h2 h3
    refine ⟨ν', h5, ?_⟩
    simp (disch := omega) only [fX9_inOrder_L6, ic_le, ic_lit]
    rw [if_neg (by omega), h6]
    simp only [ic_lit, ic_add]
    rfl
  · rintro f ν ⟨h2, h3⟩
    simp (disch := omega) only [fX9_inOrder_L6, ic_le]
    rw [if_pos (by omega)]
theorem r_roundAt {past beat rounds : Int} (h1 : -2147483648 ≤ past ∧ past < 2147483648) (h2 : 1 ≤ beat ∧ beat ≤ 10000) (h3 : 0 ≤ rounds ∧ rounds ≤ 20) : fX9_roundAt μ (ic past) (ic rounds) (ic beat) = some (ic (rnd past beat rounds), μ) := by
  unfold rnd
  by_cases c1 : past < 0
  · simp (disch := omega) only [fX9_roundAt, ic_lit, ic_lt, ic_neg]
    rw [if_pos c1, if_pos c1]
  · have hd : 0 ≤ past / beat ∧ past / beat ≤ past := div_rg (by omega) h2.1
    have he : 0 ≤ past % beat ∧ past % beat < beat := ⟨Int.emod_nonneg _ (by omega), Int.emod_lt_of_pos _ (by omega)⟩
    simp (disch := omega) only [fX9_roundAt, ic_lit, ic_lt, ic_neg, rmd_ic, Option.bind_some, ic_eq, dv_ic, ic_le]
    rw [if_neg c1, if_neg c1]
    by_cases c2 : past % beat = 0
    · rw [if_pos c2]
      by_cases c3 : past / beat < rounds
      · rw [if_neg (by omega), if_pos ⟨c2, c3⟩]
      · rw [if_pos (by omega), if_neg (by omega)]
    · rw [if_neg c2, if_neg (by omega)]
theorem r_lands (hW : WF S) (h : MS S μ0) (hp : AT S p μ0) (hpr : ∀ k, k < nn S → -1 ≤ p k ∧ p k ≤ 10000) {beat rounds t e : Int} (hb : 1 ≤ beat ∧ beat ≤ 10000) (hr : 0 ≤ rounds ∧ rounds ≤ 20) (ht : 0 ≤ t ∧ t ≤ 100000)
    {R : Nat → Nat → Int32} {P : Nat → Nat → Nat} (hP : ∀ k m, P k m < 24) (K : Int32 → Int32 → Int32 → Int32 → Mem → Option (Unit × Mem)) (hF : Fr [5, 6, 11, 12] μ0 μ) (hV : HV 5 V μ) (hL : RW (fun _ => -1) μ) (hB : BM S p beat rounds t 0 R P μ) :
    ∃ μ', (Fr [5, 6, 11, 12] μ0 μ' ∧ HV 5 (lnd S p beat rounds t R P V (nn S)).1 μ' ∧ BM S p beat rounds t 0 R P μ') ∧ fX9_does_L40 K fu (ic rounds) (ic beat) (ic e) (ic t) (ic 0) μ = fX9_does_L179 K fu (ic rounds) (ic beat) (ic e) (ic t) (ic 0) μ' := by
  have hn := hW.n
  have key := lq_m (fun f v ν => fX9_does_L40 K f (ic rounds) (ic beat) (ic e) (ic t) v ν) (fun ν => fX9_does_L179 K fu (ic rounds) (ic beat) (ic e) (ic t) (ic 0) ν) 0 (nn S) (fun k ν => Fr [5, 6, 11, 12] μ0 ν ∧ HV 5 (lnd S p beat rounds t R P V k).1 ν ∧ RW (lnd S p beat rounds t R P V k).2 ν ∧ BM S p beat rounds t 0 R P ν) (by omega) ?_ ?_ μ fu (fu_lt (by omega)) ⟨hF, hV, hL, hB⟩
  · obtain ⟨ν, ⟨h2, h3, _, h5⟩, h6⟩ := key
    exact ⟨ν, ⟨h2, h3, h5⟩, h6⟩
  · rintro f k ν - hk ⟨h2, h3, h4, h5⟩
    have x1 : MS S ν := h.fr h2 (by decide)
    have a1 : AT S p ν := hp.of h2 (by decide)
    have hpk := hpr k hk
    have hla := la_rg hW k
    by_cases hpm : p k = -1
    · refine ⟨ν, ⟨h2, ?_⟩, ?_⟩
      · simp only [lnd]
        rw [show rnp (p k) (t - p k - la S k) beat rounds = -1 by unfold rnp; rw [if_pos hpm], if_pos rfl]
        exact ⟨h3, h4, h5⟩
      · simp (disch := omega) only [fX9_does_L40, fX9_does_L88, fX9_does_L170, ms_n x1 hW, ic_le, a_ld a1 hW hk, Option.bind_some, ic_lit, ic_neg, ic_eq, ic_add]
        rw [if_neg (by omega), if_pos hpm, if_pos trivial]
        rfl
    · have er : rnp (p k) (t - p k - la S k) beat rounds = rnd (t - p k - la S k) beat rounds := by unfold rnp; rw [if_neg hpm]
      by_cases hm : rnp (p k) (t - p k - la S k) beat rounds = -1
      · refine ⟨ν, ⟨h2, ?_⟩, ?_⟩
        · simp only [lnd]
          rw [hm, if_pos rfl]
          exact ⟨h3, h4, h5⟩
        · simp (disch := omega) only [fX9_does_L40, fX9_does_L88, fX9_does_L170, ms_n x1 hW, ic_le, a_ld a1 hW hk, Option.bind_some, ic_lit, ic_neg, ic_eq, r_latency x1 hW hk, bd_some, ic_sub, r_roundAt, ← er, hm, ic_add]
          rw [if_neg (by omega), if_neg hpm, if_pos trivial]
          rfl
      · obtain ⟨_, _, g1, g2, g3⟩ := rnp_sp hb.1 hm
        obtain ⟨m, hmm⟩ : ∃ m : Nat, m = (rnp (p k) (t - p k - la S k) beat rounds).toNat := ⟨_, rfl⟩
        have hmz : rnp (p k) (t - p k - la S k) beat rounds = m := by omega
        rw [hmz] at g2 g3
        have hbg : Bg p beat rounds t 0 k m := ⟨hpm, g2, Or.inl (by omega)⟩
        obtain ⟨b1, b2⟩ := h5 k m hk (by omega) hbg
        have hq := hP k m
        have e1 : (20 * (m : Int) + k).toNat = 20 * m + k := by omega
        have e2 : ((P k m : Nat) : Int).toNat = P k m := by omega
        have e3 : (mu ν 5 (P k m) (R k m)) 12 (20 * m + k) = ic (P k m) := by rw [mu_ne (by decide), b2]
        have e4 := h4 (P k m) hq
        have hw := lnd_W (S := S) (p := p) (rounds := rounds) (t := t) (R := R) (P := P) (V := V) hb.1 k (P k m)
        by_cases hc : (lnd S p beat rounds t R P V k).2 (P k m) ≤ m
        · refine ⟨mu (mu ν 5 (P k m) (R k m)) 6 (P k m) (ic m), ⟨h2.trans ((Fr_mu (by decide)).trans (Fr_mu (by decide))), ?_⟩, ?_⟩
          · simp only [lnd]
            rw [if_neg hm, hmz, Int.toNat_natCast, if_pos hc]
            refine ⟨(hv_upd h3 _ _).of (Fr_mu (l := [6]) (by decide)) (by decide), ?_, ?_⟩
            · intro q hq'
              rw [mu_at]
              by_cases hqq : q = P k m
              · simp [hqq]
              · rw [if_neg (by omega), mu_ne (by decide)]
                simp only [hqq, if_false]
                exact h4 q hq'
            · intro k' m' q1 q2 q3
              rw [mu_ne (by decide), mu_ne (by decide), mu_ne (by decide), mu_ne (by decide)]
              exact h5 k' m' q1 q2 q3
          · simp (disch := omega) only [fX9_does_L40, fX9_does_L88, fX9_does_L170, ms_n x1 hW, ic_le, a_ld a1 hW hk, Option.bind_some, ic_lit, ic_neg, ic_eq, r_latency x1 hW hk, bd_some, ic_sub, r_roundAt, ← er, hmz, ic_mul, ic_add, ld_ic, e1, b1, b2, e2, e3, e4, ic_lt, ast_ic]
            rw [if_neg (by omega), if_neg hpm, if_neg (by omega), if_neg (by omega)]
            rfl
        · refine ⟨ν, ⟨h2, ?_⟩, ?_⟩
          · simp only [lnd]
            rw [if_neg hm, hmz, Int.toNat_natCast, if_neg hc]
            exact ⟨h3, h4, h5⟩
          · simp (disch := omega) only [fX9_does_L40, fX9_does_L88, fX9_does_L170, ms_n x1 hW, ic_le, a_ld a1 hW hk, Option.bind_some, ic_lit, ic_neg, ic_eq, r_latency x1 hW hk, bd_some, ic_sub, r_roundAt, ← er, hmz, ic_mul, ic_add, ld_ic, e1, b1, b2, e2, e4, ic_lt]
            rw [if_neg (by omega), if_neg hpm, if_neg (by omega), if_pos (by omega)]
            rfl
  · rintro f ν ⟨h2, h3⟩
    have x1 : MS S ν := h.fr h2 (by decide)
    simp (disch := omega) only [fX9_does_L40, ms_n x1 hW, Option.bind_some, ic_le, ic_lit]
    rw [if_pos (by omega)]
theorem r_bgs (hW : WF S) (h : MS S μ0) (hp : AT S p μ0) (hpr : ∀ k, k < nn S → -1 ≤ p k ∧ p k ≤ 10000) {beat rounds t e : Int} (hb : 1 ≤ beat ∧ beat ≤ 10000) (hr : 0 ≤ rounds ∧ rounds ≤ 20) (ht : 0 ≤ t ∧ t ≤ 100000)
    {R : Nat → Nat → Int32} {P : Nat → Nat → Nat} (K : Int32 → Int32 → Int32 → Int32 → Mem → Option (Unit × Mem)) (hF : Fr [5, 6, 11, 12] μ0 μ) (hV : HV 5 V μ) (hB : BM S p beat rounds t 0 R P μ) :
    ∃ μ', (Fr [5, 6, 11, 12] μ0 μ' ∧ HV 5 V μ' ∧ BM S p beat rounds t (nn S) (beg S p beat rounds t V R P (nn S)).1 (beg S p beat rounds t V R P (nn S)).2 μ') ∧ fX9_does_L179 K fu (ic rounds) (ic beat) (ic e) (ic t) (ic 0) μ = K (ic rounds) (ic beat) (ic e) (ic (t + 1)) μ' := by
  have hn := hW.n
  have key := lq_m (fun f v ν => fX9_does_L179 K f (ic rounds) (ic beat) (ic e) (ic t) v ν) (fun ν => K (ic rounds) (ic beat) (ic e) (ic (t + 1)) ν) 0 (nn S) (fun k ν => Fr [5, 6, 11, 12] μ0 ν ∧ HV 5 V ν ∧ BM S p beat rounds t k (beg S p beat rounds t V R P k).1 (beg S p beat rounds t V R P k).2 ν) (by omega) ?_ ?_ μ fu (fu_lt (by omega)) ⟨hF, hV, hB⟩
  · exact key
  · rintro f k ν - hk ⟨h2, h3, h5⟩
    have x1 : MS S ν := h.fr h2 (by decide)
    have a1 : AT S p ν := hp.of h2 (by decide)
    have hpk := hpr k hk
    by_cases hpm : p k = -1
    · have e0 : rnp (p k) (t - p k) beat rounds = -1 := by unfold rnp; rw [if_pos hpm]
      refine ⟨ν, ⟨h2, h3, ?_⟩, ?_⟩
      · simp only [beg]
        rw [e0, if_pos rfl]
        rintro k' m' q1 q2 ⟨q3, q4, q5⟩
        refine h5 k' m' q1 q2 ⟨q3, q4, ?_⟩
        rcases q5 with q5 | ⟨q5, q6⟩
        · exact Or.inl q5
        · by_cases hkk : k' = k
          · rw [hkk] at q3
            exact absurd hpm q3
          · exact Or.inr ⟨by omega, q6⟩
      · simp (disch := omega) only [fX9_does_L179, fX9_does_L220, fX9_does_L266, ms_n x1 hW, ic_le, a_ld a1 hW hk, Option.bind_some, ic_lit, ic_neg, ic_eq, ic_add]
        rw [if_neg (by omega), if_pos hpm, if_pos trivial]
        rfl
    · have er : rnp (p k) (t - p k) beat rounds = rnd (t - p k) beat rounds := by unfold rnp; rw [if_neg hpm]
      by_cases hm : rnp (p k) (t - p k) beat rounds = -1
      · refine ⟨ν, ⟨h2, h3, ?_⟩, ?_⟩
        · simp only [beg]
          rw [hm, if_pos rfl]
          rintro k' m' q1 q2 ⟨q3, q4, q5⟩
          refine h5 k' m' q1 q2 ⟨q3, q4, ?_⟩
          rcases q5 with q5 | ⟨q5, q6⟩
          · exact Or.inl q5
          · by_cases hkk : k' = k
            · subst hkk
              left
              by_cases hlt : p k' + m' * beat < t
              · exact hlt
              · exfalso
                have e9 : t - p k' = m' * beat := by omega
                rw [er] at hm
                unfold rnd at hm
                have hnn : 0 ≤ (m' : Int) * beat := Int.mul_nonneg (by omega) (by omega)
                rw [e9, if_neg (by omega), Int.mul_emod_left, Int.mul_ediv_cancel _ (by omega), if_pos ⟨rfl, q4⟩] at hm
                omega
            · exact Or.inr ⟨by omega, q6⟩
        · simp (disch := omega) only [fX9_does_L179, fX9_does_L220, fX9_does_L266, ms_n x1 hW, ic_le, a_ld a1 hW hk, Option.bind_some, ic_lit, ic_neg, ic_eq, bd_some, ic_sub, r_roundAt, ← er, hm, ic_add]
          rw [if_neg (by omega), if_neg hpm, if_pos trivial]
          rfl
      · obtain ⟨_, _, g1, g2, g3⟩ := rnp_sp hb.1 hm
        obtain ⟨m, hmm⟩ : ∃ m : Nat, m = (rnp (p k) (t - p k) beat rounds).toNat := ⟨_, rfl⟩
        have hmz : rnp (p k) (t - p k) beat rounds = m := by omega
        rw [hmz] at g2 g3
        have e1 : (20 * (m : Int) + k).toNat = 20 * m + k := by omega
        have f1 : Fr [11] ν (mu ν 11 (20 * m + k) (rsl S V k)) := Fr_mu (by decide)
        have x2 : MS S (mu ν 11 (20 * m + k) (rsl S V k)) := x1.fr f1 (by decide)
        have v2 : HV 5 V (mu ν 11 (20 * m + k) (rsl S V k)) := h3.of f1 (by decide)
        have hf2 : Fr [11, 12] ν (mu (mu ν 11 (20 * m + k) (rsl S V k)) 12 (20 * m + k) (ic (plc S V k))) := (f1.mono (by decide)).trans (Fr_mu (by decide))
        refine ⟨mu (mu ν 11 (20 * m + k) (rsl S V k)) 12 (20 * m + k) (ic (plc S V k)), ⟨h2.trans (hf2.mono (by decide)), h3.of hf2 (by decide), ?_⟩, ?_⟩
        · simp only [beg]
          rw [if_neg hm, hmz, Int.toNat_natCast]
          rintro k' m' q1 q2 ⟨q3, q4, q5⟩
          simp only [upd2, mu_at]
          by_cases hkm : k' = k ∧ m' = m
          · obtain ⟨rfl, rfl⟩ := hkm
            simp
          · have hne : ¬ 20 * m' + k' = 20 * m + k := by omega
            simp only [hkm, hne]
            have := h5 k' m' q1 q2 ⟨q3, q4, ?_⟩
            · simpa using this
            · rcases q5 with q5 | ⟨q5, q6⟩
              · exact Or.inl q5
              · by_cases hkk : k' = k
                · subst hkk
                  left
                  by_cases hlt : p k' + m' * beat < t
                  · exact hlt
                  · exfalso
                    have e9 : (m' : Int) * beat = m * beat := by omega
                    have := Int.eq_of_mul_eq_mul_right (by omega) e9
                    omega
                · exact Or.inr ⟨by omega, q6⟩
        · simp (disch := omega) only [fX9_does_L179, fX9_does_L220, fX9_does_L266, ms_n x1 hW, ic_le, a_ld a1 hW hk, Option.bind_some, ic_lit, ic_neg, ic_eq, bd_some, ic_sub, r_roundAt, ← er, hmz, r_resultOf x1 hW h3 hk, ic_mul, ic_add, ast_ic, e1, r_placeOf x2 hW v2 hk]
          rw [if_neg (by omega), if_neg hpm, if_neg (by omega)]
          rfl
  · rintro f ν ⟨h2, h3⟩
    have x1 : MS S ν := h.fr h2 (by decide)
    simp (disch := omega) only [fX9_does_L179, ms_n x1 hW, Option.bind_some, ic_le, ic_lit, ic_add]
    rw [if_pos (by omega)]
theorem r_wclear {beat rounds t e : Int32} (K : Int32 → Int32 → Int32 → Int32 → Mem → Option (Unit × Mem)) : ∃ μ', (Fr [6] μ μ' ∧ RW (fun _ => -1) μ') ∧ fX9_does_L16 K fu rounds beat e t (ic 0) μ = fX9_does_L40 K fu rounds beat e t (ic 0) μ' := by
  have key := lq_m (fun f v ν => fX9_does_L16 K f rounds beat e t v ν) (fun ν => fX9_does_L40 K fu rounds beat e t (ic 0) ν) 0 24 (fun k ν => Fr [6] μ ν ∧ ∀ q, q < k → ν 6 q = ic (-1)) (by omega) ?_ ?_ μ fu (fu_lt (by omega)) ⟨Fr.rfl', fun q hq => by omega⟩
  · exact key
  · rintro f k ν - hk ⟨h2, h4⟩
    have e3 : (k : Int).toNat = k := by omega
    refine ⟨mu ν 6 k (ic (-1)), ⟨h2.trans (Fr_mu (by decide)), ?_⟩, ?_⟩
    · intro q hq
      rw [mu_at]
      by_cases hqk : q = k
      · simp [hqk]
      · rw [if_neg (by omega)]
        exact h4 q (by omega)
    · simp (disch := omega) only [fX9_does_L16, ic_le, ic_lit, ic_neg, ast_ic, e3, Option.bind_some, ic_add]
      rw [if_neg (by omega)]
      rfl
  · rintro f ν ⟨h2, h3⟩
    simp (disch := omega) only [fX9_does_L16, ic_le, ic_lit]
    rw [if_pos (by omega)]
theorem r_does (hW : WF S) (h : MS S μ) (hp : AT S p μ) (hpr : ∀ k, k < nn S → -1 ≤ p k ∧ p k ≤ 10000) {beat rounds : Int} {e : Nat} (hb : 1 ≤ beat ∧ beat ≤ 10000) (hr : 0 ≤ rounds ∧ rounds ≤ 20) (he : e ≤ 4990) :
    ∃ μ', fX9_does μ (ic rounds) (ic beat) (ic e) = some ((), μ') ∧ Fr [5, 6, 11, 12] μ μ' ∧ HV 5 (tm S p beat rounds (V0 S) (e + 1)).1 μ' := by
  have hn := hW.n
  obtain ⟨μ1, e1, f1, h1⟩ := r_begins (μ := μ) h
  have key := lq_m (fun f v ν => fX9_does_L7 f (ic rounds) (ic beat) (ic e) v ν) (fun ν => some ((), ν)) 0 (e + 1) (fun t ν => Fr [5, 6, 11, 12] μ ν ∧ HV 5 (tm S p beat rounds (V0 S) t).1 ν ∧ BM S p beat rounds t 0 (tm S p beat rounds (V0 S) t).2.1 (tm S p beat rounds (V0 S) t).2.2 ν) (by omega) ?_ ?_ μ1 fu (fu_lt (by omega)) ⟨f1.mono (by decide), h1, ?_⟩
  · obtain ⟨ν, ⟨h2, h3, _⟩, h4⟩ := key
    refine ⟨ν, ?_, h2, h3⟩
    rw [fX9_does, e1, bd_some]
    exact h4
  · rintro f t ν - ht ⟨h2, h3, h5⟩
    obtain ⟨ν0, ⟨i1, i2⟩, i3⟩ := r_wclear (μ := ν) (beat := ic beat) (rounds := ic rounds) (t := ic (t : Int)) (e := ic (e : Int)) (fX9_does_L7 f)
    have f2 : Fr [5, 6, 11, 12] μ ν0 := h2.trans (i1.mono (by decide))
    have hB0 : BM S p beat rounds t 0 (tm S p beat rounds (V0 S) t).2.1 (tm S p beat rounds (V0 S) t).2.2 ν0 := fun k' m' q1 q2 q3 => by
      rw [i1 11 (by decide), i1 12 (by decide)]
      exact h5 k' m' q1 q2 q3
    obtain ⟨ν1, ⟨j1, j2, j4⟩, j5⟩ := r_lands hW h hp hpr (e := e) hb hr (t := t) (by omega) (tm_lt hW t) (fX9_does_L7 f) f2 (h3.of i1 (by decide)) i2 hB0
    obtain ⟨ν2, ⟨k1, k2, k4⟩, k5⟩ := r_bgs hW h hp hpr (e := e) hb hr (t := t) (by omega) (fX9_does_L7 f) j1 j2 j4
    refine ⟨ν2, ⟨k1, k2, ?_⟩, ?_⟩
    · rintro k m q1 q2 ⟨q3, q4, q5⟩
      exact k4 k m q1 q2 ⟨q3, q4, by omega⟩
    · simp (disch := omega) only [fX9_does_L7, ic_lt, ic_lit]
      rw [if_neg (by omega), i3, j5, k5]
      rfl
  · rintro f ν ⟨h2, h3⟩
    simp (disch := omega) only [fX9_does_L7, ic_lt]
    rw [if_pos (by omega)]
  · rintro k m q1 q2 ⟨q3, q4, q5⟩
    exfalso
    have := hpr k q1
    have hnn : 0 ≤ (m : Int) * beat := Int.mul_nonneg (by omega) (by omega)
    omega
end RT
