section RP
variable {S : Nat → Int} {μ μ0 : Mem} {i j : Nat} {p : Nat → Int}
theorem r_isReady_in (hG : HG S μ) (hA : AT S p μ) (hW : WF S) (hp : ∀ k, k < nn S → -1 ≤ p k ∧ p k ≤ 10000) {b : Int} (hb : 0 ≤ b ∧ b ≤ 10000) {s : Nat} (hs : s < nn S) (c : Bool) : fX9_isReady_L44 fu (ic s) (ic b) (b2 c) (ic 0) μ = some (b2 (c && rdy S p b s s), μ) := by
  have hn := hW.n
  have key := loop_up (fun f (s' : Int32 × Int32) => fX9_isReady_L44 f (ic s) (ic b) s'.1 s'.2 μ) 0 s (fun k s' => s' = (b2 (c && rdy S p b s k), ic (k : Int))) (fun o => o = some (b2 (c && rdy S p b s s), μ)) (by omega) ?_ ?_ (b2 c, ic 0) fu (fu_lt (by omega)) (by simp [rdy])
  · exact key
  · rintro f k s' - hk rfl
    have k1 : k < nn S := by omega
    have b1 := hp k k1
    have b3 := nearT_rg hW k s
    have e1 : (20 * (k : Int) + s).toNat = 20 * k + s := by omega
    simp (disch := omega) only [fX9_isReady_L44, ic_le, b2_0, zret_b2, ic_lit, ic_mul, ic_add, ld_ic, e1, (hG k s k1 hs).1, Option.bind_some, ic_neg, ic_eq, a_ld hA hW k1, ic_lt, fX9_isReady_L100, fX9_isReady_L104, fX9_isReady_L105]
    rw [if_neg (by omega)]
    by_cases q0 : (c && rdy S p b s k) = false
    · right
      rw [if_pos q0]
      have h4 : ∀ m, k ≤ m → m ≤ s → (c && rdy S p b s m) = false := by
        intro m
        induction m with
        | zero =>
          intro h5 _
          obtain rfl : k = 0 := by omega
          exact q0
        | succ m ih =>
          intro h5 h6
          by_cases h7 : k ≤ m
          · have := ih h7 (by omega)
            simp only [rdy]
            simp only [Bool.and_eq_false_iff] at this ⊢
            rcases this with h | h
            · exact Or.inl h
            · exact Or.inr (Or.inl h)
          · obtain rfl : k = m + 1 := by omega
            exact q0
      rw [q0, h4 s (by omega) (Nat.le_refl _)]
    · left
      rw [if_neg q0]
      have q0' : (c && rdy S p b s k) = true := by simpa using q0
      refine ⟨(b2 (c && rdy S p b s (k + 1)), ic ((k + 1 : Nat) : Int)), rfl, ?_⟩
      simp only [rdy, ← Bool.and_assoc, q0', Bool.true_and]
      by_cases q1 : nearT S k s = -99
      · simp [q1, b2]
      · by_cases q2 : p k = -1
        · simp [q1, q2, b2]
        · by_cases q3 : p k + nearT S k s ≤ b
          · simp [q1, q2, q3, b2, show ¬ b < p k + nearT S k s by omega]
          · simp [q1, q2, q3, b2, show b < p k + nearT S k s by omega]
  · rintro f s' rfl
    simp (disch := omega) only [fX9_isReady_L44, ic_le, zret_b2]
    rw [if_pos (by omega)]
theorem r_isReady (h : MS S μ) (hG : HG S μ) (hA : AT S p μ) (hW : WF S) (hp : ∀ k, k < nn S → -1 ≤ p k ∧ p k ≤ 10000) {b : Int} (hb : 0 ≤ b ∧ b ≤ 10000) {s : Nat} (hs : s < nn S) : fX9_isReady μ (ic s) (ic b) = some (b2 (can S p b s), μ) := by
  have hn := hW.n
  have hu := un_lt S s
  have h1 := hp s hs
  have h2 := cin_rg S p b (un S s) (nn S)
  have h3 := hW.sl (un S s) hu
  have hf := r_isReady_in hG hA hW hp hb hs false
  have ht := r_isReady_in hG hA hW hp hb hs true
  rw [b2_f] at hf
  rw [b2_t] at ht
  simp (disch := omega) only [fX9_isReady, a_ld hA hW hs, Option.bind_some, ic_lit, ic_neg, ic_eq, r_unit h hW hs, bd_some, r_inUnit h hA hW hp (b := b) (by omega) hu, ic_add, r_sl h hu, ic_le, fX9_isReady_L39, fX9_isReady_L40, hf, ht]
  unfold can
  by_cases q1 : p s = -1
  · by_cases q2 : cin S p b (un S s) (nn S) < S (2 + un S s)
    · simp [q1, q2, show ¬ S (2 + un S s) ≤ cin S p b (un S s) (nn S) by omega]
    · simp [q1, q2, show S (2 + un S s) ≤ cin S p b (un S s) (nn S) by omega]
  · simp [q1]
theorem r_highest (h : MS S μ) (hG : HG S μ) (hH : HT S μ) (hA : AT S p μ) (hW : WF S) (hp : ∀ k, k < nn S → -1 ≤ p k ∧ p k ≤ 10000) {b : Int} (hb : 0 ≤ b ∧ b ≤ 10000) : fX9_highest μ (ic b) = some (ic (bst S p b (nn S)), μ) := by
  have hn := hW.n
  have key := loop_eq (fun f (s : Int32 × Int32) => fX9_highest_L4 f (ic b) s.1 s.2 μ) 0 (nn S) (fun k => (ic (bst S p b k), ic k)) (some (ic (bst S p b (nn S)), μ)) (by omega) ?_ ?_ fu (fu_lt (by omega))
  · simp only [fX9_highest, ic_lit, ic_neg]
    exact key
  · intro f k _ hk
    have hr := bst_rg (S := S) (p := p) (b := b) k
    have hg1 := hgt_rg hW k
    have hg2 := hgt_rg hW (bst S p b k).toNat
    have e3 : (k : Int).toNat = k := by omega
    simp (disch := omega) only [fX9_highest_L4, ms_n h hW, Option.bind_some, ic_le, r_isReady h hG hA hW hp hb hk, bd_some, ic_lit, b2_0, ic_neg, ic_eq, fX9_highest_L47, fX9_highest_L43, fX9_highest_L48, ic_add]
    rw [if_neg (by omega)]
    simp only [bst]
    by_cases q1 : can S p b k = false
    · simp [q1]
    · by_cases q2 : bst S p b k = -1
      · simp [q1, q2]
      · have e4 : ld 20 (μ 14) (ic (bst S p b k)) = some (ic (hgt S (bst S p b k).toNat)) := by
          rw [ld_ic (by omega), hH _ (by omega)]
        have e5 : ld 20 (μ 14) (ic (k : Int)) = some (ic (hgt S k)) := by
          rw [ld_ic (by omega), e3, hH _ (by omega)]
        simp (disch := omega) only [e4, e5, Option.bind_some, ic_le]
        by_cases q3 : hgt S (bst S p b k).toNat < hgt S k
        · simp [q1, q2, q3, show ¬ hgt S k ≤ hgt S (bst S p b k).toNat by omega]
        · simp [q1, q2, q3, show hgt S k ≤ hgt S (bst S p b k).toNat by omega]
  · intro f
    simp (disch := omega) only [fX9_highest_L4, ms_n h hW, Option.bind_some, ic_le, ic_lit]
    rw [if_pos (by omega)]
theorem upd_rg {s : Nat} {b : Int} (hb : 0 ≤ b ∧ b ≤ 10000) (hp : ∀ k, k < nn S → -1 ≤ p k ∧ p k ≤ 10000) : ∀ k, k < nn S → -1 ≤ updI p s b k ∧ updI p s b k ≤ 10000 := fun k hk => by
  have := hp k hk
  unfold updI
  split <;> omega
theorem AT.upd {s : Nat} {b : Int} (hA : AT S p μ) : AT S (updI p s b) (mu μ 13 s (ic b)) := fun k hk => by
  rw [mu_at]
  unfold updI
  by_cases hq : k = s
  · simp [hq]
  · simp [hq, hA k hk]
/-- a bundle filled -/
theorem r_packs_in (hW : WF S) (K : Int32 → Int32 → Mem → Option (Int32 × Mem)) {b : Int} (hb : 0 ≤ b ∧ b ≤ 9999) : ∀ (f g : Nat) (p : Nat → Int) (μ : Mem), MS S μ → HG S μ → HT S μ → AT S p μ → (∀ k, k < nn S → -1 ≤ p k ∧ p k ≤ 10000) → ulc p (nn S) ≤ f → f < g →
    ∃ μ', Fr [13] μ μ' ∧ AT S (fil S b f p) μ' ∧ fX9_packs_L48 K g (ic (ulc p (nn S))) (ic b) (ic (bst S p b (nn S))) μ = K (ic (ulc (fil S b f p) (nn S))) (ic (b + 1)) μ'
  | f, 0, p, μ, h, hG, hH, hA, hp, hf, hg => by omega
  | 0, g + 1, p, μ, h, hG, hH, hA, hp, hf, hg => by
    have hq := (fil_sp (S := S) (b := b) hb.1 0 p).2.1 (by omega)
    refine ⟨μ, Fr.rfl', hA, ?_⟩
    simp only [fil] at hq ⊢
    simp (disch := omega) only [fX9_packs_L48, hq, ic_lit, ic_neg, ic_add]
    rw [if_pos trivial]
  | f + 1, g + 1, p, μ, h, hG, hH, hA, hp, hf, hg => by
    have hn := hW.n
    have hr := bst_rg (S := S) (p := p) (b := b) (nn S)
    by_cases hq : bst S p b (nn S) = -1
    · refine ⟨μ, Fr.rfl', ?_, ?_⟩
      · simp only [fil]
        rw [if_pos hq]
        exact hA
      · simp only [fil]
        simp (disch := omega) only [fX9_packs_L48, hq, ic_lit, ic_neg, ic_add]
        rw [if_pos trivial, if_pos trivial]
    · have h1 := can_no (bst_can (nn S) hq)
      have h3 := ulc_upd (v := b) h1 (by omega) (n := nn S) (by omega)
      have hl := ulc_le p (nn S)
      have f1 : Fr [13] μ (mu μ 13 (bst S p b (nn S)).toNat (ic b)) := Fr_mu (by decide)
      obtain ⟨μ', i1, i2, i3⟩ := r_packs_in hW K hb f g (updI p (bst S p b (nn S)).toNat b) (mu μ 13 (bst S p b (nn S)).toNat (ic b)) (h.fr f1 (by decide)) (hG.of f1 (by decide) (by decide)) (fun k hk => by rw [f1 14 (by decide)]; exact hH k hk) (AT.upd hA) (upd_rg (by omega) hp) (by omega) (by omega)
      refine ⟨μ', f1.trans i1, ?_, ?_⟩
      · simp only [fil]
        rw [if_neg hq]
        exact i2
      · simp only [fil]
        rw [if_neg hq, ← i3]
        have e := r_highest (h.fr f1 (by decide)) (hG.of f1 (by decide) (by decide)) (fun k hk => by rw [f1 14 (by decide)]; exact hH k hk) (AT.upd hA) hW (upd_rg (by omega) hp) (b := b) (by omega)
        simp (disch := omega) only [fX9_packs_L48, ic_lit, ic_neg, ic_eq, ast_ic, Option.bind_some, e, bd_some, ic_add]
        rw [if_neg hq]
        congr 2
        omega
theorem r_packs_out (hW : WF S) (h : MS S μ) (hG : HG S μ) (hH : HT S μ) (hA : AT S (pk S 0) μ) : ∃ μ', Fr [13] μ μ' ∧ AT S (pkS S) μ' ∧ fX9_packs_L38 fu (ic (ulc (pk S 0) (nn S))) (ic 0) μ = some (ic (mxm (pkS S) (nn S) + 1), μ') := by
  have hn := hW.n
  have key := loop_up (fun f (s : Int32 × Int32 × Mem) => fX9_packs_L38 f s.1 s.2.1 s.2.2) 0 146 (fun b s => s.1 = ic (ulc (pk S b) (nn S)) ∧ s.2.1 = ic (b : Int) ∧ Fr [13] μ s.2.2 ∧ AT S (pk S b) s.2.2) (fun o => ∃ μ', Fr [13] μ μ' ∧ AT S (pkS S) μ' ∧ o = some (ic (mxm (pkS S) (nn S) + 1), μ')) (by omega) ?_ ?_ (ic (ulc (pk S 0) (nn S)), ic 0, μ) fu (fu_lt (by omega)) ⟨rfl, rfl, Fr.rfl', hA⟩
  · exact key
  · rintro f b ⟨v, w, ν⟩ - hb ⟨h1, h2, h3, h4⟩
    dsimp only at h1 h2 h3 h4 ⊢
    subst h1 h2
    have hl := ulc_le (pk S b) (nn S)
    have hrg : ∀ k, k < nn S → -1 ≤ pk S b k ∧ pk S b k ≤ 10000 := fun k _ => by
      have := pk_rg (S := S) b k
      omega
    have m1 := h.fr h3 (by decide)
    have g1 := hG.of h3 (by decide) (by decide)
    have t1 : HT S ν := fun k hk => by rw [h3 14 (by decide)]; exact hH k hk
    by_cases hz : ulc (pk S b) (nn S) = 0
    · right
      have e := pk_is hW hz
      refine ⟨ν, h3, e ▸ h4, ?_⟩
      simp (disch := omega) only [fX9_packs_L38, ic_lit, ic_le, r_lastOf m1 h4 hW hrg, bd_some, ic_add]
      rw [if_pos (by omega), e]
    · left
      obtain ⟨ν', i1, i2, i3⟩ := r_packs_in hW (fX9_packs_L38 f) (b := b) (by omega) (nn S) fu (pk S b) ν m1 g1 t1 h4 hrg hl (fu_lt (by omega))
      refine ⟨(ic (ulc (pk S (b + 1)) (nn S)), ic ((b + 1 : Nat) : Int), ν'), ⟨rfl, rfl, h3.trans i1, i2⟩, ?_⟩
      simp (disch := omega) only [fX9_packs_L38, ic_lit, ic_le, r_highest m1 g1 t1 h4 hW hrg (b := b) (by omega), bd_some]
      rw [if_neg (by omega), i3]
      rfl
  · rintro f ⟨v, w, ν⟩ ⟨h1, h2, h3, h4⟩
    dsimp only at h1 h2 h3 h4 ⊢
    subst h1 h2
    have hz := pk_end hW
    have hrg : ∀ k, k < nn S → -1 ≤ pk S 146 k ∧ pk S 146 k ≤ 10000 := fun k _ => by
      have := pk_rg (S := S) 146 k
      omega
    refine ⟨ν, h3, h4, ?_⟩
    simp (disch := omega) only [fX9_packs_L38, ic_lit, ic_le, r_lastOf (h.fr h3 (by decide)) h4 hW hrg, bd_some, ic_add]
    rw [if_pos (by omega)]
    rfl
theorem ulc_all : ∀ n, ulc (fun _ => (-1 : Int)) n = n
  | 0 => rfl
  | n + 1 => by
    simp only [ulc]
    rw [ulc_all n, if_pos trivial]
theorem r_packs (hW : WF S) (h : MS S μ) : ∃ μ', fX9_packs μ = some (ic (mxm (pkS S) (nn S) + 1), μ') ∧ Fr [13, 14, 15, 17, 18] μ μ' ∧ AT S (pkS S) μ' ∧ MS S μ' := by
  have hn := hW.n
  obtain ⟨μ1, e1, f1, hG, hH, hE⟩ := r_measures hW h
  have m1 := h.fr f1 (by decide)
  have key := lq_m fX9_packs_L6 (fun ν => fX9_packs_L38 fu (ic (nn S)) (ic 0) ν) 0 (nn S) (fun k ν => Fr [13] μ1 ν ∧ ∀ j, j < k → ν 13 j = ic (-1)) (by omega) ?_ ?_ μ1 fu (fu_lt (by omega)) ⟨Fr.rfl', fun i' hc => by omega⟩
  · obtain ⟨ν, ⟨h2, h3⟩, h4⟩ := key
    have m2 := m1.fr h2 (by decide)
    obtain ⟨μ', i1, i2, i3⟩ := r_packs_out hW m2 (hG.of h2 (by decide) (by decide)) (fun k hk => by rw [h2 14 (by decide)]; exact hH k hk) h3
    refine ⟨μ', ?_, (f1.mono (by decide)).trans ((h2.trans i1).mono (by decide)), i2, m2.fr i1 (by decide)⟩
    rw [fX9_packs, e1, bd_some]
    simp only [pk, ulc_all] at i3
    exact h4.trans i3
  · rintro f k ν - hk ⟨h2, h3⟩
    have m1 : MS S ν := m1.fr h2 (by decide)
    have e3 : (k : Int).toNat = k := by omega
    refine ⟨mu ν 13 k (ic (-1)), ⟨h2.trans (Fr_mu (by decide)), ?_⟩, ?_⟩
    · intro j hj
      rw [mu_at]
      by_cases hq : j = k
      · simp [hq]
      · rw [if_neg (by omega)]
        exact h3 j (by omega)
    · simp (disch := omega) only [fX9_packs_L6, ms_n m1 hW, Option.bind_some, ic_le, ic_lit, ic_neg, ast_ic, e3, ic_add]
      rw [if_neg (by omega)]
      rfl
  · rintro f ν ⟨h2, h3⟩
    have m1 : MS S ν := m1.fr h2 (by decide)
    simp (disch := omega) only [fX9_packs_L6, ms_n m1 hW, Option.bind_some, ic_le, ic_lit]
    rw [if_pos (by omega)]
end RP
