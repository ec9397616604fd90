def PL (S : Nat → Int) (p : Nat → Int) (μ : Mem) : Prop := ∀ k, k < nn S → μ 84 k = ic (p k)
theorem PL.of {S : Nat → Int} {p : Nat → Int} {μ μ' : Mem} {l : List Nat} (h : PL S p μ) (hF : Fr l μ μ') (hl : 84 ∉ l) : PL S p μ' := fun k hk => by
  rw [hF 84 hl]
  exact h k hk
def FS (S : Nat → Int) (p : Nat → Int) (b : Int) (μ : Mem) : Prop := ∀ u, u < 3 → μ 85 u = ic (S (2 + u) - cin S p b u (nn S))
theorem LK.near {S : Nat → Int} {μ : Mem} (h : LK S μ) : LG S μ := h.1
theorem cin_upd {S : Nat → Int} {p : Nat → Int} {b : Int} {s : Nat} (hs : p s = -1) (hb : b ≠ -1) (u : Nat) : ∀ {n : Nat}, s < n → cin S (updI p s b) b u n = cin S p b u n + (if un S s = u then 1 else 0)
  | 0, h => by omega
  | n + 1, h => by
    simp only [cin]
    by_cases hsn : s = n
    · subst hsn
      have e : ∀ m, m ≤ s → cin S (updI p s b) b u m = cin S p b u m := by
        intro m
        induction m with
        | zero => intro _; rfl
        | succ m ih =>
          intro hm
          simp only [cin]
          have em : updI p s b m = p m := by
            unfold updI
            rw [if_neg (by omega)]
          rw [ih (by omega), em]
      rw [e s (Nat.le_refl _)]
      unfold updI
      rw [if_pos rfl, hs]
      by_cases q : un S s = u
      · rw [if_pos ⟨rfl, q⟩, if_neg (by omega), if_pos q]
        omega
      · rw [if_neg (by omega), if_neg (by omega), if_neg q]
        omega
    · rw [cin_upd hs hb u (n := n) (by omega)]
      have e : updI p s b n = p n := by
        unfold updI
        rw [if_neg (by omega)]
      rw [e]
      omega
section XP
variable {S : Nat → Int} {μ μ0 : Mem} {i j : Nat} {p : Nat → Int}
theorem p_ld (h : PL S p μ) (hW : WF S) {k : Nat} (hk : k < nn S) : ld 20 (μ 84) (ic k) = some (ic (p k)) := by
  have hn := hW.n
  rw [ld_k k rfl (by omega), h k hk]
theorem x_isReady (hG : LG S μ) (hA : PL S p μ) (hW : WF S) (hp : ∀ k, k < nn S → -1 ≤ p k ∧ p k ≤ 10000) {b : Int} (hb : 0 ≤ b ∧ b ≤ 10000) {s : Nat} (hs : s < nn S) : fX4_isReady μ (ic s) (ic b) = some (b2 (rdy S p b s s), μ) := by
  have hn := hW.n
  have key := loop_up (fun f s' => fX4_isReady_L3 f (ic s) (ic b) s' μ) 0 s (fun k s' => s' = ic (k : Int) ∧ rdy S p b s k = true) (fun o => o = some (b2 (rdy S p b s s), μ)) (by omega) ?_ ?_ (ic 0) fu (fu_lt (by omega)) ⟨rfl, rfl⟩
  · rw [fX4_isReady]
    exact key
  · rintro f k s' - hk ⟨rfl, h3⟩
    have k1 : k < nn S := by omega
    have b1 := hp k k1
    have b3 := nearT_rg hW k s
    have h4 : rdy S p b s (k + 1) = false → rdy S p b s s = false := by
      intro h0
      have h4 : ∀ m, k + 1 ≤ m → m ≤ s → rdy S p b s m = false := by
        intro m
        induction m with
        | zero => omega
        | succ m ih =>
          intro h5 h6
          by_cases h7 : k + 1 ≤ m
          · simp only [rdy]
            rw [ih h7 (by omega)]
            rfl
          · obtain rfl : k = m := by omega
            exact h0
      exact h4 s (by omega) (Nat.le_refl _)
    simp (disch := omega) only [fX4_isReady_L3, fX4_isReady_L52, ic_le, x_nearOf hG hW k1 hs, bd_some, ic_lit, ic_neg, ic_eq, p_ld hA hW k1, Option.bind_some, ic_sub, ic_add]
    rw [if_neg (by omega)]
    by_cases q1 : nearT S k s = -99
    · left
      refine ⟨ic ((k + 1 : Nat) : Int), ⟨rfl, ?_⟩, ?_⟩
      · simp [rdy, h3, q1]
      · rw [if_pos q1]
        rfl
    · rw [if_neg q1]
      by_cases q2 : p k = -1
      · right
        rw [if_pos q2, h4 (by simp [rdy, q1, q2])]
        rfl
      · rw [if_neg q2]
        by_cases q3 : nearT S k s ≤ b - p k
        · left
          refine ⟨ic ((k + 1 : Nat) : Int), ⟨rfl, ?_⟩, ?_⟩
          · simp [rdy, h3, q2, show p k + nearT S k s ≤ b by omega]
          · rw [if_pos q3]
            rfl
        · right
          rw [if_neg q3, h4 (by simp [rdy, q1, show ¬ p k + nearT S k s ≤ b by omega])]
          rfl
  · rintro f s' ⟨rfl, h3⟩
    simp (disch := omega) only [fX4_isReady_L3, ic_le, ic_lit]
    rw [if_pos (by omega), h3]
    rfl
theorem x_bestFor (h : XS 1 S μ) (hL : LK S μ) (hA : PL S p μ) (hW : WF S) (hp : ∀ k, k < nn S → -1 ≤ p k ∧ p k ≤ 10000) {b : Int} (hb : 0 ≤ b ∧ b ≤ 10000) (hS : FS S p b μ) : fX4_bestFor μ (ic b) = some (ic (bst S p b (nn S)), μ) := by
  have hn := hW.n
  have key := loop_eq (fun f (s : Int32 × Int32) => fX4_bestFor_L6 f (ic b) s.1 s.2 μ) 0 (nn S) (fun k => (ic (bst S p b k), ic k)) (some (ic (bst S p b (nn S)), μ)) (by omega) ?_ ?_ fu (fu_lt (by omega))
  · simp only [fX4_bestFor, ic_lit, ic_neg]
    exact key
  · intro f k _ hk
    have hr := bst_rg (S := S) (p := p) (b := b) k
    have hg1 := hgt_rg hW k
    have hg2 := hgt_rg hW (bst S p b k).toNat
    have hu := un_lt S k
    have hp1 := hp k hk
    have h2 := cin_rg S p b (un S k) (nn S)
    have h3 := hW.sl (un S k) hu
    have e3 : (k : Int).toNat = k := by omega
    have e6 : ld 3 (μ 85) (ic (un S k)) = some (ic (S (2 + un S k) - cin S p b (un S k) (nn S))) := by
      rw [ld_k (un S k) rfl (by omega), hS _ hu]
    simp (disch := omega) only [fX4_bestFor_L6, x_n h hW, Option.bind_some, ic_le, p_ld hA hW hk, ic_lit, ic_neg, ic_eq, x_unitOf h hW hk, bd_some, e6, fX4_bestFor_L78, fX4_bestFor_L63, x_isReady hL.1 hA hW hp hb hk, b2_0, ic_add]
    rw [if_neg (by omega)]
    simp only [bst]
    have ec : can S p b k = (decide (p k = -1) && (decide (cin S p b (un S k) (nn S) < S (2 + un S k)) && rdy S p b k k)) := rfl
    by_cases q1 : p k = -1
    · by_cases q2 : cin S p b (un S k) (nn S) < S (2 + un S k)
      · have q2' : ¬ S (2 + un S k) - cin S p b (un S k) (nn S) ≤ 0 := by omega
        have ec' : can S p b k = rdy S p b k k := by rw [ec]; simp [q1, q2]
        rw [if_pos q1, if_neg q2', ec']
        by_cases q3 : bst S p b k = -1
        · by_cases q4 : rdy S p b k k = false
          · simp [q3, q4]
          · simp [q3, q4]
        · have e4 : ld 20 (μ 81) (ic (bst S p b k)) = some (ic (hgt S (bst S p b k).toNat)) := by
            rw [ld_ic (by omega), hL.2.2.1 _ (by omega)]
          have e5 : ld 20 (μ 81) (ic (k : Int)) = some (ic (hgt S k)) := by
            rw [ld_ic (by omega), e3, hL.2.2.1 _ (by omega)]
          simp (disch := omega) only [e4, e5, Option.bind_some, ic_le]
          by_cases q5 : hgt S (bst S p b k).toNat < hgt S k
          · by_cases q4 : rdy S p b k k = false
            · simp [q3, q4, q5, show ¬ hgt S k ≤ hgt S (bst S p b k).toNat by omega]
            · simp [q3, q4, q5, show ¬ hgt S k ≤ hgt S (bst S p b k).toNat by omega]
          · simp [q3, q5, show hgt S k ≤ hgt S (bst S p b k).toNat by omega]
      · have q2' : S (2 + un S k) - cin S p b (un S k) (nn S) ≤ 0 := by omega
        have ec' : can S p b k = false := by rw [ec]; simp [q2]
        rw [if_pos q1, if_pos q2', ec']
        simp
    · have ec' : can S p b k = false := by rw [ec]; simp [q1]
      rw [if_neg q1, ec']
      simp
  · intro f
    simp (disch := omega) only [fX4_bestFor_L6, x_n h hW, ic_le]
    rw [if_pos (by omega)]
theorem PL.upd {s : Nat} {b : Int} (hA : PL S p μ) : PL S (updI p s b) (mu μ 84 s (ic b)) := fun k hk => by
  rw [mu_at]
  unfold updI
  by_cases hq : k = s
  · simp [hq]
  · simp [hq, hA k hk]
theorem x_fill_in (hW : WF S) {b : Int} (hb : 0 ≤ b ∧ b ≤ 9999) : ∀ (f g t : Nat) (c : Int) (p : Nat → Int) (μ : Mem), XS 1 S μ → LK S μ → PL S p μ → FS S p b μ → (∀ k, k < nn S → -1 ≤ p k ∧ p k ≤ 10000) → ulc p (nn S) ≤ f → t + f = nn S → f < g →
    ∃ μ', Fr [84, 85] μ μ' ∧ PL S (fil S b f p) μ' ∧ fX4_fillBundle_L20 g (ic b) (ic c) (ic t) μ = some (ic (c + (ulc p (nn S) - ulc (fil S b f p) (nn S) : Int)), μ')
  | f, 0, t, c, p, μ, h, hL, hA, hS, hp, hf, ht, hg => by omega
  | 0, g + 1, t, c, p, μ, h, hL, hA, hS, hp, hf, ht, hg => by
    have hn := hW.n
    refine ⟨μ, Fr.rfl', hA, ?_⟩
    simp only [fil]
    simp (disch := omega) only [fX4_fillBundle_L20, x_n h hW, ic_le]
    rw [if_pos (by omega)]
    congr 3
    omega
  | f + 1, g + 1, t, c, p, μ, h, hL, hA, hS, hp, hf, ht, hg => by
    have hn := hW.n
    have hr := bst_rg (S := S) (p := p) (b := b) (nn S)
    have e0 := x_bestFor h hL hA hW hp (b := b) (by omega) hS
    by_cases hq : bst S p b (nn S) = -1
    · refine ⟨μ, Fr.rfl', ?_, ?_⟩
      · simp only [fil]
        rw [if_pos hq]
        exact hA
      · simp only [fil]
        simp (disch := omega) only [fX4_fillBundle_L20, x_n h hW, ic_le, e0, bd_some, ic_lit, ic_neg, ic_eq]
        rw [if_neg (by omega), if_pos hq, if_pos hq]
        congr 3
        omega
    · obtain ⟨s, hs⟩ : ∃ s, s = (bst S p b (nn S)).toNat := ⟨_, rfl⟩
      have hs' : bst S p b (nn S) = s := by omega
      have h1 := can_no (bst_can (nn S) hq)
      rw [← hs] at h1
      have h3 := ulc_upd (v := b) h1 (by omega) (n := nn S) (by omega)
      have hl := ulc_le p (nn S)
      have hu := un_lt S s
      have f1 : Fr [84] μ (mu μ 84 s (ic b)) := Fr_mu (by decide)
      have x1 := h.fr f1 (by decide)
      have hd := cin_rg S p b (un S s) (nn S)
      have hsl := hW.sl (un S s) hu
      have e7 : ld 3 ((mu μ 84 s (ic b)) 85) (ic (un S s)) = some (ic (S (2 + un S s) - cin S p b (un S s) (nn S))) := by
        rw [mu_ne (by decide), ld_k (un S s) rfl (by omega), hS _ hu]
      have e8 : (un S s : Int).toNat = un S s := by omega
      have e9 : (s : Int).toNat = s := by omega
      have f2 : Fr [84, 85] μ (mu (mu μ 84 s (ic b)) 85 (un S s) (ic (S (2 + un S s) - cin S p b (un S s) (nn S) - 1))) := (f1.mono (by decide)).trans (Fr_mu (by decide))
      obtain ⟨μ', i1, i2, i3⟩ := x_fill_in hW hb f g (t + 1) (c + 1) (updI p s b) (mu (mu μ 84 s (ic b)) 85 (un S s) (ic (S (2 + un S s) - cin S p b (un S s) (nn S) - 1))) (h.fr f2 (by decide)) (hL.of f2 (by decide)) ((PL.upd hA).of (Fr_mu (l := [85]) (by decide)) (by decide)) (fun u hu9 => by
        rw [mu_at, cin_upd h1 (by omega) u (by omega)]
        by_cases q : u = un S s
        · rw [if_pos ⟨rfl, q⟩, if_pos q.symm, q]
          congr 1
          omega
        · rw [if_neg (by omega), if_neg (fun z => q z.symm), mu_ne (by decide), hS u hu9]
          congr 1
          omega) (upd_rg (by omega) hp) (by omega) (by omega) (by omega)
      refine ⟨μ', f2.trans i1, ?_, ?_⟩
      · simp only [fil]
        rw [if_neg hq, ← hs]
        exact i2
      · simp only [fil]
        rw [if_neg hq, ← hs]
        have i3' : fX4_fillBundle_L20 g (ic b) (ic (c + 1)) (ic ((t : Int) + 1)) (mu (mu μ 84 s (ic b)) 85 (un S s) (ic (S (2 + un S s) - cin S p b (un S s) (nn S) - 1))) = _ := i3
        simp (disch := omega) only [fX4_fillBundle_L20, x_n h hW, ic_le, e0, bd_some, ic_lit, ic_neg, ic_eq, hs', ast_ic, e9, Option.bind_some, x_unitOf x1 hW (show s < nn S by omega), e7, e8, ic_sub, ic_add]
        rw [if_neg (by omega), if_neg (by omega), i3']
        congr 3
        omega
theorem acp_ic {n0 n1 : Nat} {a0 a1 : Nat} {sp dp n : Nat} (h : sp + n ≤ n0 ∧ dp + n ≤ n1 ∧ sp + n < 2147483648 ∧ dp + n < 2147483648) : acp n0 n1 μ a0 (ic (sp : Int)) a1 (ic (dp : Int)) (ic (n : Int)) = some (ms μ a1 (va_cpy (μ a0) (μ a1) sp dp n)) := by
  unfold acp
  simp (disch := omega) only [ic_lit, ic_le, ic_nat, Int.toNat_natCast]
  rw [if_pos (by omega)]
theorem x_fillBundle (hW : WF S) {b : Nat} (hb : b ≤ 9999) (hlt : ∀ k, k < nn S → p k < b) (h : XS 1 S μ) (hL : LK S μ) (hA : PL S p μ) (hp : ∀ k, k < nn S → -1 ≤ p k ∧ p k ≤ 10000) :
    ∃ μ', Fr [84, 85] μ μ' ∧ PL S (fil S b (nn S) p) μ' ∧ fX4_fillBundle μ (ic b) = some (ic (ulc p (nn S) - ulc (fil S b (nn S) p) (nn S) : Int), μ') := by
  have hn := hW.n
  have e1 := acp_ic (μ := μ) (n0 := 3) (n1 := 3) (a0 := 9) (a1 := 85) (sp := 0) (dp := 0) (n := 3) (by omega)
  have f1 : Fr [85] μ (ms μ 85 (va_cpy (μ 9) (μ 85) 0 0 3)) := Fr_ms (by decide)
  have hS : FS S p b (ms μ 85 (va_cpy (μ 9) (μ 85) 0 0 3)) := fun u hu => by
    have hc0 : cin S p b u (nn S) = 0 := by
      have h3 := cin_rg S p b u (nn S)
      by_cases h4 : 0 < cin S p b u (nn S)
      · obtain ⟨k, h6, h5, _⟩ := cin_pos h4
        have := hlt k h6
        omega
      · omega
    rw [hc0]
    unfold ms va_cpy
    rw [if_pos rfl, if_pos (by omega), show 0 + (u - 0) = u by omega, h.2.2.1 u hu]
    congr 1
    omega
  obtain ⟨μ', i1, i2, i3⟩ := x_fill_in hW (b := b) (by omega) (nn S) fu 0 0 p _ (h.fr f1 (by decide)) (hL.of f1 (by decide)) (hA.of f1 (by decide)) hS hp (ulc_le _ _) (by omega) (fu_lt (by omega))
  refine ⟨μ', (f1.mono (by decide)).trans i1, i2, ?_⟩
  simp only [Int.zero_add] at i3
  unfold fX4_fillBundle
  simp only [ic_lit]
  have e1' : acp 3 3 μ 9 (ic 0) 85 (ic 0) (ic 3) = _ := e1
  rw [e1', Option.bind_some]
  exact i3
theorem x_makePlan_out (hW : WF S) (h : XS 1 S μ) (hL : LK S μ) (hA : PL S (pk S 0) μ) : ∃ μ', Fr [84, 85] μ μ' ∧ PL S (pkS S) μ' ∧ fX4_makePlan_L28 fu (ic 0) (ic 0) μ = some ((), μ') := by
  have hn := hW.n
  have u0 : ulc (pk S 0) (nn S) = nn S := ulc_all _
  have key := loop_up (fun f (s : Int32 × Int32 × Mem) => fX4_makePlan_L28 f s.1 s.2.1 s.2.2) 0 146 (fun b s => s.1 = ic ((nn S : Int) - ulc (pk S b) (nn S)) ∧ s.2.1 = ic (b : Int) ∧ Fr [84, 85] μ s.2.2 ∧ PL S (pk S b) s.2.2) (fun o => ∃ μ', Fr [84, 85] μ μ' ∧ PL S (pkS S) μ' ∧ o = some ((), μ')) (by omega) ?_ ?_ (ic 0, ic 0, μ) fu (fu_lt (by omega)) ⟨by show ic 0 = ic ((nn S : Int) - ulc (pk S 0) (nn S)); rw [u0, Int.sub_self], rfl, Fr.rfl', hA⟩
  · exact key
  · rintro f b ⟨v, w, ν⟩ - hb ⟨h1, h2, h3, h4⟩
    dsimp only at h1 h2 h3 h4 ⊢
    subst h1 h2
    have hl := ulc_le (pk S b) (nn S)
    have hlt : ∀ k, k < nn S → pk S b k < b := fun k _ => (pk_rg (S := S) b k).2
    have hrg : ∀ k, k < nn S → -1 ≤ pk S b k ∧ pk S b k ≤ 10000 := fun k _ => by
      have := pk_rg (S := S) b k
      omega
    have x1 := h.fr h3 (by decide)
    have l1 := hL.of h3 (by decide)
    by_cases hz : ulc (pk S b) (nn S) = 0
    · right
      have e := pk_is hW hz
      refine ⟨ν, h3, e ▸ h4, ?_⟩
      simp (disch := omega) only [fX4_makePlan_L28, ic_lit, ic_le, x_n x1 hW]
      rw [if_neg (by omega), if_pos (by omega)]
    · left
      obtain ⟨ν', i1, i2, i3⟩ := x_fillBundle hW (b := b) (by omega) hlt x1 l1 h4 hrg
      refine ⟨(ic ((nn S : Int) - ulc (pk S (b + 1)) (nn S)), ic ((b + 1 : Nat) : Int), ν'), ⟨rfl, rfl, h3.trans i1, i2⟩, ?_⟩
      simp (disch := omega) only [fX4_makePlan_L28, ic_lit, ic_le, x_n x1 hW, i3, bd_some, ic_add]
      rw [if_neg (by omega), if_neg (by omega)]
      have e : pk S (b + 1) = fil S b (nn S) (pk S b) := rfl
      rw [← e]
      congr 2
      omega
  · rintro f ⟨v, w, ν⟩ ⟨h1, h2, h3, h4⟩
    dsimp only at h1 h2 h3 h4 ⊢
    subst h1 h2
    have hz := pk_end hW
    refine ⟨ν, h3, h4, ?_⟩
    simp (disch := omega) only [fX4_makePlan_L28, ic_lit, ic_le, x_n (h.fr h3 (by decide)) hW]
    rw [if_neg (by omega), if_pos (by omega)]
theorem x_makePlan (hW : WF S) (h : XS 1 S μ) (hL : LK S μ) : ∃ μ', fX4_makePlan μ = some ((), μ') ∧ Fr [84, 85] μ μ' ∧ PL S (pkS S) μ' := by
  have hn := hW.n
  have key := lq_m fX4_makePlan_L2 (fun ν => fX4_makePlan_L28 fu (ic 0) (ic 0) ν) 0 (nn S) (fun k ν => Fr [84] μ ν ∧ ∀ j, j < k → ν 84 j = ic (-1)) (by omega) ?_ ?_ μ fu (fu_lt (by omega)) ⟨Fr.rfl', fun i' hc => by omega⟩
  · obtain ⟨ν, ⟨h2, h3⟩, h4⟩ := key
    obtain ⟨μ', i1, i2, i3⟩ := x_makePlan_out hW (h.fr h2 (by decide)) (hL.of h2 (by decide)) h3
    refine ⟨μ', ?_, (h2.mono (by decide)).trans i1, i2⟩
    rw [fX4_makePlan]
    exact h4.trans i3
  · rintro f k ν - hk ⟨h2, h3⟩
    have x1 : XS 1 S ν := h.fr h2 (by decide)
    have e3 : (k : Int).toNat = k := by omega
    refine ⟨mu ν 84 k (ic (-1)), ⟨h2.trans (Fr_mu (by decide)), ?_⟩, ?_⟩
    · intro j hj
      rw [mu_at]
      by_cases hq : j = k
      · simp [hq]
      · rw [if_neg (by omega)]
        exact h3 j (by omega)
    · simp (disch := omega) only [fX4_makePlan_L2, x_n x1 hW, Option.bind_some, ic_le, ic_lit, ic_neg, ast_ic, e3, ic_add]
      rw [if_neg (by omega)]
      rfl
  · rintro f ν ⟨h2, h3⟩
    have x1 : XS 1 S ν := h.fr h2 (by decide)
    simp (disch := omega) only [fX4_makePlan_L2, x_n x1 hW, ic_le, ic_lit]
    rw [if_pos (by omega)]
end XP

