def TK (c m : Nat) (β : Int) (tk : Nat → Nat → Int) (μ : Mem) : Prop := ∀ u x : Nat, u < 3 → (x : Int) < β → μ c (m * u + x) = ic (tk u x)
section RL
variable {S : Nat → Int} {μ μ0 : Mem} {j : Nat} {β : Int} {s : Nat → Int} {tk : Nat → Nat → Int}
theorem r_asked (hG : HG S μ) (hW : WF S) (hβ : 1 ≤ β ∧ β ≤ 120) (hj : j < nn S) (hs : ∀ k, k < j → μ 13 k = ic (s k)) (hr : ∀ k, 0 ≤ s k ∧ s k ≤ 2500) : fX9_asked μ (ic j) (ic β) = some (ic (akd S β s j j), μ) := by
  have hn := hW.n
  have key := loop_eq (fun f (q : Int32 × Int32) => fX9_asked_L5 f (ic j) (ic β) q.1 q.2 μ) 0 j (fun k => (ic (akd S β s j k), ic k)) (some (ic (akd S β s j j), μ)) (by omega) ?_ ?_ fu (fu_lt (by omega))
  · simp only [fX9_asked, ic_lit]
    exact key
  · intro f k _ hk
    have k1 : k < nn S := by omega
    have g1 := hG k j k1 hj
    have h1 := akd_rg hW hβ.1 (s := s) (j := j) (B := 2500) (by omega) (fun k _ => (hr k).2) k (by omega)
    have h3 := nearT_rg hW k j
    have h4 := over_rg hW k j
    have h5 := hr k
    have e1 : (20 * (k : Int) + j).toNat = 20 * k + j := by omega
    have e2 : (k : Int).toNat = k := by omega
    have es := hs k hk
    simp (disch := omega) only [fX9_asked_L5, ic_le, ic_lit, ic_mul, ic_add, ld_ic, e1, g1.1, g1.2, Option.bind_some, ic_neg, ic_eq, e2, es, r_greater, bd_some]
    rw [if_neg (by omega)]
    simp only [akd]
    by_cases c1 : nearT S k j = -99
    · rw [if_pos c1]
      simp (disch := omega) only [fX9_asked_L64, fX9_asked_L92, ic_lit, ic_neg, ic_eq, ld_ic, e2, es, Option.bind_some, ic_add, ic_sub, r_greater, bd_some]
      simp only [c1, if_true]
      split <;> rfl
    · rw [if_neg c1]
      simp (disch := omega) only [fX9_asked_L64, fX9_asked_L92, ic_lit, ic_neg, ic_eq, ld_ic, e2, es, Option.bind_some, ic_add, ic_sub, r_greater, bd_some]
      simp only [c1, if_false]
      split <;> rfl
  · intro f
    simp (disch := omega) only [fX9_asked_L5, ic_le]
    rw [if_pos (by omega)]
theorem r_isHeld_in (hG : HG S μ) (hW : WF S) (hβ : 1 ≤ β ∧ β ≤ 120) (hj : j < nn S) (hs : ∀ k, k < j → μ 13 k = ic (s k)) (hr : ∀ k, 0 ≤ s k ∧ s k ≤ 2500) {t : Int} (ht : 0 ≤ t ∧ t ≤ 5000) (c : Bool) : fX9_isHeld_L25 fu (ic j) (ic t) (ic β) (b2 c) (ic 0) μ = some (b2 (c && hlo S β s j t j), μ) := by
  have hn := hW.n
  have key := loop_eq (fun f (q : Int32 × Int32) => fX9_isHeld_L25 f (ic j) (ic t) (ic β) q.1 q.2 μ) 0 j (fun k => (b2 (c && hlo S β s j t k), ic k)) (some (b2 (c && hlo S β s j t j), μ)) (by omega) ?_ ?_ fu (fu_lt (by omega))
  · simp only [hlo, Bool.and_true] at key
    exact key
  · intro f k _ hk
    have k1 : k < nn S := by omega
    have g1 := hG j k hj k1
    have h4 := over_rg hW j k
    have h5 := hr k
    have e1 : (20 * (j : Int) + k).toNat = 20 * j + k := by omega
    have e2 : (k : Int).toNat = k := by omega
    have es := hs k hk
    simp (disch := omega) only [fX9_isHeld_L25, ic_le, ic_lit, ic_mul, ic_add, ld_ic, e1, g1.2, Option.bind_some, b2_0, ic_neg, ic_eq, e2, es, ic_sub, ic_lt, fX9_isHeld_L77, fX9_isHeld_L73, fX9_isHeld_L78]
    rw [if_neg (by omega)]
    simp only [hlo, ← Bool.and_assoc]
    by_cases q0 : (c && hlo S β s j t k) = false
    · rw [if_pos q0, q0, Bool.false_and]
      rfl
    · rw [if_neg q0]
      have q0' : (c && hlo S β s j t k) = true := by simpa using q0
      rw [q0', Bool.true_and]
      by_cases c1 : over S j k = -99
      · simp [c1, b2]
      · by_cases c2 : over S j k ≤ s k + β - t
        · simp [c1, c2, b2, show ¬ s k + β - t < over S j k by omega]
        · simp [c1, c2, b2, show s k + β - t < over S j k by omega]
  · intro f
    simp (disch := omega) only [fX9_isHeld_L25, ic_le, zret_b2]
    rw [if_pos (by omega)]
theorem r_isHeld (hG : HG S μ) (hW : WF S) (hβ : 1 ≤ β ∧ β ≤ 120) (hj : j < nn S) (hs : ∀ k, k < j → μ 13 k = ic (s k)) (hr : ∀ k, 0 ≤ s k ∧ s k ≤ 2500) {t : Int} (ht : 0 ≤ t ∧ t ≤ 5000) : fX9_isHeld μ (ic j) (ic t) (ic β) = some (b2 (hld S β s j t), μ) := by
  have hn := hW.n
  have g1 := hG j j hj hj
  have h4 := over_rg hW j j
  have e1 : (20 * (j : Int) + j).toNat = 20 * j + j := by omega
  have hf := r_isHeld_in hG hW hβ hj hs hr ht false
  have htt := r_isHeld_in hG hW hβ hj hs hr ht true
  rw [b2_f] at hf
  rw [b2_t] at htt
  simp (disch := omega) only [fX9_isHeld, fX9_isHeld_L20, ic_lit, ic_mul, ic_add, ld_ic, e1, g1.2, Option.bind_some, ic_lt, hf, htt]
  unfold hld
  by_cases c2 : over S j j ≤ β
  · simp [c2, show ¬ β < over S j j by omega]
  · simp [c2, show β < over S j j by omega, b2]
theorem r_slot (hβ : 1 ≤ β ∧ β ≤ 120) {u : Nat} (hu : u < 3) {t : Int} (ht : 0 ≤ t ∧ t ≤ 5000) : fX9_slot μ (ic u) (ic t) (ic β) = some (ic (256 * (u : Int) + t % β), μ) := by
  simp (disch := omega) only [fX9_slot, rmd_ic, Option.bind_some, ic_lit, ic_mul, ic_add]
theorem mod_rg (hβ : 1 ≤ β) (t : Int) : 0 ≤ t % β ∧ t % β < β := ⟨Int.emod_nonneg _ (by omega), Int.emod_lt_of_pos _ (by omega)⟩
theorem r_find (h : MS S μ) (hG : HG S μ) (hW : WF S) (hβ : 1 ≤ β ∧ β ≤ 120) (hj : j < nn S) (hs : ∀ k, k < j → μ 13 k = ic (s k)) (hr : ∀ k, 0 ≤ s k ∧ s k ≤ 2500) (hT : TK 19 256 β tk μ) (htr : ∀ u, u < 3 → ∀ x, 0 ≤ tk u x ∧ tk u x ≤ S (2 + u)) (K : Int32 → Int32 → Mem → Option (Int32 × Mem)) :
    fX9_isLaid_L76 K fu (ic β) (ic j) (ic (akd S β s j j)) (ic (un S j)) (ic (akd S β s j j)) μ = fX9_isLaid_L127 K (ic β) (ic j) (ic (akd S β s j j)) (ic (un S j)) (ic (akd S β s j j + (if fd S β s tk j = -1 then β else fd S β s tk j))) μ := by
  have hn := hW.n
  have hu := un_lt S j
  obtain ⟨a, ha⟩ : ∃ a, a = akd S β s j j := ⟨_, rfl⟩
  have h1 := akd_rg hW hβ.1 (s := s) (j := j) (B := 2500) (by omega) (fun k _ => (hr k).2) j (Nat.le_refl _)
  rw [← ha] at h1 ⊢
  have hfd : fd S β s tk j = fnd (okP S β s tk j a) β.toNat := by rw [ha]; rfl
  have key := loop_up (fun f q => fX9_isLaid_L76 K f (ic β) (ic j) (ic a) (ic (un S j)) q μ) 0 β.toNat (fun d q => q = ic (a + (d : Int)) ∧ ∀ i, i < d → okP S β s tk j a i = false) (fun o => o = fX9_isLaid_L127 K (ic β) (ic j) (ic a) (ic (un S j)) (ic (a + (if fd S β s tk j = -1 then β else fd S β s tk j))) μ) (by omega) ?_ ?_ (ic a) fu (fu_lt (by omega)) ⟨by simp, fun i hi => by omega⟩
  · exact key
  · rintro f d q - hd ⟨rfl, h3⟩
    have hm := mod_rg hβ.1 (a + d)
    obtain ⟨x, hx⟩ : ∃ x : Nat, x = ((a + d) % β).toNat := ⟨_, rfl⟩
    have hxz : (a + d) % β = x := by omega
    have e1 : (256 * (un S j : Int) + (x : Int)).toNat = 256 * un S j + x := by omega
    have tx := hT (un S j) x hu (by omega)
    have tr := htr (un S j) hu x
    have hsl := hW.sl (un S j) hu
    have e5 : (2 + (un S j : Int)).toNat = 2 + un S j := by omega
    have e6 : μ 1 (2 + un S j) = ic (S (2 + un S j)) := h _ (by omega)
    simp (disch := omega) only [fX9_isLaid_L76, ic_add, ic_le, r_slot hβ hu, bd_some, hxz, ld_ic, e1, tx, Option.bind_some, ic_lit, e5, e6, ic_eq, fX9_isLaid_L121, r_isHeld hG hW hβ hj hs hr, b2_0]
    rw [if_neg (by omega)]
    have ok : okP S β s tk j a d = (decide (tk (un S j) x < S (2 + un S j)) && hld S β s j (a + d)) := by
      unfold okP
      rw [← hx]
    by_cases c1 : tk (un S j) x = S (2 + un S j)
    · left
      refine ⟨ic (a + ((d + 1 : Nat) : Int)), ⟨rfl, fun i hi => ?_⟩, ?_⟩
      · by_cases hid : i = d
        · rw [hid, ok]
          simp [show ¬ tk (un S j) x < S (2 + un S j) by omega]
        · exact h3 i (by omega)
      · rw [if_pos c1]
        congr 2
        omega
    · rw [if_neg c1]
      by_cases c2 : hld S β s j (a + d) = false
      · left
        refine ⟨ic (a + ((d + 1 : Nat) : Int)), ⟨rfl, fun i hi => ?_⟩, ?_⟩
        · by_cases hid : i = d
          · rw [hid, ok, c2, Bool.and_false]
          · exact h3 i (by omega)
        · rw [if_pos c2]
          congr 2
          omega
      · right
        rw [if_neg c2]
        have hfd' : fd S β s tk j = d := by
          rw [hfd]
          refine fnd_yes h3 ?_ hd
          rw [ok]
          simp [show tk (un S j) x < S (2 + un S j) by omega, c2]
        rw [hfd', if_neg (by omega)]
  · rintro f q ⟨rfl, h3⟩
    have hfd' : fd S β s tk j = -1 := by
      rw [hfd]
      exact fnd_no h3
    simp (disch := omega) only [fX9_isLaid_L76, ic_add, ic_le]
    rw [if_pos (by omega), hfd', if_pos rfl, show ((β.toNat : Nat) : Int) = β by omega]
theorem TK.up {c m : Nat} {x u : Nat} (h : TK c m β tk μ) (hm : β ≤ m) (hx : (x : Int) < β) : TK c m β (tkup tk u x) (mu μ c (m * u + x) (ic (tk u x + 1))) := by
  intro u' x' hu' hx'
  rw [mu_at]
  unfold tkup
  by_cases hq : u' = u ∧ x' = x
  · obtain ⟨rfl, rfl⟩ := hq
    simp
  · rw [if_neg hq]
    by_cases hq2 : m * u' + x' = m * u + x
    · exfalso
      apply hq
      have h1 : u' = u := by
        by_cases hlt : u' < u
        · have := Nat.mul_le_mul_left m (show u' + 1 ≤ u by omega)
          rw [Nat.mul_add, Nat.mul_one] at this
          omega
        · by_cases hgt : u < u'
          · have := Nat.mul_le_mul_left m (show u + 1 ≤ u' by omega)
            rw [Nat.mul_add, Nat.mul_one] at this
            omega
          · omega
      subst h1
      exact ⟨rfl, by omega⟩
    · rw [if_neg (by omega)]
      exact h u' x' hu' hx'
theorem r_isLaid_L49 (h : MS S μ0) (hG : HG S μ0) (hW : WF S) (hβ : 1 ≤ β ∧ β ≤ 120) (hF : Fr [13, 19] μ0 μ) (hT : TK 19 256 β (tk0 S β) μ) :
    ∃ μ', fX9_isLaid_L49 fu (ic β) (ic 0) μ = some (b2 (lyok S β), μ') ∧ Fr [13, 19] μ0 μ' ∧ (lyok S β = true → AT S (lyS S β (nn S)).1 μ') := by
  have hn := hW.n
  have key := loop_up (fun f (q : Int32 × Mem) => fX9_isLaid_L49 f (ic β) q.1 q.2) 0 (nn S) (fun j q => q.1 = ic (j : Int) ∧ Fr [13, 19] μ0 q.2 ∧ (lyS S β j).2.2 = true ∧ (∀ k, k < j → q.2 13 k = ic ((lyS S β j).1 k)) ∧ TK 19 256 β (lyS S β j).2.1 q.2) (fun o => ∃ μ', o = some (b2 (lyok S β), μ') ∧ Fr [13, 19] μ0 μ' ∧ (lyok S β = true → AT S (lyS S β (nn S)).1 μ')) (by omega) ?_ ?_ (ic 0, μ) fu (fu_lt (by omega)) ⟨rfl, hF, rfl, fun k hk => by omega, hT⟩
  · exact key
  · rintro f j ⟨v, ν⟩ - hj ⟨h1, h2, h3, h4, h5⟩
    dsimp only at h1 h2 h4 h5 ⊢
    subst h1
    have m1 := h.fr h2 (by decide)
    have g1 := hG.of h2 (by decide) (by decide)
    have hu := un_lt S j
    obtain ⟨s, hs⟩ : ∃ s, s = (lyS S β j).1 := ⟨_, rfl⟩
    obtain ⟨tk, htk⟩ : ∃ tk, tk = (lyS S β j).2.1 := ⟨_, rfl⟩
    have hrg := ly_rg hW hβ j (by omega)
    rw [← hs] at h4
    rw [← htk] at h5
    rw [← hs, ← htk] at hrg
    have hr : ∀ k, 0 ≤ s k ∧ s k ≤ 2500 := fun k => by
      have := hrg.1 k
      omega
    have ha := akd_rg hW hβ.1 (s := s) (j := j) (B := 2500) (by omega) (fun k _ => (hr k).2) j (Nat.le_refl _)
    have hf := r_find m1 g1 hW hβ hj h4 hr h5 hrg.2 (fX9_isLaid_L49 f)
    have hfr := fd_rg (S := S) hβ.1 s tk j
    have hstep : fX9_isLaid_L49 (f + 1) (ic β) (ic (j : Int)) ν = fX9_isLaid_L127 (fX9_isLaid_L49 f) (ic β) (ic j) (ic (akd S β s j j)) (ic (un S j)) (ic (akd S β s j j + (if fd S β s tk j = -1 then β else fd S β s tk j))) ν := by
      rw [← hf]
      simp (disch := omega) only [fX9_isLaid_L49, ms_n m1 hW, Option.bind_some, ic_le, ic_lit, r_asked g1 hW hβ hj h4 hr, bd_some, r_unit m1 hW hj]
      rw [if_neg (by omega)]
    rw [hstep]
    by_cases hc : fd S β s tk j = -1
    · right
      have hbad : lyok S β = false := by
        unfold lyok
        have h0 : (lyS S β (j + 1)).2.2 = false := by
          simp only [lyS]
          rw [if_neg (by rw [h3]; decide), ← hs, ← htk, if_pos hc]
        have := ly_bad (nn S - (j + 1)) (j + 1) h0
        rwa [show j + 1 + (nn S - (j + 1)) = nn S by omega] at this
      refine ⟨ν, ?_, h2, fun q => by rw [hbad] at q; cases q⟩
      rw [if_pos hc, hbad]
      simp (disch := omega) only [fX9_isLaid_L127, ic_add, ic_eq, ic_lit]
      rw [if_pos trivial]
      rfl
    · left
      rw [if_neg hc]
      obtain ⟨t, ht⟩ : ∃ t, t = akd S β s j j + fd S β s tk j := ⟨_, rfl⟩
      have hm := mod_rg hβ.1 t
      obtain ⟨x, hx⟩ : ∃ x : Nat, x = (t % β).toNat := ⟨_, rfl⟩
      have hxz : t % β = x := by omega
      have e1 : (256 * (un S j : Int) + (x : Int)).toNat = 256 * un S j + x := by omega
      have e2 : (j : Int).toNat = j := by omega
      have tx : (mu ν 13 j (ic t)) 19 (256 * un S j + x) = ic (tk (un S j) x) := by
        rw [mu_ne (by decide)]
        exact h5 (un S j) x hu (by omega)
      have tr := hrg.2 (un S j) hu x
      have hsl := hW.sl (un S j) hu
      have e0 : lyS S β (j + 1) = (updI s j t, tkup tk (un S j) x, true) := by
        simp only [lyS]
        rw [if_neg (by rw [h3]; decide), ← hs, ← htk, if_neg hc, ← ht, ← hx]
      refine ⟨(ic ((j + 1 : Nat) : Int), mu (mu ν 13 j (ic t)) 19 (256 * un S j + x) (ic (tk (un S j) x + 1))), ⟨rfl, h2.trans ((Fr_mu (by decide)).trans (Fr_mu (by decide))), ?_, ?_, ?_⟩, ?_⟩
      · rw [e0]
      · rw [e0]
        intro k hk
        show (mu (mu ν 13 j (ic t)) 19 (256 * un S j + x) (ic (tk (un S j) x + 1))) 13 k = ic (updI s j t k)
        rw [mu_ne (by decide), mu_at]
        unfold updI
        by_cases hkj : k = j
        · simp [hkj]
        · rw [if_neg (by omega), if_neg hkj]
          exact h4 k (by omega)
      · rw [e0]
        have h5' : TK 19 256 β tk (mu ν 13 j (ic t)) := fun u' x' hu' hx' => by
          rw [mu_ne (by decide)]
          exact h5 u' x' hu' hx'
        exact h5'.up (by omega) (by omega)
      · rw [← ht]
        simp (disch := omega) only [fX9_isLaid_L127, ic_add, ic_eq, ic_lit, ast_ic, e2, Option.bind_some, r_slot hβ hu, bd_some, hxz, ld_ic, e1, tx]
        rw [if_neg (by omega)]
        rfl
  · rintro f ⟨v, ν⟩ ⟨h1, h2, h3, h4, h5⟩
    dsimp only at h1 h2 h4 h5 ⊢
    subst h1
    have m1 := h.fr h2 (by decide)
    have hok : lyok S β = true := h3
    refine ⟨ν, ?_, h2, fun _ k hk => h4 k hk⟩
    rw [hok]
    simp (disch := omega) only [fX9_isLaid_L49, ms_n m1 hW, Option.bind_some, ic_le, ic_lit]
    rw [if_pos (by omega)]
    rfl
theorem r_jump (h : MS S μ) (hW : WF S) (hβ : 1 ≤ β ∧ β ≤ 120) (hd : S 1 + 1 ≤ β) {x : Nat} (hxz : (β - 1 - S 1) % β = x) (h0 : μ 19 x = ic 0) (f : Nat) : fX9_isLaid_L2 (f + 1) (ic β) (ic ((768 : Nat) : Int)) μ = fX9_isLaid_L49 fu (ic β) (ic 0) (mu μ 19 x (ic 1)) := by
  have hdl := hW.dl
  have hm := mod_rg hβ.1 (β - 1 - S 1)
  have e1 : (256 * ((0 : Nat) : Int) + (x : Int)).toNat = x := by omega
  have e2 := ms_ld h 1 (i := 1) (by omega) (by omega)
  have e3 := r_slot (μ := μ) hβ (u := 0) (by omega) (t := β - 1 - S 1) (by omega)
  rw [hxz] at e3
  have e3' : fX9_slot μ (ic 0) (ic (β - 1 - S 1)) (ic β) = some (ic (256 * ((0 : Nat) : Int) + x), μ) := e3
  have e4 : ld 768 (μ 19) (ic (256 * ((0 : Nat) : Int) + x)) = some (ic 0) := by rw [ld_ic (by omega), e1, h0]
  have e5 : ast 768 μ 19 (ic (256 * ((0 : Nat) : Int) + x)) (ic 1) = some (mu μ 19 x (ic 1)) := by rw [ast_ic (by omega), e1]
  have e6 : ic 0 + ic 1 = ic 1 := by rw [ic_add]; rfl
  rw [fX9_isLaid_L2]
  simp only [ic_lit]
  rw [if_pos (by rw [ic_le (by omega)]; omega), e2, Option.bind_some, ic_sub, ic_sub, e3', bd_some, e4, Option.bind_some, e6, e5, Option.bind_some]
theorem r_isLaid (h : MS S μ) (hG : HG S μ) (hW : WF S) (hβ : 1 ≤ β ∧ β ≤ 120) (hd : S 1 + 1 ≤ β) :
    ∃ μ', fX9_isLaid μ (ic β) = some (b2 (lyok S β), μ') ∧ Fr [13, 19] μ μ' ∧ (lyok S β = true → AT S (lyS S β (nn S)).1 μ') := by
  have hdl := hW.dl
  have hm := mod_rg hβ.1 (β - 1 - S 1)
  obtain ⟨x, hx⟩ : ∃ x : Nat, x = ((β - 1 - S 1) % β).toNat := ⟨_, rfl⟩
  have hxz : (β - 1 - S 1) % β = x := by omega
  have key := lq_m (fun f v ν => fX9_isLaid_L2 f (ic β) v ν) (fun ν => fX9_isLaid_L49 fu (ic β) (ic 0) (mu ν 19 x (ic 1))) 0 768 (fun k ν => Fr [19] μ ν ∧ ∀ x, x < k → ν 19 x = ic 0) (by omega) ?_ ?_ μ fu (fu_lt (by omega)) ⟨Fr.rfl', fun x hx => by omega⟩
  · obtain ⟨ν, ⟨h2, h3⟩, h4⟩ := key
    have hz : TK 19 256 β (fun _ _ => 0) ν := fun u' x' hu' hx' => h3 _ (by omega)
    have hT : TK 19 256 β (tk0 S β) (mu ν 19 x (ic 1)) := by
      have h9 := hz.up (u := 0) (x := x) (by omega) (by omega)
      intro u' x' hu' hx'
      have h8 := h9 u' x' hu' hx'
      rw [Nat.mul_zero, Nat.zero_add] at h8
      rw [show ic 1 = ic ((0 : Int) + 1) from rfl, h8]
      unfold tkup tk0
      rw [← hx]
      rfl
    obtain ⟨μ', i1, i2, i3⟩ := r_isLaid_L49 h hG hW hβ ((h2.mono (by decide)).trans (Fr_mu (by decide))) hT
    refine ⟨μ', ?_, i2, i3⟩
    rw [fX9_isLaid]
    exact h4.trans i1
  · rintro f k ν - hk ⟨h2, h3⟩
    have e3 : (k : Int).toNat = k := by omega
    refine ⟨mu ν 19 k (ic 0), ⟨h2.trans (Fr_mu (by decide)), ?_⟩, ?_⟩
    · intro x hx
      rw [mu_at]
      by_cases hq : x = k
      · simp [hq]
      · rw [if_neg (by omega)]
        exact h3 x (by omega)
    · simp (disch := omega) only [fX9_isLaid_L2, ic_le, ic_lit, ast_ic, e3, Option.bind_some, ic_add]
      rw [if_neg (by omega)]
      rfl
  · rintro f ν ⟨h2, h3⟩
    exact r_jump (h.fr h2 (by decide)) hW hβ hd hxz (h3 x (by omega)) f
theorem r_laysLoop (h : MS S μ) (hW : WF S) {lb k : Nat} (hlb : isLb S lb) (hl2 : lb ≤ 120) (hk : isBt S lb k) (hk2 : k ≤ 120) :
    ∃ μ', fX9_laysLoop μ = some (ic k, μ') ∧ Fr [13, 16, 17, 18, 19] μ μ' ∧ AT S (lyS S k (nn S)).1 μ' ∧ HG S μ' := by
  have hn := hW.n
  have hl1 := hlb.1
  obtain ⟨μ1, e1, f1, hG⟩ := r_byCircles h hW hlb hl2
  have m1 := h.fr f1 (by decide)
  have hr := lsb_rg hW ⟨hl1, hl2⟩
  have hub := ub_rg hW 3 (by omega)
  have hdl := hW.dl
  obtain ⟨c0, hc0⟩ : ∃ c0 : Nat, (c0 : Int) = lsb S lb := ⟨(lsb S lb).toNat, by omega⟩
  have hkk := hk.1
  have key := loop_up (fun f (s : Int32 × Mem) => fX9_laysLoop_L23 f s.1 s.2) c0 k (fun b s => s.1 = ic (b : Int) ∧ Fr [13, 19] μ1 s.2) (fun o => ∃ μ', o = some (ic k, μ') ∧ Fr [13, 19] μ1 μ' ∧ AT S (lyS S k (nn S)).1 μ') (by omega) ?_ ?_ (ic (c0 : Int), μ1) fu (fu_lt (by omega)) ⟨rfl, Fr.rfl'⟩
  · obtain ⟨μ', h1, h2, h3⟩ := key
    refine ⟨μ', ?_, (f1.mono (by decide)).trans (h2.mono (by decide)), h3, hG.of h2 (by decide) (by decide)⟩
    have e2 := ms_ld m1 1 (i := 1) (by omega) (by omega)
    unfold fX9_laysLoop
    simp only [ic_lit]
    rw [r_byUnits h hW, bd_some, e1, bd_some, r_greater (by omega), bd_some, e2, Option.bind_some, ic_add, r_greater (by omega), bd_some]
    rw [hc0] at h1
    exact h1
  · rintro f b ⟨v, ν⟩ hb1 hb2 ⟨h1, h2⟩
    dsimp only at h1 h2 ⊢
    subst h1
    obtain ⟨ν', g1, g2, g3⟩ := r_isLaid (m1.fr h2 (by decide)) (hG.of h2 (by decide) (by decide)) hW (β := b) (by omega) (by omega)
    have hx : lyok S b = false := hk.2.2 b (by omega) hb2
    left
    refine ⟨(ic ((b + 1 : Nat) : Int), ν'), ⟨rfl, h2.trans g2⟩, ?_⟩
    rw [fX9_laysLoop_L23, g1, bd_some]
    simp only [ic_lit, b2_0, ic_add]
    rw [if_pos hx]
    rfl
  · rintro f ⟨v, ν⟩ ⟨h1, h2⟩
    dsimp only at h1 h2 ⊢
    subst h1
    obtain ⟨ν', g1, g2, g3⟩ := r_isLaid (m1.fr h2 (by decide)) (hG.of h2 (by decide) (by decide)) hW (β := k) (by omega) (by omega)
    have hx : lyok S k = true := hk.2.1
    refine ⟨ν', ?_, h2.trans g2, g3 hx⟩
    rw [fX9_laysLoop_L23, g1, bd_some]
    simp only [ic_lit, b2_0]
    rw [if_neg (by rw [hx]; decide)]
end RL
