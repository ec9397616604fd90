theorem xor_nn {a b : Int} (ha : 0 ≤ a ∧ a < 2147483648) (hb : 0 ≤ b ∧ b < 2147483648) : ic 0 ≤ ic a ^^^ ic b := by
  have h1 : ∀ x : Int32, (0 ≤ x.toInt) ↔ (x.toBitVec.msb = false) := by
    intro x
    rw [BitVec.msb_eq_toInt]
    simp only [decide_eq_false_iff_not, Int32.toInt_toBitVec]
    omega
  have e : (ic 0).toInt = 0 := ic_toInt (by omega)
  rw [Int32.le_iff_toInt_le, e, h1, Int32.toBitVec_xor, BitVec.msb_xor]
  have ha' := (h1 (ic a)).mp (by rw [ic_toInt (by omega)]; omega)
  have hb' := (h1 (ic b)).mp (by rw [ic_toInt (by omega)]; omega)
  rw [ha', hb']
  rfl
theorem floorModP {μ : Mem} {a b : Int} (ha : 0 ≤ a ∧ a < 2147483648) (hb : 1 ≤ b ∧ b < 2147483648) : fJ9_floorMod_7cf53 μ (ic a) (ic b) = some (ic (a % b), μ) := by
  have h := xor_nn ha (b := b) (by omega)
  unfold fJ9_floorMod_7cf53
  rw [rmd_ic (by omega), Option.bind_some]
  simp only [ic_lit]
  rw [if_pos h]
section XL
variable {S : Nat → Int} {μ μ0 : Mem} {j : Nat} {β : Int} {s : Nat → Int} {tk : Nat → Nat → Int}
theorem x_slotAt (hβ : 1 ≤ β ∧ β ≤ 120) (hc : μ 89 3 = ic β) {u : Nat} (hu : u < 3) {t : Int} (ht : 0 ≤ t ∧ t ≤ 5000) : fX3_slotAt μ (ic u) (ic t) = some (ic ((u : Int) * 340 + t % β), μ) := by
  have e : max 1 β = β := by omega
  unfold fX3_slotAt
  simp only [ic_lit]
  rw [hc, jmax_ic (by omega), e, floorModP (by omega) (by omega), bd_some, ic_mul, ic_add]
theorem x_take (hβ : 1 ≤ β ∧ β ≤ 120) (hc : μ 89 3 = ic β) (hT : TK 91 340 β tk μ) {u : Nat} (hu : u < 3) {t : Int} (ht : 0 ≤ t ∧ t ≤ 5000) {x : Nat} (hx : t % β = x) : fX3_take μ (ic u) (ic t) = some ((), mu μ 91 (340 * u + x) (ic (tk u x + 1))) := by
  have hm := mod_rg hβ.1 t
  have e1 : ((u : Int) * 340 + (x : Int)).toNat = 340 * u + x := by omega
  have e2 := hT u x hu (by omega)
  unfold fX3_take
  simp only [ic_lit]
  rw [x_slotAt hβ hc hu ht, bd_some, hx, ld_ic (by omega), e1, e2, Option.bind_some, ic_add, ast_ic (by omega), e1, Option.bind_some]
theorem x_askedFor (hG : LG S μ) (hW : WF S) (hβ : 1 ≤ β ∧ β ≤ 120) (hc : μ 89 3 = ic β) (hj : j < nn S) (hs : ∀ k, k < j → μ 90 k = ic (s k)) (hr : ∀ k, 0 ≤ s k ∧ s k ≤ 2500) : fX3_askedFor μ (ic j) = some (ic (akd S β s j j), μ) := by
  have hn := hW.n
  have key := loop_eq (fun f (q : Int32 × Int32) => fX3_askedFor_L5 f (ic j) q.1 q.2 μ) 0 j (fun k => (ic (akd S β s j k), ic k)) (some (ic (akd S β s j j), μ)) (by omega) ?_ ?_ fu (fu_lt (by omega))
  · simp only [fX3_askedFor, ic_lit]
    exact key
  · intro f k _ hk
    have k1 : k < nn S := by omega
    have h1 := akd_rg hW hβ.1 (s := s) (j := j) (B := 2500) (by omega) (fun k _ => (hr k).2) k (by omega)
    have h3 := nearT_rg hW k j
    have h4 := over_rg hW k j
    have h5 := hr k
    have e2 : (k : Int).toNat = k := by omega
    have es := hs k hk
    simp (disch := omega) only [fX3_askedFor_L5, ic_le, x_nearOf hG hW k1 hj, x_overOf hG hW k1 hj, bd_some, ic_lit, ic_neg, ic_eq, ld_ic, e2, es, Option.bind_some, ic_add, jmax_ic]
    rw [if_neg (by omega)]
    simp only [akd]
    by_cases c1 : nearT S k j = -99
    · rw [if_pos c1]
      simp (disch := omega) only [fX3_askedFor_L51, fX3_askedFor_L78, ic_lit, ic_neg, ic_eq, ld_ic, e2, es, Option.bind_some, ic_add, hc, ic_sub, jmax_ic]
      simp only [c1, if_true]
      split <;> rfl
    · rw [if_neg c1]
      simp (disch := omega) only [fX3_askedFor_L51, fX3_askedFor_L78, ic_lit, ic_neg, ic_eq, ld_ic, e2, es, Option.bind_some, ic_add, hc, ic_sub, jmax_ic]
      simp only [c1, if_false]
      split <;> rfl
  · intro f
    simp (disch := omega) only [fX3_askedFor_L5, ic_le]
    rw [if_pos (by omega)]
theorem hlo_false {t : Int} {k : Nat} (h : hlo S β s j t k = false) : ∀ d, hlo S β s j t (k + d) = false
  | 0 => h
  | d + 1 => by
    rw [← Nat.add_assoc]
    simp only [hlo]
    rw [hlo_false h d, Bool.false_and]
theorem x_leavesTime (hG : LG S μ) (hW : WF S) (hβ : 1 ≤ β ∧ β ≤ 120) (hc : μ 89 3 = ic β) (hj : j < nn S) (hs : ∀ k, k < j → μ 90 k = ic (s k)) (hr : ∀ k, 0 ≤ s k ∧ s k ≤ 2500) {t : Int} (ht : 0 ≤ t ∧ t ≤ 5000) : fX3_leavesTime μ (ic j) (ic t) = some (b2 (hld S β s j t), μ) := by
  have hn := hW.n
  have key := loop_up (fun f q => fX3_leavesTime_L3 f (ic j) (ic t) q μ) 0 (j + 1) (fun k q => q = ic (k : Int) ∧ (k ≤ j → hlo S β s j t k = true) ∧ (k = j + 1 → hld S β s j t = true)) (fun o => o = some (b2 (hld S β s j t), μ)) (by omega) ?_ ?_ (ic 0) fu (fu_lt (by omega)) ⟨rfl, fun _ => rfl, fun h => by omega⟩
  · rw [fX3_leavesTime]
    exact key
  · rintro f k q - hk ⟨rfl, h3, _⟩
    have k1 : k < nn S := by omega
    have h3 := h3 (by omega)
    have h4 := over_rg hW j k
    have h5 := hr k
    have e2 : (k : Int).toNat = k := by omega
    simp (disch := omega) only [fX3_leavesTime_L3, ic_lt, x_overOf hG hW hj k1, bd_some, ic_eq]
    rw [if_neg (by omega)]
    by_cases hkj : k = j
    · subst hkj
      rw [if_pos rfl]
      simp (disch := omega) only [fX3_leavesTime_L35, fX3_leavesTime_L60, ic_lit, ic_neg, ic_eq, ic_add, hc, ic_sub, ic_le]
      by_cases c1 : over S k k = -99
      · left
        refine ⟨ic ((k + 1 : Nat) : Int), ⟨rfl, fun q => by omega, fun _ => ?_⟩, ?_⟩
        · simp [hld, h3, show over S k k ≤ β by omega]
        · rw [if_pos c1]
          rfl
      · rw [if_neg c1]
        by_cases c2 : over S k k ≤ t + β - t
        · left
          refine ⟨ic ((k + 1 : Nat) : Int), ⟨rfl, fun q => by omega, fun _ => ?_⟩, ?_⟩
          · simp [hld, h3, show over S k k ≤ β by omega]
          · rw [if_pos c2]
            rfl
        · right
          rw [if_neg c2]
          have : hld S β s k t = false := by simp [hld, show ¬ over S k k ≤ β by omega]
          rw [this]
          rfl
    · have es := hs k (by omega)
      rw [if_neg (by omega)]
      simp (disch := omega) only [ld_ic, e2, es, Option.bind_some, fX3_leavesTime_L35, fX3_leavesTime_L60, ic_lit, ic_neg, ic_eq, ic_add, hc, ic_sub, ic_le]
      by_cases c1 : over S j k = -99
      · left
        refine ⟨ic ((k + 1 : Nat) : Int), ⟨rfl, fun q => ?_, fun _ => by omega⟩, ?_⟩
        · simp [hlo, h3, c1]
        · rw [if_pos c1]
          rfl
      · rw [if_neg c1]
        by_cases c2 : over S j k ≤ s k + β - t
        · left
          refine ⟨ic ((k + 1 : Nat) : Int), ⟨rfl, fun q => ?_, fun _ => by omega⟩, ?_⟩
          · simp [hlo, h3, c2]
          · rw [if_pos c2]
            rfl
        · right
          rw [if_neg c2]
          have h6 : hlo S β s j t (k + 1) = false := by simp [hlo, c1, c2]
          have h7 := hlo_false h6 (j - (k + 1))
          rw [show k + 1 + (j - (k + 1)) = j by omega] at h7
          have : hld S β s j t = false := by simp [hld, h7]
          rw [this]
          rfl
  · rintro f q ⟨rfl, _, h4⟩
    simp (disch := omega) only [fX3_leavesTime_L3, ic_lt, ic_lit]
    rw [if_pos (by omega), h4 rfl]
    rfl
theorem x_firstFor (h : XS 1 S μ) (hG : LG S μ) (hW : WF S) (hβ : 1 ≤ β ∧ β ≤ 120) (hc : μ 89 3 = ic β) (hj : j < nn S) (hs : ∀ k, k < j → μ 90 k = ic (s k)) (hr : ∀ k, 0 ≤ s k ∧ s k ≤ 2500) (hT : TK 91 340 β tk μ) (htr : ∀ u, u < 3 → ∀ x, 0 ≤ tk u x ∧ tk u x ≤ S (2 + u)) :
    fX3_firstFor μ (ic j) = some (ic (if fd S β s tk j = -1 then -1 else akd S β s j j + fd S β s tk j), μ) := by
  have hn := hW.n
  have hu := un_lt S j
  have h1 := akd_rg hW hβ.1 (s := s) (j := j) (B := 2500) (by omega) (fun k _ => (hr k).2) j (Nat.le_refl _)
  have e0 := x_askedFor hG hW hβ hc hj hs hr
  obtain ⟨a, ha⟩ : ∃ a, a = akd S β s j j := ⟨_, rfl⟩
  rw [← ha] at h1 e0 ⊢
  have hfd : fd S β s tk j = fnd (okP S β s tk j a) β.toNat := by rw [ha]; rfl
  have key := loop_up (fun f q => fX3_firstFor_L19 f (ic j) (ic (un S j)) (ic a) q μ) 0 β.toNat (fun d q => q = ic (a + (d : Int)) ∧ ∀ i, i < d → okP S β s tk j a i = false) (fun o => o = some (ic (if fd S β s tk j = -1 then -1 else a + fd S β s tk j), μ)) (by omega) ?_ ?_ (ic a) fu (fu_lt (by omega)) ⟨by simp, fun i hi => by omega⟩
  · rw [fX3_firstFor, x_unitOf h hW hj, bd_some, e0, bd_some]
    exact key
  · rintro f d q - hd ⟨rfl, h3⟩
    have hm := mod_rg hβ.1 (a + d)
    obtain ⟨x, hx⟩ : ∃ x : Nat, x = ((a + d) % β).toNat := ⟨_, rfl⟩
    have hxz : (a + d) % β = x := by omega
    have e1 : ((un S j : Int) * 340 + (x : Int)).toNat = 340 * un S j + x := by omega
    have tx := hT (un S j) x hu (by omega)
    have tr := htr (un S j) hu x
    have hsl := hW.sl (un S j) hu
    have e5 : (un S j : Int).toNat = un S j := by omega
    have e6 : μ 9 (un S j) = ic (S (2 + un S j)) := h.2.2.1 _ hu
    simp (disch := omega) only [fX3_firstFor_L19, hc, ic_add, ic_le, x_slotAt hβ hc hu, bd_some, hxz, ld_ic, e1, tx, e5, e6, Option.bind_some, fX3_firstFor_L68, x_leavesTime hG hW hβ hc hj hs hr, ic_lit, b2_0]
    rw [if_neg (by omega)]
    have ok : okP S β s tk j a d = (decide (tk (un S j) x < S (2 + un S j)) && hld S β s j (a + d)) := by
      unfold okP
      rw [← hx]
    by_cases c1 : S (2 + un S j) ≤ tk (un S j) x
    · left
      refine ⟨ic (a + ((d + 1 : Nat) : Int)), ⟨rfl, fun i hi => ?_⟩, ?_⟩
      · by_cases hid : i = d
        · rw [hid, ok]
          simp [show ¬ tk (un S j) x < S (2 + un S j) by omega]
        · exact h3 i (by omega)
      · rw [if_pos c1]
        congr 2
        omega
    · rw [if_neg c1]
      by_cases c2 : hld S β s j (a + d) = false
      · left
        refine ⟨ic (a + ((d + 1 : Nat) : Int)), ⟨rfl, fun i hi => ?_⟩, ?_⟩
        · by_cases hid : i = d
          · rw [hid, ok, c2, Bool.and_false]
          · exact h3 i (by omega)
        · rw [if_pos c2]
          congr 2
          omega
      · right
        rw [if_neg c2]
        have hfd' : fd S β s tk j = d := by
          rw [hfd]
          refine fnd_yes h3 ?_ hd
          rw [ok]
          simp [show tk (un S j) x < S (2 + un S j) by omega, c2]
        rw [hfd', if_neg (by omega)]
  · rintro f q ⟨rfl, h3⟩
    have hfd' : fd S β s tk j = -1 := by
      rw [hfd]
      exact fnd_no h3
    simp (disch := omega) only [fX3_firstFor_L19, hc, ic_add, ic_le, ic_lit, ic_neg]
    rw [if_pos (by omega), hfd', if_pos rfl]
theorem x_fits_L40 (h : XS 1 S μ0) (hG : LG S μ0) (hW : WF S) (hβ : 1 ≤ β ∧ β ≤ 120) (hc : μ0 89 3 = ic β) (hF : Fr [90, 91] μ0 μ) (hT : TK 91 340 β (tk0 S β) μ) :
    ∃ μ', fX3_fits_L40 fu (ic 0) μ = some (b2 (lyok S β), μ') ∧ Fr [90, 91] μ0 μ' ∧ (lyok S β = true → ∀ k, k < nn S → μ' 90 k = ic ((lyS S β (nn S)).1 k)) := by
  have hn := hW.n
  have key := loop_up (fun f (q : Int32 × Mem) => fX3_fits_L40 f q.1 q.2) 0 (nn S) (fun j q => q.1 = ic (j : Int) ∧ Fr [90, 91] μ0 q.2 ∧ (lyS S β j).2.2 = true ∧ (∀ k, k < j → q.2 90 k = ic ((lyS S β j).1 k)) ∧ TK 91 340 β (lyS S β j).2.1 q.2) (fun o => ∃ μ', o = some (b2 (lyok S β), μ') ∧ Fr [90, 91] μ0 μ' ∧ (lyok S β = true → ∀ k, k < nn S → μ' 90 k = ic ((lyS S β (nn S)).1 k))) (by omega) ?_ ?_ (ic 0, μ) fu (fu_lt (by omega)) ⟨rfl, hF, rfl, fun k hk => by omega, hT⟩
  · exact key
  · rintro f j ⟨v, ν⟩ - hj ⟨h1, h2, h3, h4, h5⟩
    dsimp only at h1 h2 h4 h5 ⊢
    subst h1
    have x1 := h.fr h2 (by decide)
    have g1 := hG.of h2 (by decide)
    have c1 : ν 89 3 = ic β := by rw [h2 89 (by decide), hc]
    have hu := un_lt S j
    obtain ⟨s, hs⟩ : ∃ s, s = (lyS S β j).1 := ⟨_, rfl⟩
    obtain ⟨tk, htk⟩ : ∃ tk, tk = (lyS S β j).2.1 := ⟨_, rfl⟩
    have hrg := ly_rg hW hβ j (by omega)
    rw [← hs] at h4
    rw [← htk] at h5
    rw [← hs, ← htk] at hrg
    have hr : ∀ k, 0 ≤ s k ∧ s k ≤ 2500 := fun k => by
      have := hrg.1 k
      omega
    have ha := akd_rg hW hβ.1 (s := s) (j := j) (B := 2500) (by omega) (fun k _ => (hr k).2) j (Nat.le_refl _)
    have hf := x_firstFor x1 g1 hW hβ c1 hj h4 hr h5 hrg.2
    have hfr := fd_rg (S := S) hβ.1 s tk j
    by_cases hcf : fd S β s tk j = -1
    · right
      have hbad : lyok S β = false := by
        unfold lyok
        have h0 : (lyS S β (j + 1)).2.2 = false := by
          simp only [lyS]
          rw [if_neg (by rw [h3]; decide), ← hs, ← htk, if_pos hcf]
        have := ly_bad (nn S - (j + 1)) (j + 1) h0
        rwa [show j + 1 + (nn S - (j + 1)) = nn S by omega] at this
      refine ⟨ν, ?_, h2, fun q => by rw [hbad] at q; cases q⟩
      rw [if_pos hcf] at hf
      rw [hbad]
      simp (disch := omega) only [fX3_fits_L40, x_n x1 hW, ic_le, hf, bd_some, ic_lit, ic_neg]
      rw [if_neg (by omega), if_pos trivial]
      rfl
    · left
      rw [if_neg hcf] at hf
      obtain ⟨t, ht⟩ : ∃ t, t = akd S β s j j + fd S β s tk j := ⟨_, rfl⟩
      rw [← ht] at hf
      have hm := mod_rg hβ.1 t
      obtain ⟨x, hx⟩ : ∃ x : Nat, x = (t % β).toNat := ⟨_, rfl⟩
      have hxz : t % β = x := by omega
      have e2 : (j : Int).toNat = j := by omega
      have h5' : TK 91 340 β tk (mu ν 90 j (ic t)) := fun u' x' hu' hx' => by
        rw [mu_ne (by decide)]
        exact h5 u' x' hu' hx'
      have x2 : XS 1 S (mu ν 90 j (ic t)) := x1.fr (Fr_mu (l := [90]) (by decide)) (by decide)
      have e0 : lyS S β (j + 1) = (updI s j t, tkup tk (un S j) x, true) := by
        simp only [lyS]
        rw [if_neg (by rw [h3]; decide), ← hs, ← htk, if_neg hcf, ← ht, ← hx]
      have etk := x_take hβ (show (mu ν 90 j (ic t)) 89 3 = ic β by rw [mu_ne (by decide), c1]) h5' hu (t := t) (by omega) hxz
      refine ⟨(ic ((j + 1 : Nat) : Int), mu (mu ν 90 j (ic t)) 91 (340 * un S j + x) (ic (tk (un S j) x + 1))), ⟨rfl, h2.trans ((Fr_mu (by decide)).trans (Fr_mu (by decide))), ?_, ?_, ?_⟩, ?_⟩
      · rw [e0]
      · rw [e0]
        intro k hk
        show (mu (mu ν 90 j (ic t)) 91 (340 * un S j + x) (ic (tk (un S j) x + 1))) 90 k = ic (updI s j t k)
        rw [mu_ne (by decide), mu_at]
        unfold updI
        by_cases hkj : k = j
        · simp [hkj]
        · rw [if_neg (by omega), if_neg hkj]
          exact h4 k (by omega)
      · rw [e0]
        exact h5'.up (by omega) (by omega)
      · simp (disch := omega) only [fX3_fits_L40, x_n x1 hW, ic_le, hf, bd_some, ic_lit, ic_neg, ic_eq, ast_ic, e2, Option.bind_some, x_unitOf x2 hW hj, etk, ic_add]
        rw [if_neg (by omega), if_neg (by omega)]
        rfl
  · rintro f ⟨v, ν⟩ ⟨h1, h2, h3, h4, h5⟩
    dsimp only at h1 h2 h4 h5 ⊢
    subst h1
    have x1 := h.fr h2 (by decide)
    have hok : lyok S β = true := h3
    refine ⟨ν, ?_, h2, fun _ k hk => h4 k hk⟩
    rw [hok]
    simp (disch := omega) only [fX3_fits_L40, x_n x1 hW, ic_le, ic_lit]
    rw [if_pos (by omega)]
    rfl
theorem x_fits (h : XS 1 S μ) (hG : LG S μ) (hW : WF S) (hβ : 1 ≤ β ∧ β ≤ 120) (hc : μ 89 3 = ic β) (hd : S 1 + 1 ≤ β) :
    ∃ μ', fX3_fits μ = some (b2 (lyok S β), μ') ∧ Fr [90, 91] μ μ' ∧ (lyok S β = true → ∀ k, k < nn S → μ' 90 k = ic ((lyS S β (nn S)).1 k)) := by
  have hdl := hW.dl
  have hm := mod_rg hβ.1 (β - 1 - S 1)
  obtain ⟨x, hx⟩ : ∃ x : Nat, x = ((β - 1 - S 1) % β).toNat := ⟨_, rfl⟩
  have hxz : (β - 1 - S 1) % β = x := by omega
  have hz0 : ∀ ν : Mem, (∀ x, x < 1020 → ν 91 x = ic 0) → TK 91 340 β (fun _ _ => 0) ν := fun ν h3 u' x' hu' hx' => h3 _ (by omega)
  have key := lq_m (fun f v ν => fX3_fits_L2 f v ν) (fun ν => fX3_fits_L40 fu (ic 0) (mu ν 91 (340 * 0 + x) (ic (0 + 1)))) 0 1020 (fun k ν => Fr [91] μ ν ∧ ∀ x, x < k → ν 91 x = ic 0) (by omega) ?_ ?_ μ fu (fu_lt (by omega)) ⟨Fr.rfl', fun x hx => by omega⟩
  · obtain ⟨ν, ⟨h2, h3⟩, h4⟩ := key
    have hz := hz0 ν h3
    have hT : TK 91 340 β (tk0 S β) (mu ν 91 (340 * 0 + x) (ic (0 + 1))) := by
      have h9 := hz.up (u := 0) (x := x) (by omega) (by omega)
      intro u' x' hu' hx'
      have h8 := h9 u' x' hu' hx'
      rw [h8]
      unfold tkup tk0
      rw [← hx]
      rfl
    obtain ⟨μ', i1, i2, i3⟩ := x_fits_L40 h hG hW hβ hc ((h2.mono (by decide)).trans (Fr_mu (by decide))) hT
    refine ⟨μ', ?_, i2, i3⟩
    rw [fX3_fits]
    exact h4.trans i1
  · rintro f k ν - hk ⟨h2, h3⟩
    have e3 : (k : Int).toNat = k := by omega
    refine ⟨mu ν 91 k (ic 0), ⟨h2.trans (Fr_mu (by decide)), ?_⟩, ?_⟩
    · intro x hx
      rw [mu_at]
      by_cases hq : x = k
      · simp [hq]
      · rw [if_neg (by omega)]
        exact h3 x (by omega)
    · simp (disch := omega) only [fX3_fits_L2, ic_le, ic_lit, ast_ic, e3, Option.bind_some, ic_add]
      rw [if_neg (by omega)]
      rfl
  · rintro f ν ⟨h2, h3⟩
    have c1 : ν 89 3 = ic β := by rw [h2 89 (by decide), hc]
    have c2 : ν 1 10 = ic (S 1) := (h.fr h2 (by decide)).2.1
    have etk := x_take hβ c1 (hz0 ν h3) (u := 0) (by omega) (t := β - 1 - S 1) (by omega) hxz
    have etk' : fX3_take ν (ic 0) (ic (β - 1 - S 1)) = _ := etk
    rw [fX3_fits_L2]
    simp only [ic_lit]
    rw [if_pos (by rw [ic_le (by omega)]; omega), c1, c2, ic_sub, ic_sub, etk', bd_some]
/-- the loop as it is laid -/
def PN (S : Nat → Int) (lb k : Nat) (μ : Mem) : Prop := μ 89 2 = ic lb ∧ μ 89 3 = ic k ∧ ∀ j, j < nn S → μ 90 j = ic ((lyS S k (nn S)).1 j)
theorem x_loopPlan (h : XS 1 S μ) (hG : LG S μ) (hW : WF S) {lb k : Nat} (hl1 : 1 ≤ lb) (hl2 : lb ≤ 120) (hk : isBt S lb k) (hk2 : k ≤ 120) :
    ∃ μ', fX3_makePlan μ (ic lb) = some ((), μ') ∧ Fr [89, 90, 91] μ μ' ∧ PN S lb k μ' := by
  have hn := hW.n
  have hr := lsb_rg hW ⟨hl1, hl2⟩
  have hub := ub_rg hW 3 (by omega)
  have hdl := hW.dl
  obtain ⟨c0, hc0⟩ : ∃ c0 : Nat, (c0 : Int) = lsb S lb := ⟨(lsb S lb).toNat, by omega⟩
  have hkk := hk.1
  have f0 : Fr [89] μ (mu μ 89 2 (ic lb)) := Fr_mu (by decide)
  have x0 := h.fr f0 (by decide)
  have key := loop_up (fun f (s : Int32 × Mem) => fX3_makePlan_L31 f s.1 s.2) c0 k (fun b s => s.1 = ic (b : Int) ∧ Fr [89, 90, 91] μ s.2 ∧ s.2 89 2 = ic lb) (fun o => ∃ μ', o = some ((), μ') ∧ Fr [89, 90, 91] μ μ' ∧ PN S lb k μ') (by omega) ?_ ?_ (ic (c0 : Int), mu μ 89 2 (ic lb)) fu (fu_lt (by omega)) ⟨rfl, f0.mono (by decide), by show (mu μ 89 2 (ic lb)) 89 2 = ic lb; rw [mu_at, if_pos ⟨rfl, rfl⟩]⟩
  · obtain ⟨μ', h1, h2, h3⟩ := key
    refine ⟨μ', ?_, h2, h3⟩
    have e1 : (mu μ 89 2 (ic lb)) 89 2 = ic lb := by rw [mu_at, if_pos ⟨rfl, rfl⟩]
    have e2 : (mu μ 89 2 (ic lb)) 1 10 = ic (S 1) := x0.2.1
    unfold fX3_makePlan
    simp only [ic_lit, pt]
    rw [Option.bind_some, x_unitBeat x0 hW, bd_some, e1, e2, ic_add, jmax_ic (by omega), jmax_ic (by omega)]
    rw [hc0] at h1
    exact h1
  · rintro f b ⟨v, ν⟩ hb1 hb2 ⟨h1, h2, h3⟩
    dsimp only at h1 h2 h3 ⊢
    subst h1
    have f1 : Fr [89] ν (mu ν 89 3 (ic b)) := Fr_mu (by decide)
    obtain ⟨ν', g1, g2, g3⟩ := x_fits ((h.fr h2 (by decide)).fr f1 (by decide)) ((hG.of h2 (by decide)).of f1 (by decide)) hW (β := b) (by omega) (by rw [mu_at, if_pos ⟨rfl, rfl⟩]) (by omega)
    have hx : lyok S b = false := hk.2.2 b (by omega) hb2
    left
    refine ⟨(ic ((b + 1 : Nat) : Int), ν'), ⟨rfl, (h2.trans (f1.mono (by decide))).trans (g2.mono (by decide)), ?_⟩, ?_⟩
    · show ν' 89 2 = ic lb
      rw [g2 89 (by decide), mu_at, if_neg (by omega), h3]
    · rw [fX3_makePlan_L31]
      simp only [ic_lit, pt, Option.bind_some]
      rw [if_neg (by rw [ic_lt (by omega)]; omega), g1, bd_some]
      simp only [b2_0, ic_add]
      rw [if_pos hx]
      rfl
  · rintro f ⟨v, ν⟩ ⟨h1, h2, h3⟩
    dsimp only at h1 h2 h3 ⊢
    subst h1
    have f1 : Fr [89] ν (mu ν 89 3 (ic k)) := Fr_mu (by decide)
    obtain ⟨ν', g1, g2, g3⟩ := x_fits ((h.fr h2 (by decide)).fr f1 (by decide)) ((hG.of h2 (by decide)).of f1 (by decide)) hW (β := k) (by omega) (by rw [mu_at, if_pos ⟨rfl, rfl⟩]) (by omega)
    have hx : lyok S k = true := hk.2.1
    refine ⟨ν', ?_, (h2.trans (f1.mono (by decide))).trans (g2.mono (by decide)), ?_, ?_, g3 hx⟩
    · rw [fX3_makePlan_L31]
      simp only [ic_lit, pt, Option.bind_some]
      rw [if_neg (by rw [ic_lt (by omega)]; omega), g1, bd_some]
      simp only [b2_0]
      rw [if_neg (by rw [hx]; decide)]
    · rw [g2 89 (by decide), mu_at, if_neg (by omega), h3]
    · rw [g2 89 (by decide), mu_at, if_pos ⟨rfl, rfl⟩]
end XL

