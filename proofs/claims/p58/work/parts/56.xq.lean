/-! THE CLASS'S QUESTIONS -/
noncomputable def LB (S : Nat → Int) : Nat := Classical.epsilon (fun k => isLb S k ∧ k ≤ 120)
noncomputable def BT (S : Nat → Int) : Nat := Classical.epsilon (fun k => isBt S (LB S) k ∧ 1 ≤ k ∧ k ≤ 120)
noncomputable def PLS (S : Nat → Int) : Nat → Int := (lyS S (BT S) (nn S)).1
theorem LB_sp {S : Nat → Int} (hW : WF S) : isLb S (LB S) ∧ LB S ≤ 120 := Classical.epsilon_spec (lb_ex hW)
theorem BT_sp {S : Nat → Int} (hW : WF S) : isBt S (LB S) (BT S) ∧ 1 ≤ BT S ∧ BT S ≤ 120 := Classical.epsilon_spec (bt_ex hW ⟨(LB_sp hW).1.1, (LB_sp hW).2⟩)
theorem PLS_rg {S : Nat → Int} (hW : WF S) (k : Nat) : 0 ≤ PLS S k ∧ PLS S k ≤ 2500 := by
  have hn := hW.n
  have hb := BT_sp hW
  have := (ly_rg hW (β := BT S) (by omega) (nn S) (by omega)).1 k
  unfold PLS
  omega
def CQ (S : Nat → Int) (μ : Mem) : Prop := XS 1 S μ ∧ WF S ∧ (μ 0 6 = ic 0 ∨ (μ 0 6 = ic 1 ∧ LK S μ)) ∧ (μ 0 10 = ic 0 ∨ (μ 0 10 = ic 1 ∧ PN S (LB S) (BT S) μ))
/-- what a question leaves -/
def Fx (μ μ' : Mem) : Prop := (∀ a, 1 ≤ a → a < 75 → μ' a = μ a) ∧ ∀ k, k ≠ 6 → k ≠ 10 → μ' 0 k = μ 0 k
theorem Fx.rfl' {μ : Mem} : Fx μ μ := ⟨fun _ _ _ => rfl, fun _ _ _ => rfl⟩
theorem Fx.trans {μ μ1 μ2 : Mem} (h1 : Fx μ μ1) (h2 : Fx μ1 μ2) : Fx μ μ2 := ⟨fun a h3 h4 => (h2.1 a h3 h4).trans (h1.1 a h3 h4), fun k h3 h4 => (h2.2 k h3 h4).trans (h1.2 k h3 h4)⟩
theorem Fx.of {μ μ' : Mem} {l : List Nat} (hF : Fr l μ μ') (hl : ∀ a, a ∈ l → 75 ≤ a) : Fx μ μ' := ⟨fun a h1 h2 => hF a fun h3 => by have := hl a h3; omega, fun k _ _ => by rw [hF 0 fun h3 => by have := hl 0 h3; omega]⟩
theorem PN.of {S : Nat → Int} {lb k : Nat} {μ μ' : Mem} {l : List Nat} (h : PN S lb k μ) (hF : Fr l μ μ') (hl : 89 ∉ l ∧ 90 ∉ l) : PN S lb k μ' := by
  unfold PN
  rw [hF 89 hl.1, hF 90 hl.2]
  exact h
theorem CQ.of {S : Nat → Int} {μ μ' : Mem} {l : List Nat} (h : CQ S μ) (hF : Fr l μ μ') (hl : ∀ a, a ∈ l → 83 ≤ a ∧ a ≠ 89 ∧ a ≠ 90) : CQ S μ' := by
  have hx : ∀ a, a < 83 → a ∉ l := fun a h1 h2 => by have := hl a h2; omega
  have h89 : 89 ∉ l := fun h2 => (hl 89 h2).2.1 rfl
  have h90 : 90 ∉ l := fun h2 => (hl 90 h2).2.2 rfl
  refine ⟨h.1.fr hF fun k hk => hx _ (by omega), h.2.1, ?_, ?_⟩
  · rw [hF 0 (hx 0 (by omega))]
    exact h.2.2.1.imp id fun q => ⟨q.1, q.2.of hF fun a ha => Or.inr (by have := hl a ha; omega)⟩
  · rw [hF 0 (hx 0 (by omega))]
    exact h.2.2.2.imp id fun q => ⟨q.1, q.2.of hF ⟨h89, h90⟩⟩
section XQ
variable {S : Nat → Int} {μ : Mem}
theorem x8_freshLinks (h : CQ S μ) : ∃ μ', fX8_freshLinks μ = some ((), μ') ∧ CQ S μ' ∧ LK S μ' ∧ μ' 0 6 = ic 1 ∧ Fx μ μ' ∧ (μ 0 6 = ic 1 → μ' = μ) ∧ μ' 0 10 = μ 0 10 := by
  rcases h.2.2.1 with h1 | ⟨h1, h2⟩
  · obtain ⟨μ1, e1, f1, l1⟩ := x_measure h.2.1 h.1
    have f2 : Fr [0] μ1 (mu μ1 0 6 (ic 1)) := Fr_mu (by decide)
    have e10 : (mu μ1 0 6 (ic 1)) 0 10 = μ 0 10 := by
      rw [mu_at, if_neg (by omega), f1 0 (by decide)]
    have l2 := l1.of f2 (by decide)
    refine ⟨mu μ1 0 6 (ic 1), ?_, ⟨(h.1.fr f1 (by decide)).fr f2 (by decide), h.2.1, Or.inr ⟨by rw [mu_at, if_pos ⟨rfl, rfl⟩], l2⟩, ?_⟩, l2, by rw [mu_at, if_pos ⟨rfl, rfl⟩], ?_, fun q => ?_, e10⟩
    · unfold fX8_freshLinks fX8_freshLinks_L23
      simp only [ic_lit, pt]
      rw [if_pos h1, e1, bd_some, Option.bind_some]
    · rw [e10]
      exact h.2.2.2.imp id fun q => ⟨q.1, (q.2.of f1 (by decide)).of f2 (by decide)⟩
    · refine ⟨fun a h3 h4 => ?_, fun k h3 h4 => ?_⟩
      · rw [mu_ne (by omega)]
        refine f1 a ?_
        simp
        omega
      · rw [mu_at, if_neg (by omega), f1 0 (by decide)]
    · rw [h1, ic_eq (by omega)] at q
      omega
  · refine ⟨μ, ?_, h, h2, h1, Fx.rfl', fun _ => rfl, rfl⟩
    unfold fX8_freshLinks fX8_freshLinks_L23
    simp only [ic_lit]
    rw [if_neg (by rw [h1, ic_eq (by omega)]; omega)]
theorem x8_freshLoop (h : CQ S μ) : ∃ μ', fX8_freshLoop μ = some ((), μ') ∧ CQ S μ' ∧ PN S (LB S) (BT S) μ' ∧ μ' 0 10 = ic 1 ∧ Fx μ μ' ∧ (μ 0 10 = ic 1 → μ' = μ) ∧ (μ 0 6 = ic 1 → μ' 0 6 = ic 1) := by
  rcases h.2.2.2 with h1 | ⟨h1, h2⟩
  · obtain ⟨μ1, e1, c1, l1, g1, f1, _, _⟩ := x8_freshLinks h
    obtain ⟨hlb, hlb2⟩ := LB_sp h.2.1
    obtain ⟨hbt, hbt1, hbt2⟩ := BT_sp h.2.1
    obtain ⟨μ2, e2, f2⟩ := x_leastByTable h.2.1 l1.1 hlb hlb2
    have c2 := c1.of f2 (by decide)
    have l2 := l1.of f2 (by decide)
    obtain ⟨μ3, e3, f3, p3⟩ := x_loopPlan c2.1 l2.1 h.2.1 hlb.1 hlb2 hbt hbt2
    have l3 := l2.of f3 (by decide)
    have f4 : Fr [0] μ3 (mu μ3 0 10 (ic 1)) := Fr_mu (by decide)
    have e6 : (mu μ3 0 10 (ic 1)) 0 6 = ic 1 := by
      rw [mu_at, if_neg (by omega), f3 0 (by decide), f2 0 (by decide), g1]
    have p4 := p3.of f4 (by decide)
    refine ⟨mu μ3 0 10 (ic 1), ?_, ⟨(c2.1.fr f3 (by decide)).fr f4 (by decide), h.2.1, Or.inr ⟨e6, l3.of f4 (by decide)⟩, Or.inr ⟨by rw [mu_at, if_pos ⟨rfl, rfl⟩], p4⟩⟩, p4, by rw [mu_at, if_pos ⟨rfl, rfl⟩], (f1.trans (Fx.of f2 (by decide))).trans ((Fx.of f3 (by decide)).trans ?_), fun q => ?_, fun _ => e6⟩
    · unfold fX8_freshLoop fX8_freshLoop_L37
      simp only [ic_lit, pt]
      rw [if_pos h1, e1, bd_some, e2, bd_some, e3, bd_some, Option.bind_some]
    · refine ⟨fun a h3 h4 => mu_ne (by omega), fun k h3 h4 => ?_⟩
      rw [mu_at, if_neg (by omega)]
    · rw [h1, ic_eq (by omega)] at q
      omega
  · refine ⟨μ, ?_, h, h2, h1, Fx.rfl', fun _ => rfl, fun q => q⟩
    unfold fX8_freshLoop fX8_freshLoop_L37
    simp only [ic_lit]
    rw [if_neg (by rw [h1, ic_eq (by omega)]; omega)]
theorem x8_whyWrong (h : CQ S μ) : ∃ μ', fX8_whyWrong μ = some (ic (whyS S), μ') ∧ CQ S μ' ∧ Fx μ μ' ∧ (μ 0 6 = ic 1 → μ' = μ) := by
  obtain ⟨μ1, e1, c1, l1, g1, f1, s1, _⟩ := x8_freshLinks h
  have hr := wABC_rg h.2.1
  unfold fX8_whyWrong whyS
  simp only [ic_lit, ic_neg]
  rw [x_lowestNotLaid h.1 h.2.1, bd_some]
  by_cases cA : wA S = -1
  · rw [if_pos (by rw [cA]), x_lowestCrowded h.1 h.2.1, bd_some]
    by_cases cB : wB S = -1
    · rw [if_pos (by rw [cB]), e1, bd_some, x_lowestTooEarly c1.1 l1.1 h.2.1, bd_some]
      refine ⟨μ1, ?_, c1, f1, s1⟩
      by_cases cC : wC S = -1
      · rw [if_pos (by rw [cC])]
        simp [cA, cB, cC]
      · rw [if_neg (by rw [ic_eq (by omega)]; exact cC)]
        simp [cA, cB, cC]
    · rw [if_neg (by rw [ic_eq (by omega)]; exact cB)]
      refine ⟨μ, ?_, h, Fx.rfl', fun _ => rfl⟩
      simp [cA, cB]
  · rw [if_neg (by rw [ic_eq (by omega)]; exact cA)]
    refine ⟨μ, ?_, h, Fx.rfl', fun _ => rfl⟩
    simp [cA]
theorem x8_wrongAt (h : CQ S μ) : ∃ μ', fX8_wrongAt μ = some (ic (wheS S), μ') ∧ CQ S μ' ∧ Fx μ μ' ∧ (μ 0 6 = ic 1 → μ' = μ) := by
  obtain ⟨μ1, e1, c1, l1, g1, f1, s1, _⟩ := x8_freshLinks h
  have hr := wABC_rg h.2.1
  unfold fX8_wrongAt wheS
  simp only [ic_lit, ic_neg]
  rw [x_lowestNotLaid h.1 h.2.1, bd_some]
  by_cases cA : wA S = -1
  · rw [if_pos (by rw [cA]), x_lowestCrowded h.1 h.2.1, bd_some]
    by_cases cB : wB S = -1
    · rw [if_pos (by rw [cB]), e1, bd_some, x_lowestTooEarly c1.1 l1.1 h.2.1, bd_some]
      refine ⟨μ1, ?_, c1, f1, s1⟩
      simp [cA, cB]
    · rw [if_neg (by rw [ic_eq (by omega)]; exact cB)]
      refine ⟨μ, ?_, h, Fx.rfl', fun _ => rfl⟩
      simp [cA, cB]
  · rw [if_neg (by rw [ic_eq (by omega)]; exact cA)]
    refine ⟨μ, ?_, h, Fx.rfl', fun _ => rfl⟩
    simp [cA]
theorem x8_wouldPack (h : CQ S μ) : ∃ μ', fX8_wouldPack μ = some (ic (mxm (pkS S) (nn S) + 1), μ') ∧ CQ S μ' ∧ Fx μ μ' ∧ (μ 0 6 = ic 1 → Fr [84, 85] μ μ') := by
  obtain ⟨μ1, e1, c1, l1, g1, f1, s1, _⟩ := x8_freshLinks h
  obtain ⟨μ2, e2, f2, p2⟩ := x_makePlan h.2.1 c1.1 l1
  have c2 := c1.of f2 (by decide)
  refine ⟨μ2, ?_, c2, f1.trans (Fx.of f2 (by decide)), fun q => ?_⟩
  · unfold fX8_wouldPack
    rw [e1, bd_some, e2, bd_some, x_n c2.1 h.2.1, x_spanOf h.2.1 p2 (fun k hk => by have := pkS_rg h.2.1 k hk; omega), bd_some]
  · rw [← s1 q]
    exact f2
theorem x8_beatByRounds (h : CQ S μ) : ∃ μ', fX8_beatByRounds μ = some (ic (LB S), μ') ∧ CQ S μ' ∧ Fx μ μ' ∧ (μ 0 6 = ic 1 → Fr [88] μ μ') := by
  obtain ⟨μ1, e1, c1, l1, g1, f1, s1, _⟩ := x8_freshLinks h
  obtain ⟨hlb, hlb2⟩ := LB_sp h.2.1
  obtain ⟨μ2, e2, f2⟩ := x_leastByPushes h.2.1 l1.1 hlb hlb2
  refine ⟨μ2, ?_, c1.of f2 (by decide), f1.trans (Fx.of f2 (by decide)), fun q => ?_⟩
  · unfold fX8_beatByRounds
    rw [e1, bd_some, e2, bd_some]
  · rw [← s1 q]
    exact f2
theorem x8_bundles (h : CQ S μ) : fX8_bundles μ = some (ic (mxm (bu S) (nn S) + 1), μ) := by
  unfold fX8_bundles
  rw [x_n h.1 h.2.1, x_spanOf h.2.1 (fun k hk => (h.1.2.2.2.2.2 k hk).2.2.2.2.2) (bu_rg h.2.1), bd_some]
/-- values behind bundles, behind the loop -/
def VB (S : Nat → Int) (e : Nat) : Nat → Int32 := (tm S (bu S) 1 1 (V0 S) (e + 1)).1
theorem x8_doBundles (h : CQ S μ) {e : Nat} (he : e ≤ 300) : ∃ μ', fX8_doBundles μ (ic e) = some ((), μ') ∧ Fr [93, 94, 95, 96, 98] μ μ' ∧ HV 98 (VB S e) μ' := by
  obtain ⟨μ1, e1, f1, v1⟩ := x_doInTime h.2.1 h.1 (a2 := 7) (a := 98) (by omega) (by omega) (fun k hk => (h.1.2.2.2.2.2 k hk).2.2.2.2.2) (bu_rg h.2.1) (beat := 1) (rounds := 1) (e := e) (by omega) (by omega) (by omega)
  refine ⟨μ1, ?_, f1, v1⟩
  unfold fX8_doBundles
  simp only [ic_lit]
  rw [e1, bd_some]
noncomputable def spn (S : Nat → Int) (r : Nat) : Int := if nn S = 0 then 0 else if r = 0 then 0 else mxm (PLS S) (nn S) + 1 + ((r : Int) - 1) * (BT S : Int)
noncomputable def VL (S : Nat → Int) (r : Nat) : Nat → Int32 := (tm S (PLS S) (BT S) r (V0 S) ((spn S r + 6).toNat + 1)).1
theorem mul_rg {a b : Int} (ha : 0 ≤ a ∧ a ≤ 20) (hb : 0 ≤ b ∧ b ≤ 120) : 0 ≤ a * b ∧ a * b ≤ 2400 := by
  refine ⟨Int.mul_nonneg ha.1 hb.1, ?_⟩
  have h1 : a * b ≤ 20 * b := Int.mul_le_mul_of_nonneg_right ha.2 hb.1
  omega
theorem spn_rg (hW : WF S) {r : Nat} (hr : r ≤ 20) : 0 ≤ spn S r ∧ spn S r ≤ 4901 := by
  have hb := BT_sp hW
  have h1 := mxm_rg (p := PLS S) (B := 2500) (by omega) (nn S) fun k _ => (PLS_rg hW k).2
  unfold spn
  split
  · omega
  · split
    · omega
    · have := mul_rg (a := (r : Int) - 1) (b := (BT S : Int)) (by omega) (by omega)
      omega
theorem x8_spanOf90 (h : CQ S μ) (hp : PN S (LB S) (BT S) μ) : fX8_spanOf μ 90 (μ 1 0) = some (ic (mxm (PLS S) (nn S) + 1), μ) := by
  rw [x_n h.1 h.2.1]
  exact x_spanOf h.2.1 hp.2.2 fun k _ => by have := PLS_rg h.2.1 k; omega
theorem x8_spanIn (h : CQ S μ) (hp : PN S (LB S) (BT S) μ) {r : Nat} (hr : r ≤ 20) : fX8_spanIn μ (ic r) = some (ic (spn S r), μ) := by
  have hn := h.2.1.n
  unfold fX8_spanIn spn
  simp only [ic_lit]
  rw [x8_spanOf90 h hp, x_n h.1 h.2.1]
  by_cases c1 : nn S = 0
  · rw [if_pos (by rw [c1]; rfl), if_pos c1]
  · rw [if_neg (by rw [ic_eq (by omega)]; omega), if_neg c1]
    by_cases c2 : r = 0
    · rw [if_pos (by rw [c2]; rfl), if_pos c2]
    · rw [if_neg (by rw [ic_eq (by omega)]; omega), if_neg c2, bd_some, hp.2.1, ic_sub, ic_mul, ic_add]
theorem x8_doLoop (h : CQ S μ) (hp : PN S (LB S) (BT S) μ) {r : Nat} (hr : r ≤ 20) : ∃ μ', fX8_doLoop μ (ic r) = some ((), μ') ∧ Fr [93, 94, 95, 96, 99] μ μ' ∧ HV 99 (VL S r) μ' := by
  have hb := BT_sp h.2.1
  have hs := spn_rg h.2.1 hr
  obtain ⟨μ1, e1, f1, v1⟩ := x_doInTime h.2.1 h.1 (a2 := 90) (a := 99) (by omega) (by omega) hp.2.2 (fun k _ => by have := PLS_rg h.2.1 k; unfold PLS at this; omega) (beat := BT S) (rounds := r) (e := (spn S r + 6).toNat) (by omega) (by omega) (by omega)
  refine ⟨μ1, ?_, f1, v1⟩
  unfold fX8_doLoop
  simp only [ic_lit]
  rw [x8_spanIn h hp hr, bd_some, ic_add, hp.2.1]
  rw [show ((spn S r + 6).toNat : Int) = spn S r + 6 by omega] at e1
  rw [e1, bd_some]
noncomputable def ovl (S : Nat → Int) : Int := if nn S = 0 then 0 else mxm (PLS S) (nn S) / (BT S : Int) + 1
theorem x8_overlapIn (h : CQ S μ) (hp : PN S (LB S) (BT S) μ) : fX8_overlapIn μ = some (ic (ovl S), μ) := by
  have hn := h.2.1.n
  have hb := BT_sp h.2.1
  have h1 := mxm_rg (p := PLS S) (B := 2500) (by omega) (nn S) fun k _ => (PLS_rg h.2.1 k).2
  unfold fX8_overlapIn ovl
  simp only [ic_lit]
  rw [x8_spanOf90 h hp, x_n h.1 h.2.1]
  by_cases c1 : nn S = 0
  · rw [if_pos (by rw [c1]; rfl), if_pos c1]
  · have h2 := mxm_ge (p := PLS S) (n := nn S) (k := 0) (by omega)
    have h3 := PLS_rg h.2.1 0
    rw [if_neg (by rw [ic_eq (by omega)]; omega), if_neg c1, hp.2.1, if_pos (by rw [ic_le (by omega)]; omega), bd_some, hp.2.1, ic_sub, dv_ic (by omega), Option.bind_some, ic_add]
    congr 3
    congr 1
    congr 1
    omega
def alike (V W : Nat → Int32) : Nat → Bool
  | 0 => true
  | k + 1 => alike V W k && decide (V k = W k)
theorem alike_false {V W : Nat → Int32} {k : Nat} (h : alike V W k = false) : ∀ d, alike V W (k + d) = false
  | 0 => h
  | d + 1 => by
    rw [← Nat.add_assoc]
    simp only [alike]
    rw [alike_false h d, Bool.false_and]
theorem x8_areAlike {V W : Nat → Int32} (hV : HV 97 V μ) (hU : HV 98 W μ) : fX8_areAlike μ = some (b2 (alike V W 24), μ) := by
  have key := loop_up (fun f q => fX8_areAlike_L2 f q μ) 0 24 (fun k q => q = ic (k : Int) ∧ alike V W k = true) (fun o => o = some (b2 (alike V W 24), μ)) (by omega) ?_ ?_ (ic 0) fu (fu_lt (by omega)) ⟨rfl, rfl⟩
  · rw [fX8_areAlike]
    exact key
  · rintro f k q - hk ⟨rfl, h3⟩
    have e2 : (k : Int).toNat = k := by omega
    rw [fX8_areAlike_L2]
    simp only [ic_lit]
    rw [if_neg (by rw [ic_le (by omega)]; omega), v_ld hV (by omega), Option.bind_some, v_ld hU (by omega), Option.bind_some, e2, ic_add]
    by_cases c : V k = W k
    · left
      refine ⟨ic ((k + 1 : Nat) : Int), ⟨rfl, by simp [alike, h3, c]⟩, ?_⟩
      rw [if_pos c]
      rfl
    · right
      rw [if_neg c]
      have h6 := alike_false (V := V) (W := W) (k := k + 1) (by simp [alike, c]) (24 - (k + 1))
      rw [show k + 1 + (24 - (k + 1)) = 24 by omega] at h6
      rw [h6]
      rfl
  · rintro f q ⟨rfl, h3⟩
    rw [fX8_areAlike_L2]
    simp only [ic_lit]
    rw [if_pos (by rw [ic_le (by omega)]; omega), h3]
    rfl
def agr (S : Nat → Int) : Bool := alike (ord S 1 (V0 S)) (VB S 205) 24
theorem x8_doesAgree (h : CQ S μ) : ∃ μ', fX8_doesAgree μ = some (b2 (agr S), μ') ∧ CQ S μ' ∧ Fx μ μ' := by
  obtain ⟨μ1, e1, f1, v1⟩ := x_doInOrder h.1 h.2.1 (a := 97) (by omega) (r := 1) (by omega)
  have c1 := h.of f1 (by decide)
  obtain ⟨μ2, e2, f2, v2⟩ := x8_doBundles c1 (e := 205) (by omega)
  refine ⟨μ2, ?_, c1.of f2 (by decide), (Fx.of f1 (by decide)).trans (Fx.of f2 (by decide))⟩
  unfold fX8_doesAgree
  simp only [ic_lit]
  have e1' : fX5_doInOrder μ (ic 1) 97 = some ((), μ1) := e1
  have e2' : fX8_doBundles μ1 (ic 205) = some ((), μ2) := e2
  rw [e1', bd_some, e2', bd_some, x8_areAlike (v1.of f2 (by decide)) v2, bd_some, zret_b2]
  rfl
end XQ

