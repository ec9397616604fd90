/-! ANSWERS ALIKE: separations, what is carried, values -/
section ANS12
variable {c : Cf} {X M : Mem}
theorem v_k {a : Nat} {V : Nat → Int32} {μ : Mem} (h : HV a V μ) (n : Nat) {x : Int} (hx : x = (n : Int)) (hn : n < 24) : ld 24 (μ a) (ic x) = some (V n) := by
  rw [v_ld h (by omega), hx, Int.toNat_natCast]
theorem agr_q (hG : GC c) (hX : XC c X) (hM : MC c M) {cd : Nat → Int} {l : List Nat} {r : Int32} {o : Option ((Int32 ⊕ Nat) × Mem)} {p : Option (Int32 × Mem)} (ho : ∃ X', o = some (.inl r, X') ∧ CQ c.S X' ∧ Fx X X') (hp : ∃ M', p = some (r, M') ∧ Fr l (mu M 0 22 (ic 0)) M') (hl : ∀ a, a ∈ l → 5 ≤ a) : Agr cd o p := by
  obtain ⟨X', e1, q1, f1⟩ := ho
  obtain ⟨M', e2, f2⟩ := hp
  have f2' : ∀ a, a < 5 → M' a = mu M 0 22 (ic 0) a := fun a ha => f2 a fun q => by have := hl a q; omega
  exact ⟨c, X', M', hG, hX.fx q1 f1, (mc_thr (ic 0) hM).of (fun a h1 h2 => f2' a (by omega)) (fun k hk => by rw [f2' 0 (by omega)]), Or.inl ⟨r, e1, e2, by rw [f2' 0 (by omega), mus]⟩⟩
theorem a_separation (hG : GC c) (hX : XC c X) (hM : MC c M) (a b : Int32) : Agr cd1 (fX8_separation X a b) (fX9_separation M a b) := by
  have hW := hG.1
  obtain ⟨u, rfl, hu⟩ := i32_ex a
  obtain ⟨v, rfl, hv⟩ := i32_ex b
  have e1 : fX9_separation_L22 (ic u) (ic v) 1 M = some (0, mu M 0 22 (ic 1)) := by
    unfold fX9_separation_L22
    simp only [pt, Option.bind_some]
    rw [thr1]
    rfl
  unfold fX8_separation fX9_separation fX9_separation_L21
  rw [x_checkStep hX hW hu, r_isStep hM hW hu, bd_some, b2_if]
  by_cases h : 0 ≤ u ∧ u ≤ (nn c.S : Int) - 1
  · rw [if_pos h, if_pos (decide_eq_true h), bx_l, x_checkStep hX hW hv, r_isStep hM hW hv, bd_some, b2_if]
    by_cases h' : 0 ≤ v ∧ v ≤ (nn c.S : Int) - 1
    · rw [if_pos h', if_pos (decide_eq_true h'), bx_l]
      obtain ⟨n, rfl⟩ : ∃ n : Nat, u = n := ⟨u.toNat, by omega⟩
      obtain ⟨m, rfl⟩ : ∃ n : Nat, v = n := ⟨v.toNat, by omega⟩
      obtain ⟨X', e2, q1, k1, _, f1, _⟩ := x8_freshLinks hX.1
      refine agr_q hG hX hM (l := []) (r := ic (nearT c.S n m)) ⟨X', ?_, q1, f1⟩ ⟨_, ?_, Fr.rfl'⟩ (fun a ha => by cases ha)
      · rw [e2, bd_some, x_nearOf k1.1 hW (by omega) (by omega), bd_some]
      · unfold fX9_separation_L22
        simp only [pt, Option.bind_some]
        rw [thr0, show mu M 0 22 0 = mu M 0 22 (ic 0) from rfl, r_apartBy (ms0 hM) hW (by omega) (by omega), bd_some]
    · rw [if_neg h', if_neg (by rw [decide_eq_false h']; decide), bx_r]
      exact agr_thr hG hX hM (k := 1) (e := 1) rfl e1 rfl (by omega)
  · rw [if_neg h, if_neg (by rw [decide_eq_false h]; decide), bx_r]
    exact agr_thr hG hX hM (k := 1) (e := 1) rfl e1 rfl (by omega)
theorem a_carried (hG : GC c) (hX : XC c X) (hM : MC c M) (a b : Int32) : Agr cd1 (fX8_carried X a b) (fX9_carried M a b) := by
  have hW := hG.1
  obtain ⟨u, rfl, hu⟩ := i32_ex a
  obtain ⟨v, rfl, hv⟩ := i32_ex b
  have e1 : fX9_carried_L22 (ic u) (ic v) 1 M = some (0, mu M 0 22 (ic 1)) := by
    unfold fX9_carried_L22
    simp only [pt, Option.bind_some]
    rw [thr1]
    rfl
  unfold fX8_carried fX9_carried fX9_carried_L21
  rw [x_checkStep hX hW hu, r_isStep hM hW hu, bd_some, b2_if]
  by_cases h : 0 ≤ u ∧ u ≤ (nn c.S : Int) - 1
  · rw [if_pos h, if_pos (decide_eq_true h), bx_l, x_checkStep hX hW hv, r_isStep hM hW hv, bd_some, b2_if]
    by_cases h' : 0 ≤ v ∧ v ≤ (nn c.S : Int) - 1
    · rw [if_pos h', if_pos (decide_eq_true h'), bx_l]
      obtain ⟨n, rfl⟩ : ∃ n : Nat, u = n := ⟨u.toNat, by omega⟩
      obtain ⟨m, rfl⟩ : ∃ n : Nat, v = n := ⟨v.toNat, by omega⟩
      obtain ⟨X', e2, q1, k1, _, f1, _⟩ := x8_freshLinks hX.1
      refine agr_q hG hX hM (l := []) (r := ic (over c.S n m)) ⟨X', ?_, q1, f1⟩ ⟨_, ?_, Fr.rfl'⟩ (fun a ha => by cases ha)
      · rw [e2, bd_some, x_overOf k1.1 hW (by omega) (by omega), bd_some]
      · unfold fX9_carried_L22
        simp only [pt, Option.bind_some]
        rw [thr0, show mu M 0 22 0 = mu M 0 22 (ic 0) from rfl, r_carriedBy (ms0 hM) hW (by omega) (by omega), bd_some]
    · rw [if_neg h', if_neg (by rw [decide_eq_false h']; decide), bx_r]
      exact agr_thr hG hX hM (k := 1) (e := 1) rfl e1 rfl (by omega)
  · rw [if_neg h, if_neg (by rw [decide_eq_false h]; decide), bx_r]
    exact agr_thr hG hX hM (k := 1) (e := 1) rfl e1 rfl (by omega)
theorem x_checkRegister {v : Int} (hv : -2147483648 ≤ v ∧ v < 2147483648) : fX8_checkRegister X (ic v) = some (if 0 ≤ v ∧ v ≤ 11 then .inl () else .inr 1, X) := by
  unfold fX8_checkRegister
  rw [x_isRegister hv, bd_some, b2_if]
  by_cases h : 0 ≤ v ∧ v ≤ 11
  · rw [if_pos (decide_eq_true h), if_pos h]
  · rw [if_neg (by rw [decide_eq_false h]; decide), if_neg h]
theorem x_checkRounds {v : Int} (hv : -2147483648 ≤ v ∧ v < 2147483648) : fX8_checkRounds X (ic v) = some (if 0 ≤ v ∧ v ≤ 20 then .inl () else .inr 2, X) := by
  unfold fX8_checkRounds fX8_checkRounds_L10
  simp only [ic_lit]
  simp (disch := omega) only [ic_lt, ic_le]
  repeat' split
  all_goals first | rfl | omega
theorem r_areRounds {v : Int} (hv : -2147483648 ≤ v ∧ v < 2147483648) : fX9_areRounds M (ic v) = some (b2 (decide (0 ≤ v ∧ v ≤ 20)), M) := by
  unfold fX9_areRounds
  rw [show (0 : Int32) = ic 0 from rfl, show (20 : Int32) = ic 20 from rfl, p_in2 hv (by omega) (by omega), bd_some]
  cases decide (0 ≤ v ∧ v ≤ 20) <;> rfl
theorem r_toldOrder (hM : MC c M) (hW : WF c.S) {u k : Int} (hu : -2147483648 ≤ u ∧ u < 2147483648) (hk : -2147483648 ≤ k ∧ k < 2147483648) {o : Nat} (ho : o ≤ 12) : (¬ (0 ≤ u ∧ u ≤ 11) → fX9_toldOrder M (ic u) (ic k) (ic (o : Int)) = some (0, mu M 0 22 (ic 1))) ∧ (0 ≤ u ∧ u ≤ 11 → ¬ (0 ≤ k ∧ k ≤ 20) → fX9_toldOrder M (ic u) (ic k) (ic (o : Int)) = some (0, mu M 0 22 (ic 2))) ∧ ∀ n r : Nat, u = n → n ≤ 11 → k = r → r ≤ 20 → ∃ M', fX9_toldOrder M (ic u) (ic k) (ic (o : Int)) = some (ord c.S r (V0 c.S) (o + n), M') ∧ Fr [5] (mu M 0 22 (ic 0)) M' := by
  unfold fX9_toldOrder
  rw [r_isName hu, bd_some, b2_if]
  refine ⟨fun h => ?_, fun h1 h2 => ?_, fun n r e1 h1 e2 h2 => ?_⟩
  · rw [if_neg (by rw [decide_eq_false h]; decide)]
    unfold fX9_toldOrder_L27
    simp only [pt, Option.bind_some]
    rw [thr1]
    rfl
  · rw [if_pos (decide_eq_true h1), show (0 : Int32) = ic 0 from rfl, show (20 : Int32) = ic 20 from rfl, p_in2 hk (by omega) (by omega), bd_some, b2_ifc, if_neg (by rw [decide_eq_false h2]; decide)]
    unfold fX9_toldOrder_L27
    simp only [pt, Option.bind_some]
    rw [mus, if_neg (by decide)]
    rfl
  · have h1' : 0 ≤ u ∧ u ≤ 11 := by omega
    have h2' : 0 ≤ k ∧ k ≤ 20 := by omega
    rw [if_pos (decide_eq_true h1'), show (0 : Int32) = ic 0 from rfl, show (20 : Int32) = ic 20 from rfl, p_in2 hk (by omega) (by omega), bd_some, b2_ifc, if_pos (decide_eq_true h2')]
    obtain ⟨M', e3, f3, v3⟩ := r_inOrder (ms0 hM) hW (r := r) h2
    refine ⟨M', ?_, f3⟩
    unfold fX9_toldOrder_L27
    simp only [pt, Option.bind_some]
    rw [mus, if_pos (by decide), e2, e3, bd_some, ic_add, v_k v3 (o + n) (by omega) (by omega), Option.bind_some]
theorem r_toldBundles (hM : MC c M) (hW : WF c.S) {u : Int} (hu : -2147483648 ≤ u ∧ u < 2147483648) {o e : Nat} (ho : o ≤ 12) (he : e ≤ 300) : (¬ (0 ≤ u ∧ u ≤ 11) → ∀ k, fX9_toldBundles M (ic u) k (ic (o : Int)) = some (0, mu M 0 22 (ic 1))) ∧ ∀ n : Nat, u = n → n ≤ 11 → ∃ M', fX9_toldBundles M (ic u) (ic (e : Int)) (ic (o : Int)) = some (VB c.S e (o + n), M') ∧ Fr [5, 6, 11, 12, 13] (mu M 0 22 (ic 0)) M' := by
  unfold fX9_toldBundles
  rw [r_isName hu]
  refine ⟨fun h k => ?_, fun n e1 h1 => ?_⟩
  · rw [bd_some, b2_if, if_neg (by rw [decide_eq_false h]; decide)]
    unfold fX9_toldBundles_L13
    simp only [pt, Option.bind_some]
    rw [thr1]
    rfl
  · have h1' : 0 ≤ u ∧ u ≤ 11 := by omega
    rw [bd_some, b2_if, if_pos (decide_eq_true h1')]
    obtain ⟨M', e3, f3, v3⟩ := r_inBundles (ms0 hM) hW (e := e) he
    refine ⟨M', ?_, f3⟩
    unfold fX9_toldBundles_L13
    simp only [pt, Option.bind_some]
    rw [thr0, show mu M 0 22 0 = mu M 0 22 (ic 0) from rfl, e3, bd_some, ic_add, v_k v3 (o + n) (by omega) (by omega), Option.bind_some]
theorem r_toldLoop (hM : MC c M) (hW : WF c.S) {u k : Int} (hu : -2147483648 ≤ u ∧ u < 2147483648) (hk : -2147483648 ≤ k ∧ k < 2147483648) {o : Nat} (ho : o ≤ 12) : (¬ (0 ≤ u ∧ u ≤ 11) → fX9_toldLoop M (ic k) (ic u) (ic (o : Int)) = some (0, mu M 0 22 (ic 1))) ∧ (0 ≤ u ∧ u ≤ 11 → ¬ (0 ≤ k ∧ k ≤ 20) → fX9_toldLoop M (ic k) (ic u) (ic (o : Int)) = some (0, mu M 0 22 (ic 2))) ∧ ∀ n r : Nat, u = n → n ≤ 11 → k = r → r ≤ 20 → ∃ M', fX9_toldLoop M (ic k) (ic u) (ic (o : Int)) = some (VL c.S r (o + n), M') ∧ Fr [5, 6, 11, 12, 13, 16, 17, 18, 19] (mu M 0 22 (ic 0)) M' := by
  unfold fX9_toldLoop
  rw [r_isName hu, bd_some, b2_if]
  refine ⟨fun h => ?_, fun h1 h2 => ?_, fun n r e1 h1 e2 h2 => ?_⟩
  · rw [if_neg (by rw [decide_eq_false h]; decide)]
    unfold fX9_toldLoop_L24
    simp only [pt, Option.bind_some]
    rw [thr1]
    rfl
  · rw [if_pos (decide_eq_true h1), r_areRounds hk, bd_some, b2_if, if_neg (by rw [decide_eq_false h2]; decide)]
    unfold fX9_toldLoop_L24
    simp only [pt, Option.bind_some]
    rw [mus, if_neg (by decide)]
    rfl
  · have h1' : 0 ≤ u ∧ u ≤ 11 := by omega
    have h2' : 0 ≤ k ∧ k ≤ 20 := by omega
    rw [if_pos (decide_eq_true h1'), r_areRounds hk, bd_some, b2_if, if_pos (decide_eq_true h2')]
    obtain ⟨M', e3, f3, v3⟩ := r_ofLoop (ms0 hM) hW (r := r) (q := o + n) h2 (by omega)
    refine ⟨M', ?_, f3⟩
    unfold fX9_toldLoop_L24
    simp only [pt, Option.bind_some]
    rw [thr0, show mu M 0 22 0 = mu M 0 22 (ic 0) from rfl, e2, ic_add, show (o : Int) + u = ((o + n : Nat) : Int) by omega, e3, bd_some]
end ANS12
