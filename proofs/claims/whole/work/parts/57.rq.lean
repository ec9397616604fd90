/-! THE REFERENCE'S QUESTIONS -/
theorem rnd_1 (past : Int) : rnd past 1000 1 = rnd past 1 1 := by
  unfold rnd
  split
  · rfl
  · by_cases h : past = 0
    · subst h
      rfl
    · rw [if_neg (by omega), if_neg (by omega)]
theorem lnd_congr {S : Nat → Int} {p : Nat → Int} {b r b' r' t : Int} {R : Nat → Nat → Int32} {P : Nat → Nat → Nat} {V : Nat → Int32} (h : ∀ past, rnd past b r = rnd past b' r') : ∀ n, lnd S p b r t R P V n = lnd S p b' r' t R P V n
  | 0 => rfl
  | n + 1 => by
    have hr : ∀ pk past, rnp pk past b r = rnp pk past b' r' := fun pk past => by unfold rnp; rw [h]
    simp only [lnd, lnd_congr h n, hr]
theorem beg_congr {S : Nat → Int} {p : Nat → Int} {b r b' r' t : Int} {R : Nat → Nat → Int32} {P : Nat → Nat → Nat} {V : Nat → Int32} (h : ∀ past, rnd past b r = rnd past b' r') : ∀ n, beg S p b r t V R P n = beg S p b' r' t V R P n
  | 0 => rfl
  | n + 1 => by
    have hr : ∀ pk past, rnp pk past b r = rnp pk past b' r' := fun pk past => by unfold rnp; rw [h]
    simp only [beg, beg_congr h n, hr]
theorem tm_congr {S : Nat → Int} {p : Nat → Int} {b r b' r' : Int} {V : Nat → Int32} (h : ∀ past, rnd past b r = rnd past b' r') : ∀ t, tm S p b r V t = tm S p b' r' V t
  | 0 => rfl
  | t + 1 => by
    simp only [tm]
    rw [tm_congr h t, lnd_congr h, beg_congr h]
theorem VB_206 {S : Nat → Int} (hW : WF S) : VB S 206 = VB S 205 := by
  refine tm_end (T := 206) (fun t ht k hk _ => ?_) 1
  have h1 := hW.bu hk
  have h2 := la_rg hW k
  unfold rnd
  rw [if_neg (by omega), if_neg (by omega)]
def Tl (S : Nat → Int) (p : Nat → Int) (β : Int) (r : Nat) : Nat := if nn S = 0 then 0 else if r = 0 then 0 else (((r : Int) - 1) * β + mxm p (nn S) + 7).toNat
theorem loop_end {S : Nat → Int} (hW : WF S) {p : Nat → Int} {β : Int} (hβ : 1 ≤ β) {r : Nat} {V : Nat → Int32} {E : Nat} (hE : Tl S p β r ≤ E) : (tm S p β r V E).1 = (tm S p β r V (Tl S p β r)).1 := by
  have key := tm_end (S := S) (p := p) (beat := β) (rounds := r) (V0 := V) (T := Tl S p β r) (fun t ht k hk _ => by
    have h2 := la_rg hW k
    have h3 := mxm_ge (p := p) hk
    unfold rnd
    split
    · rfl
    · next hneg =>
      rw [if_neg]
      rintro ⟨h4, h5⟩
      have h6 : 0 ≤ (t - p k - la S k) / β := Int.ediv_nonneg (by omega) (by omega)
      have h7 : β * ((t - p k - la S k) / β) = t - p k - la S k := by
        have := Int.emod_add_mul_ediv (t - p k - la S k) β
        omega
      have h8 : β * ((t - p k - la S k) / β) ≤ β * ((r : Int) - 1) := Int.mul_le_mul_of_nonneg_left (by omega) (by omega)
      unfold Tl at ht
      rw [if_neg (by omega), if_neg (by omega)] at ht
      rw [Int.mul_comm β ((r : Int) - 1)] at h8
      omega) (E - Tl S p β r)
  rw [show Tl S p β r + (E - Tl S p β r) = E by omega] at key
  exact key
section RQ
variable {S : Nat → Int} {μ : Mem}
theorem r_inBundles (h : MS S μ) (hW : WF S) {e : Nat} (he : e ≤ 300) : ∃ μ', fX9_inBundles μ (ic e) = some ((), μ') ∧ Fr [5, 6, 11, 12, 13] μ μ' ∧ HV 5 (VB S e) μ' := by
  obtain ⟨μ1, e1, f1, a1⟩ := r_takesBundles h hW
  obtain ⟨μ2, e2, f2, v2⟩ := r_does hW (h.fr f1 (by decide)) a1 (bu_rg hW) (beat := 1000) (rounds := 1) (e := e) (by omega) (by omega) (by omega)
  refine ⟨μ2, ?_, (f1.mono (by decide)).trans (f2.mono (by decide)), ?_⟩
  · unfold fX9_inBundles
    simp only [ic_lit]
    rw [e1, bd_some, e2, bd_some]
  · rw [tm_congr rnd_1] at v2
    exact v2
theorem r_copies {a : Nat} {V : Nat → Int32} (ha : 7 ≤ a) (hV : HV 5 V μ) : ∃ μ', fX9_copies μ a = some ((), μ') ∧ Fr [a] μ μ' ∧ HV a V μ' := by
  have key := lq_m (fun f v ν => fX9_copies_L2 a f v ν) (fun ν => some ((), ν)) 0 24 (fun k ν => Fr [a] μ ν ∧ ∀ q, q < k → ν a q = V q) (by omega) ?_ ?_ μ fu (fu_lt (by omega)) ⟨Fr.rfl', fun q hq => by omega⟩
  · obtain ⟨ν, ⟨h2, h3⟩, h4⟩ := key
    refine ⟨ν, ?_, h2, h3⟩
    rw [fX9_copies]
    exact h4
  · rintro f k ν - hk ⟨h2, h3⟩
    have e3 : (k : Int).toNat = k := by omega
    have v1 := hV.of h2 (by simp; omega)
    refine ⟨mu ν a k (V k), ⟨h2.trans (Fr_mu (by simp)), ?_⟩, ?_⟩
    · intro q hq
      rw [mu_at]
      by_cases hqk : q = k
      · simp [hqk]
      · rw [if_neg (by omega)]
        exact h3 q (by omega)
    · have e4 := v_ld v1 (x := (k : Int)) (by omega)
      rw [e3] at e4
      simp (disch := omega) only [fX9_copies_L2, ic_le, ic_lit, e4, Option.bind_some, ast_ic, e3, ic_add]
      rw [if_neg (by omega)]
      rfl
  · rintro f ν ⟨h2, h3⟩
    simp (disch := omega) only [fX9_copies_L2, ic_le, ic_lit]
    rw [if_pos (by omega)]
theorem r_agrees (h : MS S μ) (hW : WF S) : ∃ μ', fX9_agrees μ = some (b2 (agr S), μ') ∧ Fr [5, 6, 7, 11, 12, 13] μ μ' := by
  obtain ⟨μ1, e1, f1, v1⟩ := r_inOrder h hW (r := 1) (by omega)
  have m1 := h.fr f1 (by decide)
  obtain ⟨μ2, e2, f2, v2⟩ := r_copies (a := 7) (by omega) v1
  have m2 := m1.fr f2 (by decide)
  obtain ⟨μ3, e3, f3, v3⟩ := r_inBundles m2 hW (e := 206) (by omega)
  rw [VB_206 hW] at v3
  have w3 := v2.of f3 (by decide)
  refine ⟨μ3, ?_, ((f1.mono (by decide)).trans (f2.mono (by decide))).trans (f3.mono (by decide))⟩
  have key := loop_eq (fun f (q : Int32 × Int32) => fX9_agrees_L24 f q.1 q.2 μ3) 0 24 (fun k => (b2 (alike (ord S 1 (V0 S)) (VB S 205) k), ic k)) (some (b2 (agr S), μ3)) (by omega) ?_ ?_ fu (fu_lt (by omega))
  · unfold fX9_agrees
    simp only [ic_lit]
    have e1' : fX9_inOrder μ (ic 1) = some ((), μ1) := e1
    have e3' : fX9_inBundles μ2 (ic 206) = some ((), μ3) := e3
    rw [e1', bd_some, e2, bd_some, e3', bd_some]
    exact key
  · intro f k _ hk
    have e3 : (k : Int).toNat = k := by omega
    have g1 := v_ld w3 (x := (k : Int)) (by omega)
    have g2 := v_ld v3 (x := (k : Int)) (by omega)
    rw [e3] at g1 g2
    simp (disch := omega) only [fX9_agrees_L24, ic_le, ic_lit, b2_0, g1, g2, Option.bind_some, fX9_agrees_L53, fX9_agrees_L54, ic_add]
    rw [if_neg (by omega)]
    simp only [alike]
    by_cases q0 : alike (ord S 1 (V0 S)) (VB S 205) k = false
    · rw [if_pos q0, q0, Bool.false_and]
      rfl
    · rw [if_neg q0]
      have q0' : alike (ord S 1 (V0 S)) (VB S 205) k = true := by simpa using q0
      rw [q0', Bool.true_and]
      by_cases c : ord S 1 (V0 S) k = VB S 205 k
      · simp [c, b2]
      · simp [c, b2]
  · intro f
    simp (disch := omega) only [fX9_agrees_L24, ic_le, ic_lit, b2_0]
    rw [if_pos (by omega)]
    have : alike (ord S 1 (V0 S)) (VB S 205) 24 = agr S := rfl
    rw [this]
    cases agr S <;> rfl
theorem r_lays (h : MS S μ) (hW : WF S) : ∃ μ', fX9_laysLoop μ = some (ic (BT S), μ') ∧ Fr [13, 16, 17, 18, 19] μ μ' ∧ AT S (PLS S) μ' ∧ MS S μ' := by
  obtain ⟨hlb, hlb2⟩ := LB_sp hW
  obtain ⟨hbt, hbt1, hbt2⟩ := BT_sp hW
  obtain ⟨μ', e1, f1, a1, _⟩ := r_laysLoop h hW hlb hlb2 hbt hbt2
  exact ⟨μ', e1, f1, a1, h.fr f1 (by decide)⟩
theorem PLS_rg2 (hW : WF S) : ∀ k, k < nn S → -1 ≤ PLS S k ∧ PLS S k ≤ 10000 := fun k _ => by
  have := PLS_rg hW k
  omega
theorem r_circles (h : MS S μ) (hW : WF S) : ∃ μ', fX9_byCircles μ = some (ic (LB S), μ') ∧ Fr [16, 17, 18] μ μ' := by
  obtain ⟨hlb, hlb2⟩ := LB_sp hW
  obtain ⟨μ', e1, f1, _⟩ := r_byCircles h hW hlb hlb2
  exact ⟨μ', e1, f1⟩
theorem r_ofLoop (h : MS S μ) (hW : WF S) {r q : Nat} (hr : r ≤ 20) (hq : q < 24) : ∃ μ', fX9_ofLoop μ (ic r) (ic q) = some (VL S r q, μ') ∧ Fr [5, 6, 11, 12, 13, 16, 17, 18, 19] μ μ' ∧ HV 5 (VL S r) μ' := by
  obtain ⟨hbt, hbt1, hbt2⟩ := BT_sp hW
  obtain ⟨μ1, e1, f1, a1, m1⟩ := r_lays h hW
  have hl := mxm_rg (p := PLS S) (B := 2500) (by omega) (nn S) fun k _ => (PLS_rg hW k).2
  have hm := mul_rg (a := (r : Int)) (b := (BT S : Int)) (by omega) (by omega)
  have hs := spn_rg hW hr
  obtain ⟨E, hE⟩ : ∃ E : Nat, (E : Int) = (r : Int) * BT S + mxm (PLS S) (nn S) + 7 := ⟨((r : Int) * BT S + mxm (PLS S) (nn S) + 7).toNat, by omega⟩
  obtain ⟨μ2, e2, f2, v2⟩ := r_does hW m1 a1 (PLS_rg2 hW) (beat := BT S) (rounds := r) (e := E) (by omega) (by omega) (by omega)
  have hT : Tl S (PLS S) (BT S) r ≤ E + 1 ∧ Tl S (PLS S) (BT S) r ≤ (spn S r + 6).toNat + 1 := by
    unfold Tl
    unfold spn at hs ⊢
    by_cases c1 : nn S = 0
    · simp [c1]
    · by_cases c2 : r = 0
      · simp [c1, c2]
      · rw [if_neg c1, if_neg c2] at hs ⊢
        rw [if_neg c1, if_neg c2]
        have h3 : ((r : Int) - 1) * BT S = (r : Int) * BT S - BT S := by rw [Int.sub_mul, Int.one_mul]
        omega
  have hv : (tm S (PLS S) (BT S) r (V0 S) (E + 1)).1 = VL S r := by
    unfold VL
    rw [loop_end hW (by omega) hT.1, loop_end hW (by omega) hT.2]
  rw [hv] at v2
  refine ⟨μ2, ?_, (f1.mono (by decide)).trans (f2.mono (by decide)), v2⟩
  have g := v_ld v2 (x := (q : Int)) (by omega)
  rw [show (q : Int).toNat = q by omega] at g
  unfold fX9_ofLoop
  simp only [ic_lit]
  rw [e1, bd_some, r_lastOf m1 a1 hW (PLS_rg2 hW), bd_some, ic_mul, ic_add, ic_add, ← hE, e2, bd_some, g, Option.bind_some]
theorem r_needed (h : MS S μ) (hW : WF S) {r : Nat} (hr : r ≤ 20) : ∃ μ', fX9_needed μ (ic r) = some (ic (spn S r), μ') ∧ Fr [13, 16, 17, 18, 19] μ μ' := by
  obtain ⟨hbt, hbt1, hbt2⟩ := BT_sp hW
  have hn := hW.n
  obtain ⟨μ1, e1, f1, a1, m1⟩ := r_lays h hW
  refine ⟨μ1, ?_, f1⟩
  unfold fX9_needed fX9_needed_L18 spn
  simp only [ic_lit]
  rw [e1, bd_some, ms_n m1 hW, Option.bind_some]
  by_cases c1 : nn S = 0
  · rw [if_pos (by rw [c1]; rfl), if_pos c1]
  · rw [if_neg (by rw [ic_eq (by omega)]; omega), if_neg c1]
    by_cases c2 : r = 0
    · rw [if_pos (by rw [c2]; rfl), if_pos c2]
    · rw [if_neg (by rw [ic_eq (by omega)]; omega), if_neg c2, r_lastOf m1 a1 hW (PLS_rg2 hW), bd_some, ic_sub, ic_mul, ic_add, ic_add]
      congr 3
      omega
theorem r_overlaps (h : MS S μ) (hW : WF S) : ∃ μ', fX9_overlaps μ = some (ic (ovl S), μ') ∧ Fr [13, 16, 17, 18, 19] μ μ' ∧ AT S (PLS S) μ' := by
  obtain ⟨hbt, hbt1, hbt2⟩ := BT_sp hW
  have hn := hW.n
  obtain ⟨μ1, e1, f1, a1, m1⟩ := r_lays h hW
  refine ⟨μ1, ?_, f1, a1⟩
  have hl := mxm_rg (p := PLS S) (B := 2500) (by omega) (nn S) fun k _ => (PLS_rg hW k).2
  unfold fX9_overlaps ovl
  simp only [ic_lit]
  rw [e1, bd_some, ms_n m1 hW, Option.bind_some]
  by_cases c1 : nn S = 0
  · rw [if_pos (by rw [c1]; rfl), if_pos c1]
  · have h2 := mxm_ge (p := PLS S) (n := nn S) (k := 0) (by omega)
    have h3 := PLS_rg hW 0
    rw [if_neg (by rw [ic_eq (by omega)]; omega), if_neg c1, r_lastOf m1 a1 hW (PLS_rg2 hW), bd_some, dv_ic (by omega), Option.bind_some, ic_add]
end RQ
