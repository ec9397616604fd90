/-! STATES AS ONE NUMBER, and what is worked out of them -/
def zz (c : Nat) : Int := if c % 2 = 0 then Int.ofNat (c / 2) else Int.negSucc (c / 2)
def SN (N : Nat) : Nat → Int := fun k => zz ((N >>> (32 * k)) % 4294967296)
def wfb (S : Nat → Int) : Bool := decide (0 ≤ S 0 ∧ S 0 ≤ 20) && (decide (0 ≤ S 1 ∧ S 1 ≤ 3) && ((List.range 3).all (fun u => decide (1 ≤ S (2 + u) ∧ S (2 + u) ≤ 4)) && ((List.range 3).all (fun u => decide (1 ≤ S (5 + u) ∧ S (5 + u) ≤ 6)) &&
  (List.range (nn S)).all (fun i => decide ((0 ≤ kd S i ∧ kd S i ≤ 6) ∧ (0 ≤ tg S i ∧ tg S i ≤ 11) ∧ (0 ≤ on S i ∧ on S i ≤ 11) ∧ (0 ≤ tw S i ∧ tw S i ≤ 11) ∧ (-99 ≤ nb S i ∧ nb S i ≤ 99) ∧ (-1 ≤ bu S i ∧ bu S i ≤ 199))))))
theorem zz_rg {c : Nat} (h : c < 4294967296) : -2147483648 ≤ zz c ∧ zz c < 2147483648 := by
  unfold zz
  split
  · simp only [Int.ofNat_eq_natCast]
    omega
  · rw [Int.negSucc_eq]
    omega
theorem all_rg {P : Nat → Bool} {n : Nat} (h : (List.range n).all P = true) : ∀ k, k < n → P k = true := fun k hk => List.all_eq_true.mp h k (List.mem_range.mpr hk)
theorem wf_sn {N : Nat} (h : wfb (SN N) = true) : WF (SN N) := by
  unfold wfb at h
  simp only [Bool.and_eq_true, decide_eq_true_eq] at h
  obtain ⟨h1, h2, h3, h4, h5⟩ := h
  exact ⟨h1, h2, fun u hu => of_decide_eq_true (all_rg h3 u hu), fun u hu => of_decide_eq_true (all_rg h4 u hu), fun k => zz_rg (Nat.mod_lt _ (by omega)), fun i hi => of_decide_eq_true (all_rg h5 i hi)⟩
def agb (S S' : Nat → Int) : Bool := (List.range 152).all fun q => decide (S' q = S q)
theorem agb_of {S S' : Nat → Int} (h : agb S S' = true) : ∀ q, q < 152 → S' q = S q := fun q hq => of_decide_eq_true (all_rg h q hq)
theorem lt_nn {S : Nat → Int} {n i : Nat} (h : nn S = n) (hi : i < n) : i < nn S := by omega
/-- a row of numbers as a function -/
def lf (l : List Int) : Nat → Int := fun i => l.getD i 0
section WORK
variable {S : Nat → Int} {n : Nat}
/-! times: only the steps' own places count -/
theorem lnd_pc {p p' : Nat → Int} {b r t : Int} {R : Nat → Nat → Int32} {P : Nat → Nat → Nat} {V : Nat → Int32} : ∀ n, (∀ k, k < n → p k = p' k) → lnd S p b r t R P V n = lnd S p' b r t R P V n
  | 0, _ => rfl
  | n + 1, h => by
    simp only [lnd, lnd_pc n (fun k hk => h k (by omega)), h n (by omega)]
theorem beg_pc {p p' : Nat → Int} {b r t : Int} {R : Nat → Nat → Int32} {P : Nat → Nat → Nat} {V : Nat → Int32} : ∀ n, (∀ k, k < n → p k = p' k) → beg S p b r t V R P n = beg S p' b r t V R P n
  | 0, _ => rfl
  | n + 1, h => by
    simp only [beg, beg_pc n (fun k hk => h k (by omega)), h n (by omega)]
theorem tm_pc {p p' : Nat → Int} {b r : Int} {V : Nat → Int32} (h : ∀ k, k < nn S → p k = p' k) : ∀ t, tm S p b r V t = tm S p' b r V t
  | 0 => rfl
  | t + 1 => by
    simp only [tm]
    rw [tm_pc h t, lnd_pc _ h, beg_pc _ h]
theorem vb_is {T : Nat} (h : (List.range (nn S)).all (fun k => decide (bu S k + la S k + 1 ≤ T)) = true) (hT : T ≤ 206) : VB S 205 = (tm S (bu S) 1 1 (V0 S) T).1 := by
  have key := tm_end (S := S) (p := bu S) (beat := 1) (rounds := 1) (V0 := V0 S) (T := T) (fun t ht k hk _ => by
    have h1 := of_decide_eq_true (all_rg h k hk)
    unfold rnd
    rw [if_neg (by omega), if_neg (by omega)]) (206 - T)
  rw [show T + (206 - T) = 206 by omega] at key
  exact key
/-! the least beat by circles, the beat, the loop as it is laid -/
theorem lb_is (hW : WF S) {k : Nat} (h : isLb S k) : LB S = k := by
  obtain ⟨⟨h1, h2, h3⟩, _⟩ := LB_sp hW
  obtain ⟨g1, g2, g3⟩ := h
  by_cases q : LB S < k
  · exact absurd h2 (g3 _ h1 q)
  · by_cases q2 : k < LB S
    · exact absurd g2 (h3 _ g1 q2)
    · omega
theorem lb_1 (hW : WF S) (hp : Pot S 1) : LB S = 1 := lb_is hW ⟨by omega, hp, fun i h1 h2 => by omega⟩
theorem lb_mk (hW : WF S) {k : Nat} (hk : 1 ≤ k) (hp : Pot S k) (hn : ¬ Pot S ((k : Int) - 1)) : LB S = k := lb_is hW ⟨hk, hp, fun i h1 h2 q => hn (pot_mono (by omega) q)⟩
theorem bt_is (hW : WF S) {lb k : Nat} (hl : LB S = lb) (h1 : lsb S lb ≤ k) (h2 : lyok S k = true) (h3 : ∀ i : Nat, i < k → lsb S lb ≤ i → lyok S i = false) : BT S = k := by
  obtain ⟨⟨g1, g2, g3⟩, _, _⟩ := BT_sp hW
  rw [hl] at g1 g3
  by_cases q : BT S < k
  · have := h3 _ q g1
    rw [this] at g2
    cases g2
  · by_cases q2 : k < BT S
    · have := g3 _ h1 q2
      rw [this] at h2
      cases h2
    · omega
theorem pls_is {k : Nat} {l : List Int} (hb : BT S = k) (h : (List.range (nn S)).all (fun j => decide ((lyS S k (nn S)).1 j = lf l j)) = true) : ∀ j, j < nn S → PLS S j = lf l j := fun j hj => by
  unfold PLS
  rw [hb]
  exact of_decide_eq_true (all_rg h j hj)
theorem mp_is {l : List Int} (h : ∀ j, j < nn S → PLS S j = lf l j) : mxm (PLS S) (nn S) = mxm (lf l) (nn S) := mxm_congr h
theorem spn_is {k : Nat} {l : List Int} (hb : BT S = k) (h : ∀ j, j < nn S → PLS S j = lf l j) (r : Nat) : spn S r = if nn S = 0 then 0 else if r = 0 then 0 else mxm (lf l) (nn S) + 1 + ((r : Int) - 1) * (k : Int) := by
  unfold spn
  rw [mp_is h, hb]
theorem ovl_is {k : Nat} {l : List Int} (hb : BT S = k) (h : ∀ j, j < nn S → PLS S j = lf l j) : ovl S = if nn S = 0 then 0 else mxm (lf l) (nn S) / (k : Int) + 1 := by
  unfold ovl
  rw [mp_is h, hb]
theorem vl_is {k : Nat} {l : List Int} (hb : BT S = k) (h : ∀ j, j < nn S → PLS S j = lf l j) {r : Nat} {e : Int} (he : spn S r = e) : VL S r = (tm S (lf l) k r (V0 S) ((e + 6).toNat + 1)).1 := by
  unfold VL
  rw [he, hb, tm_pc h]
/-! packing: bundle by bundle -/
theorem cin_cg {p p' : Nat → Int} {b : Int} {u : Nat} : ∀ n, (∀ k, k < n → p k = p' k) → cin S p b u n = cin S p' b u n
  | 0, _ => rfl
  | n + 1, h => by
    simp only [cin, cin_cg n (fun k hk => h k (by omega)), h n (by omega)]
theorem rdy_cg {p p' : Nat → Int} {b : Int} {s : Nat} : ∀ n, (∀ k, k < n → p k = p' k) → rdy S p b s n = rdy S p' b s n
  | 0, _ => rfl
  | n + 1, h => by
    simp only [rdy, rdy_cg n (fun k hk => h k (by omega)), h n (by omega)]
theorem can_cg {p p' : Nat → Int} {b : Int} {s : Nat} (h : ∀ k, k < nn S → p k = p' k) (hs : s < nn S) : can S p b s = can S p' b s := by
  unfold can
  rw [h s hs, cin_cg _ h, rdy_cg s (fun k hk => h k (by omega))]
theorem bst_cg {p p' : Nat → Int} {b : Int} (h : ∀ k, k < nn S → p k = p' k) : ∀ n, n ≤ nn S → bst S p b n = bst S p' b n
  | 0, _ => rfl
  | n + 1, hn => by
    simp only [bst, bst_cg h n (by omega), can_cg h (show n < nn S by omega)]
theorem fil_cg {b : Int} : ∀ (f : Nat) (p p' : Nat → Int), (∀ k, k < nn S → p k = p' k) → ∀ k, k < nn S → fil S b f p k = fil S b f p' k
  | 0, p, p', h, k, hk => h k hk
  | f + 1, p, p', h, k, hk => by
    simp only [fil]
    rw [bst_cg h _ (Nat.le_refl _)]
    by_cases hc : bst S p' b (nn S) = -1
    · rw [if_pos hc, if_pos hc]
      exact h k hk
    · rw [if_neg hc, if_neg hc]
      refine fil_cg f _ _ (fun q hq => ?_) k hk
      unfold updI
      rw [h q hq]
theorem pk_is2 {L : Nat → List Int} {c : Nat} (h0 : (List.range (nn S)).all (fun k => decide (lf (L 0) k = -1)) = true) (h : ∀ b, b < c → (List.range (nn S)).all (fun k => decide (fil S b (nn S) (lf (L b)) k = lf (L (b + 1)) k)) = true) : ∀ b, b ≤ c → ∀ k, k < nn S → pk S b k = lf (L b) k
  | 0, _, k, hk => (of_decide_eq_true (all_rg h0 k hk)).symm
  | b + 1, hb, k, hk => by
    simp only [pk]
    rw [fil_cg (nn S) _ _ (pk_is2 h0 h b (by omega)) k hk]
    exact of_decide_eq_true (all_rg (h b (by omega)) k hk)
theorem ulc_cg {p p' : Nat → Int} : ∀ n, (∀ k, k < n → p k = p' k) → ulc p n = ulc p' n := fun n h => ulc_congr h
theorem pks_is (hW : WF S) {L : Nat → List Int} {c : Nat} (h0 : (List.range (nn S)).all (fun k => decide (lf (L 0) k = -1)) = true) (h : ∀ b, b < c → (List.range (nn S)).all (fun k => decide (fil S b (nn S) (lf (L b)) k = lf (L (b + 1)) k)) = true) (hc : ulc (lf (L c)) (nn S) = 0) : ∀ k, k < nn S → pkS S k = lf (L c) k := fun k hk => by
  have key := pk_is2 h0 h c (Nat.le_refl _)
  rw [← pk_is hW (c := c) (by rw [ulc_cg _ key]; exact hc)]
  exact key k hk
theorem mpk_is {l : List Int} (h : ∀ k, k < nn S → pkS S k = lf l k) : mxm (pkS S) (nn S) = mxm (lf l) (nn S) := mxm_congr h
theorem pck_is {l : List Int} {S' : Nat → Int} (h : ∀ k, k < nn S → pkS S k = lf l k) (ha : agb (pckS S (lf l)) S' = true) : ∀ q, q < 152 → S' q = pckS S (pkS S) q := fun q hq => by
  rw [agb_of ha q hq]
  unfold pckS
  by_cases h1 : q < 32
  · rw [if_pos h1, if_pos h1]
  · rw [if_neg h1, if_neg h1]
    by_cases h2 : (q - 32) % 6 = 5 ∧ (q - 32) / 6 < nn S
    · rw [if_pos h2, if_pos h2, h _ h2.2]
    · rw [if_neg h2, if_neg h2]
/-! heights, earliest bundles -/
theorem hgt_is {l : List Int} (h : (List.range (nn S)).all (fun i => decide (hacc S (lf l) i (nn S) = lf l i)) = true) : ∀ i, i < nn S → hgt S i = lf l i := by
  have key : ∀ d i, i < nn S → nn S - i ≤ d → hgt S i = lf l i := by
    intro d
    induction d with
    | zero => intro i h1 h2; omega
    | succ d ih =>
      intro i h1 h2
      rw [hgt_eq h1, hacc_congr (g := lf l) _ (fun j h3 h4 => ih j h4 (by omega))]
      exact of_decide_eq_true (all_rg h i h1)
  exact fun i hi => key _ i hi (Nat.le_refl _)
theorem ear_is {l : List Int} (h : (List.range (nn S)).all (fun i => decide (eacc S (lf l) i i = lf l i)) = true) : ∀ i, i < nn S → ear S i = lf l i := by
  have key : ∀ d i, i < nn S → i < d → ear S i = lf l i := by
    intro d
    induction d with
    | zero => intro i h1 h2; omega
    | succ d ih =>
      intro i h1 h2
      rw [ear_eq h1, eacc_congr (g := lf l) _ (fun j h3 => ih j (by omega) (by omega))]
      exact of_decide_eq_true (all_rg h i h1)
  exact fun i hi => key _ i hi (Nat.lt_succ_self i)
theorem mxh_is {l : List Int} (h : ∀ k, k < nn S → hgt S k = lf l k) : mx0 (hgt S) (nn S) = mx0 (lf l) (nn S) := by
  have : ∀ n, n ≤ nn S → mx0 (hgt S) n = mx0 (lf l) n := by
    intro n
    induction n with
    | zero => intro _; rfl
    | succ n ih =>
      intro hn
      simp only [mx0]
      rw [ih (by omega), h n (by omega)]
  exact this _ (Nat.le_refl _)
/-! graph: places for steps -/
theorem pot_is {b : Int} {l : List Int} (h : (List.range (nn S)).all (fun i => (List.range (nn S)).all fun j => decide (nearT S i j = -99 ∧ over S i j = -99) || decide (lf l i + gw S b i j ≤ lf l j)) = true) : Pot S b := ⟨lf l, fun i j hi hj hE => by
  have h1 := all_rg (all_rg h i hi) j hj
  simp only [Bool.or_eq_true, decide_eq_true_eq] at h1
  rcases h1 with h1 | h1
  · rcases hE with q | q
    · exact absurd h1.1 q
    · exact absurd h1.2 q
  · exact h1⟩
theorem pot_arc {b : Int} {p : Nat → Int} (h : PotP (nn S) (gE S) (gw S b) p) {i j : Nat} {w : Int} (hi : i < nn S) (hj : j < nn S) (hw : gw S b i j = w) (he : w ≠ -9999) : p i + w ≤ p j := by
  have hE : gE S i j := by
    unfold gw at hw
    unfold gE
    by_cases h1 : over S i j = -99
    · rw [if_pos h1] at hw
      by_cases h2 : nearT S i j = -99
      · rw [if_pos h2] at hw
        exact absurd hw.symm he
      · exact Or.inl h2
    · exact Or.inr h1
  have := h i j hi hj hE
  rw [hw] at this
  exact this
end WORK
