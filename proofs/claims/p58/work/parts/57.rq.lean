/-! THE REFERENCE'S QUESTIONS -/
theorem rnd_1 (past : Int) : rnd past 1000 1 = rnd past 1 1 := by
  unfold rnd
  split
  · rfl
  · by_cases h : past = 0
    · subst h
      rfl
    · rw [if_neg (by omega), if_neg (by omega)]
theorem lnd_congr {S : Nat → Int} {p : Nat → Int} {b r b' r' t : Int} {R : Nat → Nat → Int32} {P : Nat → Nat → Nat} {V : Nat → Int32} (h : ∀ past, rnd past b r = rnd past b' r') : ∀ n, lnd S p b r t R P V n = lnd S p b' r' t R P V n
  | 0 => rfl
  | n + 1 => by
    have hr : ∀ pk past, rnp pk past b r = rnp pk past b' r' := fun pk past => by unfold rnp; rw [h]
    simp only [lnd, lnd_congr h n, hr]
theorem beg_congr {S : Nat → Int} {p : Nat → Int} {b r b' r' t : Int} {R : Nat → Nat → Int32} {P : Nat → Nat → Nat} {V : Nat → Int32} (h : ∀ past, rnd past b r = rnd past b' r') : ∀ n, beg S p b r t V R P n = beg S p b' r' t V R P n
  | 0 => rfl
  | n + 1 => by
    have hr : ∀ pk past, rnp pk past b r = rnp pk past b' r' := fun pk past => by unfold rnp; rw [h]
    simp only [beg, beg_congr h n, hr]
theorem tm_congr {S : Nat → Int} {p : Nat → Int} {b r b' r' : Int} {V : Nat → Int32} (h : ∀ past, rnd past b r = rnd past b' r') : ∀ t, tm S p b r V t = tm S p b' r' V t
  | 0 => rfl
  | t + 1 => by
    simp only [tm]
    rw [tm_congr h t, lnd_congr h, beg_congr h]
theorem VB_206 {S : Nat → Int} (hW : WF S) : VB S 206 = VB S 205 := by
  refine tm_end (T := 206) (fun t ht k hk _ => ?_) 1
  have h1 := hW.bu hk
  have h2 := la_rg hW k
  unfold rnd
  rw [if_neg (by omega), if_neg (by omega)]
def Tl (S : Nat → Int) (p : Nat → Int) (β : Int) (r : Nat) : Nat := if nn S = 0 then 0 else if r = 0 then 0 else (((r : Int) - 1) * β + mxm p (nn S) + 7).toNat
theorem loop_end {S : Nat → Int} (hW : WF S) {p : Nat → Int} {β : Int} (hβ : 1 ≤ β) {r : Nat} {V : Nat → Int32} {E : Nat} (hE : Tl S p β r ≤ E) : (tm S p β r V E).1 = (tm S p β r V (Tl S p β r)).1 := by
  have key := tm_end (S := S) (p := p) (beat := β) (rounds := r) (V0 := V) (T := Tl S p β r) (fun t ht k hk _ => by
    have h2 := la_rg hW k
    have h3 := mxm_ge (p := p) hk
    unfold rnd
    split
    · rfl
    · next hneg =>
      rw [if_neg]
      rintro ⟨h4, h5⟩
      have h6 : 0 ≤ (t - p k - la S k) / β := Int.ediv_nonneg (by omega) (by omega)
      have h7 : β * ((t - p k - la S k) / β) = t - p k - la S k := by
        have := Int.emod_add_mul_ediv (t - p k - la S k) β
        omega
      have h8 : β * ((t - p k - la S k) / β) ≤ β * ((r : Int) - 1) := Int.mul_le_mul_of_nonneg_left (by omega) (by omega)
      unfold Tl at ht
      rw [if_neg (by omega), if_neg (by omega)] at ht
      rw [Int.mul_comm β ((r : Int) - 1)] at h8
      omega) (E - Tl S p β r)
  rw [show Tl S p β r + (E - Tl S p β r) = E by omega] at key
  exact key
section RQ
variable {S : Nat → Int} {μ : Mem}
theorem PLS_rg2 (hW : WF S) : ∀ k, k < nn S → -1 ≤ PLS S k ∧ PLS S k ≤ 10000 := fun k _ => by
  have := PLS_rg hW k
  omega
end RQ

