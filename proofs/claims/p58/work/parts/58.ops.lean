/-! WHAT CHANGES A STATE, in numbers -/
def insS (S : Nat → Int) (p : Nat) (c : Nat → Int) : Nat → Int := fun k => if k = 0 then S 0 + 1 else if k < 32 then S k else if (k - 32) / 6 < p then S k else if (k - 32) / 6 = p then c ((k - 32) % 6) else if (k - 32) / 6 ≤ nn S then S (k - 6) else S k
def remS (S : Nat → Int) (p : Nat) : Nat → Int := fun k => if k = 0 then S 0 - 1 else if k < 32 then S k else if p ≤ (k - 32) / 6 ∧ (k - 32) / 6 + 1 < nn S then S (k + 6) else S k
def swpS (S : Nat → Int) (i j : Nat) : Nat → Int := fun k => if k < 32 then S k else if (k - 32) / 6 = i then S (32 + 6 * j + (k - 32) % 6) else if (k - 32) / 6 = j then S (32 + 6 * i + (k - 32) % 6) else S k
def pckS (S : Nat → Int) (p : Nat → Int) : Nat → Int := fun k => if k < 32 then S k else if (k - 32) % 6 = 5 ∧ (k - 32) / 6 < nn S then p ((k - 32) / 6) else S k
section OPS
variable {S : Nat → Int}
theorem insS_f {p : Nat} {c : Nat → Int} {i w : Nat} (hw : w < 6) : insS S p c (32 + 6 * i + w) = if i < p then S (32 + 6 * i + w) else if i = p then c w else if i ≤ nn S then S (32 + 6 * (i - 1) + w) else S (32 + 6 * i + w) := by
  have e1 : (32 + 6 * i + w - 32) / 6 = i := by omega
  have e2 : (32 + 6 * i + w - 32) % 6 = w := by omega
  unfold insS
  rw [if_neg (by omega), if_neg (by omega), e1, e2]
  by_cases h1 : i < p
  · rw [if_pos h1, if_pos h1]
  · rw [if_neg h1, if_neg h1]
    by_cases h2 : i = p
    · rw [if_pos h2, if_pos h2]
    · rw [if_neg h2, if_neg h2, show 32 + 6 * i + w - 6 = 32 + 6 * (i - 1) + w by omega]
theorem remS_f {p : Nat} {i w : Nat} (hw : w < 6) : remS S p (32 + 6 * i + w) = if p ≤ i ∧ i + 1 < nn S then S (32 + 6 * (i + 1) + w) else S (32 + 6 * i + w) := by
  have e1 : (32 + 6 * i + w - 32) / 6 = i := by omega
  unfold remS
  rw [if_neg (by omega), if_neg (by omega), e1, show 32 + 6 * i + w + 6 = 32 + 6 * (i + 1) + w by omega]
theorem swpS_f {a b : Nat} {i w : Nat} (hw : w < 6) : swpS S a b (32 + 6 * i + w) = if i = a then S (32 + 6 * b + w) else if i = b then S (32 + 6 * a + w) else S (32 + 6 * i + w) := by
  have e1 : (32 + 6 * i + w - 32) / 6 = i := by omega
  have e2 : (32 + 6 * i + w - 32) % 6 = w := by omega
  unfold swpS
  rw [if_neg (by omega), e1, e2]
theorem pckS_f {p : Nat → Int} {i w : Nat} (hw : w < 6) : pckS S p (32 + 6 * i + w) = if w = 5 ∧ i < nn S then p i else S (32 + 6 * i + w) := by
  have e1 : (32 + 6 * i + w - 32) / 6 = i := by omega
  have e2 : (32 + 6 * i + w - 32) % 6 = w := by omega
  unfold pckS
  rw [if_neg (by omega), e1, e2]
theorem insS_f0 {p : Nat} {c : Nat → Int} {i : Nat} : insS S p c (32 + 6 * i) = if i < p then S (32 + 6 * i) else if i = p then c 0 else if i ≤ nn S then S (32 + 6 * (i - 1)) else S (32 + 6 * i) := insS_f (w := 0) (by omega)
theorem remS_f0 {p : Nat} {i : Nat} : remS S p (32 + 6 * i) = if p ≤ i ∧ i + 1 < nn S then S (32 + 6 * (i + 1)) else S (32 + 6 * i) := remS_f (w := 0) (by omega)
theorem swpS_f0 {a b : Nat} {i : Nat} : swpS S a b (32 + 6 * i) = if i = a then S (32 + 6 * b) else if i = b then S (32 + 6 * a) else S (32 + 6 * i) := swpS_f (w := 0) (by omega)
theorem pckS_f0 {p : Nat → Int} {i : Nat} : pckS S p (32 + 6 * i) = S (32 + 6 * i) := by
  have := pckS_f (S := S) (p := p) (i := i) (w := 0) (by omega)
  rw [if_neg (by omega)] at this
  exact this
theorem insS_l {p : Nat} {c : Nat → Int} {k : Nat} (h : k < 32) : insS S p c k = if k = 0 then S 0 + 1 else S k := by
  unfold insS
  by_cases h0 : k = 0
  · rw [if_pos h0, if_pos h0]
  · rw [if_neg h0, if_neg h0, if_pos h]
theorem remS_l {p : Nat} {k : Nat} (h : k < 32) : remS S p k = if k = 0 then S 0 - 1 else S k := by
  unfold remS
  by_cases h0 : k = 0
  · rw [if_pos h0, if_pos h0]
  · rw [if_neg h0, if_neg h0, if_pos h]
theorem swpS_l {a b : Nat} {k : Nat} (h : k < 32) : swpS S a b k = S k := by
  unfold swpS
  rw [if_pos h]
theorem pckS_l {p : Nat → Int} {k : Nat} (h : k < 32) : pckS S p k = S k := by
  unfold pckS
  rw [if_pos h]
/-- a state out of its head and its steps -/
theorem wf_mk {S' : Nat → Int} (hW : WF S) (h0 : 0 ≤ S' 0 ∧ S' 0 ≤ 20) (hl : ∀ k, 0 < k → k < 8 → S' k = S k) (hr : ∀ k, -2147483648 ≤ S' k ∧ S' k < 2147483648)
    (hs : ∀ i, i < nn S' → (0 ≤ kd S' i ∧ kd S' i ≤ 6) ∧ (0 ≤ tg S' i ∧ tg S' i ≤ 11) ∧ (0 ≤ on S' i ∧ on S' i ≤ 11) ∧ (0 ≤ tw S' i ∧ tw S' i ≤ 11) ∧ (-99 ≤ nb S' i ∧ nb S' i ≤ 99) ∧ (-1 ≤ bu S' i ∧ bu S' i ≤ 199)) : WF S' := by
  refine ⟨h0, ?_, fun u hu => ?_, fun u hu => ?_, hr, hs⟩
  · rw [hl 1 (by omega) (by omega)]
    exact hW.dl
  · rw [hl (2 + u) (by omega) (by omega)]
    exact hW.sl u hu
  · rw [hl (5 + u) (by omega) (by omega)]
    exact hW.lt u hu
def CK (c : Nat → Int) : Prop := (0 ≤ c 0 ∧ c 0 ≤ 6) ∧ (0 ≤ c 1 ∧ c 1 ≤ 11) ∧ (0 ≤ c 2 ∧ c 2 ≤ 11) ∧ (0 ≤ c 3 ∧ c 3 ≤ 11) ∧ (-99 ≤ c 4 ∧ c 4 ≤ 99) ∧ c 5 = -1
theorem insS_n (hW : WF S) {p : Nat} {c : Nat → Int} : nn (insS S p c) = nn S + 1 := by
  have hn := hW.n
  unfold nn
  rw [insS_l (by omega), if_pos rfl]
  omega
theorem wf_ins (hW : WF S) {p : Nat} {c : Nat → Int} (hp : p ≤ nn S) (hn : nn S < 20) (hc : CK c) : WF (insS S p c) := by
  have hz := hW.n
  have hnn := insS_n hW (p := p) (c := c)
  obtain ⟨c0, c1, c2, c3, c4, c5⟩ := hc
  refine wf_mk hW ?_ (fun k h1 h2 => by rw [insS_l (by omega), if_neg (by omega)]) (fun k => ?_) (fun i hi => ?_)
  · rw [insS_l (by omega), if_pos rfl]
    omega
  · have r1 := hW.rg k
    have r2 := hW.rg (k - 6)
    have r3 : ∀ w, w < 6 → -2147483648 ≤ c w ∧ c w < 2147483648 := by
      intro w hw
      obtain rfl | rfl | rfl | rfl | rfl | rfl : w = 0 ∨ w = 1 ∨ w = 2 ∨ w = 3 ∨ w = 4 ∨ w = 5 := by omega
      all_goals omega
    have r4 := r3 ((k - 32) % 6) (by omega)
    unfold insS
    repeat' split
    all_goals omega
  · rw [hnn] at hi
    unfold kd tg on tw nb bu
    rw [insS_f0, insS_f (w := 1) (by omega), insS_f (w := 2) (by omega), insS_f (w := 3) (by omega), insS_f (w := 4) (by omega), insS_f (w := 5) (by omega)]
    by_cases h1 : i < p
    · simp only [h1, if_true]
      exact hW.2.2.2.2.2 i (by omega)
    · simp only [h1, if_false]
      by_cases h2 : i = p
      · simp only [h2, if_true]
        omega
      · simp only [h2, if_false]
        rw [if_pos (by omega), if_pos (by omega), if_pos (by omega), if_pos (by omega), if_pos (by omega), if_pos (by omega)]
        exact hW.2.2.2.2.2 (i - 1) (by omega)
theorem remS_n (hW : WF S) {p : Nat} (hp : p < nn S) : nn (remS S p) = nn S - 1 := by
  have hn := hW.n
  unfold nn at *
  rw [remS_l (by omega), if_pos rfl]
  omega
theorem wf_rem (hW : WF S) {p : Nat} (hp : p < nn S) : WF (remS S p) := by
  have hz := hW.n
  have hnn := remS_n hW hp
  refine wf_mk hW ?_ (fun k h1 h2 => by rw [remS_l (by omega), if_neg (by omega)]) (fun k => ?_) (fun i hi => ?_)
  · rw [remS_l (by omega), if_pos rfl]
    omega
  · have r0 := hW.rg k
    have r2 := hW.rg (k + 6)
    unfold remS
    repeat' split
    all_goals omega
  · rw [hnn] at hi
    unfold kd tg on tw nb bu
    rw [remS_f0, remS_f (w := 1) (by omega), remS_f (w := 2) (by omega), remS_f (w := 3) (by omega), remS_f (w := 4) (by omega), remS_f (w := 5) (by omega)]
    by_cases h1 : p ≤ i ∧ i + 1 < nn S
    · simp only [h1]
      exact hW.2.2.2.2.2 (i + 1) (by omega)
    · simp only [h1, if_false]
      exact hW.2.2.2.2.2 i (by omega)
theorem wf_swp (hW : WF S) {a b : Nat} (ha : a < nn S) (hb : b < nn S) : WF (swpS S a b) := by
  have hnn : nn (swpS S a b) = nn S := by unfold nn; rw [swpS_l (by omega)]
  refine wf_mk hW (by rw [swpS_l (by omega)]; exact hW.1) (fun k h1 h2 => swpS_l (by omega)) (fun k => ?_) (fun i hi => ?_)
  · have r0 := hW.rg k
    have r2 := hW.rg (32 + 6 * b + (k - 32) % 6)
    have r3 := hW.rg (32 + 6 * a + (k - 32) % 6)
    unfold swpS
    repeat' split
    all_goals omega
  · rw [hnn] at hi
    unfold kd tg on tw nb bu
    rw [swpS_f0, swpS_f (w := 1) (by omega), swpS_f (w := 2) (by omega), swpS_f (w := 3) (by omega), swpS_f (w := 4) (by omega), swpS_f (w := 5) (by omega)]
    by_cases h1 : i = a
    · simp only [h1, if_true]
      exact hW.2.2.2.2.2 b hb
    · simp only [h1, if_false]
      by_cases h2 : i = b
      · simp only [h2, if_true]
        exact hW.2.2.2.2.2 a ha
      · simp only [h2, if_false]
        exact hW.2.2.2.2.2 i hi
theorem pckS_n (p : Nat → Int) : nn (pckS S p) = nn S := by
  unfold nn
  rw [pckS_l (by omega)]
theorem wf_pck (hW : WF S) {p : Nat → Int} (hp : ∀ k, k < nn S → -1 ≤ p k ∧ p k ≤ 199) : WF (pckS S p) := by
  have hnn := pckS_n (S := S) p
  refine wf_mk hW (by rw [pckS_l (by omega)]; exact hW.1) (fun k h1 h2 => pckS_l (by omega)) (fun k => ?_) (fun i hi => ?_)
  · have r0 := hW.rg k
    unfold pckS
    split
    · exact r0
    · split
      · next h => have := hp _ h.2; omega
      · exact r0
  · rw [hnn] at hi
    have h9 := hp i hi
    unfold kd tg on tw nb bu
    rw [pckS_f0, pckS_f (w := 1) (by omega), pckS_f (w := 2) (by omega), pckS_f (w := 3) (by omega), pckS_f (w := 4) (by omega), pckS_f (w := 5) (by omega)]
    simp only [hi, and_true, show ¬ (1 = 5) by omega, show ¬ (2 = 5) by omega, show ¬ (3 = 5) by omega, show ¬ (4 = 5) by omega, if_false, if_true]
    have h8 := hW.2.2.2.2.2 i hi
    unfold kd tg on tw nb bu at h8
    omega
/-- one number set -/
theorem wf_set (hW : WF S) {k : Nat} {v : Int} (hk : (k = 1 ∧ 0 ≤ v ∧ v ≤ 3) ∨ (2 ≤ k ∧ k < 5 ∧ 1 ≤ v ∧ v ≤ 4) ∨ (5 ≤ k ∧ k < 8 ∧ 1 ≤ v ∧ v ≤ 6) ∨ (8 ≤ k ∧ k < 32 ∧ -2147483648 ≤ v ∧ v < 2147483648) ∨ (∃ i, k = 32 + 6 * i + 5 ∧ -1 ≤ v ∧ v ≤ 199)) : WF (updI S k v) := by
  have hk0 : k ≠ 0 := by
    rcases hk with h | h | h | h | ⟨i, h, _⟩ <;> omega
  have hnn : nn (updI S k v) = nn S := by
    unfold nn updI
    rw [if_neg (by omega)]
  refine ⟨?_, ?_, fun u hu => ?_, fun u hu => ?_, fun j => ?_, fun i hi => ?_⟩
  · unfold updI
    rw [if_neg (by omega)]
    exact hW.1
  · have := hW.dl
    unfold updI
    split
    · rcases hk with h | h | h | h | ⟨i, h, _⟩ <;> omega
    · exact this
  · have := hW.sl u hu
    unfold updI
    split
    · rcases hk with h | h | h | h | ⟨i, h, _⟩ <;> omega
    · exact this
  · have := hW.lt u hu
    unfold updI
    split
    · rcases hk with h | h | h | h | ⟨i, h, _⟩ <;> omega
    · exact this
  · have := hW.rg j
    unfold updI
    split
    · rcases hk with h | h | h | h | ⟨i, h, _⟩ <;> omega
    · exact this
  · rw [hnn] at hi
    have h8 := hW.2.2.2.2.2 i hi
    have hne : ∀ w, w < 5 → ¬ 32 + 6 * i + w = k := by
      intro w hw hq
      rcases hk with h | h | h | h | ⟨i', h, _⟩ <;> omega
    unfold kd tg on tw nb bu at h8 ⊢
    unfold updI
    have n0 := hne 0 (by omega)
    rw [Nat.add_zero] at n0
    rw [if_neg n0, if_neg (hne 1 (by omega)), if_neg (hne 2 (by omega)), if_neg (hne 3 (by omega)), if_neg (hne 4 (by omega))]
    refine ⟨h8.1, h8.2.1, h8.2.2.1, h8.2.2.2.1, h8.2.2.2.2.1, ?_⟩
    split
    · rcases hk with h | h | h | h | ⟨i', h, _⟩ <;> omega
    · exact h8.2.2.2.2.2
end OPS

