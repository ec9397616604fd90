/-! A STATE AS NUMBERS, laid as the reference lays it: S 0 steps, 1 delay, 2.. slots, 5.. latencies, 8.. values, 32 + 6 i .. the step i -/
def kd (S : Nat → Int) (i : Nat) : Int := S (32 + 6 * i)
def tg (S : Nat → Int) (i : Nat) : Int := S (32 + 6 * i + 1)
def on (S : Nat → Int) (i : Nat) : Int := S (32 + 6 * i + 2)
def tw (S : Nat → Int) (i : Nat) : Int := S (32 + 6 * i + 3)
def nb (S : Nat → Int) (i : Nat) : Int := S (32 + 6 * i + 4)
def bu (S : Nat → Int) (i : Nat) : Int := S (32 + 6 * i + 5)
def nn (S : Nat → Int) : Nat := (S 0).toNat
def un (S : Nat → Int) (i : Nat) : Nat := if kd S i = 3 then 1 else if kd S i < 5 then 0 else 2
def la (S : Nat → Int) (i : Nat) : Int := if kd S i = 6 then 1 else S (5 + un S i)
def rd (S : Nat → Int) (i : Nat) : Int32 := if kd S i = 0 then 0 else if kd S i = 5 then 1 <<< (ic (on S i) &&& 31) else (1 <<< (ic (on S i) &&& 31)) ||| (1 <<< (ic (tw S i) &&& 31))
def wr (S : Nat → Int) (i : Nat) : Int := if kd S i = 6 then -1 else tg S i
def bit (m r : Int32) : Bool := decide ((m >>> (r &&& 31)) &&& 1 = 1)
/-- one of the steps from a up to ahead of b writes r -/
def wrt (S : Nat → Int) (r : Int) (a : Nat) : Nat → Bool
  | 0 => false
  | b + 1 => wrt S r a b || (decide (a ≤ b) && decide (wr S b = r))
def isc (S : Nat → Int) (i : Nat) : Bool := decide (5 ≤ kd S i)
def meet (S : Nat → Int) (i j : Nat) : Bool := isc S i && (isc S j && (decide (kd S i = 6) || decide (kd S j = 6)))
def aprt (S : Nat → Int) (i j : Nat) : Bool := decide (on S i = on S j) && (!wrt S (on S i) i j && decide (nb S i % 12 ≠ nb S j % 12))
def back (S : Nat → Int) (i j : Nat) : Int :=
  if wr S j = -1 then -99 else
  let g : Int := if bit (rd S i) (ic (wr S j)) then 1 - la S j else -99
  if wr S i = wr S j then max g (la S i + 1 - la S j) else g
def hand (S : Nat → Int) (i j : Nat) : Bool := decide (wr S i ≠ -1) && bit (rd S j) (ic (wr S i))
def near (S : Nat → Int) (i j : Nat) : Int :=
  let g := back S i j
  let g := if hand S i j && !wrt S (wr S i) (i + 1) j then max g (la S i) else g
  if meet S i j && !aprt S i j then max g (if kd S i = 5 then 0 else 1) else g
def over (S : Nat → Int) (i j : Nat) : Int :=
  let g := back S i j
  let g := if hand S i j && (!wrt S (wr S i) (i + 1) (nn S) && !wrt S (wr S i) 0 j) then max g (la S i) else g
  if meet S i j then max g (if kd S i = 5 then 0 else 1) else g
def nearT (S : Nat → Int) (i j : Nat) : Int := if i < j then near S i j else -99
def WF (S : Nat → Int) : Prop := (0 ≤ S 0 ∧ S 0 ≤ 20) ∧ (0 ≤ S 1 ∧ S 1 ≤ 3) ∧ (∀ u, u < 3 → 1 ≤ S (2 + u) ∧ S (2 + u) ≤ 4) ∧ (∀ u, u < 3 → 1 ≤ S (5 + u) ∧ S (5 + u) ≤ 6) ∧
  (∀ k, -2147483648 ≤ S k ∧ S k < 2147483648) ∧
  ∀ i, i < nn S → (0 ≤ kd S i ∧ kd S i ≤ 6) ∧ (0 ≤ tg S i ∧ tg S i ≤ 11) ∧ (0 ≤ on S i ∧ on S i ≤ 11) ∧ (0 ≤ tw S i ∧ tw S i ≤ 11) ∧ (-99 ≤ nb S i ∧ nb S i ≤ 99) ∧ (-1 ≤ bu S i ∧ bu S i ≤ 199)
section WFS
variable {S : Nat → Int}
theorem WF.n (h : WF S) : nn S ≤ 20 ∧ S 0 = nn S := by
  have h := h.1
  unfold nn
  omega
theorem WF.nz (h : WF S) : (S 0 : Int) = (nn S : Int) := h.n.2
theorem WF.dl (h : WF S) : 0 ≤ S 1 ∧ S 1 ≤ 3 := h.2.1
theorem WF.sl (h : WF S) (u : Nat) (hu : u < 3) : 1 ≤ S (2 + u) ∧ S (2 + u) ≤ 4 := h.2.2.1 u hu
theorem WF.lt (h : WF S) (u : Nat) (hu : u < 3) : 1 ≤ S (5 + u) ∧ S (5 + u) ≤ 6 := h.2.2.2.1 u hu
theorem WF.rg (h : WF S) (k : Nat) : -2147483648 ≤ S k ∧ S k < 2147483648 := h.2.2.2.2.1 k
theorem WF.kd (h : WF S) {i : Nat} (hi : i < nn S) : 0 ≤ kd S i ∧ kd S i ≤ 6 := (h.2.2.2.2.2 i hi).1
theorem WF.tg (h : WF S) {i : Nat} (hi : i < nn S) : 0 ≤ tg S i ∧ tg S i ≤ 11 := (h.2.2.2.2.2 i hi).2.1
theorem WF.on (h : WF S) {i : Nat} (hi : i < nn S) : 0 ≤ on S i ∧ on S i ≤ 11 := (h.2.2.2.2.2 i hi).2.2.1
theorem WF.tw (h : WF S) {i : Nat} (hi : i < nn S) : 0 ≤ tw S i ∧ tw S i ≤ 11 := (h.2.2.2.2.2 i hi).2.2.2.1
theorem WF.nb (h : WF S) {i : Nat} (hi : i < nn S) : -99 ≤ nb S i ∧ nb S i ≤ 99 := (h.2.2.2.2.2 i hi).2.2.2.2.1
theorem WF.bu (h : WF S) {i : Nat} (hi : i < nn S) : -1 ≤ bu S i ∧ bu S i ≤ 199 := (h.2.2.2.2.2 i hi).2.2.2.2.2
theorem un_lt (S : Nat → Int) (i : Nat) : un S i < 3 := by
  unfold un
  split
  · omega
  · split <;> omega
theorem la_rg (h : WF S) (i : Nat) : 1 ≤ la S i ∧ la S i ≤ 6 := by
  unfold la
  split
  · omega
  · exact h.lt _ (un_lt S i)
theorem wr_rg (h : WF S) {i : Nat} (hi : i < nn S) : -1 ≤ wr S i ∧ wr S i ≤ 11 := by
  have := h.tg hi
  unfold wr
  split <;> omega
theorem back_rg (h : WF S) (i j : Nat) : -99 ≤ back S i j ∧ back S i j ≤ 6 := by
  have h1 := la_rg h i
  have h2 := la_rg h j
  unfold back
  dsimp only
  repeat' split
  all_goals omega
theorem near_rg (h : WF S) (i j : Nat) : -99 ≤ near S i j ∧ near S i j ≤ 6 := by
  have h1 := la_rg h i
  have h2 := back_rg h i j
  unfold near
  dsimp only
  repeat' split
  all_goals omega
theorem over_rg (h : WF S) (i j : Nat) : -99 ≤ over S i j ∧ over S i j ≤ 6 := by
  have h1 := la_rg h i
  have h2 := back_rg h i j
  unfold over
  dsimp only
  repeat' split
  all_goals omega
theorem nearT_rg (h : WF S) (i j : Nat) : -99 ≤ nearT S i j ∧ nearT S i j ≤ 6 := by
  have h1 := near_rg h i j
  unfold nearT
  split <;> omega
end WFS
/-! heights, earliest bundles -/
def hacc (S : Nat → Int) (h : Nat → Int) (i : Nat) : Nat → Int
  | 0 => la S i
  | j + 1 => if j ≤ i then la S i else if nearT S i j = -99 then hacc S h i j else max (hacc S h i j) (nearT S i j + h j)
def hts (S : Nat → Int) : Nat → Nat → Int
  | 0 => fun _ => 0
  | k + 1 => fun i => if i = nn S - 1 - k then hacc S (hts S k) i (nn S) else hts S k i
def hgt (S : Nat → Int) : Nat → Int := hts S (nn S)
def eacc (S : Nat → Int) (e : Nat → Int) (j : Nat) : Nat → Int
  | 0 => 0
  | i + 1 => if nearT S i j = -99 then eacc S e j i else max (eacc S e j i) (e i + nearT S i j)
def ets (S : Nat → Int) : Nat → Nat → Int
  | 0 => fun _ => 0
  | k + 1 => fun j => if j = k then eacc S (ets S k) k k else ets S k j
def ear (S : Nat → Int) : Nat → Int := ets S (nn S)
def mx0 (f : Nat → Int) : Nat → Int
  | 0 => 0
  | k + 1 => max (mx0 f k) (f k)
theorem mx0_le {f : Nat → Int} {B : Int} (hB : 0 ≤ B) : ∀ n, (∀ k, k < n → f k ≤ B) → 0 ≤ mx0 f n ∧ mx0 f n ≤ B
  | 0, _ => by simp only [mx0]; omega
  | n + 1, h => by
    have h1 := mx0_le hB n fun k hk => h k (by omega)
    have h2 := h n (by omega)
    simp only [mx0]
    omega
section HG
variable {S : Nat → Int}
theorem hacc_rg (h : WF S) {f : Nat → Int} {i : Nat} {B : Int} (hB : 0 ≤ B) (hf : ∀ j, i < j → f j ≤ B) : ∀ j, 1 ≤ hacc S f i j ∧ hacc S f i j ≤ B + 6
  | 0 => by
    have := la_rg h i
    simp only [hacc]
    omega
  | j + 1 => by
    have h1 := la_rg h i
    have h2 := hacc_rg h (i := i) hB hf j
    have h3 := nearT_rg h i j
    simp only [hacc]
    split
    · omega
    · have h4 := hf j (by omega)
      split <;> omega
theorem hacc_self (f : Nat → Int) (i : Nat) : ∀ j, j ≤ i + 1 → hacc S f i j = la S i
  | 0, _ => rfl
  | j + 1, h => by
    simp only [hacc]
    rw [if_pos (by omega)]
theorem hts_rg (h : WF S) : ∀ k i, 0 ≤ hts S k i ∧ hts S k i ≤ 6 * (k : Int)
  | 0, i => by simp [hts]
  | k + 1, i => by
    simp only [hts]
    split
    · have := hacc_rg h (f := hts S k) (i := i) (B := 6 * k) (by omega) (fun j _ => (hts_rg h k j).2) (nn S)
      omega
    · have := hts_rg h k i
      omega
theorem hgt_rg (h : WF S) (i : Nat) : 0 ≤ hgt S i ∧ hgt S i ≤ 120 := by
  have h1 := hts_rg h (nn S) i
  have h2 := h.n
  unfold hgt
  omega
theorem eacc_rg (h : WF S) {f : Nat → Int} {j : Nat} {B : Int} (hB : 0 ≤ B) (hf : ∀ i, i < j → f i ≤ B) : ∀ i, i ≤ j → 0 ≤ eacc S f j i ∧ eacc S f j i ≤ B + 6
  | 0, _ => by
    simp only [eacc]
    omega
  | i + 1, hi => by
    have h2 := eacc_rg h (j := j) hB hf i (by omega)
    have h3 := nearT_rg h i j
    simp only [eacc]
    have h4 := hf i (by omega)
    split <;> omega
theorem ets_rg (h : WF S) : ∀ k i, 0 ≤ ets S k i ∧ ets S k i ≤ 6 * (k : Int)
  | 0, i => by simp [ets]
  | k + 1, i => by
    simp only [ets]
    split
    · have := eacc_rg h (f := ets S k) (j := k) (B := 6 * k) (by omega) (fun j _ => (ets_rg h k j).2) k (Nat.le_refl _)
      omega
    · have := ets_rg h k i
      omega
theorem ear_rg (h : WF S) (i : Nat) : 0 ≤ ear S i ∧ ear S i ≤ 120 := by
  have h1 := ets_rg h (nn S) i
  have h2 := h.n
  unfold ear
  omega
end HG

