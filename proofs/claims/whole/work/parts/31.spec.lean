/-! A STATE AS NUMBERS, laid as the reference lays it: S 0 steps, 1 delay, 2.. slots, 5.. latencies, 8.. values, 32 + 6 i .. the step i -/
def kd (S : Nat → Int) (i : Nat) : Int := S (32 + 6 * i)
def tg (S : Nat → Int) (i : Nat) : Int := S (32 + 6 * i + 1)
def on (S : Nat → Int) (i : Nat) : Int := S (32 + 6 * i + 2)
def tw (S : Nat → Int) (i : Nat) : Int := S (32 + 6 * i + 3)
def nb (S : Nat → Int) (i : Nat) : Int := S (32 + 6 * i + 4)
def bu (S : Nat → Int) (i : Nat) : Int := S (32 + 6 * i + 5)
def nn (S : Nat → Int) : Nat := (S 0).toNat
def un (S : Nat → Int) (i : Nat) : Nat := if kd S i = 3 then 1 else if kd S i < 5 then 0 else 2
def la (S : Nat → Int) (i : Nat) : Int := if kd S i = 6 then 1 else S (5 + un S i)
def rd (S : Nat → Int) (i : Nat) : Int32 := if kd S i = 0 then 0 else if kd S i = 5 then 1 <<< (ic (on S i) &&& 31) else (1 <<< (ic (on S i) &&& 31)) ||| (1 <<< (ic (tw S i) &&& 31))
def wr (S : Nat → Int) (i : Nat) : Int := if kd S i = 6 then -1 else tg S i
def bit (m r : Int32) : Bool := decide ((m >>> (r &&& 31)) &&& 1 = 1)
/-- one of the steps from a up to ahead of b writes r -/
def wrt (S : Nat → Int) (r : Int) (a : Nat) : Nat → Bool
  | 0 => false
  | b + 1 => wrt S r a b || (decide (a ≤ b) && decide (wr S b = r))
def isc (S : Nat → Int) (i : Nat) : Bool := decide (5 ≤ kd S i)
def meet (S : Nat → Int) (i j : Nat) : Bool := isc S i && (isc S j && (decide (kd S i = 6) || decide (kd S j = 6)))
def aprt (S : Nat → Int) (i j : Nat) : Bool := decide (on S i = on S j) && (!wrt S (on S i) i j && decide (nb S i % 12 ≠ nb S j % 12))
def back (S : Nat → Int) (i j : Nat) : Int :=
  if wr S j = -1 then -99 else
  let g : Int := if bit (rd S i) (ic (wr S j)) then 1 - la S j else -99
  if wr S i = wr S j then max g (la S i + 1 - la S j) else g
def hand (S : Nat → Int) (i j : Nat) : Bool := decide (wr S i ≠ -1) && bit (rd S j) (ic (wr S i))
def near (S : Nat → Int) (i j : Nat) : Int :=
  let g := back S i j
  let g := if hand S i j && !wrt S (wr S i) (i + 1) j then max g (la S i) else g
  if meet S i j && !aprt S i j then max g (if kd S i = 5 then 0 else 1) else g
def over (S : Nat → Int) (i j : Nat) : Int :=
  let g := back S i j
  let g := if hand S i j && (!wrt S (wr S i) (i + 1) (nn S) && !wrt S (wr S i) 0 j) then max g (la S i) else g
  if meet S i j then max g (if kd S i = 5 then 0 else 1) else g
def nearT (S : Nat → Int) (i j : Nat) : Int := if i < j then near S i j else -99
def WF (S : Nat → Int) : Prop := (0 ≤ S 0 ∧ S 0 ≤ 20) ∧ (0 ≤ S 1 ∧ S 1 ≤ 3) ∧ (∀ u, u < 3 → 1 ≤ S (2 + u) ∧ S (2 + u) ≤ 4) ∧ (∀ u, u < 3 → 1 ≤ S (5 + u) ∧ S (5 + u) ≤ 6) ∧
  (∀ k, -2147483648 ≤ S k ∧ S k < 2147483648) ∧
  ∀ i, i < nn S → (0 ≤ kd S i ∧ kd S i ≤ 6) ∧ (0 ≤ tg S i ∧ tg S i ≤ 11) ∧ (0 ≤ on S i ∧ on S i ≤ 11) ∧ (0 ≤ tw S i ∧ tw S i ≤ 11) ∧ (-99 ≤ nb S i ∧ nb S i ≤ 99) ∧ (-1 ≤ bu S i ∧ bu S i ≤ 199)
section WFS
variable {S : Nat → Int}
theorem WF.n (h : WF S) : nn S ≤ 20 ∧ S 0 = nn S := by
  have h := h.1
  unfold nn
  omega
theorem WF.nz (h : WF S) : (S 0 : Int) = (nn S : Int) := h.n.2
theorem WF.dl (h : WF S) : 0 ≤ S 1 ∧ S 1 ≤ 3 := h.2.1
theorem WF.sl (h : WF S) (u : Nat) (hu : u < 3) : 1 ≤ S (2 + u) ∧ S (2 + u) ≤ 4 := h.2.2.1 u hu
theorem WF.lt (h : WF S) (u : Nat) (hu : u < 3) : 1 ≤ S (5 + u) ∧ S (5 + u) ≤ 6 := h.2.2.2.1 u hu
theorem WF.rg (h : WF S) (k : Nat) : -2147483648 ≤ S k ∧ S k < 2147483648 := h.2.2.2.2.1 k
theorem WF.kd (h : WF S) {i : Nat} (hi : i < nn S) : 0 ≤ kd S i ∧ kd S i ≤ 6 := (h.2.2.2.2.2 i hi).1
theorem WF.tg (h : WF S) {i : Nat} (hi : i < nn S) : 0 ≤ tg S i ∧ tg S i ≤ 11 := (h.2.2.2.2.2 i hi).2.1
theorem WF.on (h : WF S) {i : Nat} (hi : i < nn S) : 0 ≤ on S i ∧ on S i ≤ 11 := (h.2.2.2.2.2 i hi).2.2.1
theorem WF.tw (h : WF S) {i : Nat} (hi : i < nn S) : 0 ≤ tw S i ∧ tw S i ≤ 11 := (h.2.2.2.2.2 i hi).2.2.2.1
theorem WF.nb (h : WF S) {i : Nat} (hi : i < nn S) : -99 ≤ nb S i ∧ nb S i ≤ 99 := (h.2.2.2.2.2 i hi).2.2.2.2.1
theorem WF.bu (h : WF S) {i : Nat} (hi : i < nn S) : -1 ≤ bu S i ∧ bu S i ≤ 199 := (h.2.2.2.2.2 i hi).2.2.2.2.2
theorem un_lt (S : Nat → Int) (i : Nat) : un S i < 3 := by
  unfold un
  split
  · omega
  · split <;> omega
theorem la_rg (h : WF S) (i : Nat) : 1 ≤ la S i ∧ la S i ≤ 6 := by
  unfold la
  split
  · omega
  · exact h.lt _ (un_lt S i)
theorem wr_rg (h : WF S) {i : Nat} (hi : i < nn S) : -1 ≤ wr S i ∧ wr S i ≤ 11 := by
  have := h.tg hi
  unfold wr
  split <;> omega
theorem back_rg (h : WF S) (i j : Nat) : -99 ≤ back S i j ∧ back S i j ≤ 6 := by
  have h1 := la_rg h i
  have h2 := la_rg h j
  unfold back
  dsimp only
  repeat' split
  all_goals omega
theorem near_rg (h : WF S) (i j : Nat) : -99 ≤ near S i j ∧ near S i j ≤ 6 := by
  have h1 := la_rg h i
  have h2 := back_rg h i j
  unfold near
  dsimp only
  repeat' split
  all_goals omega
theorem over_rg (h : WF S) (i j : Nat) : -99 ≤ over S i j ∧ over S i j ≤ 6 := by
  have h1 := la_rg h i
  have h2 := back_rg h i j
  unfold over
  dsimp only
  repeat' split
  all_goals omega
theorem nearT_rg (h : WF S) (i j : Nat) : -99 ≤ nearT S i j ∧ nearT S i j ≤ 6 := by
  have h1 := near_rg h i j
  unfold nearT
  split <;> omega
end WFS
