/-! the reference's small questions, answered in numbers -/
def b2 (b : Bool) : Int32 := if b = true then ic 1 else ic 0
theorem b2_0 {b : Bool} : (b2 b = ic 0) = (b = false) := by
  unfold b2
  cases b
  · simp
  · simp only [if_pos, eq_iff_iff]
    rw [ic_eq (by omega)]
    simp
theorem b2_t : b2 true = ic 1 := rfl
theorem b2_f : b2 false = ic 0 := rfl
theorem zret_b2 (b : Bool) (μ : Mem) : zret (b2 b) μ = some (b2 b, μ) := by
  cases b
  · exact zret0 μ
  · exact zret1 μ
theorem bd_ite {β γ : Type} (c : Prop) [h : Decidable c] (a b : Option (β × Mem)) (f : β → Mem → Option γ) : bd (if c then a else b) f = if c then bd a f else bd b f := by
  split <;> rfl
theorem wrt_self (S : Nat → Int) (r : Int) (a : Nat) : ∀ b, b ≤ a → wrt S r a b = false
  | 0, _ => rfl
  | b + 1, h => by
    rw [wrt, wrt_self S r a b (by omega)]
    simp
    omega
def MS (S : Nat → Int) (μ : Mem) : Prop := ∀ k, k < 152 → μ 1 k = ic (S k)
theorem MS.of {S : Nat → Int} {μ μ' : Mem} (h : MS S μ) (he : μ' 1 = μ 1) : MS S μ' := fun k hk => (congrFun he k).trans (h k hk)
section RF
variable {S : Nat → Int} {μ : Mem} {i j : Nat}
theorem ms_ld (h : MS S μ) (k : Nat) {i : Int} (hk : i = k) (hb : k < 152) : ld 152 (μ 1) (ic i) = some (ic (S k)) := by
  rw [ld_k k hk ⟨hb, by omega⟩, h k hb]
theorem ms_n (h : MS S μ) (hW : WF S) : ld 152 (μ 1) (ic 0) = some (ic (nn S)) := by
  rw [ms_ld h 0 (i := 0) rfl (by omega), hW.nz]
theorem r_its0 (h : MS S μ) (hi : i < 20) : fX9_its μ (ic i) (ic 0) = some (ic (kd S i), μ) := by
  simp only [fX9_its, ic_lit, ic_mul, ic_add]
  rw [ms_ld h (32 + 6 * i) (by omega) (by omega)]
  rfl
theorem r_its1 (h : MS S μ) (hi : i < 20) : fX9_its μ (ic i) (ic 1) = some (ic (tg S i), μ) := by
  simp only [fX9_its, ic_lit, ic_mul, ic_add]
  rw [ms_ld h (32 + 6 * i + 1) (by omega) (by omega)]
  rfl
theorem r_its2 (h : MS S μ) (hi : i < 20) : fX9_its μ (ic i) (ic 2) = some (ic (on S i), μ) := by
  simp only [fX9_its, ic_lit, ic_mul, ic_add]
  rw [ms_ld h (32 + 6 * i + 2) (by omega) (by omega)]
  rfl
theorem r_its3 (h : MS S μ) (hi : i < 20) : fX9_its μ (ic i) (ic 3) = some (ic (tw S i), μ) := by
  simp only [fX9_its, ic_lit, ic_mul, ic_add]
  rw [ms_ld h (32 + 6 * i + 3) (by omega) (by omega)]
  rfl
theorem r_its4 (h : MS S μ) (hi : i < 20) : fX9_its μ (ic i) (ic 4) = some (ic (nb S i), μ) := by
  simp only [fX9_its, ic_lit, ic_mul, ic_add]
  rw [ms_ld h (32 + 6 * i + 4) (by omega) (by omega)]
  rfl
theorem r_its5 (h : MS S μ) (hi : i < 20) : fX9_its μ (ic i) (ic 5) = some (ic (bu S i), μ) := by
  simp only [fX9_its, ic_lit, ic_mul, ic_add]
  rw [ms_ld h (32 + 6 * i + 5) (by omega) (by omega)]
  rfl
theorem r_greater {a b : Int} (h : (-2147483648 ≤ a ∧ a < 2147483648) ∧ -2147483648 ≤ b ∧ b < 2147483648) : fX9_greater μ (ic a) (ic b) = some (ic (max a b), μ) := by
  simp (disch := omega) only [fX9_greater, ic_le, ic_lt]
  split <;> (congr 3; omega)
theorem r_unit (h : MS S μ) (hW : WF S) (hi : i < nn S) : fX9_unit μ (ic i) = some (ic (un S i), μ) := by
  have hn := hW.n
  have hk := hW.kd hi
  simp (disch := omega) only [fX9_unit, fX9_unitOf, ic_lit, r_its0 h, bd_some, ic_eq, ic_lt, bd_ite]
  unfold un
  split
  · rfl
  · split <;> rfl
theorem r_latency (h : MS S μ) (hW : WF S) (hi : i < nn S) : fX9_latency μ (ic i) = some (ic (la S i), μ) := by
  have hn := hW.n
  have hk := hW.kd hi
  have hu := un_lt S i
  simp (disch := omega) only [fX9_latency, ic_lit, r_its0 h, bd_some, ic_eq, r_unit h hW hi, ic_add]
  unfold la
  split
  · rfl
  · rw [ms_ld h (5 + un S i) (by omega) (by omega)]
    rfl
theorem r_reads (h : MS S μ) (hW : WF S) (hi : i < nn S) : fX9_reads μ (ic i) = some (rd S i, μ) := by
  have hn := hW.n
  have hk := hW.kd hi
  simp (disch := omega) only [fX9_reads, ic_lit, r_its0 h, r_its2 h, r_its3 h, bd_some, ic_eq]
  unfold rd
  simp only [ic_lit]
  split
  · rfl
  · split <;> rfl
theorem r_writes (h : MS S μ) (hW : WF S) (hi : i < nn S) : fX9_writes μ (ic i) = some (ic (wr S i), μ) := by
  have hn := hW.n
  have hk := hW.kd hi
  simp (disch := omega) only [fX9_writes, ic_lit, r_its0 h, r_its1 h, bd_some, ic_eq, ic_neg]
  unfold wr
  split <;> rfl
theorem r_isRead (h : MS S μ) (hW : WF S) (hi : i < nn S) {r : Int} (hr : -1 ≤ r ∧ r ≤ 11) : fX9_isRead μ (ic i) (ic r) = some (b2 (decide (r ≠ -1) && bit (rd S i) (ic r)), μ) := by
  simp (disch := omega) only [fX9_isRead, ic_lit, ic_eq, ic_neg, r_reads h hW hi, bd_some]
  unfold bit
  simp only [ic_lit]
  by_cases h1 : r = -1
  · simp [h1, b2]
  · rw [if_neg h1]
    split <;> rename_i h2 <;> simp [h1, h2, b2]
theorem r_isWritten (h : MS S μ) (hW : WF S) {r : Int} (hr : -1 ≤ r ∧ r ≤ 11) {a b : Nat} (hab : a ≤ b) (hb : b ≤ nn S) : fX9_isWritten μ (ic r) (ic a) (ic b) = some (b2 (wrt S r a b), μ) := by
  have hn := hW.n
  unfold fX9_isWritten
  have key := loop_eq (fun f (s : Int32 × Int32) => fX9_isWritten_L6 f (ic r) (ic b) s.1 s.2 μ) a b (fun k => (b2 (wrt S r a k), ic k)) (some (b2 (wrt S r a b), μ)) hab ?_ ?_ fu (fu_lt (by omega))
  · rw [wrt_self S r a a (Nat.le_refl _)] at key
    exact key
  · intro f k h1 hk
    have hr2 := wr_rg hW (i := k) (by omega)
    simp (disch := omega) only [fX9_isWritten_L6, ic_le, b2_0, r_writes h hW, bd_some, ic_eq, fX9_isWritten_L27, fX9_isWritten_L32, ic_lit, ic_add]
    rw [if_neg (by omega), wrt]
    by_cases h2 : wrt S r a k = false <;> by_cases h3 : wr S k = r <;> simp [h2, h3, h1, b2]
  · intro f
    simp (disch := omega) only [fX9_isWritten_L6, ic_le]
    rw [if_pos (by omega), zret_b2]
end RF
