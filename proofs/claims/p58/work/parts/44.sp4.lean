/-! longs; values of registers and cells -/
def jc (n : Int) : Int64 := Int64.ofInt n
theorem jc_toInt {n : Int} (h : -9223372036854775808 ≤ n ∧ n < 9223372036854775808) : (jc n).toInt = n := Int64.toInt_ofInt_of_le (by omega) (by omega)
theorem jc_add (a b : Int) : jc a + jc b = jc (a + b) := (Int64.ofInt_add a b).symm
theorem jc_sub (a b : Int) : jc a - jc b = jc (a - b) := (Int64.ofInt_sub a b).symm
theorem jc_mul (a b : Int) : jc a * jc b = jc (a * b) := (Int64.ofInt_mul a b).symm
theorem jc_lit (n : Nat) : (OfNat.ofNat n : Int64) = jc (OfNat.ofNat n : Int) := (Int64.ofInt_eq_ofNat (n := n)).symm
theorem jc_of (x : Int32) : Int32.toInt64 x = jc x.toInt := (Int64.ofInt_int32ToInt x).symm
theorem jc_ic {n : Int} (h : -2147483648 ≤ n ∧ n < 2147483648) : Int32.toInt64 (ic n) = jc n := by
  rw [jc_of, ic_toInt h]
theorem jc_to32 (n : Int) : Int64.toInt32 (jc n) = ic n := Int64.toInt32_ofInt
theorem lrmd_jc {a : Int} (h : -1000000000000 ≤ a ∧ a ≤ 1000000000000) : lrmd (jc a) (jc 12) = some (jc (a.tmod 12)) := by
  unfold lrmd
  have h0 : ¬ (jc 12 = 0) := by decide
  rw [if_neg h0]
  have hd : jc a / jc 12 = jc (a.tdiv 12) := by
    unfold jc
    rw [← Int64.ofInt_tdiv (by show -9223372036854775808 ≤ a; omega) (by show a ≤ 9223372036854775807; omega) (by decide) (by decide)]
  rw [hd, jc_mul, jc_sub]
  congr 2
  have := Int.tmod_add_tdiv_mul a 12
  omega
theorem lg_nn (x : Int64) : (0 ≤ lg_cmp x 0) = (0 ≤ x.toInt) := by
  have h1 : (x > 0) = (0 < x.toInt) := by
    rw [eq_iff_iff]
    exact Int64.lt_iff_toInt_lt
  have h2 : (x = 0) = (x.toInt = 0) := by
    rw [eq_iff_iff]
    exact ⟨fun q => by rw [q]; rfl, fun q => Int64.toInt_inj.mp (by rw [q]; rfl)⟩
  unfold lg_cmp
  simp only [h1, h2]
  by_cases c1 : 0 < x.toInt
  · rw [if_pos c1]
    simp only [eq_iff_iff]
    exact ⟨fun _ => by omega, fun _ => by decide⟩
  · rw [if_neg c1]
    by_cases c2 : x.toInt = 0
    · rw [if_pos c2]
      simp only [eq_iff_iff]
      exact ⟨fun _ => by omega, fun _ => by decide⟩
    · rw [if_neg c2]
      simp only [eq_iff_iff]
      exact ⟨fun q => absurd q (by decide), fun q => by omega⟩
theorem lg_z (x : Int64) : (lg_cmp x 0 = 0) = (x.toInt = 0) := by
  have h1 : (x > 0) = (0 < x.toInt) := by
    rw [eq_iff_iff]
    exact Int64.lt_iff_toInt_lt
  have h2 : (x = 0) = (x.toInt = 0) := by
    rw [eq_iff_iff]
    exact ⟨fun q => by rw [q]; rfl, fun q => Int64.toInt_inj.mp (by rw [q]; rfl)⟩
  unfold lg_cmp
  simp only [h1, h2]
  by_cases c1 : 0 < x.toInt
  · rw [if_pos c1]
    simp only [eq_iff_iff]
    exact ⟨fun q => absurd q (by decide), fun _ => by omega⟩
  · rw [if_neg c1]
    by_cases c2 : x.toInt = 0
    · rw [if_pos c2]
      simp only [eq_iff_iff]
      exact ⟨fun _ => by omega, fun _ => by trivial⟩
    · rw [if_neg c2]
      simp only [eq_iff_iff]
      exact ⟨fun q => absurd q (by decide), fun q => by omega⟩
theorem xor12 {a : Int} (h : -1000000000000 ≤ a ∧ a ≤ 1000000000000) : (0 ≤ (jc a ^^^ jc 12).toInt) = (0 ≤ a) := by
  have h1 : ∀ x : Int64, (0 ≤ x.toInt) = (x.toBitVec.msb = false) := by
    intro x
    rw [BitVec.msb_eq_toInt, eq_iff_iff]
    simp only [decide_eq_false_iff_not, Int64.toInt_toBitVec]
    omega
  have h2 : (0 ≤ a) = ((jc a).toBitVec.msb = false) := by
    rw [← h1, jc_toInt (by omega)]
  rw [h1, h2, Int64.toBitVec_xor, BitVec.msb_xor]
  have : (jc 12).toBitVec.msb = false := by decide
  rw [this]
  simp
theorem floorMod12L {μ : Mem} {a : Int} (h : -1000000000000 ≤ a ∧ a ≤ 1000000000000) : fJ9_floorMod_f86c9 μ (jc a) (jc 12) = some (jc (a % 12), μ) := by
  have h2 := tmod12r a
  have h3 := tmod12 a
  unfold fJ9_floorMod_f86c9
  rw [lrmd_jc h, Option.bind_some]
  simp only [lg_nn, lg_z, xor12 h]
  rw [jc_toInt (by omega), jc_add]
  by_cases h4 : 0 ≤ a
  · rw [if_pos h4, Int.tmod_eq_emod_of_nonneg h4]
  · rw [if_neg h4]
    have h6 : a.tmod 12 ≤ 0 := by
      have := Int.neg_tmod (-a) 12
      rw [Int.neg_neg, Int.tmod_eq_emod_of_nonneg (a := -a) (by omega)] at this
      omega
    by_cases h5 : a.tmod 12 = 0
    · rw [if_pos h5, ← h3, if_pos (by omega)]
    · rw [if_neg h5, ← h3, if_neg (by omega)]
def adr (S : Nat → Int) (V : Nat → Int32) (i : Nat) : Nat := 12 + (((V (on S i).toNat).toInt + nb S i) % 12).toNat
def plc (S : Nat → Int) (V : Nat → Int32) (i : Nat) : Nat := if kd S i = 6 then adr S V i else (tg S i).toNat
def rsl (S : Nat → Int) (V : Nat → Int32) (i : Nat) : Int32 :=
  if kd S i = 0 then ic (nb S i) else if kd S i = 1 then V (on S i).toNat + V (tw S i).toNat else if kd S i = 2 then V (on S i).toNat - V (tw S i).toNat else
  if kd S i = 3 then V (on S i).toNat * V (tw S i).toNat else if kd S i = 4 then jmax (V (on S i).toNat) (V (tw S i).toNat) else if kd S i = 5 then V (adr S V i) else V (tw S i).toNat
theorem adr_lt (S : Nat → Int) (V : Nat → Int32) (i : Nat) : 12 ≤ adr S V i ∧ adr S V i < 24 := by
  unfold adr
  omega
theorem plc_lt {S : Nat → Int} (hW : WF S) (V : Nat → Int32) {i : Nat} (hi : i < nn S) : plc S V i < 24 := by
  have h1 := adr_lt S V i
  have h2 := hW.tg hi
  unfold plc
  split <;> omega
/-- it reads the first 24 values alone -/
theorem adr_congr {S : Nat → Int} (hW : WF S) {V V' : Nat → Int32} (h : ∀ k, k < 24 → V k = V' k) {i : Nat} (hi : i < nn S) : adr S V i = adr S V' i := by
  have h2 := hW.on hi
  unfold adr
  rw [h _ (by omega)]
theorem plc_congr {S : Nat → Int} (hW : WF S) {V V' : Nat → Int32} (h : ∀ k, k < 24 → V k = V' k) {i : Nat} (hi : i < nn S) : plc S V i = plc S V' i := by
  unfold plc
  rw [adr_congr hW h hi]
theorem rsl_congr {S : Nat → Int} (hW : WF S) {V V' : Nat → Int32} (h : ∀ k, k < 24 → V k = V' k) {i : Nat} (hi : i < nn S) : rsl S V i = rsl S V' i := by
  have h2 := hW.on hi
  have h3 := hW.tw hi
  have h4 := adr_lt S V' i
  unfold rsl
  rw [adr_congr hW h hi, h _ (by omega), h (tw S i).toNat (by omega), h _ h4.2]
/-- in order -/
def ordk (S : Nat → Int) : Nat → (Nat → Int32) → Nat → Int32
  | 0, V => V
  | k + 1, V => upd (ordk S k V) (plc S (ordk S k V) k) (rsl S (ordk S k V) k)
def ord (S : Nat → Int) : Nat → (Nat → Int32) → Nat → Int32
  | 0, V => V
  | r + 1, V => ordk S (nn S) (ord S r V)
/-- the round of a step at a time -/
def rnd (past beat rounds : Int) : Int := if past < 0 then -1 else if past % beat = 0 ∧ past / beat < rounds then past / beat else -1
theorem rnd_rg {past beat rounds : Int} (hb : 1 ≤ beat) : -1 ≤ rnd past beat rounds ∧ (rnd past beat rounds ≠ -1 → 0 ≤ rnd past beat rounds ∧ rnd past beat rounds < rounds ∧ rnd past beat rounds * beat = past) := by
  unfold rnd
  split
  · exact ⟨by omega, fun h => absurd rfl h⟩
  · next h1 =>
    have h2 : 0 ≤ past / beat := Int.ediv_nonneg (by omega) (by omega)
    split
    · next h3 =>
      refine ⟨by omega, fun _ => ⟨h2, h3.2, ?_⟩⟩
      have := Int.emod_add_mul_ediv past beat
      rw [h3.1, Int.zero_add, Int.mul_comm] at this
      exact this
    · exact ⟨by omega, fun h => absurd rfl h⟩
def rnp (pk past beat rounds : Int) : Int := if pk = -1 then -1 else rnd past beat rounds
def lnd (S : Nat → Int) (p : Nat → Int) (beat rounds t : Int) (R : Nat → Nat → Int32) (P : Nat → Nat → Nat) (V : Nat → Int32) : Nat → (Nat → Int32) × (Nat → Int)
  | 0 => (V, fun _ => -1)
  | k + 1 =>
    let vw := lnd S p beat rounds t R P V k
    let m := rnp (p k) (t - p k - la S k) beat rounds
    if m = -1 then vw else if vw.2 (P k m.toNat) ≤ m then (upd vw.1 (P k m.toNat) (R k m.toNat), fun q => if q = P k m.toNat then m else vw.2 q) else vw
def upd2 {α : Type} (R : Nat → Nat → α) (k m : Nat) (v : α) : Nat → Nat → α := fun k' m' => if k' = k ∧ m' = m then v else R k' m'
def beg (S : Nat → Int) (p : Nat → Int) (beat rounds t : Int) (V : Nat → Int32) (R : Nat → Nat → Int32) (P : Nat → Nat → Nat) : Nat → (Nat → Nat → Int32) × (Nat → Nat → Nat)
  | 0 => (R, P)
  | k + 1 =>
    let rp := beg S p beat rounds t V R P k
    let m := rnp (p k) (t - p k) beat rounds
    if m = -1 then rp else (upd2 rp.1 k m.toNat (rsl S V k), upd2 rp.2 k m.toNat (plc S V k))
/-- values, results and places at the beginning of a time -/
def tm (S : Nat → Int) (p : Nat → Int) (beat rounds : Int) (V0 : Nat → Int32) : Nat → (Nat → Int32) × (Nat → Nat → Int32) × (Nat → Nat → Nat)
  | 0 => (V0, (fun _ _ => 0), fun _ _ => 0)
  | t + 1 =>
    let s := tm S p beat rounds V0 t
    let V := (lnd S p beat rounds t s.2.1 s.2.2 s.1 (nn S)).1
    (V, beg S p beat rounds t V s.2.1 s.2.2 (nn S))
theorem beg_lt {S : Nat → Int} (hW : WF S) {p : Nat → Int} {beat rounds t : Int} {V : Nat → Int32} {R : Nat → Nat → Int32} {P : Nat → Nat → Nat} (hP : ∀ k m, P k m < 24) : ∀ n, n ≤ nn S → ∀ k m, (beg S p beat rounds t V R P n).2 k m < 24
  | 0, _, k, m => hP k m
  | n + 1, hn, k, m => by
    have ih := beg_lt hW (p := p) (beat := beat) (rounds := rounds) (t := t) (V := V) (R := R) hP n (by omega) k m
    have h1 := plc_lt hW V (i := n) (by omega)
    simp only [beg]
    split
    · exact ih
    · simp only [upd2]
      split
      · exact h1
      · exact ih
theorem tm_lt {S : Nat → Int} (hW : WF S) {p : Nat → Int} {beat rounds : Int} {V0 : Nat → Int32} : ∀ t k m, (tm S p beat rounds V0 t).2.2 k m < 24
  | 0, k, m => by simp only [tm]; omega
  | t + 1, k, m => by
    simp only [tm]
    exact beg_lt hW (tm_lt hW t) (nn S) (Nat.le_refl _) k m
theorem lnd_W {S : Nat → Int} {p : Nat → Int} {beat rounds t : Int} {R : Nat → Nat → Int32} {P : Nat → Nat → Nat} {V : Nat → Int32} (hb : 1 ≤ beat) : ∀ n q, -1 ≤ (lnd S p beat rounds t R P V n).2 q ∧ (lnd S p beat rounds t R P V n).2 q ≤ max (-1) rounds
  | 0, q => by simp only [lnd]; omega
  | n + 1, q => by
    have ih := lnd_W (S := S) (p := p) (rounds := rounds) (t := t) (R := R) (P := P) (V := V) hb n
    have hr := rnd_rg (past := t - p n - la S n) (rounds := rounds) hb
    have ihq := ih q
    simp only [lnd]
    by_cases hm : rnp (p n) (t - p n - la S n) beat rounds = -1
    · rw [if_pos hm]
      exact ihq
    · rw [if_neg hm]
      have e : rnp (p n) (t - p n - la S n) beat rounds = rnd (t - p n - la S n) beat rounds := by
        unfold rnp at hm ⊢
        split
        · next h => rw [if_pos h] at hm; exact absurd rfl hm
        · rfl
      rw [e] at hm ⊢
      have := hr.2 hm
      split
      · dsimp only
        split <;> omega
      · exact ihq
/-- a time at which nothing lands any more -/
theorem lnd_none {S : Nat → Int} {p : Nat → Int} {beat rounds t : Int} {R : Nat → Nat → Int32} {P : Nat → Nat → Nat} {V : Nat → Int32} : ∀ n, (∀ k, k < n → p k ≠ -1 → rnd (t - p k - la S k) beat rounds = -1) → lnd S p beat rounds t R P V n = (V, fun _ => -1)
  | 0, _ => rfl
  | n + 1, h => by
    have ih := lnd_none (S := S) (t := t) (R := R) (P := P) (V := V) n fun k hk => h k (by omega)
    have hn := h n (by omega)
    simp only [lnd]
    rw [ih]
    by_cases hp : p n = -1
    · simp [rnp, hp]
    · simp [rnp, hp, hn hp]
theorem tm_end {S : Nat → Int} {p : Nat → Int} {beat rounds : Int} {V0 : Nat → Int32} {T : Nat} (h : ∀ t : Nat, T ≤ t → ∀ k, k < nn S → p k ≠ -1 → rnd (t - p k - la S k) beat rounds = -1) : ∀ d, (tm S p beat rounds V0 (T + d)).1 = (tm S p beat rounds V0 T).1
  | 0 => rfl
  | d + 1 => by
    have ih := tm_end h (V0 := V0) d
    show (lnd S p beat rounds ((T + d : Nat) : Int) _ _ _ (nn S)).1 = _
    rw [lnd_none (nn S) (h (T + d) (by omega))]
    exact ih

