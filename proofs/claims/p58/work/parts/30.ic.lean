/-! NUMBERS BEHIND THE INTS: ic n is the int of a number; in its range it can be counted with -/
def ic (n : Int) : Int32 := Int32.ofInt n
theorem ic_toInt {n : Int} (h : -2147483648 ≤ n ∧ n < 2147483648) : (ic n).toInt = n := Int32.toInt_ofInt_of_le (by omega) (by omega)
theorem ic_of (x : Int32) : ic x.toInt = x := Int32.ofInt_toInt x
theorem i32_rg (x : Int32) : -2147483648 ≤ x.toInt ∧ x.toInt < 2147483648 := ⟨by have := Int32.le_toInt x; omega, by have := Int32.toInt_lt x; omega⟩
theorem ic_add (a b : Int) : ic a + ic b = ic (a + b) := (Int32.ofInt_add a b).symm
theorem ic_sub (a b : Int) : ic a - ic b = ic (a - b) := (Int32.ofInt_sub a b).symm
theorem ic_mul (a b : Int) : ic a * ic b = ic (a * b) := (Int32.ofInt_mul a b).symm
theorem ic_neg (a : Int) : -ic a = ic (-a) := Int32.neg_ofInt
theorem ic_lit (n : Nat) : (OfNat.ofNat n : Int32) = ic (OfNat.ofNat n : Int) := (Int32.ofInt_eq_ofNat (n := n)).symm
theorem ic_nI (n : Nat) : nI n = ic (n : Int) := (Int32.ofInt_eq_ofNat (n := n)).symm
theorem ic_lt {a b : Int} (h : (-2147483648 ≤ a ∧ a < 2147483648) ∧ -2147483648 ≤ b ∧ b < 2147483648) : (ic a < ic b) = (a < b) := by
  rw [eq_iff_iff, Int32.lt_iff_toInt_lt, ic_toInt h.1, ic_toInt h.2]
theorem ic_le {a b : Int} (h : (-2147483648 ≤ a ∧ a < 2147483648) ∧ -2147483648 ≤ b ∧ b < 2147483648) : (ic a ≤ ic b) = (a ≤ b) := by
  rw [eq_iff_iff, Int32.le_iff_toInt_le, ic_toInt h.1, ic_toInt h.2]
theorem ic_eq {a b : Int} (h : (-2147483648 ≤ a ∧ a < 2147483648) ∧ -2147483648 ≤ b ∧ b < 2147483648) : (ic a = ic b) = (a = b) := by
  rw [eq_iff_iff]
  refine ⟨fun q => ?_, fun q => by rw [q]⟩
  have := congrArg Int32.toInt q
  rwa [ic_toInt h.1, ic_toInt h.2] at this
theorem ic_nat {n : Int} (h : 0 ≤ n ∧ n < 2147483648) : (ic n).toNatClampNeg = n.toNat := Int32.toNatClampNeg_ofInt_of_le (by omega) (by omega)
theorem ic_ibn {n : Nat} {i : Int} (h : (0 ≤ i ∧ i < n) ∧ i < 2147483648) : ibn (ic i) n = true := by
  unfold ibn
  rw [ic_nat (by omega), show (0 : Int32) = ic 0 from ic_lit 0, Bool.and_eq_true, decide_eq_true_eq, decide_eq_true_eq, ic_le (by omega)]
  omega
theorem ld_ic {n : Nat} {f : Nat → Int32} {i : Int} (h : (0 ≤ i ∧ i < n) ∧ i < 2147483648) : ld n f (ic i) = some (f i.toNat) := by
  rw [ld, if_pos (ic_ibn h), ic_nat (by omega)]
theorem ld_k {n : Nat} {f : Nat → Int32} (k : Nat) {i : Int} (hk : i = k) (h : k < n ∧ k < 2147483648) : ld n f (ic i) = some (f k) := by
  rw [ld_ic (by omega), hk, Int.toNat_natCast]
theorem ast_ic {n : Nat} {μ : Mem} {a : Nat} {i : Int} {v : Int32} (h : (0 ≤ i ∧ i < n) ∧ i < 2147483648) : ast n μ a (ic i) v = some (mu μ a i.toNat v) := by
  rw [ast, if_pos (ic_ibn h), ic_nat (by omega)]
theorem ast_k {n : Nat} {μ : Mem} {a : Nat} {v : Int32} (k : Nat) {i : Int} (hk : i = k) (h : k < n ∧ k < 2147483648) : ast n μ a (ic i) v = some (mu μ a k v) := by
  rw [ast_ic (by omega), hk, Int.toNat_natCast]
theorem jmax_ic {a b : Int} (h : (-2147483648 ≤ a ∧ a < 2147483648) ∧ -2147483648 ≤ b ∧ b < 2147483648) : jmax (ic a) (ic b) = ic (max a b) := by
  unfold jmax
  simp only [ic_lt h]
  split <;> congr 1 <;> omega
theorem jmin_ic {a b : Int} (h : (-2147483648 ≤ a ∧ a < 2147483648) ∧ -2147483648 ≤ b ∧ b < 2147483648) : jmin (ic a) (ic b) = ic (min a b) := by
  unfold jmin
  simp only [ic_lt (a := b) (b := a) (by omega)]
  split <;> congr 1 <;> omega
theorem dv_ic {a b : Int} (h : (0 ≤ a ∧ a < 2147483648) ∧ 0 < b ∧ b < 2147483648) : dv (ic a) (ic b) = some (ic (a / b)) := by
  unfold dv
  simp only [ic_lit, ic_eq (a := b) (b := 0) (by omega)]
  rw [if_neg (by omega)]
  congr 1
  unfold ic
  rw [← Int32.ofInt_tdiv (by show -2147483648 ≤ a; omega) (by show a ≤ 2147483647; omega) (by show -2147483648 ≤ b; omega) (by show b ≤ 2147483647; omega), Int.tdiv_eq_ediv_of_nonneg (by omega)]
theorem dv_ict {a b : Int} (h : (-2147483648 ≤ a ∧ a < 2147483648) ∧ 0 < b ∧ b < 2147483648) : dv (ic a) (ic b) = some (ic (a.tdiv b)) := by
  unfold dv
  simp only [ic_lit, ic_eq (a := b) (b := 0) (by omega)]
  rw [if_neg (by omega)]
  congr 1
  unfold ic
  rw [← Int32.ofInt_tdiv (by show -2147483648 ≤ a; omega) (by show a ≤ 2147483647; omega) (by show -2147483648 ≤ b; omega) (by show b ≤ 2147483647; omega)]
theorem rmd_ict {a b : Int} (h : (-2147483648 ≤ a ∧ a < 2147483648) ∧ 0 < b ∧ b < 2147483648) : rmd (ic a) (ic b) = some (ic (a.tmod b)) := by
  have h1 := dv_ict h
  unfold dv at h1
  unfold rmd
  simp only [ic_lit, ic_eq (a := b) (b := 0) (by omega)] at h1 ⊢
  rw [if_neg (by omega)] at h1 ⊢
  rw [Option.some.inj h1, ic_mul, ic_sub]
  congr 2
  have := Int.tmod_add_tdiv_mul a b
  omega
theorem rmd_ic {a b : Int} (h : (0 ≤ a ∧ a < 2147483648) ∧ 0 < b ∧ b < 2147483648) : rmd (ic a) (ic b) = some (ic (a % b)) := by
  rw [rmd_ict (by omega), Int.tmod_eq_emod_of_nonneg (by omega)]
theorem bd_some {β γ : Type} (r : β) (μ : Mem) (f : β → Mem → Option γ) : bd (some (r, μ)) f = f r μ := rfl
theorem zret0 (μ : Mem) : zret 0 μ = some (0, μ) := rfl
theorem zret1 (μ : Mem) : zret 1 μ = some (1, μ) := rfl
theorem fu_eq : fu = 4999 + 1 := rfl
theorem mu_at (μ : Mem) (a j : Nat) (v : Int32) (b k : Nat) : mu μ a j v b k = if b = a ∧ k = j then v else μ b k := by
  unfold mu ms upd
  by_cases hb : b = a
  · subst hb
    by_cases hk : k = j <;> simp [hk]
  · simp [hb]
theorem mu_ne {μ : Mem} {a j : Nat} {v : Int32} {b : Nat} (h : b ≠ a) : mu μ a j v b = μ b := by
  unfold mu ms
  rw [if_neg h]
theorem fu_lt {k : Nat} (h : k < 5000) : k < fu := h
/-- a loop that counts up, with an invariant and perhaps an early end -/
theorem loop_up {σ β : Type} (L : Nat → σ → Option β) (k0 n : Nat) (I : Nat → σ → Prop) (P : Option β → Prop) (h0 : k0 ≤ n)
    (step : ∀ f k s, k0 ≤ k → k < n → I k s → (∃ s', I (k + 1) s' ∧ L (f + 1) s = L f s') ∨ P (L (f + 1) s))
    (fin : ∀ f s, I n s → P (L (f + 1) s)) (s : σ) (f : Nat) (hf : n - k0 < f) (hI : I k0 s) : P (L f s) := by
  have key : ∀ (d k : Nat) (s : σ) (f : Nat), k0 ≤ k → k + d = n → d < f → I k s → P (L f s) := by
    intro d
    induction d with
    | zero =>
      intro k s f h1 hk hf hI
      obtain ⟨g, rfl⟩ : ∃ g, f = g + 1 := ⟨f - 1, by omega⟩
      obtain rfl : k = n := by omega
      exact fin g s hI
    | succ d ih =>
      intro k s f h1 hk hf hI
      obtain ⟨g, rfl⟩ : ∃ g, f = g + 1 := ⟨f - 1, by omega⟩
      rcases step g k s h1 (by omega) hI with ⟨s', hI', he⟩ | h
      · rw [he]
        exact ih (k + 1) s' g (by omega) (by omega) (by omega) hI'
      · exact h
  exact key (n - k0) k0 s f (Nat.le_refl _) (by omega) hf hI
/-- the same without an early end -/
theorem loop_to {σ β : Type} (L : Nat → σ → Option β) (G : σ → Option β) (k0 n : Nat) (I : Nat → σ → Prop) (h0 : k0 ≤ n)
    (step : ∀ f k s, k0 ≤ k → k < n → I k s → ∃ s', I (k + 1) s' ∧ L (f + 1) s = L f s')
    (fin : ∀ f s, I n s → L (f + 1) s = G s) (s : σ) (f : Nat) (hf : n - k0 < f) (hI : I k0 s) : ∃ s', I n s' ∧ L f s = G s' :=
  loop_up L k0 n I (fun o => ∃ s', I n s' ∧ o = G s') h0 (fun f k s h1 h2 h3 => Or.inl (step f k s h1 h2 h3)) (fun f s h1 => ⟨s, h1, fin f s h1⟩) s f hf hI
/-- the same, of a loop whose state is its counter and the memory -/
theorem lq_g {β : Type} (L : Nat → Int32 → Mem → Option β) (G : Mem → Option β) (g : Nat → Int32) (k0 n : Nat) (I : Nat → Mem → Prop) (h0 : k0 ≤ n)
    (step : ∀ f k ν, k0 ≤ k → k < n → I k ν → ∃ ν', I (k + 1) ν' ∧ L (f + 1) (g k) ν = L f (g (k + 1)) ν')
    (fin : ∀ f ν, I n ν → L (f + 1) (g n) ν = G ν) (μ : Mem) (f : Nat) (hf : n - k0 < f) (hI : I k0 μ) : ∃ ν, I n ν ∧ L f (g k0) μ = G ν := by
  obtain ⟨s', ⟨_, h2⟩, h3⟩ := loop_to (fun f (s : Int32 × Mem) => L f s.1 s.2) (fun s => G s.2) k0 n (fun k s => s.1 = g k ∧ I k s.2) h0
    (fun f k s h1 h2 h3 => by
      obtain ⟨v, ν⟩ := s
      obtain ⟨rfl, h3⟩ := h3
      obtain ⟨ν', h4, h5⟩ := step f k ν h1 h2 h3
      exact ⟨(_, ν'), ⟨rfl, h4⟩, h5⟩)
    (fun f s h1 => by
      obtain ⟨v, ν⟩ := s
      obtain ⟨rfl, h3⟩ := h1
      exact fin f ν h3) (g k0, μ) f hf ⟨rfl, hI⟩
  exact ⟨s'.2, h2, h3⟩
theorem lq_m {β : Type} (L : Nat → Int32 → Mem → Option β) (G : Mem → Option β) (k0 n : Nat) (I : Nat → Mem → Prop) (h0 : k0 ≤ n)
    (step : ∀ f k ν, k0 ≤ k → k < n → I k ν → ∃ ν', I (k + 1) ν' ∧ L (f + 1) (ic (k : Int)) ν = L f (ic ((k + 1 : Nat) : Int)) ν')
    (fin : ∀ f ν, I n ν → L (f + 1) (ic (n : Int)) ν = G ν) (μ : Mem) (f : Nat) (hf : n - k0 < f) (hI : I k0 μ) : ∃ ν, I n ν ∧ L f (ic (k0 : Int)) μ = G ν :=
  lq_g L G (fun k => ic (k : Int)) k0 n I h0 step fin μ f hf hI
/-- a loop that counts up, its states and answer known -/
theorem loop_eq {σ β : Type} (L : Nat → σ → Option β) (k0 n : Nat) (st : Nat → σ) (r : Option β) (h0 : k0 ≤ n)
    (step : ∀ f k, k0 ≤ k → k < n → L (f + 1) (st k) = L f (st (k + 1))) (fin : ∀ f, L (f + 1) (st n) = r) (f : Nat) (hf : n - k0 < f) : L f (st k0) = r := by
  have key : ∀ (d k : Nat) (f : Nat), k0 ≤ k → k + d = n → d < f → L f (st k) = r := by
    intro d
    induction d with
    | zero =>
      intro k f h1 hk hf
      obtain ⟨g, rfl⟩ : ∃ g, f = g + 1 := ⟨f - 1, by omega⟩
      obtain rfl : k = n := by omega
      exact fin g
    | succ d ih =>
      intro k f h1 hk hf
      obtain ⟨g, rfl⟩ : ∃ g, f = g + 1 := ⟨f - 1, by omega⟩
      rw [step g k h1 (by omega)]
      exact ih (k + 1) g (by omega) (by omega) (by omega)
  exact key (n - k0) k0 f (Nat.le_refl _) (by omega) hf
/-- what a memory's change leaves -/
def Fr (l : List Nat) (μ μ' : Mem) : Prop := ∀ a, a ∉ l → μ' a = μ a
theorem Fr.rfl' {l : List Nat} {μ : Mem} : Fr l μ μ := fun _ _ => rfl
theorem Fr.trans {l : List Nat} {μ μ1 μ2 : Mem} (h1 : Fr l μ μ1) (h2 : Fr l μ1 μ2) : Fr l μ μ2 := fun a ha => (h2 a ha).trans (h1 a ha)
theorem Fr.mono {l l' : List Nat} {μ μ1 : Mem} (h1 : Fr l μ μ1) (h : ∀ a, a ∈ l → a ∈ l') : Fr l' μ μ1 := fun a ha => h1 a fun q => ha (h a q)
theorem Fr_mu {l : List Nat} {μ : Mem} {a j : Nat} {v : Int32} (h : a ∈ l) : Fr l μ (mu μ a j v) := fun b hb => mu_ne fun q : b = a => hb (q ▸ h)
theorem Fr_ms {l : List Nat} {μ : Mem} {a : Nat} {f : Nat → Int32} (h : a ∈ l) : Fr l μ (ms μ a f) := fun b hb => by
  unfold ms
  rw [if_neg fun q : b = a => hb (q ▸ h)]

