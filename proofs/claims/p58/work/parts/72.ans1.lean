/-! ANSWERS ALIKE: text and saved states -/
def cfT (c : Cf) (t : Nat → Int) (L : Nat) : Cf := (c.S, c.HS, c.m, c.hk, c.SK, t, L)
/-- both answer, alike, and the relation holds behind -/
def Agr (cd : Nat → Int) (o : Option ((Int32 ⊕ Nat) × Mem)) (p : Option (Int32 × Mem)) : Prop := ∃ (c : Cf) (X M : Mem), GC c ∧ XC c X ∧ MC c M ∧ ((∃ r, o = some (.inl r, X) ∧ p = some (r, M) ∧ M 0 22 = ic 0) ∨ ∃ k v, o = some (.inr k, X) ∧ p = some (v, M) ∧ M 0 22 = ic (cd k) ∧ 1 ≤ cd k ∧ cd k ≤ 3)
def AgrI (o : Option (Int32 × Mem)) (p : Option (Int32 × Mem)) : Prop := ∃ (c : Cf) (X M : Mem), GC c ∧ XC c X ∧ MC c M ∧ ∃ r, o = some (r, X) ∧ p = some (r, M) ∧ M 0 22 = ic 0
theorem i32_ex (x : Int32) : ∃ v : Int, x = ic v ∧ -2147483648 ≤ v ∧ v < 2147483648 := ⟨x.toInt, (ic_of x).symm, i32_rg x⟩
theorem cq_of3 {S : Nat → Int} {μ μ' : Mem} (h : CQ S μ) (h1 : ∀ a, 1 ≤ a → a < 11 ∨ 75 ≤ a → μ' a = μ a) (h6 : μ' 0 6 = μ 0 6) (h10 : μ' 0 10 = μ 0 10) : CQ S μ' := by
  have hF : Fr (List.range 75) μ μ' ∨ True := Or.inr trivial
  refine ⟨h.1.of fun k hk => h1 _ (by omega) (by omega), h.2.1, ?_, ?_⟩
  · rw [h6]
    refine h.2.2.1.imp id fun q => ⟨q.1, q.2.of (l := List.range 75) (fun a ha => h1 a ?_ ?_) fun a ha => Or.inl (List.mem_range.mp ha)⟩
    · have : ¬ a < 75 := fun q => ha (List.mem_range.mpr q)
      omega
    · have : ¬ a < 75 := fun q => ha (List.mem_range.mpr q)
      omega
  · rw [h10]
    refine h.2.2.2.imp id fun q => ⟨q.1, q.2.of (l := List.range 75) (fun a ha => h1 a ?_ ?_) ⟨fun q => ?_, fun q => ?_⟩⟩
    · have : ¬ a < 75 := fun q => ha (List.mem_range.mpr q)
      omega
    · have : ¬ a < 75 := fun q => ha (List.mem_range.mpr q)
      omega
    · have := List.mem_range.mp q
      omega
    · have := List.mem_range.mp q
      omega
theorem xc_text {c : Cf} {X X' : Mem} {t : Nat → Int} {L : Nat} (h : XC c X) (hF : ∀ a, a ≠ 73 → a ≠ 74 → X' a = X a) (hT : XT t L X') : XC (cfT c t L) X' := by
  obtain ⟨a1, a2, a3, a4, a5⟩ := h
  exact ⟨cq_of3 a1 (fun a h1 h2 => hF a (by omega) (by omega)) (by rw [hF 0 (by omega) (by omega)]) (by rw [hF 0 (by omega) (by omega)]), a2.of fun a h1 h2 => hF a (by omega) (by omega), by rw [hF 0 (by omega) (by omega)]; exact a3, fun q => (a4 q).of fun k hk => hF _ (by omega) (by omega), hT⟩
theorem mc_text {c : Cf} {M M' : Mem} {t : Nat → Int} {L : Nat} (h : MC c M) (h1 : ∀ a, 1 ≤ a → a ≤ 3 → M' a = M a) (h0 : ∀ k, k = 2 ∨ k = 4 → M' 0 k = M 0 k) (hT : RT t L M') : MC (cfT c t L) M' := by
  obtain ⟨a1, ⟨b1, b2, b3⟩, a3, a4, a5⟩ := h
  exact ⟨fun k hk => by rw [h1 1 (by omega) (by omega)]; exact a1 k hk, ⟨by rw [h0 2 (by omega)]; exact b1, b2, fun r k hr hk => by rw [h1 2 (by omega) (by omega)]; exact b3 r k hr hk⟩, by rw [h0 4 (by omega)]; exact a3, fun q k hk => by rw [h1 3 (by omega) (by omega)]; exact a4 q k hk, hT⟩
/-- the reference's thrown is set: the relation stays -/
theorem mc_thr {c : Cf} {M : Mem} (v : Int32) (h : MC c M) : MC c (mu M 0 22 v) := h.of (fun a h1 h2 => mu_ne (by omega)) fun k hk => by rw [mu_at, if_neg (by omega)]
theorem mus {μ : Mem} {a j : Nat} {v : Int32} : mu μ a j v a j = v := by rw [mu_at, if_pos ⟨rfl, rfl⟩]
theorem muk {μ : Mem} {a j k : Nat} {v : Int32} (h : k ≠ j) : mu μ a j v a k = μ a k := by rw [mu_at, if_neg fun q => h q.2]
def cdA (k : Nat) : Int := if k = 2 then 1 else 2

