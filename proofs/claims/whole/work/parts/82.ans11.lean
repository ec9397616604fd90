def cdI (k : Nat) : Int := k
section ANS11
variable {c : Cf} {X M : Mem}
theorem a_insert (hG : GC c) (hX : XC c X) (hM : MC c M) (a1 a2 a3 a4 a5 a6 : Int32) : Agr cdI (fX8_insert X a1 a2 a3 a4 a5 a6) (fX9_insert M a1 a2 a3 a4 a5 a6) := by
  have hW := hG.1
  have h20 := hW.n
  obtain ⟨p, rfl, hp⟩ := i32_ex a1
  obtain ⟨k, rfl, hk⟩ := i32_ex a2
  obtain ⟨x, rfl, hx⟩ := i32_ex a3
  obtain ⟨y, rfl, hy⟩ := i32_ex a4
  obtain ⟨z, rfl, hz⟩ := i32_ex a5
  obtain ⟨v, rfl, hv⟩ := i32_ex a6
  have e96 : ∀ e : Int, 1 ≤ e → e ≤ 3 → fX9_insert_L96 (ic p) (ic k) (ic x) (ic y) (ic z) (ic v) (ic e) M = some (0, mu M 0 22 (ic e)) := fun e h1 h2 => by
    unfold fX9_insert_L96
    simp only [pt, Option.bind_some]
    rw [mus, if_neg (by rw [show (0 : Int32) = ic 0 from rfl, ic_le (by omega)]; omega)]
  have hld : ld 152 (M 1) (0 : Int32) = some (ic (nn c.S)) := by
    rw [show (0 : Int32) = ic 0 from rfl, ms_ld hM.1 0 (i := (0 : Int)) rfl (by omega), hW.nz]
  have e41 : fX9_insert_L41 (ic p) (ic k) (ic x) (ic y) (ic z) (ic v) M = fX9_insert_L96 (ic p) (ic k) (ic x) (ic y) (ic z) (ic v) (ic 1) M := by
    unfold fX9_insert_L41 fX9_insert_L42
    rw [if_pos rfl]
    rfl
  have e42 : fX9_insert_L42 (ic p) (ic k) (ic x) (ic y) (ic z) (ic v) 1 M = (if (0 ≤ k ∧ k ≤ 6) ∧ -99 ≤ v ∧ v ≤ 99 then (if nn c.S = 20 then fX9_insert_L96 (ic p) (ic k) (ic x) (ic y) (ic z) (ic v) (ic 3) M else fX9_insert_L96 (ic p) (ic k) (ic x) (ic y) (ic z) (ic v) (ic 0) M) else fX9_insert_L96 (ic p) (ic k) (ic x) (ic y) (ic z) (ic v) (ic 2) M) := by
    unfold fX9_insert_L42 fX9_insert_L76
    rw [if_neg (by decide), show (0 : Int32) = ic 0 from rfl, show (6 : Int32) = ic 6 from rfl, p_in2 hk (by omega) (by omega), bd_some, b2_ifc]
    by_cases h1 : 0 ≤ k ∧ k ≤ 6
    · rw [if_pos (decide_eq_true h1), show (-99 : Int32) = ic (-99) from rfl, show (99 : Int32) = ic 99 from rfl, p_in2 hv (by omega) (by omega), bd_some, b2_ifc]
      by_cases h2 : -99 ≤ v ∧ v ≤ 99
      · rw [if_pos (decide_eq_true h2), if_pos ⟨h1, h2⟩, show ld 152 (M 1) (ic 0) = some (ic (nn c.S)) from hld, Option.bind_some, show (20 : Int32) = ic 20 from rfl]
        by_cases h3 : nn c.S = 20
        · rw [if_pos (by rw [h3]; rfl), if_pos h3]
          rfl
        · rw [if_neg (by rw [ic_eq (by omega)]; omega), if_neg h3]
      · rw [if_neg (by rw [decide_eq_false h2]; decide), if_neg (fun q => h2 q.2)]
        rfl
    · rw [if_neg (by rw [decide_eq_false h1]; decide), if_neg (fun q => h1 q.1)]
      rfl
  have eM : fX9_insert M (ic p) (ic k) (ic x) (ic y) (ic z) (ic v) = if (0 ≤ p ∧ p ≤ nn c.S) ∧ (0 ≤ x ∧ x ≤ 11) ∧ (0 ≤ y ∧ y ≤ 11) ∧ (0 ≤ z ∧ z ≤ 11) then fX9_insert_L42 (ic p) (ic k) (ic x) (ic y) (ic z) (ic v) 1 M else fX9_insert_L41 (ic p) (ic k) (ic x) (ic y) (ic z) (ic v) M := by
    unfold fX9_insert
    rw [hld, Option.bind_some, show (0 : Int32) = ic 0 from rfl, p_in2 hp (by omega) (by omega), bd_some, b2_ifc]
    by_cases h1 : 0 ≤ p ∧ p ≤ nn c.S
    · rw [if_pos (decide_eq_true h1), r_isName hx, bd_some, b2_ifc]
      by_cases h2 : 0 ≤ x ∧ x ≤ 11
      · rw [if_pos (decide_eq_true h2), r_isName hy, bd_some, b2_ifc]
        by_cases h3 : 0 ≤ y ∧ y ≤ 11
        · rw [if_pos (decide_eq_true h3), r_isName hz, bd_some, b2_ifc]
          by_cases h4 : 0 ≤ z ∧ z ≤ 11
          · rw [if_pos (decide_eq_true h4), if_pos ⟨h1, h2, h3, h4⟩]
          · rw [if_neg (by rw [decide_eq_false h4]; decide), if_neg (fun q => h4 q.2.2.2)]
        · rw [if_neg (by rw [decide_eq_false h3]; decide), if_neg (fun q => h3 q.2.2.1)]
      · rw [if_neg (by rw [decide_eq_false h2]; decide), if_neg (fun q => h2 q.2.1)]
    · rw [if_neg (by rw [decide_eq_false h1]; decide), if_neg (fun q => h1 q.1)]
  have eX : fX8_insert X (ic p) (ic k) (ic x) (ic y) (ic z) (ic v) = if (0 ≤ p ∧ p ≤ nn c.S) ∧ (0 ≤ x ∧ x ≤ 11) ∧ (0 ≤ y ∧ y ≤ 11) ∧ (0 ≤ z ∧ z ≤ 11) then (if (0 ≤ k ∧ k ≤ 6) ∧ -99 ≤ v ∧ v ≤ 99 then (if nn c.S = 20 then some (.inr 3, X) else bd (fX8_save X) fun _ μ17 => bd (fX6_putIn μ17 (ic p) (ic k) (ic x) (ic y) (ic z) (ic v)) fun _ μ19 => some (.inl (μ19 1 0), μ19)) else some (.inr 2, X)) else some (.inr 1, X) := by
    unfold fX8_insert fX8_insert_L38 fX8_insert_L72
    rw [x_n hX.1.1 hW, x_isRegister hx, bd_some, b2_if, x_isRegister hy, bd_some, b2_if, x_isRegister hz, bd_some, b2_if, x_n hX.1.1 hW]
    simp only [decide_eq_true_eq, show (-99 : Int32) = ic (-99) from rfl, show (0 : Int32) = ic 0 from rfl, show (6 : Int32) = ic 6 from rfl, show (99 : Int32) = ic 99 from rfl, show (20 : Int32) = ic 20 from rfl]
    simp (maxSteps := 2000000) (disch := omega) only [ic_neg, ic_lt, ic_le]
    repeat' split
    all_goals first | (exfalso; omega) | rfl
  rw [eM, eX, e41, e42]
  by_cases hA : (0 ≤ p ∧ p ≤ nn c.S) ∧ (0 ≤ x ∧ x ≤ 11) ∧ (0 ≤ y ∧ y ≤ 11) ∧ (0 ≤ z ∧ z ≤ 11)
  · rw [if_pos hA, if_pos hA]
    by_cases hB : (0 ≤ k ∧ k ≤ 6) ∧ -99 ≤ v ∧ v ≤ 99
    · rw [if_pos hB, if_pos hB]
      by_cases hC : nn c.S = 20
      · rw [if_pos hC, if_pos hC]
        exact agr_thr hG hX hM (k := 3) (e := 3) rfl (e96 3 (by omega) (by omega)) rfl (by omega)
      · rw [if_neg hC, if_neg hC]
        obtain ⟨n, rfl⟩ : ∃ n : Nat, p = n := ⟨p.toNat, by omega⟩
        have hck : CK (tl5 k x y z v) := ck_tl5 hB.1 hA.2.1 hA.2.2.1 hA.2.2.2 hB.2
        have hW' := wf_ins hW (p := n) (by omega) (by omega) hck
        refine op_agr hG hX hM hW' (r := ic ((nn c.S + 1 : Nat) : Int)) (fun X1 x1 e1 => ?_) (fun M1 m1 e3 => ?_)
        · obtain ⟨X2, e2, f2, x2⟩ := x_putIn x1 hW (p := n) (by omega) (by omega) (tl5 k x y z v) rfl
          refine ⟨X2, ?_, f2, x2⟩
          rw [e1, bd_some, show fX6_putIn X1 (ic n) (ic k) (ic x) (ic y) (ic z) (ic v) = some ((), X2) from e2, bd_some, x_n x2 hW', insS_n hW]
        · obtain ⟨M2, e4, f4, m4⟩ := r_inserts m1 hW (p := n) (by omega) (by omega) (tl5 k x y z v) rfl
          refine ⟨M2, ?_, f4, m4⟩
          unfold fX9_insert_L96
          simp only [pt, Option.bind_some]
          rw [mus, if_pos (by decide), e3, bd_some, show fX9_inserts M1 (ic n) (ic k) (ic x) (ic y) (ic z) (ic v) = some ((), M2) from e4, bd_some, show (0 : Int32) = ic 0 from rfl, ms_ld m4 0 (i := (0 : Int)) rfl (by omega), Option.bind_some, hW'.nz, insS_n hW]
    · rw [if_neg hB, if_neg hB]
      exact agr_thr hG hX hM (k := 2) (e := 2) rfl (e96 2 (by omega) (by omega)) rfl (by omega)
  · rw [if_neg hA, if_neg hA]
    exact agr_thr hG hX hM (k := 1) (e := 1) rfl (e96 1 (by omega) (by omega)) rfl (by omega)
end ANS11
