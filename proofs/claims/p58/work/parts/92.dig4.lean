theorem i64_ic {n : Int} (h : -2147483648 ≤ n ∧ n < 2147483648) : Int32.toInt64 (ic n) = il n := by
  rw [← Int64.ofInt_int32ToInt, ic_toInt h]
  rfl
theorem mxd_ic {h : Int64} {n : Int} (hn : -2147483648 ≤ n ∧ n < 2147483648) : mxd h (ic n) = 31 * h + il n := by
  unfold mxd
  rw [i64_ic hn]
theorem mxd_eq {h : Int64} {v : Int32} : (31 : Int64) * h + Int32.toInt64 v = mxd h v := rfl
theorem hd_start {n : Int} : (143933 : Int64) + Int32.toInt64 (ic n) = mxd 4643 (ic n) := rfl
theorem hd_ahead {x : Int64} {b d : Int} (hb : 0 ≤ b ∧ b ≤ 1000) (hd : 0 ≤ d ∧ d ≤ 1000) : (((31 : Int64) * x + Int32.toInt64 (ic b)) - (1 : Int64)) - Int32.toInt64 (ic d) = mxd x (ic (b - 1 - d)) := by
  rw [mxd_ic (by omega), i64_ic (by omega), i64_ic (by omega), show (1 : Int64) = il 1 from rfl, Int64.sub_eq_add_neg, Int64.sub_eq_add_neg, Int64.add_assoc, Int64.add_assoc, ← il_sub, ← il_sub, Int64.sub_eq_add_neg, Int64.sub_eq_add_neg, Int64.add_assoc]
/-- both answer alike, longs or doubles -/
def AgrG {β : Type} (P : β → Prop) (o p : Option (β × Mem)) : Prop := ∃ (c : Cf) (X M : Mem), GC c ∧ XC c X ∧ MC c M ∧ ∃ r, o = some (r, X) ∧ p = some (r, M) ∧ M 0 22 = ic 0 ∧ P r
section DIG4
variable {c : Cf} {X M : Mem}
theorem agrG_q {β : Type} {P : β → Prop} (hG : GC c) (hX : XC c X) (hM : MC c M) {l : List Nat} {r : β} {o p : Option (β × Mem)} (ho : ∃ X', o = some (r, X') ∧ CQ c.S X' ∧ Fx X X') (hp : ∃ M', p = some (r, M') ∧ Fr l (mu M 0 22 (ic 0)) M') (hl : ∀ a, a ∈ l → 5 ≤ a) (hP : P r) : AgrG P o p := by
  obtain ⟨X', e1, q1, f1⟩ := ho
  obtain ⟨M', e2, f2⟩ := hp
  have f2' : ∀ a, a < 5 → M' a = mu M 0 22 (ic 0) a := fun a ha => f2 a fun q => by have := hl a q; omega
  exact ⟨c, X', M', hG, hX.fx q1 f1, (mc_thr (ic 0) hM).of (fun a h1 h2 => f2' a (by omega)) (fun k hk => by rw [f2' 0 (by omega)]), r, e1, e2, by rw [f2' 0 (by omega), mus], hP⟩
end DIG4

