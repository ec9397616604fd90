/-! THE START: what the Statement gives of it -/
theorem tzw {w : Cond} (i : Nat) (h : tables_1[i]? = some w) : w ∈ lw_tbl := List.mem_append_right _ (List.mem_of_getElem? h)
section STARTS
variable {s : State} {args : Array Value}
theorem gzw {w : Cond} (hg : (Jvm.Cond.and given_1 narrow_1).before args s = true) (i : Nat) (h : (flatC (Jvm.Cond.and given_1 narrow_1))[i]? = some w) : w.before args s = true := flat_of_before _ hg w (List.mem_of_getElem? h)
theorem ex_str {k : Nat} {tx : String} (h1 : (Cond.stringRef RX8 k tx).before args s = true) (h2 : (Cond.exactly (Term.string RX8 k) "java/lang/String").before args s = true) : ∃ sa, vk_R RX8 k tx sa s := by
  obtain ⟨a, c, cA, kA, q1, -⟩ := Cond.exactly_spec (args := args) (first := s) (o := none) (s := s) (idx := []) (t := Term.string RX8 k) (cls := "java/lang/String") h2
  exact ⟨a, vk_R.of h1 q1⟩
theorem ka_int (h : (Cond.arrayClass .int).before args s = true) : ∃ cA, ArrOfT s cA .int ∧ va_RA s cA .int := by
  obtain ⟨cA, kA, comp, h1, h2, h3⟩ := Cond.arrayClass_spec h
  exact ⟨cA, fun n z => ⟨fun k h => (by cases h), kA, h2, comp, h3⟩, h1⟩
theorem ka_long (h : (Cond.arrayClass .long).before args s = true) : ∃ cA, ArrOfT s cA .long ∧ va_RA s cA .long := by
  obtain ⟨cA, kA, comp, h1, h2, h3⟩ := Cond.arrayClass_spec h
  exact ⟨cA, fun n z => ⟨fun k h => (by cases h), kA, h2, comp, h3⟩, h1⟩
theorem ka_ref {C : String} (h : (Cond.arrayOver (.object C)).before args s = true) : ∃ cA, ArrOfT s cA (.object C) ∧ va_RA s cA (.object C) := by
  obtain ⟨comp, cA, kA, h1, h2, h3, h4, h5⟩ := Cond.arrayOver_spec h
  exact ⟨cA, fun n z => ⟨fun k h => (by cases h), kA, h3, comp, h4⟩, kA, comp, h3, h4, h1, h5⟩
end STARTS
theorem ex_nests {s : State} {args : Array Value} (hts : ∀ w ∈ lw_tbl, w.before args s = true) : ∀ q ∈ nests, va_Nw (.methodLinkNest q.1 q.2.1 q.2.2.1 q.2.2.2) s := List.forall_mem_cons.mpr ⟨va_Nw.of rfl (hts _ (tzw 30 (by decide +kernel))), List.forall_mem_cons.mpr ⟨va_Nw.of rfl (hts _ (tzw 101 (by decide +kernel))), List.forall_mem_cons.mpr ⟨va_Nw.of rfl (hts _ (tzw 112 (by decide +kernel))), List.forall_mem_cons.mpr ⟨va_Nw.of rfl (hts _ (tzw 126 (by decide +kernel))), List.forall_mem_cons.mpr ⟨va_Nw.of rfl (hts _ (tzw 161 (by decide +kernel))), List.forall_mem_cons.mpr ⟨va_Nw.of rfl (hts _ (tzw 175 (by decide +kernel))), List.forall_mem_cons.mpr ⟨va_Nw.of rfl (hts _ (tzw 188 (by decide +kernel))), List.forall_mem_cons.mpr ⟨va_Nw.of rfl (hts _ (tzw 210 (by decide +kernel))), List.forall_mem_cons.mpr ⟨va_Nw.of rfl (hts _ (tzw 719 (by decide +kernel))), fun _ h => absurd h List.not_mem_nil⟩⟩⟩⟩⟩⟩⟩⟩⟩
theorem ex_strs {s : State} {args : Array Value} (hts : ∀ w ∈ lw_tbl, w.before args s = true) (hg : (Jvm.Cond.and given_1 narrow_1).before args s = true) : ∀ q ∈ strs, ∃ sa, vk_R RX8 q.1 q.2 sa s := List.forall_mem_cons.mpr ⟨ex_str (hts _ (tzw 774 (by decide +kernel))) (gzw hg 42 (by decide +kernel)), List.forall_mem_cons.mpr ⟨ex_str (hts _ (tzw 810 (by decide +kernel))) (gzw hg 71 (by decide +kernel)), List.forall_mem_cons.mpr ⟨ex_str (hts _ (tzw 826 (by decide +kernel))) (gzw hg 103 (by decide +kernel)), List.forall_mem_cons.mpr ⟨ex_str (hts _ (tzw 852 (by decide +kernel))) (gzw hg 127 (by decide +kernel)), List.forall_mem_cons.mpr ⟨ex_str (hts _ (tzw 888 (by decide +kernel))) (gzw hg 146 (by decide +kernel)), List.forall_mem_cons.mpr ⟨ex_str (hts _ (tzw 903 (by decide +kernel))) (gzw hg 170 (by decide +kernel)), List.forall_mem_cons.mpr ⟨ex_str (hts _ (tzw 914 (by decide +kernel))) (gzw hg 191 (by decide +kernel)), List.forall_mem_cons.mpr ⟨ex_str (hts _ (tzw 915 (by decide +kernel))) (gzw hg 213 (by decide +kernel)), List.forall_mem_cons.mpr ⟨ex_str (hts _ (tzw 923 (by decide +kernel))) (gzw hg 242 (by decide +kernel)), List.forall_mem_cons.mpr ⟨ex_str (hts _ (tzw 931 (by decide +kernel))) (gzw hg 274 (by decide +kernel)), List.forall_mem_cons.mpr ⟨ex_str (hts _ (tzw 942 (by decide +kernel))) (gzw hg 305 (by decide +kernel)), List.forall_mem_cons.mpr ⟨ex_str (hts _ (tzw 950 (by decide +kernel))) (gzw hg 338 (by decide +kernel)), List.forall_mem_cons.mpr ⟨ex_str (hts _ (tzw 958 (by decide +kernel))) (gzw hg 377 (by decide +kernel)), List.forall_mem_cons.mpr ⟨ex_str (hts _ (tzw 959 (by decide +kernel))) (gzw hg 410 (by decide +kernel)), List.forall_mem_cons.mpr ⟨ex_str (hts _ (tzw 975 (by decide +kernel))) (gzw hg 445 (by decide +kernel)), List.forall_mem_cons.mpr ⟨ex_str (hts _ (tzw 980 (by decide +kernel))) (gzw hg 491 (by decide +kernel)), List.forall_mem_cons.mpr ⟨ex_str (hts _ (tzw 1008 (by decide +kernel))) (gzw hg 528 (by decide +kernel)), List.forall_mem_cons.mpr ⟨ex_str (hts _ (tzw 1020 (by decide +kernel))) (gzw hg 562 (by decide +kernel)), List.forall_mem_cons.mpr ⟨ex_str (hts _ (tzw 1143 (by decide +kernel))) (gzw hg 594 (by decide +kernel)), fun _ h => absurd h List.not_mem_nil⟩⟩⟩⟩⟩⟩⟩⟩⟩⟩⟩⟩⟩⟩⟩⟩⟩⟩⟩
theorem ex_cast {s : State} {args : Array Value} (hts : ∀ w ∈ lw_tbl, w.before args s = true) : ∀ k, k < 4 → va_Nw (.castable (xnm k) (xnm k)) s := by
  intro k hk
  rcases (show k = 0 ∨ k = 1 ∨ k = 2 ∨ k = 3 by omega) with rfl | rfl | rfl | rfl
  · exact va_Nw.of rfl (hts _ (tzw 819 (by decide +kernel)))
  · exact va_Nw.of rfl (hts _ (tzw 735 (by decide +kernel)))
  · exact va_Nw.of rfl (hts _ (tzw 803 (by decide +kernel)))
  · exact va_Nw.of rfl (hts _ (tzw 819 (by decide +kernel)))
theorem ex_decl {s : State} {args : Array Value} (hts : ∀ w ∈ lw_tbl, w.before args s = true) : ∀ x ∈ dcls, va_Nw (.declares x) s := List.forall_mem_cons.mpr ⟨va_Nw.of rfl (hts _ (tzw 736 (by decide +kernel))), List.forall_mem_cons.mpr ⟨va_Nw.of rfl (hts _ (tzw 737 (by decide +kernel))), List.forall_mem_cons.mpr ⟨va_Nw.of rfl (hts _ (tzw 738 (by decide +kernel))), List.forall_mem_cons.mpr ⟨va_Nw.of rfl (hts _ (tzw 739 (by decide +kernel))), List.forall_mem_cons.mpr ⟨va_Nw.of rfl (hts _ (tzw 740 (by decide +kernel))), List.forall_mem_cons.mpr ⟨va_Nw.of rfl (hts _ (tzw 741 (by decide +kernel))), fun _ h => absurd h List.not_mem_nil⟩⟩⟩⟩⟩⟩
theorem ex_all {s : State} {args : Array Value} (hts : ∀ w ∈ lw_tbl, w.before args s = true) (hg : (Jvm.Cond.and given_1 narrow_1).before args s = true) : EXn s := ⟨ex_nests hts, ex_strs hts hg, ex_cast hts, ex_decl hts, va_AO.of (hts _ (tzw 100 (by decide +kernel)))⟩
theorem nc_all {s : State} {args : Array Value} (hg : (Jvm.Cond.and given_1 narrow_1).before args s = true) : NCn s := by
  intro i j h1 h2 h3 h4 h5
  rcases (show (i = 1 ∧ j = 2) ∨ (i = 1 ∧ j = 3) ∨ (i = 2 ∧ j = 1) ∨ (i = 2 ∧ j = 3) ∨ (i = 3 ∧ j = 1) ∨ (i = 3 ∧ j = 2) by omega) with ⟨rfl, rfl⟩ | ⟨rfl, rfl⟩ | ⟨rfl, rfl⟩ | ⟨rfl, rfl⟩ | ⟨rfl, rfl⟩ | ⟨rfl, rfl⟩
  · exact va_Nc.of (gzw hg 28 (by decide +kernel))
  · exact va_Nc.of (gzw hg 40 (by decide +kernel))
  · exact va_Nc.of (gzw hg 16 (by decide +kernel))
  · exact va_Nc.of (gzw hg 41 (by decide +kernel))
  · exact va_Nc.of (gzw hg 17 (by decide +kernel))
  · exact va_Nc.of (gzw hg 29 (by decide +kernel))
theorem stt_all {s : State} {args : Array Value} (hts : ∀ w ∈ lw_tbl, w.before args s = true) (hg : (Jvm.Cond.and given_1 narrow_1).before args s = true) {A : Nat → Prop} (hA : ∀ a : Nat, a < s.heap.size → ¬ A a) : STT A s s.heap :=
  ⟨vx_Zqof (hts _ (tzw 760 (by decide +kernel))) (hts _ (tzw 11 (by decide +kernel))) (gzw hg 4 (by decide +kernel)) hA, vx_Zqof (hts _ (tzw 762 (by decide +kernel))) (hts _ (tzw 11 (by decide +kernel))) (gzw hg 5 (by decide +kernel)) hA⟩
theorem kn_all {s : State} {args : Array Value} (hts : ∀ w ∈ lw_tbl, w.before args s = true) : ∃ D : va_G, ∀ (k : Nat) (q : vw_C), vwCl[k]? = some q → u_Kn s q.1 q.2.1 q.2.2 (D.1 k) (D.2 k) := by
  have hZ : ∀ w ∈ Z_W, w.before args s = true := fun w hw => hts w (List.mem_filter.mp hw).1
  have h0 : ∀ k : Nat, ∃ d : ClassId × (Nat → Nat), ∀ q : vw_C, vwCl[k]? = some q → u_Kn s q.1 q.2.1 q.2.2 d.1 d.2 := by
    intro k
    match k with
    | 0 =>
      obtain ⟨c1, i1, h1⟩ := u_known (C := RX0) (T := TX0) (N := 2) (n := 2) hZ uw_0 (hts _ (tzw 174 (by decide +kernel)))
      exact ⟨(c1, i1), fun q hq => by cases hq; exact h1⟩
    | 1 =>
      obtain ⟨c1, i1, h1⟩ := u_known (C := RX1) (T := TX1) (N := 2) (n := 2) hZ uw_1 (hts _ (tzw 94 (by decide +kernel)))
      exact ⟨(c1, i1), fun q hq => by cases hq; exact h1⟩
    | 2 =>
      obtain ⟨c1, i1, h1⟩ := u_known (C := RX2) (T := TX2) (N := 8) (n := 8) hZ uw_2 (hts _ (tzw 125 (by decide +kernel)))
      exact ⟨(c1, i1), fun q hq => by cases hq; exact h1⟩
    | 3 =>
      obtain ⟨c1, i1, h1⟩ := u_known (C := RX3) (T := TX3) (N := 4) (n := 4) hZ uw_3 (hts _ (tzw 187 (by decide +kernel)))
      exact ⟨(c1, i1), fun q hq => by cases hq; exact h1⟩
    | 4 =>
      obtain ⟨c1, i1, h1⟩ := u_known (C := RX4) (T := TX4) (N := 2) (n := 2) hZ uw_4 (hts _ (tzw 160 (by decide +kernel)))
      exact ⟨(c1, i1), fun q hq => by cases hq; exact h1⟩
    | 5 =>
      obtain ⟨c1, i1, h1⟩ := u_known (C := RX5) (T := TX5) (N := 4) (n := 4) hZ uw_5 (hts _ (tzw 209 (by decide +kernel)))
      exact ⟨(c1, i1), fun q hq => by cases hq; exact h1⟩
    | 6 =>
      obtain ⟨c1, i1, h1⟩ := u_known (C := RX6) (T := TX6) (N := 11) (n := 11) hZ uw_6 (hts _ (tzw 29 (by decide +kernel)))
      exact ⟨(c1, i1), fun q hq => by cases hq; exact h1⟩
    | 7 =>
      obtain ⟨c1, i1, h1⟩ := u_known (C := RX7) (T := TX7) (N := 2) (n := 2) hZ uw_7 (hts _ (tzw 111 (by decide +kernel)))
      exact ⟨(c1, i1), fun q hq => by cases hq; exact h1⟩
    | 8 =>
      obtain ⟨c1, i1, h1⟩ := u_known (C := RX8) (T := TX8) (N := 16) (n := 16) hZ uw_8 (hts _ (tzw 21 (by decide +kernel)))
      exact ⟨(c1, i1), fun q hq => by cases hq; exact h1⟩
    | 9 =>
      obtain ⟨c1, i1, h1⟩ := u_known (C := RX9) (T := TX9) (N := 26) (n := 26) hZ uw_9 (hts _ (tzw 1166 (by decide +kernel)))
      exact ⟨(c1, i1), fun q hq => by cases hq; exact h1⟩
    | k + 10 => exact ⟨(0, fun _ => 0), fun q hq => by simp [vwCl] at hq⟩
  obtain ⟨ad, had⟩ := Classical.axiomOfChoice h0
  exact ⟨(fun k => (ad k).1, fun k => (ad k).2), fun k q hq => had k q hq⟩
theorem k_all {s : State} {args : Array Value} (hts : ∀ w ∈ lw_tbl, w.before args s = true) (hg : (Jvm.Cond.and given_1 narrow_1).before args s = true) : ∃ (D : va_G) (cI cR cL : ClassId), va_K D vwCl (tyL cI cR cL) s := by
  obtain ⟨D, hD⟩ := kn_all hts
  obtain ⟨cI, hI⟩ := ka_int (hts _ (tzw 92 (by decide +kernel)))
  obtain ⟨cR, hR⟩ := ka_ref (args := args) (C := RX6) (va_AO.use (ex_all hts hg).2.2.2.2)
  obtain ⟨cL, hL⟩ := ka_long (hts _ (tzw 1805 (by decide +kernel)))
  refine ⟨D, cI, cR, cL, hD, fun k q hk => ?_⟩
  match k, hk with
  | 0, hk => cases hk; exact hI
  | 1, hk => cases hk; exact hR
  | 2, hk => cases hk; exact hL
  | k + 3, hk => simp at hk
/-! the two memories at the start -/
def S0 (k : Nat) : Int := match k with
  | 1 => 1
  | 2 => 2
  | 3 => 1
  | 4 => 1
  | 5 => 1
  | 6 => 3
  | 7 => 2
  | _ => 0
def cf0 : Cf := (S0, fun _ _ => 0, 0, false, fun _ => 0, fun _ => 0, 0)
theorem S0_n : nn S0 = 0 := rfl
theorem S0_wf : WF S0 := by
  refine ⟨by decide, by decide, by decide, by decide, fun k => ?_, fun i hi => absurd hi (by rw [S0_n]; omega)⟩
  unfold S0
  split <;> omega
theorem gcf0 : GC cf0 := ⟨S0_wf, fun r hr => absurd hr (Nat.not_lt_zero r), fun h => absurd h (by decide), Nat.zero_le _, fun i hi => absurd hi (Nat.not_lt_zero i), fun i _ => rfl⟩
theorem xrS0 : XR (fun r => 13 + 10 * r) μ0X := by
  refine ⟨by decide +kernel, fun r q h1 h2 h3 => ?_⟩
  have h3 : 13 + 10 * r = 13 + 10 * q := h3
  omega
theorem xsS0 : XS 1 S0 μ0X := ⟨by decide +kernel, by decide +kernel, by decide +kernel, by decide +kernel, fun k hk => by
  rw [show S0 (8 + k) = 0 by unfold S0; split <;> first | omega | rfl]
  rfl, fun i hi => absurd hi (by rw [S0_n]; omega)⟩
theorem xcf0 : XC cf0 μ0X := ⟨⟨xsS0, S0_wf, Or.inl (by decide +kernel), Or.inl (by decide +kernel)⟩, ⟨by decide +kernel, by decide, _, xrS0, fun r hr => absurd hr (Nat.not_lt_zero r)⟩, by decide +kernel, fun h => absurd h (by decide), by decide +kernel, fun i hi => absurd hi (Nat.not_lt_zero i)⟩
theorem msS0 : MS S0 μ0M := fun k hk => by
  by_cases h : k < 8
  · rcases (show k = 0 ∨ k = 1 ∨ k = 2 ∨ k = 3 ∨ k = 4 ∨ k = 5 ∨ k = 6 ∨ k = 7 by omega) with rfl | rfl | rfl | rfl | rfl | rfl | rfl | rfl <;> decide +kernel
  · rw [show S0 k = 0 by unfold S0; split <;> first | omega | rfl]
    show upd (upd (upd (upd (upd (upd (upd (fun _ => 0) 1 (1 : Int32)) 2 (2 : Int32)) 3 (1 : Int32)) 4 (1 : Int32)) 5 (1 : Int32)) 6 (3 : Int32)) 7 (2 : Int32) k = ic 0
    simp only [upd]
    repeat rw [if_neg (by omega)]
    rfl
theorem mcf0 : MC cf0 μ0M := ⟨msS0, ⟨by decide +kernel, by decide, fun r k hr => absurd hr (Nat.not_lt_zero r)⟩, by decide +kernel, fun h => absurd h (by decide), by decide +kernel, fun i hi => absurd hi (Nat.not_lt_zero i)⟩
