/-! THE START: what the Statement gives of it -/
theorem tzw {w : Cond} (i : Nat) (h : tables_1[i]? = some w) : w ∈ lw_tbl := List.mem_append_right _ (List.mem_of_getElem? h)
section STARTS
variable {s : State} {args : Array Value}
theorem gzw {w : Cond} (hg : (Jvm.Cond.and given_1 narrow_1).before args s = true) (i : Nat) (h : (flatC (Jvm.Cond.and given_1 narrow_1))[i]? = some w) : w.before args s = true := flat_of_before _ hg w (List.mem_of_getElem? h)
theorem ex_str {k : Nat} {tx : String} (h1 : (Cond.stringRef RX8 k tx).before args s = true) (h2 : (Cond.exactly (Term.string RX8 k) "java/lang/String").before args s = true) : ∃ sa, vk_R RX8 k tx sa s := by
  obtain ⟨a, c, cA, kA, q1, -⟩ := Cond.exactly_spec (args := args) (first := s) (o := none) (s := s) (idx := []) (t := Term.string RX8 k) (cls := "java/lang/String") h2
  exact ⟨a, vk_R.of h1 q1⟩
theorem ka_int (h : (Cond.arrayClass .int).before args s = true) : ∃ cA, ArrOfT s cA .int ∧ va_RA s cA .int := by
  obtain ⟨cA, kA, comp, h1, h2, h3⟩ := Cond.arrayClass_spec h
  exact ⟨cA, fun n z => ⟨fun k h => (by cases h), kA, h2, comp, h3⟩, h1⟩
theorem ka_long (h : (Cond.arrayClass .long).before args s = true) : ∃ cA, ArrOfT s cA .long ∧ va_RA s cA .long := by
  obtain ⟨cA, kA, comp, h1, h2, h3⟩ := Cond.arrayClass_spec h
  exact ⟨cA, fun n z => ⟨fun k h => (by cases h), kA, h2, comp, h3⟩, h1⟩
theorem ka_ref {C : String} (h : (Cond.arrayOver (.object C)).before args s = true) : ∃ cA, ArrOfT s cA (.object C) ∧ va_RA s cA (.object C) := by
  obtain ⟨comp, cA, kA, h1, h2, h3, h4, h5⟩ := Cond.arrayOver_spec h
  exact ⟨cA, fun n z => ⟨fun k h => (by cases h), kA, h3, comp, h4⟩, kA, comp, h3, h4, h1, h5⟩
end STARTS
theorem ex_nests {s : State} {args : Array Value} (hts : ∀ w ∈ lw_tbl, w.before args s = true) : ∀ q ∈ nests, va_Nw (.methodLinkNest q.1 q.2.1 q.2.2.1 q.2.2.2) s := List.forall_mem_cons.mpr ⟨va_Nw.of rfl (hts _ (tzw 28 (by decide +kernel))), List.forall_mem_cons.mpr ⟨va_Nw.of rfl (hts _ (tzw 99 (by decide +kernel))), List.forall_mem_cons.mpr ⟨va_Nw.of rfl (hts _ (tzw 110 (by decide +kernel))), List.forall_mem_cons.mpr ⟨va_Nw.of rfl (hts _ (tzw 124 (by decide +kernel))), List.forall_mem_cons.mpr ⟨va_Nw.of rfl (hts _ (tzw 159 (by decide +kernel))), List.forall_mem_cons.mpr ⟨va_Nw.of rfl (hts _ (tzw 173 (by decide +kernel))), List.forall_mem_cons.mpr ⟨va_Nw.of rfl (hts _ (tzw 186 (by decide +kernel))), List.forall_mem_cons.mpr ⟨va_Nw.of rfl (hts _ (tzw 208 (by decide +kernel))), List.forall_mem_cons.mpr ⟨va_Nw.of rfl (hts _ (tzw 1050 (by decide +kernel))), fun _ h => absurd h List.not_mem_nil⟩⟩⟩⟩⟩⟩⟩⟩⟩
theorem ex_strs {s : State} {args : Array Value} (hts : ∀ w ∈ lw_tbl, w.before args s = true) (hg : (Jvm.Cond.and given_1 narrow_1).before args s = true) : ∀ q ∈ strs, ∃ sa, vk_R RX8 q.1 q.2 sa s := List.forall_mem_cons.mpr ⟨ex_str (hts _ (tzw 322 (by decide +kernel))) (gzw hg 39 (by decide +kernel)), List.forall_mem_cons.mpr ⟨ex_str (hts _ (tzw 358 (by decide +kernel))) (gzw hg 68 (by decide +kernel)), List.forall_mem_cons.mpr ⟨ex_str (hts _ (tzw 374 (by decide +kernel))) (gzw hg 100 (by decide +kernel)), List.forall_mem_cons.mpr ⟨ex_str (hts _ (tzw 419 (by decide +kernel))) (gzw hg 124 (by decide +kernel)), List.forall_mem_cons.mpr ⟨ex_str (hts _ (tzw 530 (by decide +kernel))) (gzw hg 147 (by decide +kernel)), List.forall_mem_cons.mpr ⟨ex_str (hts _ (tzw 548 (by decide +kernel))) (gzw hg 169 (by decide +kernel)), List.forall_mem_cons.mpr ⟨ex_str (hts _ (tzw 574 (by decide +kernel))) (gzw hg 189 (by decide +kernel)), List.forall_mem_cons.mpr ⟨ex_str (hts _ (tzw 605 (by decide +kernel))) (gzw hg 211 (by decide +kernel)), List.forall_mem_cons.mpr ⟨ex_str (hts _ (tzw 606 (by decide +kernel))) (gzw hg 234 (by decide +kernel)), List.forall_mem_cons.mpr ⟨ex_str (hts _ (tzw 611 (by decide +kernel))) (gzw hg 264 (by decide +kernel)), List.forall_mem_cons.mpr ⟨ex_str (hts _ (tzw 616 (by decide +kernel))) (gzw hg 297 (by decide +kernel)), List.forall_mem_cons.mpr ⟨ex_str (hts _ (tzw 624 (by decide +kernel))) (gzw hg 329 (by decide +kernel)), List.forall_mem_cons.mpr ⟨ex_str (hts _ (tzw 629 (by decide +kernel))) (gzw hg 363 (by decide +kernel)), List.forall_mem_cons.mpr ⟨ex_str (hts _ (tzw 634 (by decide +kernel))) (gzw hg 403 (by decide +kernel)), List.forall_mem_cons.mpr ⟨ex_str (hts _ (tzw 635 (by decide +kernel))) (gzw hg 437 (by decide +kernel)), List.forall_mem_cons.mpr ⟨ex_str (hts _ (tzw 676 (by decide +kernel))) (gzw hg 473 (by decide +kernel)), List.forall_mem_cons.mpr ⟨ex_str (hts _ (tzw 681 (by decide +kernel))) (gzw hg 520 (by decide +kernel)), List.forall_mem_cons.mpr ⟨ex_str (hts _ (tzw 870 (by decide +kernel))) (gzw hg 558 (by decide +kernel)), List.forall_mem_cons.mpr ⟨ex_str (hts _ (tzw 889 (by decide +kernel))) (gzw hg 591 (by decide +kernel)), fun _ h => absurd h List.not_mem_nil⟩⟩⟩⟩⟩⟩⟩⟩⟩⟩⟩⟩⟩⟩⟩⟩⟩⟩⟩
theorem ex_cast {s : State} {args : Array Value} (hts : ∀ w ∈ lw_tbl, w.before args s = true) : ∀ k, k < 4 → va_Nw (.castable (xnm k) (xnm k)) s := by
  intro k hk
  rcases (show k = 0 ∨ k = 1 ∨ k = 2 ∨ k = 3 by omega) with rfl | rfl | rfl | rfl
  · exact va_Nw.of rfl (hts _ (tzw 367 (by decide +kernel)))
  · exact va_Nw.of rfl (hts _ (tzw 283 (by decide +kernel)))
  · exact va_Nw.of rfl (hts _ (tzw 351 (by decide +kernel)))
  · exact va_Nw.of rfl (hts _ (tzw 367 (by decide +kernel)))
theorem ex_decl {s : State} {args : Array Value} (hts : ∀ w ∈ lw_tbl, w.before args s = true) : ∀ x ∈ dcls, va_Nw (.declares x) s := List.forall_mem_cons.mpr ⟨va_Nw.of rfl (hts _ (tzw 284 (by decide +kernel))), List.forall_mem_cons.mpr ⟨va_Nw.of rfl (hts _ (tzw 285 (by decide +kernel))), List.forall_mem_cons.mpr ⟨va_Nw.of rfl (hts _ (tzw 286 (by decide +kernel))), List.forall_mem_cons.mpr ⟨va_Nw.of rfl (hts _ (tzw 287 (by decide +kernel))), List.forall_mem_cons.mpr ⟨va_Nw.of rfl (hts _ (tzw 288 (by decide +kernel))), List.forall_mem_cons.mpr ⟨va_Nw.of rfl (hts _ (tzw 289 (by decide +kernel))), fun _ h => absurd h List.not_mem_nil⟩⟩⟩⟩⟩⟩
theorem ex_all {s : State} {args : Array Value} (hts : ∀ w ∈ lw_tbl, w.before args s = true) (hg : (Jvm.Cond.and given_1 narrow_1).before args s = true) : EXn s := ⟨ex_nests hts, ex_strs hts hg, ex_cast hts, ex_decl hts, va_AO.of (hts _ (tzw 98 (by decide +kernel)))⟩
theorem nc_all {s : State} {args : Array Value} (hg : (Jvm.Cond.and given_1 narrow_1).before args s = true) : NCn s := by
  intro i j h1 h2 h3 h4 h5
  rcases (show (i = 1 ∧ j = 2) ∨ (i = 1 ∧ j = 3) ∨ (i = 2 ∧ j = 1) ∨ (i = 2 ∧ j = 3) ∨ (i = 3 ∧ j = 1) ∨ (i = 3 ∧ j = 2) by omega) with ⟨rfl, rfl⟩ | ⟨rfl, rfl⟩ | ⟨rfl, rfl⟩ | ⟨rfl, rfl⟩ | ⟨rfl, rfl⟩ | ⟨rfl, rfl⟩
  · exact va_Nc.of (gzw hg 26 (by decide +kernel))
  · exact va_Nc.of (gzw hg 37 (by decide +kernel))
  · exact va_Nc.of (gzw hg 15 (by decide +kernel))
  · exact va_Nc.of (gzw hg 38 (by decide +kernel))
  · exact va_Nc.of (gzw hg 16 (by decide +kernel))
  · exact va_Nc.of (gzw hg 27 (by decide +kernel))
theorem stt_all {s : State} {args : Array Value} (hts : ∀ w ∈ lw_tbl, w.before args s = true) (hg : (Jvm.Cond.and given_1 narrow_1).before args s = true) {A : Nat → Prop} (hA : ∀ a : Nat, a < s.heap.size → ¬ A a) : STT A s s.heap :=
  ⟨vx_Zqof (hts _ (tzw 308 (by decide +kernel))) (hts _ (tzw 10 (by decide +kernel))) (gzw hg 4 (by decide +kernel)) hA, vx_Zqof (hts _ (tzw 310 (by decide +kernel))) (hts _ (tzw 10 (by decide +kernel))) (gzw hg 5 (by decide +kernel)) hA⟩
theorem kn_all {s : State} {args : Array Value} (hts : ∀ w ∈ lw_tbl, w.before args s = true) : ∃ D : va_G, ∀ (k : Nat) (q : vw_C), vwCl[k]? = some q → u_Kn s q.1 q.2.1 q.2.2 (D.1 k) (D.2 k) := by
  have hZ : ∀ w ∈ Z_W, w.before args s = true := fun w hw => hts w (List.mem_filter.mp hw).1
  have h0 : ∀ k : Nat, ∃ d : ClassId × (Nat → Nat), ∀ q : vw_C, vwCl[k]? = some q → u_Kn s q.1 q.2.1 q.2.2 d.1 d.2 := by
    intro k
    match k with
    | 0 =>
      obtain ⟨c1, i1, h1⟩ := u_known (C := RX0) (T := TX0) (N := 2) (n := 2) hZ uw_0 (hts _ (tzw 172 (by decide +kernel)))
      exact ⟨(c1, i1), fun q hq => by cases hq; exact h1⟩
    | 1 =>
      obtain ⟨c1, i1, h1⟩ := u_known (C := RX1) (T := TX1) (N := 2) (n := 2) hZ uw_1 (hts _ (tzw 92 (by decide +kernel)))
      exact ⟨(c1, i1), fun q hq => by cases hq; exact h1⟩
    | 2 =>
      obtain ⟨c1, i1, h1⟩ := u_known (C := RX2) (T := TX2) (N := 8) (n := 8) hZ uw_2 (hts _ (tzw 123 (by decide +kernel)))
      exact ⟨(c1, i1), fun q hq => by cases hq; exact h1⟩
    | 3 =>
      obtain ⟨c1, i1, h1⟩ := u_known (C := RX3) (T := TX3) (N := 4) (n := 4) hZ uw_3 (hts _ (tzw 185 (by decide +kernel)))
      exact ⟨(c1, i1), fun q hq => by cases hq; exact h1⟩
    | 4 =>
      obtain ⟨c1, i1, h1⟩ := u_known (C := RX4) (T := TX4) (N := 2) (n := 2) hZ uw_4 (hts _ (tzw 158 (by decide +kernel)))
      exact ⟨(c1, i1), fun q hq => by cases hq; exact h1⟩
    | 5 =>
      obtain ⟨c1, i1, h1⟩ := u_known (C := RX5) (T := TX5) (N := 4) (n := 4) hZ uw_5 (hts _ (tzw 207 (by decide +kernel)))
      exact ⟨(c1, i1), fun q hq => by cases hq; exact h1⟩
    | 6 =>
      obtain ⟨c1, i1, h1⟩ := u_known (C := RX6) (T := TX6) (N := 11) (n := 11) hZ uw_6 (hts _ (tzw 27 (by decide +kernel)))
      exact ⟨(c1, i1), fun q hq => by cases hq; exact h1⟩
    | 7 =>
      obtain ⟨c1, i1, h1⟩ := u_known (C := RX7) (T := TX7) (N := 2) (n := 2) hZ uw_7 (hts _ (tzw 109 (by decide +kernel)))
      exact ⟨(c1, i1), fun q hq => by cases hq; exact h1⟩
    | 8 =>
      obtain ⟨c1, i1, h1⟩ := u_known (C := RX8) (T := TX8) (N := 16) (n := 16) hZ uw_8 (hts _ (tzw 19 (by decide +kernel)))
      exact ⟨(c1, i1), fun q hq => by cases hq; exact h1⟩
    | k + 9 => exact ⟨(0, fun _ => 0), fun q hq => by simp [vwCl] at hq⟩
  obtain ⟨ad, had⟩ := Classical.axiomOfChoice h0
  exact ⟨(fun k => (ad k).1, fun k => (ad k).2), fun k q hq => had k q hq⟩
theorem k_all {s : State} {args : Array Value} (hts : ∀ w ∈ lw_tbl, w.before args s = true) (hg : (Jvm.Cond.and given_1 narrow_1).before args s = true) : ∃ (D : va_G) (cI cR cL : ClassId), va_K D vwCl (tyL cI cR cL) s := by
  obtain ⟨D, hD⟩ := kn_all hts
  obtain ⟨cI, hI⟩ := ka_int (hts _ (tzw 90 (by decide +kernel)))
  obtain ⟨cR, hR⟩ := ka_ref (args := args) (C := RX6) (va_AO.use (ex_all hts hg).2.2.2.2)
  obtain ⟨cL, hL⟩ := ka_long (hts _ (tzw 1157 (by decide +kernel)))
  refine ⟨D, cI, cR, cL, hD, fun k q hk => ?_⟩
  match k, hk with
  | 0, hk => cases hk; exact hI
  | 1, hk => cases hk; exact hR
  | 2, hk => cases hk; exact hL
  | k + 3, hk => simp at hk
