/-! THE LAW: its wrappers, one by one -/
section XO
variable {cI cR cL : ClassId} {adX : Nat → Nat} {q : Nat} {X : Mem} {o o9 : Nat → Int64}
theorem xo_get : (wXo cI cR cL adX q X o)[NX]? = some (ou cL q o) := by
  rw [List.getElem?_append_right (Nat.le_of_eq wo_len), wo_len]
  simp
theorem xo_set : (wXo cI cR cL adX q X o).set NX (ou cL q o9) = wXo cI cR cL adX q X o9 := by
  rw [List.set_append_right _ _ (Nat.le_of_eq wo_len), wo_len]
  simp
end XO
theorem dL_insert_0 : decode cL_insert 0 = .ok (.aload 7, 2) := by decide +kernel
theorem dL_insert_2 : decode cL_insert 2 = .ok (.iconst 0, 1) := by decide +kernel
theorem dL_insert_3 : decode cL_insert 3 = .ok (.aload_n 0, 1) := by decide +kernel
theorem dL_insert_4 : decode cL_insert 4 = .ok (.iload_n 1, 1) := by decide +kernel
theorem dL_insert_5 : decode cL_insert 5 = .ok (.iload_n 2, 1) := by decide +kernel
theorem dL_insert_6 : decode cL_insert 6 = .ok (.iload_n 3, 1) := by decide +kernel
theorem dL_insert_7 : decode cL_insert 7 = .ok (.iload 4, 2) := by decide +kernel
theorem dL_insert_9 : decode cL_insert 9 = .ok (.iload 5, 2) := by decide +kernel
theorem dL_insert_11 : decode cL_insert 11 = .ok (.iload 6, 2) := by decide +kernel
theorem dL_insert_13 : decode cL_insert 13 = .ok (.invokevirtual 7, 3) := by decide +kernel
theorem dL_insert_16 : decode cL_insert 16 = .ok (.i2l, 1) := by decide +kernel
theorem dL_insert_17 : decode cL_insert 17 = .ok (.lastore, 1) := by decide +kernel
theorem dL_insert_18 : decode cL_insert 18 = .ok (.goto 15, 3) := by decide +kernel
theorem dL_insert_21 : decode cL_insert 21 = .ok (.astore 8, 2) := by decide +kernel
theorem dL_insert_23 : decode cL_insert 23 = .ok (.iconst 1, 1) := by decide +kernel
theorem dL_insert_24 : decode cL_insert 24 = .ok (.ireturn, 1) := by decide +kernel
theorem dL_insert_25 : decode cL_insert 25 = .ok (.astore 8, 2) := by decide +kernel
theorem dL_insert_27 : decode cL_insert 27 = .ok (.iconst 2, 1) := by decide +kernel
theorem dL_insert_28 : decode cL_insert 28 = .ok (.ireturn, 1) := by decide +kernel
theorem dL_insert_29 : decode cL_insert 29 = .ok (.astore 8, 2) := by decide +kernel
theorem dL_insert_31 : decode cL_insert 31 = .ok (.iconst 3, 1) := by decide +kernel
theorem dL_insert_32 : decode cL_insert 32 = .ok (.ireturn, 1) := by decide +kernel
theorem dL_insert_33 : decode cL_insert 33 = .ok (.iconst 0, 1) := by decide +kernel
theorem dL_insert_34 : decode cL_insert 34 = .ok (.ireturn, 1) := by decide +kernel
theorem cvL_insert : MLV RL 7 yX8_insert cX8_insert 7 (some .int) 6 := ⟨(zw 726 (by decide +kernel) (by decide +kernel)), (zw 727 (by decide +kernel) (by decide +kernel)), (zw 728 (by decide +kernel) (by decide +kernel)), (zw 1 (by decide +kernel) (by decide +kernel)), (zw 729 (by decide +kernel) (by decide +kernel)), ⟨by decide +kernel, by decide +kernel, by decide +kernel⟩, by decide⟩
theorem thr_insert {X : Mem} {a1 : Int32} {a2 : Int32} {a3 : Int32} {a4 : Int32} {a5 : Int32} {a6 : Int32} : Thr [1, 2, 3] (fX8_insert X a1 a2 a3 a4 a5 a6) := by
  unfold fX8_insert
  repeat' (first | exact tr_inl | exact tr_none | exact tr_inr (by decide) | refine tr_if ?_ ?_ | refine tr_bx ?_ (fun _ _ => ?_) | refine tr_bd (fun _ _ => ?_) | refine tr_bind (fun _ => ?_) | unfold fX8_insert_L38 | unfold fX8_insert_L72)
theorem cwL_insert {l : Launch} {D : va_G} {cI cR cL : ClassId} {adX : Nat → Nat} {q : Nat} {X : Mem} {o : Nat → Int64} {a1 : Int32} {a2 : Int32} {a3 : Int32} {a4 : Int32} {a5 : Int32} {a6 : Int32} (hl9 : l.stackTraces = false) {r : Int32 ⊕ Nat} {X1 : Mem} (hf : fX8_insert X a1 a2 a3 a4 a5 a6 = some (r, X1)) : CW l yL_insert cL_insert 9 [(0, 18, 21, 13), (0, 18, 25, 15), (0, 18, 29, 17)] 8 1 D cI cR cL adX q [.ref (adX 0), .int a1, .int a2, .int a3, .int a4, .int a5, .int a6, .ref q] X o (cdw cdI r) X1 (ow o r) := by
  refine cw_of (own := RL) (by decide +kernel) rfl (Nat.le_of_ble_eq_true rfl) (fun p e s m below meth c A0 E htab hr => ?_)
  refine lc_lo (lo' := [some (.ref (adX 0)), some (.int a1), some (.int a2), some (.int a3), some (.int a4), some (.int a5), some (.int a6), some (.ref q), none]) ⟨rfl, rfl, rfl, rfl, rfl, rfl, rfl, rfl, trivial⟩ ?_
  refine lc_aload E.1 (pc := 0) dL_insert_0 rfl ?_
  refine lc_iconst E.1 (pc := 2) dL_insert_2 kc_0 ?_
  refine lc_aload_n E.1 (pc := 3) dL_insert_3 rfl ?_
  refine lc_iload_n E.1 (pc := 4) dL_insert_4 rfl ?_
  refine lc_iload_n E.1 (pc := 5) dL_insert_5 rfl ?_
  refine lc_iload_n E.1 (pc := 6) dL_insert_6 rfl ?_
  refine lc_iload E.1 (pc := 7) dL_insert_7 rfl ?_
  refine lc_iload E.1 (pc := 9) dL_insert_9 rfl ?_
  refine lc_iload E.1 (pc := 11) dL_insert_11 rfl ?_
  refine lc_wcall E (pc := 13) [(21, 1), (25, 2), (29, 3)] 18 htab (by decide) [.int a1, .int a2, .int a3, .int a4, .int a5, .int a6] [.int 0, .ref q] dL_insert_13 cvL_insert (cxX8_insert hl9 hf) rfl rfl rfl (Nat.le_of_ble_eq_true rfl) ⟨(Nat.le_of_ble_eq_true rfl), (Nat.le_of_ble_eq_true rfl)⟩ ⟨(Nat.le_of_ble_eq_true rfl), (Nat.le_of_ble_eq_true rfl)⟩ (fun k hk => ?_) (fun v hv => ?_)
  · subst hk
    have hk9 := thr_insert _ _ hf
    simp only [List.mem_cons, List.not_mem_nil, or_false] at hk9
    rcases hk9 with rfl | rfl | rfl
    · refine ⟨[], 21, [(25, 2), (29, 3)], rfl, by decide, by decide, by decide, fun q9 => ?_⟩
      rw [show cdw cdI (.inr 1) = (1 : Int32) from by decide +kernel]
      exact lc_astore E.1 (pc := 21) dL_insert_21 (by decide) rfl rfl (lc_iconst E.1 (pc := 23) dL_insert_23 kc_1 (lc_wret E (pc := 24) hr dL_insert_24 (by decide)))
    · refine ⟨[(21, 1)], 25, [(29, 3)], rfl, by decide, by decide, by decide, fun q9 => ?_⟩
      rw [show cdw cdI (.inr 2) = (2 : Int32) from by decide +kernel]
      exact lc_astore E.1 (pc := 25) dL_insert_25 (by decide) rfl rfl (lc_iconst E.1 (pc := 27) dL_insert_27 kc_2 (lc_wret E (pc := 28) hr dL_insert_28 (by decide)))
    · refine ⟨[(21, 1), (25, 2)], 29, [], rfl, by decide, by decide, by decide, fun q9 => ?_⟩
      rw [show cdw cdI (.inr 3) = (3 : Int32) from by decide +kernel]
      exact lc_astore E.1 (pc := 29) dL_insert_29 (by decide) rfl rfl (lc_iconst E.1 (pc := 31) dL_insert_31 kc_3 (lc_wret E (pc := 32) hr dL_insert_32 (by decide)))
  · subst hv
    exact lc_i2l E.1 (pc := 16) dL_insert_16 (lc_last E (pc := 17) NX xo_get xo_set dL_insert_17 (lc_goto E.1 (pc := 18) (tgt := 33) dL_insert_18 rfl (lc_iconst E.1 (pc := 33) dL_insert_33 kc_0 (lc_wret E (pc := 34) hr dL_insert_34 (by decide)))))
theorem wL_insert {l : Launch} (hl9 : l.stackTraces = false) {c : Cf} {X M : Mem} (hG : GC c) (hX : XC c X) (hM : MC c M) (a1 : Int32) (a2 : Int32) (a3 : Int32) (a4 : Int32) (a5 : Int32) (a6 : Int32) (D : va_G) (cI cR cL : ClassId) (adX : Nat → Nat) (q : Nat) (o9 : Nat → Int64) : ∃ (c1 : Cf) (X1 M1 : Mem) (w v : Int32) (o1 : Nat → Int64), GC c1 ∧ XC c1 X1 ∧ MC c1 M1 ∧ CW l yL_insert cL_insert 9 [(0, 18, 21, 13), (0, 18, 25, 15), (0, 18, 29, 17)] 8 1 D cI cR cL adX q [.ref (adX 0), .int a1, .int a2, .int a3, .int a4, .int a5, .int a6, .ref q] X o9 w X1 o1 ∧ fX9_insert M a1 a2 a3 a4 a5 a6 = some (v, M1) ∧ M1 0 22 = w ∧ (w = 0 → o1 0 = v.toInt64) :=
  agr_w (P := fun w X1 o1 => CW l yL_insert cL_insert 9 [(0, 18, 21, 13), (0, 18, 25, 15), (0, 18, 29, 17)] 8 1 D cI cR cL adX q [.ref (adX 0), .int a1, .int a2, .int a3, .int a4, .int a5, .int a6, .ref q] X o9 w X1 o1) (a_insert hG hX hM a1 a2 a3 a4 a5 a6) (fun r X1 h => cwL_insert hl9 h)
theorem dL_remove_0 : decode cL_remove 0 = .ok (.aload_n 2, 1) := by decide +kernel
theorem dL_remove_1 : decode cL_remove 1 = .ok (.iconst 0, 1) := by decide +kernel
theorem dL_remove_2 : decode cL_remove 2 = .ok (.aload_n 0, 1) := by decide +kernel
theorem dL_remove_3 : decode cL_remove 3 = .ok (.iload_n 1, 1) := by decide +kernel
theorem dL_remove_4 : decode cL_remove 4 = .ok (.invokevirtual 19, 3) := by decide +kernel
theorem dL_remove_7 : decode cL_remove 7 = .ok (.i2l, 1) := by decide +kernel
theorem dL_remove_8 : decode cL_remove 8 = .ok (.lastore, 1) := by decide +kernel
theorem dL_remove_9 : decode cL_remove 9 = .ok (.goto 6, 3) := by decide +kernel
theorem dL_remove_12 : decode cL_remove 12 = .ok (.astore_n 3, 1) := by decide +kernel
theorem dL_remove_13 : decode cL_remove 13 = .ok (.iconst 1, 1) := by decide +kernel
theorem dL_remove_14 : decode cL_remove 14 = .ok (.ireturn, 1) := by decide +kernel
theorem dL_remove_15 : decode cL_remove 15 = .ok (.iconst 0, 1) := by decide +kernel
theorem dL_remove_16 : decode cL_remove 16 = .ok (.ireturn, 1) := by decide +kernel
theorem cvL_remove : MLV RL 19 yX8_remove cX8_remove 2 (some .int) 1 := ⟨(zw 844 (by decide +kernel) (by decide +kernel)), (zw 845 (by decide +kernel) (by decide +kernel)), (zw 846 (by decide +kernel) (by decide +kernel)), (zw 1 (by decide +kernel) (by decide +kernel)), (zw 847 (by decide +kernel) (by decide +kernel)), ⟨by decide +kernel, by decide +kernel, by decide +kernel⟩, by decide⟩
theorem thr_remove {X : Mem} {a1 : Int32} : Thr [1] (fX8_remove X a1) := by
  unfold fX8_remove
  repeat' (first | exact tr_inl | exact tr_none | exact tr_inr (by decide) | refine tr_if ?_ ?_ | refine tr_bx ?_ (fun _ _ => ?_) | refine tr_bd (fun _ _ => ?_) | refine tr_bind (fun _ => ?_) | unfold fX8_checkStep | unfold fX8_checkStep_L15)
theorem cwL_remove {l : Launch} {D : va_G} {cI cR cL : ClassId} {adX : Nat → Nat} {q : Nat} {X : Mem} {o : Nat → Int64} {a1 : Int32} (hl9 : l.stackTraces = false) {r : Int32 ⊕ Nat} {X1 : Mem} (hf : fX8_remove X a1 = some (r, X1)) : CW l yL_remove cL_remove 4 [(0, 9, 12, 13)] 9 1 D cI cR cL adX q [.ref (adX 0), .int a1, .ref q] X o (cdw cd1 r) X1 (ow o r) := by
  refine cw_of (own := RL) (by decide +kernel) rfl (Nat.le_of_ble_eq_true rfl) (fun p e s m below meth c A0 E htab hr => ?_)
  refine lc_lo (lo' := [some (.ref (adX 0)), some (.int a1), some (.ref q), none]) ⟨rfl, rfl, rfl, trivial⟩ ?_
  refine lc_aload_n E.1 (pc := 0) dL_remove_0 rfl ?_
  refine lc_iconst E.1 (pc := 1) dL_remove_1 kc_0 ?_
  refine lc_aload_n E.1 (pc := 2) dL_remove_2 rfl ?_
  refine lc_iload_n E.1 (pc := 3) dL_remove_3 rfl ?_
  refine lc_wcall E (pc := 4) [(12, 1)] 9 htab (by decide) [.int a1] [.int 0, .ref q] dL_remove_4 cvL_remove (cxX8_remove hl9 hf) rfl rfl rfl (Nat.le_of_ble_eq_true rfl) ⟨(Nat.le_of_ble_eq_true rfl), (Nat.le_of_ble_eq_true rfl)⟩ ⟨(Nat.le_of_ble_eq_true rfl), (Nat.le_of_ble_eq_true rfl)⟩ (fun k hk => ?_) (fun v hv => ?_)
  · subst hk
    have hk9 := thr_remove _ _ hf
    simp only [List.mem_cons, List.not_mem_nil, or_false] at hk9
    subst hk9
    · refine ⟨[], 12, [], rfl, by decide, by decide, by decide, fun q9 => ?_⟩
      rw [show cdw cd1 (.inr 1) = (1 : Int32) from by decide +kernel]
      exact lc_astore_n E.1 (pc := 12) dL_remove_12 (by decide) rfl rfl (lc_iconst E.1 (pc := 13) dL_remove_13 kc_1 (lc_wret E (pc := 14) hr dL_remove_14 (by decide)))
  · subst hv
    exact lc_i2l E.1 (pc := 7) dL_remove_7 (lc_last E (pc := 8) NX xo_get xo_set dL_remove_8 (lc_goto E.1 (pc := 9) (tgt := 15) dL_remove_9 rfl (lc_iconst E.1 (pc := 15) dL_remove_15 kc_0 (lc_wret E (pc := 16) hr dL_remove_16 (by decide)))))
theorem wL_remove {l : Launch} (hl9 : l.stackTraces = false) {c : Cf} {X M : Mem} (hG : GC c) (hX : XC c X) (hM : MC c M) (a1 : Int32) (D : va_G) (cI cR cL : ClassId) (adX : Nat → Nat) (q : Nat) (o9 : Nat → Int64) : ∃ (c1 : Cf) (X1 M1 : Mem) (w v : Int32) (o1 : Nat → Int64), GC c1 ∧ XC c1 X1 ∧ MC c1 M1 ∧ CW l yL_remove cL_remove 4 [(0, 9, 12, 13)] 9 1 D cI cR cL adX q [.ref (adX 0), .int a1, .ref q] X o9 w X1 o1 ∧ fX9_remove M a1 = some (v, M1) ∧ M1 0 22 = w ∧ (w = 0 → o1 0 = v.toInt64) :=
  agr_w (P := fun w X1 o1 => CW l yL_remove cL_remove 4 [(0, 9, 12, 13)] 9 1 D cI cR cL adX q [.ref (adX 0), .int a1, .ref q] X o9 w X1 o1) (a_remove hG hX hM a1) (fun r X1 h => cwL_remove hl9 h)
theorem dL_exchange_0 : decode cL_exchange 0 = .ok (.aload_n 3, 1) := by decide +kernel
theorem dL_exchange_1 : decode cL_exchange 1 = .ok (.iconst 0, 1) := by decide +kernel
theorem dL_exchange_2 : decode cL_exchange 2 = .ok (.aload_n 0, 1) := by decide +kernel
theorem dL_exchange_3 : decode cL_exchange 3 = .ok (.iload_n 1, 1) := by decide +kernel
theorem dL_exchange_4 : decode cL_exchange 4 = .ok (.iload_n 2, 1) := by decide +kernel
theorem dL_exchange_5 : decode cL_exchange 5 = .ok (.invokevirtual 23, 3) := by decide +kernel
theorem dL_exchange_8 : decode cL_exchange 8 = .ok (.i2l, 1) := by decide +kernel
theorem dL_exchange_9 : decode cL_exchange 9 = .ok (.lastore, 1) := by decide +kernel
theorem dL_exchange_10 : decode cL_exchange 10 = .ok (.goto 7, 3) := by decide +kernel
theorem dL_exchange_13 : decode cL_exchange 13 = .ok (.astore 4, 2) := by decide +kernel
theorem dL_exchange_15 : decode cL_exchange 15 = .ok (.iconst 1, 1) := by decide +kernel
theorem dL_exchange_16 : decode cL_exchange 16 = .ok (.ireturn, 1) := by decide +kernel
theorem dL_exchange_17 : decode cL_exchange 17 = .ok (.iconst 0, 1) := by decide +kernel
theorem dL_exchange_18 : decode cL_exchange 18 = .ok (.ireturn, 1) := by decide +kernel
theorem cvL_exchange : MLV RL 23 yX8_exchange cX8_exchange 3 (some .int) 2 := ⟨(zw 864 (by decide +kernel) (by decide +kernel)), (zw 865 (by decide +kernel) (by decide +kernel)), (zw 866 (by decide +kernel) (by decide +kernel)), (zw 1 (by decide +kernel) (by decide +kernel)), (zw 867 (by decide +kernel) (by decide +kernel)), ⟨by decide +kernel, by decide +kernel, by decide +kernel⟩, by decide⟩
theorem thr_exchange {X : Mem} {a1 : Int32} {a2 : Int32} : Thr [1] (fX8_exchange X a1 a2) := by
  unfold fX8_exchange
  repeat' (first | exact tr_inl | exact tr_none | exact tr_inr (by decide) | refine tr_if ?_ ?_ | refine tr_bx ?_ (fun _ _ => ?_) | refine tr_bd (fun _ _ => ?_) | refine tr_bind (fun _ => ?_) | unfold fX8_checkStep | unfold fX8_checkStep_L15)
theorem cwL_exchange {l : Launch} {D : va_G} {cI cR cL : ClassId} {adX : Nat → Nat} {q : Nat} {X : Mem} {o : Nat → Int64} {a1 : Int32} {a2 : Int32} (hl9 : l.stackTraces = false) {r : Int32 ⊕ Nat} {X1 : Mem} (hf : fX8_exchange X a1 a2 = some (r, X1)) : CW l yL_exchange cL_exchange 5 [(0, 10, 13, 13)] 9 2 D cI cR cL adX q [.ref (adX 0), .int a1, .int a2, .ref q] X o (cdw cd1 r) X1 (ow o r) := by
  refine cw_of (own := RL) (by decide +kernel) rfl (Nat.le_of_ble_eq_true rfl) (fun p e s m below meth c A0 E htab hr => ?_)
  refine lc_lo (lo' := [some (.ref (adX 0)), some (.int a1), some (.int a2), some (.ref q), none]) ⟨rfl, rfl, rfl, rfl, trivial⟩ ?_
  refine lc_aload_n E.1 (pc := 0) dL_exchange_0 rfl ?_
  refine lc_iconst E.1 (pc := 1) dL_exchange_1 kc_0 ?_
  refine lc_aload_n E.1 (pc := 2) dL_exchange_2 rfl ?_
  refine lc_iload_n E.1 (pc := 3) dL_exchange_3 rfl ?_
  refine lc_iload_n E.1 (pc := 4) dL_exchange_4 rfl ?_
  refine lc_wcall E (pc := 5) [(13, 1)] 10 htab (by decide) [.int a1, .int a2] [.int 0, .ref q] dL_exchange_5 cvL_exchange (cxX8_exchange hl9 hf) rfl rfl rfl (Nat.le_of_ble_eq_true rfl) ⟨(Nat.le_of_ble_eq_true rfl), (Nat.le_of_ble_eq_true rfl)⟩ ⟨(Nat.le_of_ble_eq_true rfl), (Nat.le_of_ble_eq_true rfl)⟩ (fun k hk => ?_) (fun v hv => ?_)
  · subst hk
    have hk9 := thr_exchange _ _ hf
    simp only [List.mem_cons, List.not_mem_nil, or_false] at hk9
    subst hk9
    · refine ⟨[], 13, [], rfl, by decide, by decide, by decide, fun q9 => ?_⟩
      rw [show cdw cd1 (.inr 1) = (1 : Int32) from by decide +kernel]
      exact lc_astore E.1 (pc := 13) dL_exchange_13 (by decide) rfl rfl (lc_iconst E.1 (pc := 15) dL_exchange_15 kc_1 (lc_wret E (pc := 16) hr dL_exchange_16 (by decide)))
  · subst hv
    exact lc_i2l E.1 (pc := 8) dL_exchange_8 (lc_last E (pc := 9) NX xo_get xo_set dL_exchange_9 (lc_goto E.1 (pc := 10) (tgt := 17) dL_exchange_10 rfl (lc_iconst E.1 (pc := 17) dL_exchange_17 kc_0 (lc_wret E (pc := 18) hr dL_exchange_18 (by decide)))))
theorem wL_exchange {l : Launch} (hl9 : l.stackTraces = false) {c : Cf} {X M : Mem} (hG : GC c) (hX : XC c X) (hM : MC c M) (a1 : Int32) (a2 : Int32) (D : va_G) (cI cR cL : ClassId) (adX : Nat → Nat) (q : Nat) (o9 : Nat → Int64) : ∃ (c1 : Cf) (X1 M1 : Mem) (w v : Int32) (o1 : Nat → Int64), GC c1 ∧ XC c1 X1 ∧ MC c1 M1 ∧ CW l yL_exchange cL_exchange 5 [(0, 10, 13, 13)] 9 2 D cI cR cL adX q [.ref (adX 0), .int a1, .int a2, .ref q] X o9 w X1 o1 ∧ fX9_exchange M a1 a2 = some (v, M1) ∧ M1 0 22 = w ∧ (w = 0 → o1 0 = v.toInt64) :=
  agr_w (P := fun w X1 o1 => CW l yL_exchange cL_exchange 5 [(0, 10, 13, 13)] 9 2 D cI cR cL adX q [.ref (adX 0), .int a1, .int a2, .ref q] X o9 w X1 o1) (a_exchange hG hX hM a1 a2) (fun r X1 h => cwL_exchange hl9 h)
theorem dL_setRegister_0 : decode cL_setRegister 0 = .ok (.aload_n 3, 1) := by decide +kernel
theorem dL_setRegister_1 : decode cL_setRegister 1 = .ok (.iconst 0, 1) := by decide +kernel
theorem dL_setRegister_2 : decode cL_setRegister 2 = .ok (.aload_n 0, 1) := by decide +kernel
theorem dL_setRegister_3 : decode cL_setRegister 3 = .ok (.iload_n 1, 1) := by decide +kernel
theorem dL_setRegister_4 : decode cL_setRegister 4 = .ok (.iload_n 2, 1) := by decide +kernel
theorem dL_setRegister_5 : decode cL_setRegister 5 = .ok (.invokevirtual 27, 3) := by decide +kernel
theorem dL_setRegister_8 : decode cL_setRegister 8 = .ok (.i2l, 1) := by decide +kernel
theorem dL_setRegister_9 : decode cL_setRegister 9 = .ok (.lastore, 1) := by decide +kernel
theorem dL_setRegister_10 : decode cL_setRegister 10 = .ok (.goto 7, 3) := by decide +kernel
theorem dL_setRegister_13 : decode cL_setRegister 13 = .ok (.astore 4, 2) := by decide +kernel
theorem dL_setRegister_15 : decode cL_setRegister 15 = .ok (.iconst 1, 1) := by decide +kernel
theorem dL_setRegister_16 : decode cL_setRegister 16 = .ok (.ireturn, 1) := by decide +kernel
theorem dL_setRegister_17 : decode cL_setRegister 17 = .ok (.iconst 0, 1) := by decide +kernel
theorem dL_setRegister_18 : decode cL_setRegister 18 = .ok (.ireturn, 1) := by decide +kernel
theorem cvL_setRegister : MLV RL 27 yX8_setRegister cX8_setRegister 3 (some .int) 2 := ⟨(zw 881 (by decide +kernel) (by decide +kernel)), (zw 882 (by decide +kernel) (by decide +kernel)), (zw 883 (by decide +kernel) (by decide +kernel)), (zw 1 (by decide +kernel) (by decide +kernel)), (zw 884 (by decide +kernel) (by decide +kernel)), ⟨by decide +kernel, by decide +kernel, by decide +kernel⟩, by decide⟩
theorem thr_setRegister {X : Mem} {a1 : Int32} {a2 : Int32} : Thr [1] (fX8_setRegister X a1 a2) := by
  unfold fX8_setRegister
  repeat' (first | exact tr_inl | exact tr_none | exact tr_inr (by decide) | refine tr_if ?_ ?_ | refine tr_bx ?_ (fun _ _ => ?_) | refine tr_bd (fun _ _ => ?_) | refine tr_bind (fun _ => ?_) | unfold fX8_checkRegister)
theorem cwL_setRegister {l : Launch} {D : va_G} {cI cR cL : ClassId} {adX : Nat → Nat} {q : Nat} {X : Mem} {o : Nat → Int64} {a1 : Int32} {a2 : Int32} (hl9 : l.stackTraces = false) {r : Int32 ⊕ Nat} {X1 : Mem} (hf : fX8_setRegister X a1 a2 = some (r, X1)) : CW l yL_setRegister cL_setRegister 5 [(0, 10, 13, 13)] 9 1 D cI cR cL adX q [.ref (adX 0), .int a1, .int a2, .ref q] X o (cdw cd1 r) X1 (ow o r) := by
  refine cw_of (own := RL) (by decide +kernel) rfl (Nat.le_of_ble_eq_true rfl) (fun p e s m below meth c A0 E htab hr => ?_)
  refine lc_lo (lo' := [some (.ref (adX 0)), some (.int a1), some (.int a2), some (.ref q), none]) ⟨rfl, rfl, rfl, rfl, trivial⟩ ?_
  refine lc_aload_n E.1 (pc := 0) dL_setRegister_0 rfl ?_
  refine lc_iconst E.1 (pc := 1) dL_setRegister_1 kc_0 ?_
  refine lc_aload_n E.1 (pc := 2) dL_setRegister_2 rfl ?_
  refine lc_iload_n E.1 (pc := 3) dL_setRegister_3 rfl ?_
  refine lc_iload_n E.1 (pc := 4) dL_setRegister_4 rfl ?_
  refine lc_wcall E (pc := 5) [(13, 1)] 10 htab (by decide) [.int a1, .int a2] [.int 0, .ref q] dL_setRegister_5 cvL_setRegister (cxX8_setRegister hl9 hf) rfl rfl rfl (Nat.le_of_ble_eq_true rfl) ⟨(Nat.le_of_ble_eq_true rfl), (Nat.le_of_ble_eq_true rfl)⟩ ⟨(Nat.le_of_ble_eq_true rfl), (Nat.le_of_ble_eq_true rfl)⟩ (fun k hk => ?_) (fun v hv => ?_)
  · subst hk
    have hk9 := thr_setRegister _ _ hf
    simp only [List.mem_cons, List.not_mem_nil, or_false] at hk9
    subst hk9
    · refine ⟨[], 13, [], rfl, by decide, by decide, by decide, fun q9 => ?_⟩
      rw [show cdw cd1 (.inr 1) = (1 : Int32) from by decide +kernel]
      exact lc_astore E.1 (pc := 13) dL_setRegister_13 (by decide) rfl rfl (lc_iconst E.1 (pc := 15) dL_setRegister_15 kc_1 (lc_wret E (pc := 16) hr dL_setRegister_16 (by decide)))
  · subst hv
    exact lc_i2l E.1 (pc := 8) dL_setRegister_8 (lc_last E (pc := 9) NX xo_get xo_set dL_setRegister_9 (lc_goto E.1 (pc := 10) (tgt := 17) dL_setRegister_10 rfl (lc_iconst E.1 (pc := 17) dL_setRegister_17 kc_0 (lc_wret E (pc := 18) hr dL_setRegister_18 (by decide)))))
theorem wL_setRegister {l : Launch} (hl9 : l.stackTraces = false) {c : Cf} {X M : Mem} (hG : GC c) (hX : XC c X) (hM : MC c M) (a1 : Int32) (a2 : Int32) (D : va_G) (cI cR cL : ClassId) (adX : Nat → Nat) (q : Nat) (o9 : Nat → Int64) : ∃ (c1 : Cf) (X1 M1 : Mem) (w v : Int32) (o1 : Nat → Int64), GC c1 ∧ XC c1 X1 ∧ MC c1 M1 ∧ CW l yL_setRegister cL_setRegister 5 [(0, 10, 13, 13)] 9 1 D cI cR cL adX q [.ref (adX 0), .int a1, .int a2, .ref q] X o9 w X1 o1 ∧ fX9_setRegister M a1 a2 = some (v, M1) ∧ M1 0 22 = w ∧ (w = 0 → o1 0 = v.toInt64) :=
  agr_w (P := fun w X1 o1 => CW l yL_setRegister cL_setRegister 5 [(0, 10, 13, 13)] 9 1 D cI cR cL adX q [.ref (adX 0), .int a1, .int a2, .ref q] X o9 w X1 o1) (a_setRegister hG hX hM a1 a2) (fun r X1 h => cwL_setRegister hl9 h)
theorem dL_setCell_0 : decode cL_setCell 0 = .ok (.aload_n 3, 1) := by decide +kernel
theorem dL_setCell_1 : decode cL_setCell 1 = .ok (.iconst 0, 1) := by decide +kernel
theorem dL_setCell_2 : decode cL_setCell 2 = .ok (.aload_n 0, 1) := by decide +kernel
theorem dL_setCell_3 : decode cL_setCell 3 = .ok (.iload_n 1, 1) := by decide +kernel
theorem dL_setCell_4 : decode cL_setCell 4 = .ok (.iload_n 2, 1) := by decide +kernel
theorem dL_setCell_5 : decode cL_setCell 5 = .ok (.invokevirtual 30, 3) := by decide +kernel
theorem dL_setCell_8 : decode cL_setCell 8 = .ok (.i2l, 1) := by decide +kernel
theorem dL_setCell_9 : decode cL_setCell 9 = .ok (.lastore, 1) := by decide +kernel
theorem dL_setCell_10 : decode cL_setCell 10 = .ok (.goto 7, 3) := by decide +kernel
theorem dL_setCell_13 : decode cL_setCell 13 = .ok (.astore 4, 2) := by decide +kernel
theorem dL_setCell_15 : decode cL_setCell 15 = .ok (.iconst 1, 1) := by decide +kernel
theorem dL_setCell_16 : decode cL_setCell 16 = .ok (.ireturn, 1) := by decide +kernel
theorem dL_setCell_17 : decode cL_setCell 17 = .ok (.iconst 0, 1) := by decide +kernel
theorem dL_setCell_18 : decode cL_setCell 18 = .ok (.ireturn, 1) := by decide +kernel
theorem cvL_setCell : MLV RL 30 yX8_setCell cX8_setCell 3 (some .int) 2 := ⟨(zw 896 (by decide +kernel) (by decide +kernel)), (zw 897 (by decide +kernel) (by decide +kernel)), (zw 898 (by decide +kernel) (by decide +kernel)), (zw 1 (by decide +kernel) (by decide +kernel)), (zw 899 (by decide +kernel) (by decide +kernel)), ⟨by decide +kernel, by decide +kernel, by decide +kernel⟩, by decide⟩
theorem thr_setCell {X : Mem} {a1 : Int32} {a2 : Int32} : Thr [1] (fX8_setCell X a1 a2) := by
  unfold fX8_setCell
  repeat' (first | exact tr_inl | exact tr_none | exact tr_inr (by decide) | refine tr_if ?_ ?_ | refine tr_bx ?_ (fun _ _ => ?_) | refine tr_bd (fun _ _ => ?_) | refine tr_bind (fun _ => ?_) | unfold fX8_checkCell | unfold fX8_checkCell_L10)
theorem cwL_setCell {l : Launch} {D : va_G} {cI cR cL : ClassId} {adX : Nat → Nat} {q : Nat} {X : Mem} {o : Nat → Int64} {a1 : Int32} {a2 : Int32} (hl9 : l.stackTraces = false) {r : Int32 ⊕ Nat} {X1 : Mem} (hf : fX8_setCell X a1 a2 = some (r, X1)) : CW l yL_setCell cL_setCell 5 [(0, 10, 13, 13)] 9 1 D cI cR cL adX q [.ref (adX 0), .int a1, .int a2, .ref q] X o (cdw cd1 r) X1 (ow o r) := by
  refine cw_of (own := RL) (by decide +kernel) rfl (Nat.le_of_ble_eq_true rfl) (fun p e s m below meth c A0 E htab hr => ?_)
  refine lc_lo (lo' := [some (.ref (adX 0)), some (.int a1), some (.int a2), some (.ref q), none]) ⟨rfl, rfl, rfl, rfl, trivial⟩ ?_
  refine lc_aload_n E.1 (pc := 0) dL_setCell_0 rfl ?_
  refine lc_iconst E.1 (pc := 1) dL_setCell_1 kc_0 ?_
  refine lc_aload_n E.1 (pc := 2) dL_setCell_2 rfl ?_
  refine lc_iload_n E.1 (pc := 3) dL_setCell_3 rfl ?_
  refine lc_iload_n E.1 (pc := 4) dL_setCell_4 rfl ?_
  refine lc_wcall E (pc := 5) [(13, 1)] 10 htab (by decide) [.int a1, .int a2] [.int 0, .ref q] dL_setCell_5 cvL_setCell (cxX8_setCell hl9 hf) rfl rfl rfl (Nat.le_of_ble_eq_true rfl) ⟨(Nat.le_of_ble_eq_true rfl), (Nat.le_of_ble_eq_true rfl)⟩ ⟨(Nat.le_of_ble_eq_true rfl), (Nat.le_of_ble_eq_true rfl)⟩ (fun k hk => ?_) (fun v hv => ?_)
  · subst hk
    have hk9 := thr_setCell _ _ hf
    simp only [List.mem_cons, List.not_mem_nil, or_false] at hk9
    subst hk9
    · refine ⟨[], 13, [], rfl, by decide, by decide, by decide, fun q9 => ?_⟩
      rw [show cdw cd1 (.inr 1) = (1 : Int32) from by decide +kernel]
      exact lc_astore E.1 (pc := 13) dL_setCell_13 (by decide) rfl rfl (lc_iconst E.1 (pc := 15) dL_setCell_15 kc_1 (lc_wret E (pc := 16) hr dL_setCell_16 (by decide)))
  · subst hv
    exact lc_i2l E.1 (pc := 8) dL_setCell_8 (lc_last E (pc := 9) NX xo_get xo_set dL_setCell_9 (lc_goto E.1 (pc := 10) (tgt := 17) dL_setCell_10 rfl (lc_iconst E.1 (pc := 17) dL_setCell_17 kc_0 (lc_wret E (pc := 18) hr dL_setCell_18 (by decide)))))
theorem wL_setCell {l : Launch} (hl9 : l.stackTraces = false) {c : Cf} {X M : Mem} (hG : GC c) (hX : XC c X) (hM : MC c M) (a1 : Int32) (a2 : Int32) (D : va_G) (cI cR cL : ClassId) (adX : Nat → Nat) (q : Nat) (o9 : Nat → Int64) : ∃ (c1 : Cf) (X1 M1 : Mem) (w v : Int32) (o1 : Nat → Int64), GC c1 ∧ XC c1 X1 ∧ MC c1 M1 ∧ CW l yL_setCell cL_setCell 5 [(0, 10, 13, 13)] 9 1 D cI cR cL adX q [.ref (adX 0), .int a1, .int a2, .ref q] X o9 w X1 o1 ∧ fX9_setCell M a1 a2 = some (v, M1) ∧ M1 0 22 = w ∧ (w = 0 → o1 0 = v.toInt64) :=
  agr_w (P := fun w X1 o1 => CW l yL_setCell cL_setCell 5 [(0, 10, 13, 13)] 9 1 D cI cR cL adX q [.ref (adX 0), .int a1, .int a2, .ref q] X o9 w X1 o1) (a_setCell hG hX hM a1 a2) (fun r X1 h => cwL_setCell hl9 h)
theorem dL_setSlots_0 : decode cL_setSlots 0 = .ok (.aload_n 3, 1) := by decide +kernel
theorem dL_setSlots_1 : decode cL_setSlots 1 = .ok (.iconst 0, 1) := by decide +kernel
theorem dL_setSlots_2 : decode cL_setSlots 2 = .ok (.aload_n 0, 1) := by decide +kernel
theorem dL_setSlots_3 : decode cL_setSlots 3 = .ok (.iload_n 1, 1) := by decide +kernel
theorem dL_setSlots_4 : decode cL_setSlots 4 = .ok (.iload_n 2, 1) := by decide +kernel
theorem dL_setSlots_5 : decode cL_setSlots 5 = .ok (.invokevirtual 33, 3) := by decide +kernel
theorem dL_setSlots_8 : decode cL_setSlots 8 = .ok (.i2l, 1) := by decide +kernel
theorem dL_setSlots_9 : decode cL_setSlots 9 = .ok (.lastore, 1) := by decide +kernel
theorem dL_setSlots_10 : decode cL_setSlots 10 = .ok (.goto 11, 3) := by decide +kernel
theorem dL_setSlots_13 : decode cL_setSlots 13 = .ok (.astore 4, 2) := by decide +kernel
theorem dL_setSlots_15 : decode cL_setSlots 15 = .ok (.iconst 1, 1) := by decide +kernel
theorem dL_setSlots_16 : decode cL_setSlots 16 = .ok (.ireturn, 1) := by decide +kernel
theorem dL_setSlots_17 : decode cL_setSlots 17 = .ok (.astore 4, 2) := by decide +kernel
theorem dL_setSlots_19 : decode cL_setSlots 19 = .ok (.iconst 2, 1) := by decide +kernel
theorem dL_setSlots_20 : decode cL_setSlots 20 = .ok (.ireturn, 1) := by decide +kernel
theorem dL_setSlots_21 : decode cL_setSlots 21 = .ok (.iconst 0, 1) := by decide +kernel
theorem dL_setSlots_22 : decode cL_setSlots 22 = .ok (.ireturn, 1) := by decide +kernel
theorem cvL_setSlots : MLV RL 33 yX8_setSlots cX8_setSlots 4 (some .int) 2 := ⟨(zw 907 (by decide +kernel) (by decide +kernel)), (zw 908 (by decide +kernel) (by decide +kernel)), (zw 909 (by decide +kernel) (by decide +kernel)), (zw 1 (by decide +kernel) (by decide +kernel)), (zw 910 (by decide +kernel) (by decide +kernel)), ⟨by decide +kernel, by decide +kernel, by decide +kernel⟩, by decide⟩
theorem thr_setSlots {X : Mem} {a1 : Int32} {a2 : Int32} : Thr [1, 2] (fX8_setSlots X a1 a2) := by
  unfold fX8_setSlots
  repeat' (first | exact tr_inl | exact tr_none | exact tr_inr (by decide) | refine tr_if ?_ ?_ | refine tr_bx ?_ (fun _ _ => ?_) | refine tr_bd (fun _ _ => ?_) | refine tr_bind (fun _ => ?_) | unfold fX8_setSlots_L14 | unfold fX8_checkUnit | unfold fX8_checkUnit_L9)
theorem cwL_setSlots {l : Launch} {D : va_G} {cI cR cL : ClassId} {adX : Nat → Nat} {q : Nat} {X : Mem} {o : Nat → Int64} {a1 : Int32} {a2 : Int32} (hl9 : l.stackTraces = false) {r : Int32 ⊕ Nat} {X1 : Mem} (hf : fX8_setSlots X a1 a2 = some (r, X1)) : CW l yL_setSlots cL_setSlots 5 [(0, 10, 13, 13), (0, 10, 17, 15)] 9 2 D cI cR cL adX q [.ref (adX 0), .int a1, .int a2, .ref q] X o (cdw cdB r) X1 (ow o r) := by
  refine cw_of (own := RL) (by decide +kernel) rfl (Nat.le_of_ble_eq_true rfl) (fun p e s m below meth c A0 E htab hr => ?_)
  refine lc_lo (lo' := [some (.ref (adX 0)), some (.int a1), some (.int a2), some (.ref q), none]) ⟨rfl, rfl, rfl, rfl, trivial⟩ ?_
  refine lc_aload_n E.1 (pc := 0) dL_setSlots_0 rfl ?_
  refine lc_iconst E.1 (pc := 1) dL_setSlots_1 kc_0 ?_
  refine lc_aload_n E.1 (pc := 2) dL_setSlots_2 rfl ?_
  refine lc_iload_n E.1 (pc := 3) dL_setSlots_3 rfl ?_
  refine lc_iload_n E.1 (pc := 4) dL_setSlots_4 rfl ?_
  refine lc_wcall E (pc := 5) [(13, 1), (17, 2)] 10 htab (by decide) [.int a1, .int a2] [.int 0, .ref q] dL_setSlots_5 cvL_setSlots (cxX8_setSlots hl9 hf) rfl rfl rfl (Nat.le_of_ble_eq_true rfl) ⟨(Nat.le_of_ble_eq_true rfl), (Nat.le_of_ble_eq_true rfl)⟩ ⟨(Nat.le_of_ble_eq_true rfl), (Nat.le_of_ble_eq_true rfl)⟩ (fun k hk => ?_) (fun v hv => ?_)
  · subst hk
    have hk9 := thr_setSlots _ _ hf
    simp only [List.mem_cons, List.not_mem_nil, or_false] at hk9
    rcases hk9 with rfl | rfl
    · refine ⟨[], 13, [(17, 2)], rfl, by decide, by decide, by decide, fun q9 => ?_⟩
      rw [show cdw cdB (.inr 1) = (1 : Int32) from by decide +kernel]
      exact lc_astore E.1 (pc := 13) dL_setSlots_13 (by decide) rfl rfl (lc_iconst E.1 (pc := 15) dL_setSlots_15 kc_1 (lc_wret E (pc := 16) hr dL_setSlots_16 (by decide)))
    · refine ⟨[(13, 1)], 17, [], rfl, by decide, by decide, by decide, fun q9 => ?_⟩
      rw [show cdw cdB (.inr 2) = (2 : Int32) from by decide +kernel]
      exact lc_astore E.1 (pc := 17) dL_setSlots_17 (by decide) rfl rfl (lc_iconst E.1 (pc := 19) dL_setSlots_19 kc_2 (lc_wret E (pc := 20) hr dL_setSlots_20 (by decide)))
  · subst hv
    exact lc_i2l E.1 (pc := 8) dL_setSlots_8 (lc_last E (pc := 9) NX xo_get xo_set dL_setSlots_9 (lc_goto E.1 (pc := 10) (tgt := 21) dL_setSlots_10 rfl (lc_iconst E.1 (pc := 21) dL_setSlots_21 kc_0 (lc_wret E (pc := 22) hr dL_setSlots_22 (by decide)))))
theorem wL_setSlots {l : Launch} (hl9 : l.stackTraces = false) {c : Cf} {X M : Mem} (hG : GC c) (hX : XC c X) (hM : MC c M) (a1 : Int32) (a2 : Int32) (D : va_G) (cI cR cL : ClassId) (adX : Nat → Nat) (q : Nat) (o9 : Nat → Int64) : ∃ (c1 : Cf) (X1 M1 : Mem) (w v : Int32) (o1 : Nat → Int64), GC c1 ∧ XC c1 X1 ∧ MC c1 M1 ∧ CW l yL_setSlots cL_setSlots 5 [(0, 10, 13, 13), (0, 10, 17, 15)] 9 2 D cI cR cL adX q [.ref (adX 0), .int a1, .int a2, .ref q] X o9 w X1 o1 ∧ fX9_setSlots M a1 a2 = some (v, M1) ∧ M1 0 22 = w ∧ (w = 0 → o1 0 = v.toInt64) :=
  agr_w (P := fun w X1 o1 => CW l yL_setSlots cL_setSlots 5 [(0, 10, 13, 13), (0, 10, 17, 15)] 9 2 D cI cR cL adX q [.ref (adX 0), .int a1, .int a2, .ref q] X o9 w X1 o1) (a_setSlots hG hX hM a1 a2) (fun r X1 h => cwL_setSlots hl9 h)
theorem dL_setLatency_0 : decode cL_setLatency 0 = .ok (.aload_n 3, 1) := by decide +kernel
theorem dL_setLatency_1 : decode cL_setLatency 1 = .ok (.iconst 0, 1) := by decide +kernel
theorem dL_setLatency_2 : decode cL_setLatency 2 = .ok (.aload_n 0, 1) := by decide +kernel
theorem dL_setLatency_3 : decode cL_setLatency 3 = .ok (.iload_n 1, 1) := by decide +kernel
theorem dL_setLatency_4 : decode cL_setLatency 4 = .ok (.iload_n 2, 1) := by decide +kernel
theorem dL_setLatency_5 : decode cL_setLatency 5 = .ok (.invokevirtual 36, 3) := by decide +kernel
theorem dL_setLatency_8 : decode cL_setLatency 8 = .ok (.i2l, 1) := by decide +kernel
theorem dL_setLatency_9 : decode cL_setLatency 9 = .ok (.lastore, 1) := by decide +kernel
theorem dL_setLatency_10 : decode cL_setLatency 10 = .ok (.goto 11, 3) := by decide +kernel
theorem dL_setLatency_13 : decode cL_setLatency 13 = .ok (.astore 4, 2) := by decide +kernel
theorem dL_setLatency_15 : decode cL_setLatency 15 = .ok (.iconst 1, 1) := by decide +kernel
theorem dL_setLatency_16 : decode cL_setLatency 16 = .ok (.ireturn, 1) := by decide +kernel
theorem dL_setLatency_17 : decode cL_setLatency 17 = .ok (.astore 4, 2) := by decide +kernel
theorem dL_setLatency_19 : decode cL_setLatency 19 = .ok (.iconst 2, 1) := by decide +kernel
theorem dL_setLatency_20 : decode cL_setLatency 20 = .ok (.ireturn, 1) := by decide +kernel
theorem dL_setLatency_21 : decode cL_setLatency 21 = .ok (.iconst 0, 1) := by decide +kernel
theorem dL_setLatency_22 : decode cL_setLatency 22 = .ok (.ireturn, 1) := by decide +kernel
theorem cvL_setLatency : MLV RL 36 yX8_setLatency cX8_setLatency 4 (some .int) 2 := ⟨(zw 919 (by decide +kernel) (by decide +kernel)), (zw 920 (by decide +kernel) (by decide +kernel)), (zw 921 (by decide +kernel) (by decide +kernel)), (zw 1 (by decide +kernel) (by decide +kernel)), (zw 922 (by decide +kernel) (by decide +kernel)), ⟨by decide +kernel, by decide +kernel, by decide +kernel⟩, by decide⟩
theorem thr_setLatency {X : Mem} {a1 : Int32} {a2 : Int32} : Thr [1, 2] (fX8_setLatency X a1 a2) := by
  unfold fX8_setLatency
  repeat' (first | exact tr_inl | exact tr_none | exact tr_inr (by decide) | refine tr_if ?_ ?_ | refine tr_bx ?_ (fun _ _ => ?_) | refine tr_bd (fun _ _ => ?_) | refine tr_bind (fun _ => ?_) | unfold fX8_setLatency_L15 | unfold fX8_checkUnit | unfold fX8_checkUnit_L9)
theorem cwL_setLatency {l : Launch} {D : va_G} {cI cR cL : ClassId} {adX : Nat → Nat} {q : Nat} {X : Mem} {o : Nat → Int64} {a1 : Int32} {a2 : Int32} (hl9 : l.stackTraces = false) {r : Int32 ⊕ Nat} {X1 : Mem} (hf : fX8_setLatency X a1 a2 = some (r, X1)) : CW l yL_setLatency cL_setLatency 5 [(0, 10, 13, 13), (0, 10, 17, 15)] 9 2 D cI cR cL adX q [.ref (adX 0), .int a1, .int a2, .ref q] X o (cdw cdB r) X1 (ow o r) := by
  refine cw_of (own := RL) (by decide +kernel) rfl (Nat.le_of_ble_eq_true rfl) (fun p e s m below meth c A0 E htab hr => ?_)
  refine lc_lo (lo' := [some (.ref (adX 0)), some (.int a1), some (.int a2), some (.ref q), none]) ⟨rfl, rfl, rfl, rfl, trivial⟩ ?_
  refine lc_aload_n E.1 (pc := 0) dL_setLatency_0 rfl ?_
  refine lc_iconst E.1 (pc := 1) dL_setLatency_1 kc_0 ?_
  refine lc_aload_n E.1 (pc := 2) dL_setLatency_2 rfl ?_
  refine lc_iload_n E.1 (pc := 3) dL_setLatency_3 rfl ?_
  refine lc_iload_n E.1 (pc := 4) dL_setLatency_4 rfl ?_
  refine lc_wcall E (pc := 5) [(13, 1), (17, 2)] 10 htab (by decide) [.int a1, .int a2] [.int 0, .ref q] dL_setLatency_5 cvL_setLatency (cxX8_setLatency hl9 hf) rfl rfl rfl (Nat.le_of_ble_eq_true rfl) ⟨(Nat.le_of_ble_eq_true rfl), (Nat.le_of_ble_eq_true rfl)⟩ ⟨(Nat.le_of_ble_eq_true rfl), (Nat.le_of_ble_eq_true rfl)⟩ (fun k hk => ?_) (fun v hv => ?_)
  · subst hk
    have hk9 := thr_setLatency _ _ hf
    simp only [List.mem_cons, List.not_mem_nil, or_false] at hk9
    rcases hk9 with rfl | rfl
    · refine ⟨[], 13, [(17, 2)], rfl, by decide, by decide, by decide, fun q9 => ?_⟩
      rw [show cdw cdB (.inr 1) = (1 : Int32) from by decide +kernel]
      exact lc_astore E.1 (pc := 13) dL_setLatency_13 (by decide) rfl rfl (lc_iconst E.1 (pc := 15) dL_setLatency_15 kc_1 (lc_wret E (pc := 16) hr dL_setLatency_16 (by decide)))
    · refine ⟨[(13, 1)], 17, [], rfl, by decide, by decide, by decide, fun q9 => ?_⟩
      rw [show cdw cdB (.inr 2) = (2 : Int32) from by decide +kernel]
      exact lc_astore E.1 (pc := 17) dL_setLatency_17 (by decide) rfl rfl (lc_iconst E.1 (pc := 19) dL_setLatency_19 kc_2 (lc_wret E (pc := 20) hr dL_setLatency_20 (by decide)))
  · subst hv
    exact lc_i2l E.1 (pc := 8) dL_setLatency_8 (lc_last E (pc := 9) NX xo_get xo_set dL_setLatency_9 (lc_goto E.1 (pc := 10) (tgt := 21) dL_setLatency_10 rfl (lc_iconst E.1 (pc := 21) dL_setLatency_21 kc_0 (lc_wret E (pc := 22) hr dL_setLatency_22 (by decide)))))
theorem wL_setLatency {l : Launch} (hl9 : l.stackTraces = false) {c : Cf} {X M : Mem} (hG : GC c) (hX : XC c X) (hM : MC c M) (a1 : Int32) (a2 : Int32) (D : va_G) (cI cR cL : ClassId) (adX : Nat → Nat) (q : Nat) (o9 : Nat → Int64) : ∃ (c1 : Cf) (X1 M1 : Mem) (w v : Int32) (o1 : Nat → Int64), GC c1 ∧ XC c1 X1 ∧ MC c1 M1 ∧ CW l yL_setLatency cL_setLatency 5 [(0, 10, 13, 13), (0, 10, 17, 15)] 9 2 D cI cR cL adX q [.ref (adX 0), .int a1, .int a2, .ref q] X o9 w X1 o1 ∧ fX9_setLatency M a1 a2 = some (v, M1) ∧ M1 0 22 = w ∧ (w = 0 → o1 0 = v.toInt64) :=
  agr_w (P := fun w X1 o1 => CW l yL_setLatency cL_setLatency 5 [(0, 10, 13, 13), (0, 10, 17, 15)] 9 2 D cI cR cL adX q [.ref (adX 0), .int a1, .int a2, .ref q] X o9 w X1 o1) (a_setLatency hG hX hM a1 a2) (fun r X1 h => cwL_setLatency hl9 h)
theorem dL_setDelay_0 : decode cL_setDelay 0 = .ok (.aload_n 2, 1) := by decide +kernel
theorem dL_setDelay_1 : decode cL_setDelay 1 = .ok (.iconst 0, 1) := by decide +kernel
theorem dL_setDelay_2 : decode cL_setDelay 2 = .ok (.aload_n 0, 1) := by decide +kernel
theorem dL_setDelay_3 : decode cL_setDelay 3 = .ok (.iload_n 1, 1) := by decide +kernel
theorem dL_setDelay_4 : decode cL_setDelay 4 = .ok (.invokevirtual 39, 3) := by decide +kernel
theorem dL_setDelay_7 : decode cL_setDelay 7 = .ok (.i2l, 1) := by decide +kernel
theorem dL_setDelay_8 : decode cL_setDelay 8 = .ok (.lastore, 1) := by decide +kernel
theorem dL_setDelay_9 : decode cL_setDelay 9 = .ok (.goto 6, 3) := by decide +kernel
theorem dL_setDelay_12 : decode cL_setDelay 12 = .ok (.astore_n 3, 1) := by decide +kernel
theorem dL_setDelay_13 : decode cL_setDelay 13 = .ok (.iconst 1, 1) := by decide +kernel
theorem dL_setDelay_14 : decode cL_setDelay 14 = .ok (.ireturn, 1) := by decide +kernel
theorem dL_setDelay_15 : decode cL_setDelay 15 = .ok (.iconst 0, 1) := by decide +kernel
theorem dL_setDelay_16 : decode cL_setDelay 16 = .ok (.ireturn, 1) := by decide +kernel
theorem cvL_setDelay : MLV RL 39 yX8_setDelay cX8_setDelay 3 (some .int) 1 := ⟨(zw 927 (by decide +kernel) (by decide +kernel)), (zw 928 (by decide +kernel) (by decide +kernel)), (zw 929 (by decide +kernel) (by decide +kernel)), (zw 1 (by decide +kernel) (by decide +kernel)), (zw 930 (by decide +kernel) (by decide +kernel)), ⟨by decide +kernel, by decide +kernel, by decide +kernel⟩, by decide⟩
theorem thr_setDelay {X : Mem} {a1 : Int32} : Thr [2] (fX8_setDelay X a1) := by
  unfold fX8_setDelay
  repeat' (first | exact tr_inl | exact tr_none | exact tr_inr (by decide) | refine tr_if ?_ ?_ | refine tr_bx ?_ (fun _ _ => ?_) | refine tr_bd (fun _ _ => ?_) | refine tr_bind (fun _ => ?_) | unfold fX8_setDelay_L9)
theorem cwL_setDelay {l : Launch} {D : va_G} {cI cR cL : ClassId} {adX : Nat → Nat} {q : Nat} {X : Mem} {o : Nat → Int64} {a1 : Int32} (hl9 : l.stackTraces = false) {r : Int32 ⊕ Nat} {X1 : Mem} (hf : fX8_setDelay X a1 = some (r, X1)) : CW l yL_setDelay cL_setDelay 4 [(0, 9, 12, 15)] 8 1 D cI cR cL adX q [.ref (adX 0), .int a1, .ref q] X o (cdw cd1 r) X1 (ow o r) := by
  refine cw_of (own := RL) (by decide +kernel) rfl (Nat.le_of_ble_eq_true rfl) (fun p e s m below meth c A0 E htab hr => ?_)
  refine lc_lo (lo' := [some (.ref (adX 0)), some (.int a1), some (.ref q), none]) ⟨rfl, rfl, rfl, trivial⟩ ?_
  refine lc_aload_n E.1 (pc := 0) dL_setDelay_0 rfl ?_
  refine lc_iconst E.1 (pc := 1) dL_setDelay_1 kc_0 ?_
  refine lc_aload_n E.1 (pc := 2) dL_setDelay_2 rfl ?_
  refine lc_iload_n E.1 (pc := 3) dL_setDelay_3 rfl ?_
  refine lc_wcall E (pc := 4) [(12, 2)] 9 htab (by decide) [.int a1] [.int 0, .ref q] dL_setDelay_4 cvL_setDelay (cxX8_setDelay hl9 hf) rfl rfl rfl (Nat.le_of_ble_eq_true rfl) ⟨(Nat.le_of_ble_eq_true rfl), (Nat.le_of_ble_eq_true rfl)⟩ ⟨(Nat.le_of_ble_eq_true rfl), (Nat.le_of_ble_eq_true rfl)⟩ (fun k hk => ?_) (fun v hv => ?_)
  · subst hk
    have hk9 := thr_setDelay _ _ hf
    simp only [List.mem_cons, List.not_mem_nil, or_false] at hk9
    subst hk9
    · refine ⟨[], 12, [], rfl, by decide, by decide, by decide, fun q9 => ?_⟩
      rw [show cdw cd1 (.inr 2) = (1 : Int32) from by decide +kernel]
      exact lc_astore_n E.1 (pc := 12) dL_setDelay_12 (by decide) rfl rfl (lc_iconst E.1 (pc := 13) dL_setDelay_13 kc_1 (lc_wret E (pc := 14) hr dL_setDelay_14 (by decide)))
  · subst hv
    exact lc_i2l E.1 (pc := 7) dL_setDelay_7 (lc_last E (pc := 8) NX xo_get xo_set dL_setDelay_8 (lc_goto E.1 (pc := 9) (tgt := 15) dL_setDelay_9 rfl (lc_iconst E.1 (pc := 15) dL_setDelay_15 kc_0 (lc_wret E (pc := 16) hr dL_setDelay_16 (by decide)))))
theorem wL_setDelay {l : Launch} (hl9 : l.stackTraces = false) {c : Cf} {X M : Mem} (hG : GC c) (hX : XC c X) (hM : MC c M) (a1 : Int32) (D : va_G) (cI cR cL : ClassId) (adX : Nat → Nat) (q : Nat) (o9 : Nat → Int64) : ∃ (c1 : Cf) (X1 M1 : Mem) (w v : Int32) (o1 : Nat → Int64), GC c1 ∧ XC c1 X1 ∧ MC c1 M1 ∧ CW l yL_setDelay cL_setDelay 4 [(0, 9, 12, 15)] 8 1 D cI cR cL adX q [.ref (adX 0), .int a1, .ref q] X o9 w X1 o1 ∧ fX9_setDelay M a1 = some (v, M1) ∧ M1 0 22 = w ∧ (w = 0 → o1 0 = v.toInt64) :=
  agr_w (P := fun w X1 o1 => CW l yL_setDelay cL_setDelay 4 [(0, 9, 12, 15)] 8 1 D cI cR cL adX q [.ref (adX 0), .int a1, .ref q] X o9 w X1 o1) (a_setDelay hG hX hM a1) (fun r X1 h => cwL_setDelay hl9 h)
theorem dL_lay_0 : decode cL_lay 0 = .ok (.aload_n 3, 1) := by decide +kernel
theorem dL_lay_1 : decode cL_lay 1 = .ok (.iconst 0, 1) := by decide +kernel
theorem dL_lay_2 : decode cL_lay 2 = .ok (.aload_n 0, 1) := by decide +kernel
theorem dL_lay_3 : decode cL_lay 3 = .ok (.iload_n 1, 1) := by decide +kernel
theorem dL_lay_4 : decode cL_lay 4 = .ok (.iload_n 2, 1) := by decide +kernel
theorem dL_lay_5 : decode cL_lay 5 = .ok (.invokevirtual 42, 3) := by decide +kernel
theorem dL_lay_8 : decode cL_lay 8 = .ok (.i2l, 1) := by decide +kernel
theorem dL_lay_9 : decode cL_lay 9 = .ok (.lastore, 1) := by decide +kernel
theorem dL_lay_10 : decode cL_lay 10 = .ok (.goto 11, 3) := by decide +kernel
theorem dL_lay_13 : decode cL_lay 13 = .ok (.astore 4, 2) := by decide +kernel
theorem dL_lay_15 : decode cL_lay 15 = .ok (.iconst 1, 1) := by decide +kernel
theorem dL_lay_16 : decode cL_lay 16 = .ok (.ireturn, 1) := by decide +kernel
theorem dL_lay_17 : decode cL_lay 17 = .ok (.astore 4, 2) := by decide +kernel
theorem dL_lay_19 : decode cL_lay 19 = .ok (.iconst 2, 1) := by decide +kernel
theorem dL_lay_20 : decode cL_lay 20 = .ok (.ireturn, 1) := by decide +kernel
theorem dL_lay_21 : decode cL_lay 21 = .ok (.iconst 0, 1) := by decide +kernel
theorem dL_lay_22 : decode cL_lay 22 = .ok (.ireturn, 1) := by decide +kernel
theorem cvL_lay : MLV RL 42 yX8_lay cX8_lay 4 (some .int) 2 := ⟨(zw 935 (by decide +kernel) (by decide +kernel)), (zw 936 (by decide +kernel) (by decide +kernel)), (zw 937 (by decide +kernel) (by decide +kernel)), (zw 1 (by decide +kernel) (by decide +kernel)), (zw 938 (by decide +kernel) (by decide +kernel)), ⟨by decide +kernel, by decide +kernel, by decide +kernel⟩, by decide⟩
theorem thr_lay {X : Mem} {a1 : Int32} {a2 : Int32} : Thr [1, 2] (fX8_lay X a1 a2) := by
  unfold fX8_lay
  repeat' (first | exact tr_inl | exact tr_none | exact tr_inr (by decide) | refine tr_if ?_ ?_ | refine tr_bx ?_ (fun _ _ => ?_) | refine tr_bd (fun _ _ => ?_) | refine tr_bind (fun _ => ?_) | unfold fX8_checkStep | unfold fX8_checkStep_L15 | unfold fX8_checkBundle | unfold fX8_checkBundle_L11)
theorem cwL_lay {l : Launch} {D : va_G} {cI cR cL : ClassId} {adX : Nat → Nat} {q : Nat} {X : Mem} {o : Nat → Int64} {a1 : Int32} {a2 : Int32} (hl9 : l.stackTraces = false) {r : Int32 ⊕ Nat} {X1 : Mem} (hf : fX8_lay X a1 a2 = some (r, X1)) : CW l yL_lay cL_lay 5 [(0, 10, 13, 13), (0, 10, 17, 15)] 9 2 D cI cR cL adX q [.ref (adX 0), .int a1, .int a2, .ref q] X o (cdw cdB r) X1 (ow o r) := by
  refine cw_of (own := RL) (by decide +kernel) rfl (Nat.le_of_ble_eq_true rfl) (fun p e s m below meth c A0 E htab hr => ?_)
  refine lc_lo (lo' := [some (.ref (adX 0)), some (.int a1), some (.int a2), some (.ref q), none]) ⟨rfl, rfl, rfl, rfl, trivial⟩ ?_
  refine lc_aload_n E.1 (pc := 0) dL_lay_0 rfl ?_
  refine lc_iconst E.1 (pc := 1) dL_lay_1 kc_0 ?_
  refine lc_aload_n E.1 (pc := 2) dL_lay_2 rfl ?_
  refine lc_iload_n E.1 (pc := 3) dL_lay_3 rfl ?_
  refine lc_iload_n E.1 (pc := 4) dL_lay_4 rfl ?_
  refine lc_wcall E (pc := 5) [(13, 1), (17, 2)] 10 htab (by decide) [.int a1, .int a2] [.int 0, .ref q] dL_lay_5 cvL_lay (cxX8_lay hl9 hf) rfl rfl rfl (Nat.le_of_ble_eq_true rfl) ⟨(Nat.le_of_ble_eq_true rfl), (Nat.le_of_ble_eq_true rfl)⟩ ⟨(Nat.le_of_ble_eq_true rfl), (Nat.le_of_ble_eq_true rfl)⟩ (fun k hk => ?_) (fun v hv => ?_)
  · subst hk
    have hk9 := thr_lay _ _ hf
    simp only [List.mem_cons, List.not_mem_nil, or_false] at hk9
    rcases hk9 with rfl | rfl
    · refine ⟨[], 13, [(17, 2)], rfl, by decide, by decide, by decide, fun q9 => ?_⟩
      rw [show cdw cdB (.inr 1) = (1 : Int32) from by decide +kernel]
      exact lc_astore E.1 (pc := 13) dL_lay_13 (by decide) rfl rfl (lc_iconst E.1 (pc := 15) dL_lay_15 kc_1 (lc_wret E (pc := 16) hr dL_lay_16 (by decide)))
    · refine ⟨[(13, 1)], 17, [], rfl, by decide, by decide, by decide, fun q9 => ?_⟩
      rw [show cdw cdB (.inr 2) = (2 : Int32) from by decide +kernel]
      exact lc_astore E.1 (pc := 17) dL_lay_17 (by decide) rfl rfl (lc_iconst E.1 (pc := 19) dL_lay_19 kc_2 (lc_wret E (pc := 20) hr dL_lay_20 (by decide)))
  · subst hv
    exact lc_i2l E.1 (pc := 8) dL_lay_8 (lc_last E (pc := 9) NX xo_get xo_set dL_lay_9 (lc_goto E.1 (pc := 10) (tgt := 21) dL_lay_10 rfl (lc_iconst E.1 (pc := 21) dL_lay_21 kc_0 (lc_wret E (pc := 22) hr dL_lay_22 (by decide)))))
theorem wL_lay {l : Launch} (hl9 : l.stackTraces = false) {c : Cf} {X M : Mem} (hG : GC c) (hX : XC c X) (hM : MC c M) (a1 : Int32) (a2 : Int32) (D : va_G) (cI cR cL : ClassId) (adX : Nat → Nat) (q : Nat) (o9 : Nat → Int64) : ∃ (c1 : Cf) (X1 M1 : Mem) (w v : Int32) (o1 : Nat → Int64), GC c1 ∧ XC c1 X1 ∧ MC c1 M1 ∧ CW l yL_lay cL_lay 5 [(0, 10, 13, 13), (0, 10, 17, 15)] 9 2 D cI cR cL adX q [.ref (adX 0), .int a1, .int a2, .ref q] X o9 w X1 o1 ∧ fX9_lay M a1 a2 = some (v, M1) ∧ M1 0 22 = w ∧ (w = 0 → o1 0 = v.toInt64) :=
  agr_w (P := fun w X1 o1 => CW l yL_lay cL_lay 5 [(0, 10, 13, 13), (0, 10, 17, 15)] 9 2 D cI cR cL adX q [.ref (adX 0), .int a1, .int a2, .ref q] X o9 w X1 o1) (a_lay hG hX hM a1 a2) (fun r X1 h => cwL_lay hl9 h)
theorem dL_takeOut_0 : decode cL_takeOut 0 = .ok (.aload_n 2, 1) := by decide +kernel
theorem dL_takeOut_1 : decode cL_takeOut 1 = .ok (.iconst 0, 1) := by decide +kernel
theorem dL_takeOut_2 : decode cL_takeOut 2 = .ok (.aload_n 0, 1) := by decide +kernel
theorem dL_takeOut_3 : decode cL_takeOut 3 = .ok (.iload_n 1, 1) := by decide +kernel
theorem dL_takeOut_4 : decode cL_takeOut 4 = .ok (.invokevirtual 45, 3) := by decide +kernel
theorem dL_takeOut_7 : decode cL_takeOut 7 = .ok (.i2l, 1) := by decide +kernel
theorem dL_takeOut_8 : decode cL_takeOut 8 = .ok (.lastore, 1) := by decide +kernel
theorem dL_takeOut_9 : decode cL_takeOut 9 = .ok (.goto 9, 3) := by decide +kernel
theorem dL_takeOut_12 : decode cL_takeOut 12 = .ok (.astore_n 3, 1) := by decide +kernel
theorem dL_takeOut_13 : decode cL_takeOut 13 = .ok (.iconst 1, 1) := by decide +kernel
theorem dL_takeOut_14 : decode cL_takeOut 14 = .ok (.ireturn, 1) := by decide +kernel
theorem dL_takeOut_15 : decode cL_takeOut 15 = .ok (.astore_n 3, 1) := by decide +kernel
theorem dL_takeOut_16 : decode cL_takeOut 16 = .ok (.iconst 2, 1) := by decide +kernel
theorem dL_takeOut_17 : decode cL_takeOut 17 = .ok (.ireturn, 1) := by decide +kernel
theorem dL_takeOut_18 : decode cL_takeOut 18 = .ok (.iconst 0, 1) := by decide +kernel
theorem dL_takeOut_19 : decode cL_takeOut 19 = .ok (.ireturn, 1) := by decide +kernel
theorem cvL_takeOut : MLV RL 45 yX8_takeOut cX8_takeOut 3 (some .int) 1 := ⟨(zw 946 (by decide +kernel) (by decide +kernel)), (zw 947 (by decide +kernel) (by decide +kernel)), (zw 948 (by decide +kernel) (by decide +kernel)), (zw 1 (by decide +kernel) (by decide +kernel)), (zw 949 (by decide +kernel) (by decide +kernel)), ⟨by decide +kernel, by decide +kernel, by decide +kernel⟩, by decide⟩
theorem thr_takeOut {X : Mem} {a1 : Int32} : Thr [1, 3] (fX8_takeOut X a1) := by
  unfold fX8_takeOut
  repeat' (first | exact tr_inl | exact tr_none | exact tr_inr (by decide) | refine tr_if ?_ ?_ | refine tr_bx ?_ (fun _ _ => ?_) | refine tr_bd (fun _ _ => ?_) | refine tr_bind (fun _ => ?_) | unfold fX8_checkStep | unfold fX8_checkStep_L15)
theorem cwL_takeOut {l : Launch} {D : va_G} {cI cR cL : ClassId} {adX : Nat → Nat} {q : Nat} {X : Mem} {o : Nat → Int64} {a1 : Int32} (hl9 : l.stackTraces = false) {r : Int32 ⊕ Nat} {X1 : Mem} (hf : fX8_takeOut X a1 = some (r, X1)) : CW l yL_takeOut cL_takeOut 4 [(0, 9, 12, 13), (0, 9, 15, 17)] 9 2 D cI cR cL adX q [.ref (adX 0), .int a1, .ref q] X o (cdw cdB r) X1 (ow o r) := by
  refine cw_of (own := RL) (by decide +kernel) rfl (Nat.le_of_ble_eq_true rfl) (fun p e s m below meth c A0 E htab hr => ?_)
  refine lc_lo (lo' := [some (.ref (adX 0)), some (.int a1), some (.ref q), none]) ⟨rfl, rfl, rfl, trivial⟩ ?_
  refine lc_aload_n E.1 (pc := 0) dL_takeOut_0 rfl ?_
  refine lc_iconst E.1 (pc := 1) dL_takeOut_1 kc_0 ?_
  refine lc_aload_n E.1 (pc := 2) dL_takeOut_2 rfl ?_
  refine lc_iload_n E.1 (pc := 3) dL_takeOut_3 rfl ?_
  refine lc_wcall E (pc := 4) [(12, 1), (15, 3)] 9 htab (by decide) [.int a1] [.int 0, .ref q] dL_takeOut_4 cvL_takeOut (cxX8_takeOut hl9 hf) rfl rfl rfl (Nat.le_of_ble_eq_true rfl) ⟨(Nat.le_of_ble_eq_true rfl), (Nat.le_of_ble_eq_true rfl)⟩ ⟨(Nat.le_of_ble_eq_true rfl), (Nat.le_of_ble_eq_true rfl)⟩ (fun k hk => ?_) (fun v hv => ?_)
  · subst hk
    have hk9 := thr_takeOut _ _ hf
    simp only [List.mem_cons, List.not_mem_nil, or_false] at hk9
    rcases hk9 with rfl | rfl
    · refine ⟨[], 12, [(15, 3)], rfl, by decide, by decide, by decide, fun q9 => ?_⟩
      rw [show cdw cdB (.inr 1) = (1 : Int32) from by decide +kernel]
      exact lc_astore_n E.1 (pc := 12) dL_takeOut_12 (by decide) rfl rfl (lc_iconst E.1 (pc := 13) dL_takeOut_13 kc_1 (lc_wret E (pc := 14) hr dL_takeOut_14 (by decide)))
    · refine ⟨[(12, 1)], 15, [], rfl, by decide, by decide, by decide, fun q9 => ?_⟩
      rw [show cdw cdB (.inr 3) = (2 : Int32) from by decide +kernel]
      exact lc_astore_n E.1 (pc := 15) dL_takeOut_15 (by decide) rfl rfl (lc_iconst E.1 (pc := 16) dL_takeOut_16 kc_2 (lc_wret E (pc := 17) hr dL_takeOut_17 (by decide)))
  · subst hv
    exact lc_i2l E.1 (pc := 7) dL_takeOut_7 (lc_last E (pc := 8) NX xo_get xo_set dL_takeOut_8 (lc_goto E.1 (pc := 9) (tgt := 18) dL_takeOut_9 rfl (lc_iconst E.1 (pc := 18) dL_takeOut_18 kc_0 (lc_wret E (pc := 19) hr dL_takeOut_19 (by decide)))))
theorem wL_takeOut {l : Launch} (hl9 : l.stackTraces = false) {c : Cf} {X M : Mem} (hG : GC c) (hX : XC c X) (hM : MC c M) (a1 : Int32) (D : va_G) (cI cR cL : ClassId) (adX : Nat → Nat) (q : Nat) (o9 : Nat → Int64) : ∃ (c1 : Cf) (X1 M1 : Mem) (w v : Int32) (o1 : Nat → Int64), GC c1 ∧ XC c1 X1 ∧ MC c1 M1 ∧ CW l yL_takeOut cL_takeOut 4 [(0, 9, 12, 13), (0, 9, 15, 17)] 9 2 D cI cR cL adX q [.ref (adX 0), .int a1, .ref q] X o9 w X1 o1 ∧ fX9_takeOut M a1 = some (v, M1) ∧ M1 0 22 = w ∧ (w = 0 → o1 0 = v.toInt64) :=
  agr_w (P := fun w X1 o1 => CW l yL_takeOut cL_takeOut 4 [(0, 9, 12, 13), (0, 9, 15, 17)] 9 2 D cI cR cL adX q [.ref (adX 0), .int a1, .ref q] X o9 w X1 o1) (a_takeOut hG hX hM a1) (fun r X1 h => cwL_takeOut hl9 h)
theorem dL_append_0 : decode cL_append 0 = .ok (.aload_n 2, 1) := by decide +kernel
theorem dL_append_1 : decode cL_append 1 = .ok (.iconst 0, 1) := by decide +kernel
theorem dL_append_2 : decode cL_append 2 = .ok (.aload_n 0, 1) := by decide +kernel
theorem dL_append_3 : decode cL_append 3 = .ok (.iload_n 1, 1) := by decide +kernel
theorem dL_append_4 : decode cL_append 4 = .ok (.invokevirtual 48, 3) := by decide +kernel
theorem dL_append_7 : decode cL_append 7 = .ok (.i2l, 1) := by decide +kernel
theorem dL_append_8 : decode cL_append 8 = .ok (.lastore, 1) := by decide +kernel
theorem dL_append_9 : decode cL_append 9 = .ok (.goto 9, 3) := by decide +kernel
theorem dL_append_12 : decode cL_append 12 = .ok (.astore_n 3, 1) := by decide +kernel
theorem dL_append_13 : decode cL_append 13 = .ok (.iconst 1, 1) := by decide +kernel
theorem dL_append_14 : decode cL_append 14 = .ok (.ireturn, 1) := by decide +kernel
theorem dL_append_15 : decode cL_append 15 = .ok (.astore_n 3, 1) := by decide +kernel
theorem dL_append_16 : decode cL_append 16 = .ok (.iconst 2, 1) := by decide +kernel
theorem dL_append_17 : decode cL_append 17 = .ok (.ireturn, 1) := by decide +kernel
theorem dL_append_18 : decode cL_append 18 = .ok (.iconst 0, 1) := by decide +kernel
theorem dL_append_19 : decode cL_append 19 = .ok (.ireturn, 1) := by decide +kernel
theorem cvL_append : MLV RL 48 yX8_append cX8_append 2 (some .int) 1 := ⟨(zw 954 (by decide +kernel) (by decide +kernel)), (zw 955 (by decide +kernel) (by decide +kernel)), (zw 956 (by decide +kernel) (by decide +kernel)), (zw 1 (by decide +kernel) (by decide +kernel)), (zw 957 (by decide +kernel) (by decide +kernel)), ⟨by decide +kernel, by decide +kernel, by decide +kernel⟩, by decide⟩
theorem thr_append {X : Mem} {a1 : Int32} : Thr [2, 3] (fX8_append X a1) := by
  unfold fX8_append
  repeat' (first | exact tr_inl | exact tr_none | exact tr_inr (by decide) | refine tr_if ?_ ?_ | refine tr_bx ?_ (fun _ _ => ?_) | refine tr_bd (fun _ _ => ?_) | refine tr_bind (fun _ => ?_) | unfold fX8_append_L12)
theorem cwL_append {l : Launch} {D : va_G} {cI cR cL : ClassId} {adX : Nat → Nat} {q : Nat} {X : Mem} {o : Nat → Int64} {a1 : Int32} (hl9 : l.stackTraces = false) {r : Int32 ⊕ Nat} {X1 : Mem} (hf : fX8_append X a1 = some (r, X1)) : CW l yL_append cL_append 4 [(0, 9, 12, 15), (0, 9, 15, 17)] 8 1 D cI cR cL adX q [.ref (adX 0), .int a1, .ref q] X o (cdw cdA r) X1 (ow o r) := by
  refine cw_of (own := RL) (by decide +kernel) rfl (Nat.le_of_ble_eq_true rfl) (fun p e s m below meth c A0 E htab hr => ?_)
  refine lc_lo (lo' := [some (.ref (adX 0)), some (.int a1), some (.ref q), none]) ⟨rfl, rfl, rfl, trivial⟩ ?_
  refine lc_aload_n E.1 (pc := 0) dL_append_0 rfl ?_
  refine lc_iconst E.1 (pc := 1) dL_append_1 kc_0 ?_
  refine lc_aload_n E.1 (pc := 2) dL_append_2 rfl ?_
  refine lc_iload_n E.1 (pc := 3) dL_append_3 rfl ?_
  refine lc_wcall E (pc := 4) [(12, 2), (15, 3)] 9 htab (by decide) [.int a1] [.int 0, .ref q] dL_append_4 cvL_append (cxX8_append hl9 hf) rfl rfl rfl (Nat.le_of_ble_eq_true rfl) ⟨(Nat.le_of_ble_eq_true rfl), (Nat.le_of_ble_eq_true rfl)⟩ ⟨(Nat.le_of_ble_eq_true rfl), (Nat.le_of_ble_eq_true rfl)⟩ (fun k hk => ?_) (fun v hv => ?_)
  · subst hk
    have hk9 := thr_append _ _ hf
    simp only [List.mem_cons, List.not_mem_nil, or_false] at hk9
    rcases hk9 with rfl | rfl
    · refine ⟨[], 12, [(15, 3)], rfl, by decide, by decide, by decide, fun q9 => ?_⟩
      rw [show cdw cdA (.inr 2) = (1 : Int32) from by decide +kernel]
      exact lc_astore_n E.1 (pc := 12) dL_append_12 (by decide) rfl rfl (lc_iconst E.1 (pc := 13) dL_append_13 kc_1 (lc_wret E (pc := 14) hr dL_append_14 (by decide)))
    · refine ⟨[(12, 2)], 15, [], rfl, by decide, by decide, by decide, fun q9 => ?_⟩
      rw [show cdw cdA (.inr 3) = (2 : Int32) from by decide +kernel]
      exact lc_astore_n E.1 (pc := 15) dL_append_15 (by decide) rfl rfl (lc_iconst E.1 (pc := 16) dL_append_16 kc_2 (lc_wret E (pc := 17) hr dL_append_17 (by decide)))
  · subst hv
    exact lc_i2l E.1 (pc := 7) dL_append_7 (lc_last E (pc := 8) NX xo_get xo_set dL_append_8 (lc_goto E.1 (pc := 9) (tgt := 18) dL_append_9 rfl (lc_iconst E.1 (pc := 18) dL_append_18 kc_0 (lc_wret E (pc := 19) hr dL_append_19 (by decide)))))
theorem wL_append {l : Launch} (hl9 : l.stackTraces = false) {c : Cf} {X M : Mem} (hG : GC c) (hX : XC c X) (hM : MC c M) (a1 : Int32) (D : va_G) (cI cR cL : ClassId) (adX : Nat → Nat) (q : Nat) (o9 : Nat → Int64) : ∃ (c1 : Cf) (X1 M1 : Mem) (w v : Int32) (o1 : Nat → Int64), GC c1 ∧ XC c1 X1 ∧ MC c1 M1 ∧ CW l yL_append cL_append 4 [(0, 9, 12, 15), (0, 9, 15, 17)] 8 1 D cI cR cL adX q [.ref (adX 0), .int a1, .ref q] X o9 w X1 o1 ∧ fX9_append M a1 = some (v, M1) ∧ M1 0 22 = w ∧ (w = 0 → o1 0 = v.toInt64) :=
  agr_w (P := fun w X1 o1 => CW l yL_append cL_append 4 [(0, 9, 12, 15), (0, 9, 15, 17)] 8 1 D cI cR cL adX q [.ref (adX 0), .int a1, .ref q] X o9 w X1 o1) (a_append hG hX hM a1) (fun r X1 h => cwL_append hl9 h)
theorem dL_addAll_0 : decode cL_addAll 0 = .ok (.aload_n 1, 1) := by decide +kernel
theorem dL_addAll_1 : decode cL_addAll 1 = .ok (.iconst 0, 1) := by decide +kernel
theorem dL_addAll_2 : decode cL_addAll 2 = .ok (.aload_n 0, 1) := by decide +kernel
theorem dL_addAll_3 : decode cL_addAll 3 = .ok (.invokevirtual 51, 3) := by decide +kernel
theorem dL_addAll_6 : decode cL_addAll 6 = .ok (.i2l, 1) := by decide +kernel
theorem dL_addAll_7 : decode cL_addAll 7 = .ok (.lastore, 1) := by decide +kernel
theorem dL_addAll_8 : decode cL_addAll 8 = .ok (.goto 9, 3) := by decide +kernel
theorem dL_addAll_11 : decode cL_addAll 11 = .ok (.astore_n 2, 1) := by decide +kernel
theorem dL_addAll_12 : decode cL_addAll 12 = .ok (.iconst 1, 1) := by decide +kernel
theorem dL_addAll_13 : decode cL_addAll 13 = .ok (.ireturn, 1) := by decide +kernel
theorem dL_addAll_14 : decode cL_addAll 14 = .ok (.astore_n 2, 1) := by decide +kernel
theorem dL_addAll_15 : decode cL_addAll 15 = .ok (.iconst 2, 1) := by decide +kernel
theorem dL_addAll_16 : decode cL_addAll 16 = .ok (.ireturn, 1) := by decide +kernel
theorem dL_addAll_17 : decode cL_addAll 17 = .ok (.iconst 0, 1) := by decide +kernel
theorem dL_addAll_18 : decode cL_addAll 18 = .ok (.ireturn, 1) := by decide +kernel
theorem cvL_addAll : MLV RL 51 yX8_addAll cX8_addAll 1 (some .int) 0 := ⟨(zw 967 (by decide +kernel) (by decide +kernel)), (zw 968 (by decide +kernel) (by decide +kernel)), (zw 969 (by decide +kernel) (by decide +kernel)), (zw 1 (by decide +kernel) (by decide +kernel)), (zw 970 (by decide +kernel) (by decide +kernel)), ⟨by decide +kernel, by decide +kernel, by decide +kernel⟩, by decide⟩
theorem thr_addAll {X : Mem} : Thr [2, 3] (fX8_addAll X ) := by
  unfold fX8_addAll
  repeat' (first | exact tr_inl | exact tr_none | exact tr_inr (by decide) | refine tr_if ?_ ?_ | refine tr_bx ?_ (fun _ _ => ?_) | refine tr_bd (fun _ _ => ?_) | refine tr_bind (fun _ => ?_))
theorem cwL_addAll {l : Launch} {D : va_G} {cI cR cL : ClassId} {adX : Nat → Nat} {q : Nat} {X : Mem} {o : Nat → Int64} (hl9 : l.stackTraces = false) {r : Int32 ⊕ Nat} {X1 : Mem} (hf : fX8_addAll X  = some (r, X1)) : CW l yL_addAll cL_addAll 3 [(0, 8, 11, 15), (0, 8, 14, 17)] 8 1 D cI cR cL adX q [.ref (adX 0), .ref q] X o (cdw cdA r) X1 (ow o r) := by
  refine cw_of (own := RL) (by decide +kernel) rfl (Nat.le_of_ble_eq_true rfl) (fun p e s m below meth c A0 E htab hr => ?_)
  refine lc_lo (lo' := [some (.ref (adX 0)), some (.ref q), none]) ⟨rfl, rfl, trivial⟩ ?_
  refine lc_aload_n E.1 (pc := 0) dL_addAll_0 rfl ?_
  refine lc_iconst E.1 (pc := 1) dL_addAll_1 kc_0 ?_
  refine lc_aload_n E.1 (pc := 2) dL_addAll_2 rfl ?_
  refine lc_wcall E (pc := 3) [(11, 2), (14, 3)] 8 htab (by decide) [] [.int 0, .ref q] dL_addAll_3 cvL_addAll (cxX8_addAll hl9 hf) rfl rfl rfl (Nat.le_of_ble_eq_true rfl) ⟨(Nat.le_of_ble_eq_true rfl), (Nat.le_of_ble_eq_true rfl)⟩ ⟨(Nat.le_of_ble_eq_true rfl), (Nat.le_of_ble_eq_true rfl)⟩ (fun k hk => ?_) (fun v hv => ?_)
  · subst hk
    have hk9 := thr_addAll _ _ hf
    simp only [List.mem_cons, List.not_mem_nil, or_false] at hk9
    rcases hk9 with rfl | rfl
    · refine ⟨[], 11, [(14, 3)], rfl, by decide, by decide, by decide, fun q9 => ?_⟩
      rw [show cdw cdA (.inr 2) = (1 : Int32) from by decide +kernel]
      exact lc_astore_n E.1 (pc := 11) dL_addAll_11 (by decide) rfl rfl (lc_iconst E.1 (pc := 12) dL_addAll_12 kc_1 (lc_wret E (pc := 13) hr dL_addAll_13 (by decide)))
    · refine ⟨[(11, 2)], 14, [], rfl, by decide, by decide, by decide, fun q9 => ?_⟩
      rw [show cdw cdA (.inr 3) = (2 : Int32) from by decide +kernel]
      exact lc_astore_n E.1 (pc := 14) dL_addAll_14 (by decide) rfl rfl (lc_iconst E.1 (pc := 15) dL_addAll_15 kc_2 (lc_wret E (pc := 16) hr dL_addAll_16 (by decide)))
  · subst hv
    exact lc_i2l E.1 (pc := 6) dL_addAll_6 (lc_last E (pc := 7) NX xo_get xo_set dL_addAll_7 (lc_goto E.1 (pc := 8) (tgt := 17) dL_addAll_8 rfl (lc_iconst E.1 (pc := 17) dL_addAll_17 kc_0 (lc_wret E (pc := 18) hr dL_addAll_18 (by decide)))))
theorem wL_addAll {l : Launch} (hl9 : l.stackTraces = false) {c : Cf} {X M : Mem} (hG : GC c) (hX : XC c X) (hM : MC c M) (D : va_G) (cI cR cL : ClassId) (adX : Nat → Nat) (q : Nat) (o9 : Nat → Int64) : ∃ (c1 : Cf) (X1 M1 : Mem) (w v : Int32) (o1 : Nat → Int64), GC c1 ∧ XC c1 X1 ∧ MC c1 M1 ∧ CW l yL_addAll cL_addAll 3 [(0, 8, 11, 15), (0, 8, 14, 17)] 8 1 D cI cR cL adX q [.ref (adX 0), .ref q] X o9 w X1 o1 ∧ fX9_addAll M  = some (v, M1) ∧ M1 0 22 = w ∧ (w = 0 → o1 0 = v.toInt64) :=
  agr_w (P := fun w X1 o1 => CW l yL_addAll cL_addAll 3 [(0, 8, 11, 15), (0, 8, 14, 17)] 8 1 D cI cR cL adX q [.ref (adX 0), .ref q] X o9 w X1 o1) (a_addAll hG hX hM ) (fun r X1 h => cwL_addAll hl9 h)
theorem dL_undo_0 : decode cL_undo 0 = .ok (.aload_n 1, 1) := by decide +kernel
theorem dL_undo_1 : decode cL_undo 1 = .ok (.iconst 0, 1) := by decide +kernel
theorem dL_undo_2 : decode cL_undo 2 = .ok (.aload_n 0, 1) := by decide +kernel
theorem dL_undo_3 : decode cL_undo 3 = .ok (.invokevirtual 55, 3) := by decide +kernel
theorem dL_undo_6 : decode cL_undo 6 = .ok (.i2l, 1) := by decide +kernel
theorem dL_undo_7 : decode cL_undo 7 = .ok (.lastore, 1) := by decide +kernel
theorem dL_undo_8 : decode cL_undo 8 = .ok (.goto 6, 3) := by decide +kernel
theorem dL_undo_11 : decode cL_undo 11 = .ok (.astore_n 2, 1) := by decide +kernel
theorem dL_undo_12 : decode cL_undo 12 = .ok (.iconst 1, 1) := by decide +kernel
theorem dL_undo_13 : decode cL_undo 13 = .ok (.ireturn, 1) := by decide +kernel
theorem dL_undo_14 : decode cL_undo 14 = .ok (.iconst 0, 1) := by decide +kernel
theorem dL_undo_15 : decode cL_undo 15 = .ok (.ireturn, 1) := by decide +kernel
theorem cvL_undo : MLV RL 55 yX8_undo cX8_undo 1 (some .int) 0 := ⟨(zw 1004 (by decide +kernel) (by decide +kernel)), (zw 1005 (by decide +kernel) (by decide +kernel)), (zw 1006 (by decide +kernel) (by decide +kernel)), (zw 1 (by decide +kernel) (by decide +kernel)), (zw 1007 (by decide +kernel) (by decide +kernel)), ⟨by decide +kernel, by decide +kernel, by decide +kernel⟩, by decide⟩
theorem thr_undo {X : Mem} : Thr [3] (fX8_undo X ) := by
  unfold fX8_undo
  repeat' (first | exact tr_inl | exact tr_none | exact tr_inr (by decide) | refine tr_if ?_ ?_ | refine tr_bx ?_ (fun _ _ => ?_) | refine tr_bd (fun _ _ => ?_) | refine tr_bind (fun _ => ?_))
theorem cwL_undo {l : Launch} {D : va_G} {cI cR cL : ClassId} {adX : Nat → Nat} {q : Nat} {X : Mem} {o : Nat → Int64} (hl9 : l.stackTraces = false) {r : Int32 ⊕ Nat} {X1 : Mem} (hf : fX8_undo X  = some (r, X1)) : CW l yL_undo cL_undo 3 [(0, 8, 11, 17)] 8 1 D cI cR cL adX q [.ref (adX 0), .ref q] X o (cdw cd1 r) X1 (ow o r) := by
  refine cw_of (own := RL) (by decide +kernel) rfl (Nat.le_of_ble_eq_true rfl) (fun p e s m below meth c A0 E htab hr => ?_)
  refine lc_lo (lo' := [some (.ref (adX 0)), some (.ref q), none]) ⟨rfl, rfl, trivial⟩ ?_
  refine lc_aload_n E.1 (pc := 0) dL_undo_0 rfl ?_
  refine lc_iconst E.1 (pc := 1) dL_undo_1 kc_0 ?_
  refine lc_aload_n E.1 (pc := 2) dL_undo_2 rfl ?_
  refine lc_wcall E (pc := 3) [(11, 3)] 8 htab (by decide) [] [.int 0, .ref q] dL_undo_3 cvL_undo (cxX8_undo hl9 hf) rfl rfl rfl (Nat.le_of_ble_eq_true rfl) ⟨(Nat.le_of_ble_eq_true rfl), (Nat.le_of_ble_eq_true rfl)⟩ ⟨(Nat.le_of_ble_eq_true rfl), (Nat.le_of_ble_eq_true rfl)⟩ (fun k hk => ?_) (fun v hv => ?_)
  · subst hk
    have hk9 := thr_undo _ _ hf
    simp only [List.mem_cons, List.not_mem_nil, or_false] at hk9
    subst hk9
    · refine ⟨[], 11, [], rfl, by decide, by decide, by decide, fun q9 => ?_⟩
      rw [show cdw cd1 (.inr 3) = (1 : Int32) from by decide +kernel]
      exact lc_astore_n E.1 (pc := 11) dL_undo_11 (by decide) rfl rfl (lc_iconst E.1 (pc := 12) dL_undo_12 kc_1 (lc_wret E (pc := 13) hr dL_undo_13 (by decide)))
  · subst hv
    exact lc_i2l E.1 (pc := 6) dL_undo_6 (lc_last E (pc := 7) NX xo_get xo_set dL_undo_7 (lc_goto E.1 (pc := 8) (tgt := 14) dL_undo_8 rfl (lc_iconst E.1 (pc := 14) dL_undo_14 kc_0 (lc_wret E (pc := 15) hr dL_undo_15 (by decide)))))
theorem wL_undo {l : Launch} (hl9 : l.stackTraces = false) {c : Cf} {X M : Mem} (hG : GC c) (hX : XC c X) (hM : MC c M) (D : va_G) (cI cR cL : ClassId) (adX : Nat → Nat) (q : Nat) (o9 : Nat → Int64) : ∃ (c1 : Cf) (X1 M1 : Mem) (w v : Int32) (o1 : Nat → Int64), GC c1 ∧ XC c1 X1 ∧ MC c1 M1 ∧ CW l yL_undo cL_undo 3 [(0, 8, 11, 17)] 8 1 D cI cR cL adX q [.ref (adX 0), .ref q] X o9 w X1 o1 ∧ fX9_undo M  = some (v, M1) ∧ M1 0 22 = w ∧ (w = 0 → o1 0 = v.toInt64) :=
  agr_w (P := fun w X1 o1 => CW l yL_undo cL_undo 3 [(0, 8, 11, 17)] 8 1 D cI cR cL adX q [.ref (adX 0), .ref q] X o9 w X1 o1) (a_undo hG hX hM ) (fun r X1 h => cwL_undo hl9 h)
theorem dL_goBack_0 : decode cL_goBack 0 = .ok (.aload_n 1, 1) := by decide +kernel
theorem dL_goBack_1 : decode cL_goBack 1 = .ok (.iconst 0, 1) := by decide +kernel
theorem dL_goBack_2 : decode cL_goBack 2 = .ok (.aload_n 0, 1) := by decide +kernel
theorem dL_goBack_3 : decode cL_goBack 3 = .ok (.invokevirtual 58, 3) := by decide +kernel
theorem dL_goBack_6 : decode cL_goBack 6 = .ok (.i2l, 1) := by decide +kernel
theorem dL_goBack_7 : decode cL_goBack 7 = .ok (.lastore, 1) := by decide +kernel
theorem dL_goBack_8 : decode cL_goBack 8 = .ok (.goto 6, 3) := by decide +kernel
theorem dL_goBack_11 : decode cL_goBack 11 = .ok (.astore_n 2, 1) := by decide +kernel
theorem dL_goBack_12 : decode cL_goBack 12 = .ok (.iconst 1, 1) := by decide +kernel
theorem dL_goBack_13 : decode cL_goBack 13 = .ok (.ireturn, 1) := by decide +kernel
theorem dL_goBack_14 : decode cL_goBack 14 = .ok (.iconst 0, 1) := by decide +kernel
theorem dL_goBack_15 : decode cL_goBack 15 = .ok (.ireturn, 1) := by decide +kernel
theorem cvL_goBack : MLV RL 58 yX8_goBack cX8_goBack 1 (some .int) 0 := ⟨(zw 1016 (by decide +kernel) (by decide +kernel)), (zw 1017 (by decide +kernel) (by decide +kernel)), (zw 1018 (by decide +kernel) (by decide +kernel)), (zw 1 (by decide +kernel) (by decide +kernel)), (zw 1019 (by decide +kernel) (by decide +kernel)), ⟨by decide +kernel, by decide +kernel, by decide +kernel⟩, by decide⟩
theorem thr_goBack {X : Mem} : Thr [3] (fX8_goBack X ) := by
  unfold fX8_goBack
  repeat' (first | exact tr_inl | exact tr_none | exact tr_inr (by decide) | refine tr_if ?_ ?_ | refine tr_bx ?_ (fun _ _ => ?_) | refine tr_bd (fun _ _ => ?_) | refine tr_bind (fun _ => ?_))
theorem cwL_goBack {l : Launch} {D : va_G} {cI cR cL : ClassId} {adX : Nat → Nat} {q : Nat} {X : Mem} {o : Nat → Int64} (hl9 : l.stackTraces = false) {r : Int32 ⊕ Nat} {X1 : Mem} (hf : fX8_goBack X  = some (r, X1)) : CW l yL_goBack cL_goBack 3 [(0, 8, 11, 17)] 8 1 D cI cR cL adX q [.ref (adX 0), .ref q] X o (cdw cd1 r) X1 (ow o r) := by
  refine cw_of (own := RL) (by decide +kernel) rfl (Nat.le_of_ble_eq_true rfl) (fun p e s m below meth c A0 E htab hr => ?_)
  refine lc_lo (lo' := [some (.ref (adX 0)), some (.ref q), none]) ⟨rfl, rfl, trivial⟩ ?_
  refine lc_aload_n E.1 (pc := 0) dL_goBack_0 rfl ?_
  refine lc_iconst E.1 (pc := 1) dL_goBack_1 kc_0 ?_
  refine lc_aload_n E.1 (pc := 2) dL_goBack_2 rfl ?_
  refine lc_wcall E (pc := 3) [(11, 3)] 8 htab (by decide) [] [.int 0, .ref q] dL_goBack_3 cvL_goBack (cxX8_goBack hl9 hf) rfl rfl rfl (Nat.le_of_ble_eq_true rfl) ⟨(Nat.le_of_ble_eq_true rfl), (Nat.le_of_ble_eq_true rfl)⟩ ⟨(Nat.le_of_ble_eq_true rfl), (Nat.le_of_ble_eq_true rfl)⟩ (fun k hk => ?_) (fun v hv => ?_)
  · subst hk
    have hk9 := thr_goBack _ _ hf
    simp only [List.mem_cons, List.not_mem_nil, or_false] at hk9
    subst hk9
    · refine ⟨[], 11, [], rfl, by decide, by decide, by decide, fun q9 => ?_⟩
      rw [show cdw cd1 (.inr 3) = (1 : Int32) from by decide +kernel]
      exact lc_astore_n E.1 (pc := 11) dL_goBack_11 (by decide) rfl rfl (lc_iconst E.1 (pc := 12) dL_goBack_12 kc_1 (lc_wret E (pc := 13) hr dL_goBack_13 (by decide)))
  · subst hv
    exact lc_i2l E.1 (pc := 6) dL_goBack_6 (lc_last E (pc := 7) NX xo_get xo_set dL_goBack_7 (lc_goto E.1 (pc := 8) (tgt := 14) dL_goBack_8 rfl (lc_iconst E.1 (pc := 14) dL_goBack_14 kc_0 (lc_wret E (pc := 15) hr dL_goBack_15 (by decide)))))
theorem wL_goBack {l : Launch} (hl9 : l.stackTraces = false) {c : Cf} {X M : Mem} (hG : GC c) (hX : XC c X) (hM : MC c M) (D : va_G) (cI cR cL : ClassId) (adX : Nat → Nat) (q : Nat) (o9 : Nat → Int64) : ∃ (c1 : Cf) (X1 M1 : Mem) (w v : Int32) (o1 : Nat → Int64), GC c1 ∧ XC c1 X1 ∧ MC c1 M1 ∧ CW l yL_goBack cL_goBack 3 [(0, 8, 11, 17)] 8 1 D cI cR cL adX q [.ref (adX 0), .ref q] X o9 w X1 o1 ∧ fX9_goBack M  = some (v, M1) ∧ M1 0 22 = w ∧ (w = 0 → o1 0 = v.toInt64) :=
  agr_w (P := fun w X1 o1 => CW l yL_goBack cL_goBack 3 [(0, 8, 11, 17)] 8 1 D cI cR cL adX q [.ref (adX 0), .ref q] X o9 w X1 o1) (a_goBack hG hX hM ) (fun r X1 h => cwL_goBack hl9 h)
theorem dL_kindOf_0 : decode cL_kindOf 0 = .ok (.aload_n 2, 1) := by decide +kernel
theorem dL_kindOf_1 : decode cL_kindOf 1 = .ok (.iconst 0, 1) := by decide +kernel
theorem dL_kindOf_2 : decode cL_kindOf 2 = .ok (.aload_n 0, 1) := by decide +kernel
theorem dL_kindOf_3 : decode cL_kindOf 3 = .ok (.iload_n 1, 1) := by decide +kernel
theorem dL_kindOf_4 : decode cL_kindOf 4 = .ok (.invokevirtual 61, 3) := by decide +kernel
theorem dL_kindOf_7 : decode cL_kindOf 7 = .ok (.i2l, 1) := by decide +kernel
theorem dL_kindOf_8 : decode cL_kindOf 8 = .ok (.lastore, 1) := by decide +kernel
theorem dL_kindOf_9 : decode cL_kindOf 9 = .ok (.goto 6, 3) := by decide +kernel
theorem dL_kindOf_12 : decode cL_kindOf 12 = .ok (.astore_n 3, 1) := by decide +kernel
theorem dL_kindOf_13 : decode cL_kindOf 13 = .ok (.iconst 1, 1) := by decide +kernel
theorem dL_kindOf_14 : decode cL_kindOf 14 = .ok (.ireturn, 1) := by decide +kernel
theorem dL_kindOf_15 : decode cL_kindOf 15 = .ok (.iconst 0, 1) := by decide +kernel
theorem dL_kindOf_16 : decode cL_kindOf 16 = .ok (.ireturn, 1) := by decide +kernel
theorem cvL_kindOf : MLV RL 61 yX8_kindOf cX8_kindOf 2 (some .int) 1 := ⟨(zw 1024 (by decide +kernel) (by decide +kernel)), (zw 1025 (by decide +kernel) (by decide +kernel)), (zw 1026 (by decide +kernel) (by decide +kernel)), (zw 1 (by decide +kernel) (by decide +kernel)), (zw 1027 (by decide +kernel) (by decide +kernel)), ⟨by decide +kernel, by decide +kernel, by decide +kernel⟩, by decide⟩
theorem thr_kindOf {X : Mem} {a1 : Int32} : Thr [1] (fX8_kindOf X a1) := by
  unfold fX8_kindOf
  repeat' (first | exact tr_inl | exact tr_none | exact tr_inr (by decide) | refine tr_if ?_ ?_ | refine tr_bx ?_ (fun _ _ => ?_) | refine tr_bd (fun _ _ => ?_) | refine tr_bind (fun _ => ?_) | unfold fX8_checkStep | unfold fX8_checkStep_L15)
theorem cwL_kindOf {l : Launch} {D : va_G} {cI cR cL : ClassId} {adX : Nat → Nat} {q : Nat} {X : Mem} {o : Nat → Int64} {a1 : Int32} (hl9 : l.stackTraces = false) {r : Int32 ⊕ Nat} {X1 : Mem} (hf : fX8_kindOf X a1 = some (r, X1)) : CW l yL_kindOf cL_kindOf 4 [(0, 9, 12, 13)] 9 1 D cI cR cL adX q [.ref (adX 0), .int a1, .ref q] X o (cdw cd1 r) X1 (ow o r) := by
  refine cw_of (own := RL) (by decide +kernel) rfl (Nat.le_of_ble_eq_true rfl) (fun p e s m below meth c A0 E htab hr => ?_)
  refine lc_lo (lo' := [some (.ref (adX 0)), some (.int a1), some (.ref q), none]) ⟨rfl, rfl, rfl, trivial⟩ ?_
  refine lc_aload_n E.1 (pc := 0) dL_kindOf_0 rfl ?_
  refine lc_iconst E.1 (pc := 1) dL_kindOf_1 kc_0 ?_
  refine lc_aload_n E.1 (pc := 2) dL_kindOf_2 rfl ?_
  refine lc_iload_n E.1 (pc := 3) dL_kindOf_3 rfl ?_
  refine lc_wcall E (pc := 4) [(12, 1)] 9 htab (by decide) [.int a1] [.int 0, .ref q] dL_kindOf_4 cvL_kindOf (cxX8_kindOf hl9 hf) rfl rfl rfl (Nat.le_of_ble_eq_true rfl) ⟨(Nat.le_of_ble_eq_true rfl), (Nat.le_of_ble_eq_true rfl)⟩ ⟨(Nat.le_of_ble_eq_true rfl), (Nat.le_of_ble_eq_true rfl)⟩ (fun k hk => ?_) (fun v hv => ?_)
  · subst hk
    have hk9 := thr_kindOf _ _ hf
    simp only [List.mem_cons, List.not_mem_nil, or_false] at hk9
    subst hk9
    · refine ⟨[], 12, [], rfl, by decide, by decide, by decide, fun q9 => ?_⟩
      rw [show cdw cd1 (.inr 1) = (1 : Int32) from by decide +kernel]
      exact lc_astore_n E.1 (pc := 12) dL_kindOf_12 (by decide) rfl rfl (lc_iconst E.1 (pc := 13) dL_kindOf_13 kc_1 (lc_wret E (pc := 14) hr dL_kindOf_14 (by decide)))
  · subst hv
    exact lc_i2l E.1 (pc := 7) dL_kindOf_7 (lc_last E (pc := 8) NX xo_get xo_set dL_kindOf_8 (lc_goto E.1 (pc := 9) (tgt := 15) dL_kindOf_9 rfl (lc_iconst E.1 (pc := 15) dL_kindOf_15 kc_0 (lc_wret E (pc := 16) hr dL_kindOf_16 (by decide)))))
theorem wL_kindOf {l : Launch} (hl9 : l.stackTraces = false) {c : Cf} {X M : Mem} (hG : GC c) (hX : XC c X) (hM : MC c M) (a1 : Int32) (D : va_G) (cI cR cL : ClassId) (adX : Nat → Nat) (q : Nat) (o9 : Nat → Int64) : ∃ (c1 : Cf) (X1 M1 : Mem) (w v : Int32) (o1 : Nat → Int64), GC c1 ∧ XC c1 X1 ∧ MC c1 M1 ∧ CW l yL_kindOf cL_kindOf 4 [(0, 9, 12, 13)] 9 1 D cI cR cL adX q [.ref (adX 0), .int a1, .ref q] X o9 w X1 o1 ∧ fX9_kindOf M a1 = some (v, M1) ∧ M1 0 22 = w ∧ (w = 0 → o1 0 = v.toInt64) :=
  agr_w (P := fun w X1 o1 => CW l yL_kindOf cL_kindOf 4 [(0, 9, 12, 13)] 9 1 D cI cR cL adX q [.ref (adX 0), .int a1, .ref q] X o9 w X1 o1) (a_kindOf hG hX hM a1) (fun r X1 h => cwL_kindOf hl9 h)
theorem dL_readBy_0 : decode cL_readBy 0 = .ok (.aload_n 2, 1) := by decide +kernel
theorem dL_readBy_1 : decode cL_readBy 1 = .ok (.iconst 0, 1) := by decide +kernel
theorem dL_readBy_2 : decode cL_readBy 2 = .ok (.aload_n 0, 1) := by decide +kernel
theorem dL_readBy_3 : decode cL_readBy 3 = .ok (.iload_n 1, 1) := by decide +kernel
theorem dL_readBy_4 : decode cL_readBy 4 = .ok (.invokevirtual 64, 3) := by decide +kernel
theorem dL_readBy_7 : decode cL_readBy 7 = .ok (.i2l, 1) := by decide +kernel
theorem dL_readBy_8 : decode cL_readBy 8 = .ok (.lastore, 1) := by decide +kernel
theorem dL_readBy_9 : decode cL_readBy 9 = .ok (.goto 6, 3) := by decide +kernel
theorem dL_readBy_12 : decode cL_readBy 12 = .ok (.astore_n 3, 1) := by decide +kernel
theorem dL_readBy_13 : decode cL_readBy 13 = .ok (.iconst 1, 1) := by decide +kernel
theorem dL_readBy_14 : decode cL_readBy 14 = .ok (.ireturn, 1) := by decide +kernel
theorem dL_readBy_15 : decode cL_readBy 15 = .ok (.iconst 0, 1) := by decide +kernel
theorem dL_readBy_16 : decode cL_readBy 16 = .ok (.ireturn, 1) := by decide +kernel
theorem cvL_readBy : MLV RL 64 yX8_readBy cX8_readBy 2 (some .int) 1 := ⟨(zw 1031 (by decide +kernel) (by decide +kernel)), (zw 1032 (by decide +kernel) (by decide +kernel)), (zw 1033 (by decide +kernel) (by decide +kernel)), (zw 1 (by decide +kernel) (by decide +kernel)), (zw 1034 (by decide +kernel) (by decide +kernel)), ⟨by decide +kernel, by decide +kernel, by decide +kernel⟩, by decide⟩
theorem thr_readBy {X : Mem} {a1 : Int32} : Thr [1] (fX8_readBy X a1) := by
  unfold fX8_readBy
  repeat' (first | exact tr_inl | exact tr_none | exact tr_inr (by decide) | refine tr_if ?_ ?_ | refine tr_bx ?_ (fun _ _ => ?_) | refine tr_bd (fun _ _ => ?_) | refine tr_bind (fun _ => ?_) | unfold fX8_checkStep | unfold fX8_checkStep_L15)
theorem cwL_readBy {l : Launch} {D : va_G} {cI cR cL : ClassId} {adX : Nat → Nat} {q : Nat} {X : Mem} {o : Nat → Int64} {a1 : Int32} (hl9 : l.stackTraces = false) {r : Int32 ⊕ Nat} {X1 : Mem} (hf : fX8_readBy X a1 = some (r, X1)) : CW l yL_readBy cL_readBy 4 [(0, 9, 12, 13)] 9 1 D cI cR cL adX q [.ref (adX 0), .int a1, .ref q] X o (cdw cd1 r) X1 (ow o r) := by
  refine cw_of (own := RL) (by decide +kernel) rfl (Nat.le_of_ble_eq_true rfl) (fun p e s m below meth c A0 E htab hr => ?_)
  refine lc_lo (lo' := [some (.ref (adX 0)), some (.int a1), some (.ref q), none]) ⟨rfl, rfl, rfl, trivial⟩ ?_
  refine lc_aload_n E.1 (pc := 0) dL_readBy_0 rfl ?_
  refine lc_iconst E.1 (pc := 1) dL_readBy_1 kc_0 ?_
  refine lc_aload_n E.1 (pc := 2) dL_readBy_2 rfl ?_
  refine lc_iload_n E.1 (pc := 3) dL_readBy_3 rfl ?_
  refine lc_wcall E (pc := 4) [(12, 1)] 9 htab (by decide) [.int a1] [.int 0, .ref q] dL_readBy_4 cvL_readBy (cxX8_readBy hl9 hf) rfl rfl rfl (Nat.le_of_ble_eq_true rfl) ⟨(Nat.le_of_ble_eq_true rfl), (Nat.le_of_ble_eq_true rfl)⟩ ⟨(Nat.le_of_ble_eq_true rfl), (Nat.le_of_ble_eq_true rfl)⟩ (fun k hk => ?_) (fun v hv => ?_)
  · subst hk
    have hk9 := thr_readBy _ _ hf
    simp only [List.mem_cons, List.not_mem_nil, or_false] at hk9
    subst hk9
    · refine ⟨[], 12, [], rfl, by decide, by decide, by decide, fun q9 => ?_⟩
      rw [show cdw cd1 (.inr 1) = (1 : Int32) from by decide +kernel]
      exact lc_astore_n E.1 (pc := 12) dL_readBy_12 (by decide) rfl rfl (lc_iconst E.1 (pc := 13) dL_readBy_13 kc_1 (lc_wret E (pc := 14) hr dL_readBy_14 (by decide)))
  · subst hv
    exact lc_i2l E.1 (pc := 7) dL_readBy_7 (lc_last E (pc := 8) NX xo_get xo_set dL_readBy_8 (lc_goto E.1 (pc := 9) (tgt := 15) dL_readBy_9 rfl (lc_iconst E.1 (pc := 15) dL_readBy_15 kc_0 (lc_wret E (pc := 16) hr dL_readBy_16 (by decide)))))
theorem wL_readBy {l : Launch} (hl9 : l.stackTraces = false) {c : Cf} {X M : Mem} (hG : GC c) (hX : XC c X) (hM : MC c M) (a1 : Int32) (D : va_G) (cI cR cL : ClassId) (adX : Nat → Nat) (q : Nat) (o9 : Nat → Int64) : ∃ (c1 : Cf) (X1 M1 : Mem) (w v : Int32) (o1 : Nat → Int64), GC c1 ∧ XC c1 X1 ∧ MC c1 M1 ∧ CW l yL_readBy cL_readBy 4 [(0, 9, 12, 13)] 9 1 D cI cR cL adX q [.ref (adX 0), .int a1, .ref q] X o9 w X1 o1 ∧ fX9_readBy M a1 = some (v, M1) ∧ M1 0 22 = w ∧ (w = 0 → o1 0 = v.toInt64) :=
  agr_w (P := fun w X1 o1 => CW l yL_readBy cL_readBy 4 [(0, 9, 12, 13)] 9 1 D cI cR cL adX q [.ref (adX 0), .int a1, .ref q] X o9 w X1 o1) (a_readBy hG hX hM a1) (fun r X1 h => cwL_readBy hl9 h)
theorem dL_writtenBy_0 : decode cL_writtenBy 0 = .ok (.aload_n 2, 1) := by decide +kernel
theorem dL_writtenBy_1 : decode cL_writtenBy 1 = .ok (.iconst 0, 1) := by decide +kernel
theorem dL_writtenBy_2 : decode cL_writtenBy 2 = .ok (.aload_n 0, 1) := by decide +kernel
theorem dL_writtenBy_3 : decode cL_writtenBy 3 = .ok (.iload_n 1, 1) := by decide +kernel
theorem dL_writtenBy_4 : decode cL_writtenBy 4 = .ok (.invokevirtual 67, 3) := by decide +kernel
theorem dL_writtenBy_7 : decode cL_writtenBy 7 = .ok (.i2l, 1) := by decide +kernel
theorem dL_writtenBy_8 : decode cL_writtenBy 8 = .ok (.lastore, 1) := by decide +kernel
theorem dL_writtenBy_9 : decode cL_writtenBy 9 = .ok (.goto 6, 3) := by decide +kernel
theorem dL_writtenBy_12 : decode cL_writtenBy 12 = .ok (.astore_n 3, 1) := by decide +kernel
theorem dL_writtenBy_13 : decode cL_writtenBy 13 = .ok (.iconst 1, 1) := by decide +kernel
theorem dL_writtenBy_14 : decode cL_writtenBy 14 = .ok (.ireturn, 1) := by decide +kernel
theorem dL_writtenBy_15 : decode cL_writtenBy 15 = .ok (.iconst 0, 1) := by decide +kernel
theorem dL_writtenBy_16 : decode cL_writtenBy 16 = .ok (.ireturn, 1) := by decide +kernel
theorem cvL_writtenBy : MLV RL 67 yX8_writtenBy cX8_writtenBy 2 (some .int) 1 := ⟨(zw 1038 (by decide +kernel) (by decide +kernel)), (zw 1039 (by decide +kernel) (by decide +kernel)), (zw 1040 (by decide +kernel) (by decide +kernel)), (zw 1 (by decide +kernel) (by decide +kernel)), (zw 1041 (by decide +kernel) (by decide +kernel)), ⟨by decide +kernel, by decide +kernel, by decide +kernel⟩, by decide⟩
theorem thr_writtenBy {X : Mem} {a1 : Int32} : Thr [1] (fX8_writtenBy X a1) := by
  unfold fX8_writtenBy
  repeat' (first | exact tr_inl | exact tr_none | exact tr_inr (by decide) | refine tr_if ?_ ?_ | refine tr_bx ?_ (fun _ _ => ?_) | refine tr_bd (fun _ _ => ?_) | refine tr_bind (fun _ => ?_) | unfold fX8_checkStep | unfold fX8_checkStep_L15)
theorem cwL_writtenBy {l : Launch} {D : va_G} {cI cR cL : ClassId} {adX : Nat → Nat} {q : Nat} {X : Mem} {o : Nat → Int64} {a1 : Int32} (hl9 : l.stackTraces = false) {r : Int32 ⊕ Nat} {X1 : Mem} (hf : fX8_writtenBy X a1 = some (r, X1)) : CW l yL_writtenBy cL_writtenBy 4 [(0, 9, 12, 13)] 9 1 D cI cR cL adX q [.ref (adX 0), .int a1, .ref q] X o (cdw cd1 r) X1 (ow o r) := by
  refine cw_of (own := RL) (by decide +kernel) rfl (Nat.le_of_ble_eq_true rfl) (fun p e s m below meth c A0 E htab hr => ?_)
  refine lc_lo (lo' := [some (.ref (adX 0)), some (.int a1), some (.ref q), none]) ⟨rfl, rfl, rfl, trivial⟩ ?_
  refine lc_aload_n E.1 (pc := 0) dL_writtenBy_0 rfl ?_
  refine lc_iconst E.1 (pc := 1) dL_writtenBy_1 kc_0 ?_
  refine lc_aload_n E.1 (pc := 2) dL_writtenBy_2 rfl ?_
  refine lc_iload_n E.1 (pc := 3) dL_writtenBy_3 rfl ?_
  refine lc_wcall E (pc := 4) [(12, 1)] 9 htab (by decide) [.int a1] [.int 0, .ref q] dL_writtenBy_4 cvL_writtenBy (cxX8_writtenBy hl9 hf) rfl rfl rfl (Nat.le_of_ble_eq_true rfl) ⟨(Nat.le_of_ble_eq_true rfl), (Nat.le_of_ble_eq_true rfl)⟩ ⟨(Nat.le_of_ble_eq_true rfl), (Nat.le_of_ble_eq_true rfl)⟩ (fun k hk => ?_) (fun v hv => ?_)
  · subst hk
    have hk9 := thr_writtenBy _ _ hf
    simp only [List.mem_cons, List.not_mem_nil, or_false] at hk9
    subst hk9
    · refine ⟨[], 12, [], rfl, by decide, by decide, by decide, fun q9 => ?_⟩
      rw [show cdw cd1 (.inr 1) = (1 : Int32) from by decide +kernel]
      exact lc_astore_n E.1 (pc := 12) dL_writtenBy_12 (by decide) rfl rfl (lc_iconst E.1 (pc := 13) dL_writtenBy_13 kc_1 (lc_wret E (pc := 14) hr dL_writtenBy_14 (by decide)))
  · subst hv
    exact lc_i2l E.1 (pc := 7) dL_writtenBy_7 (lc_last E (pc := 8) NX xo_get xo_set dL_writtenBy_8 (lc_goto E.1 (pc := 9) (tgt := 15) dL_writtenBy_9 rfl (lc_iconst E.1 (pc := 15) dL_writtenBy_15 kc_0 (lc_wret E (pc := 16) hr dL_writtenBy_16 (by decide)))))
theorem wL_writtenBy {l : Launch} (hl9 : l.stackTraces = false) {c : Cf} {X M : Mem} (hG : GC c) (hX : XC c X) (hM : MC c M) (a1 : Int32) (D : va_G) (cI cR cL : ClassId) (adX : Nat → Nat) (q : Nat) (o9 : Nat → Int64) : ∃ (c1 : Cf) (X1 M1 : Mem) (w v : Int32) (o1 : Nat → Int64), GC c1 ∧ XC c1 X1 ∧ MC c1 M1 ∧ CW l yL_writtenBy cL_writtenBy 4 [(0, 9, 12, 13)] 9 1 D cI cR cL adX q [.ref (adX 0), .int a1, .ref q] X o9 w X1 o1 ∧ fX9_writtenBy M a1 = some (v, M1) ∧ M1 0 22 = w ∧ (w = 0 → o1 0 = v.toInt64) :=
  agr_w (P := fun w X1 o1 => CW l yL_writtenBy cL_writtenBy 4 [(0, 9, 12, 13)] 9 1 D cI cR cL adX q [.ref (adX 0), .int a1, .ref q] X o9 w X1 o1) (a_writtenBy hG hX hM a1) (fun r X1 h => cwL_writtenBy hl9 h)
theorem dL_latencyOf_0 : decode cL_latencyOf 0 = .ok (.aload_n 2, 1) := by decide +kernel
theorem dL_latencyOf_1 : decode cL_latencyOf 1 = .ok (.iconst 0, 1) := by decide +kernel
theorem dL_latencyOf_2 : decode cL_latencyOf 2 = .ok (.aload_n 0, 1) := by decide +kernel
theorem dL_latencyOf_3 : decode cL_latencyOf 3 = .ok (.iload_n 1, 1) := by decide +kernel
theorem dL_latencyOf_4 : decode cL_latencyOf 4 = .ok (.invokevirtual 70, 3) := by decide +kernel
theorem dL_latencyOf_7 : decode cL_latencyOf 7 = .ok (.i2l, 1) := by decide +kernel
theorem dL_latencyOf_8 : decode cL_latencyOf 8 = .ok (.lastore, 1) := by decide +kernel
theorem dL_latencyOf_9 : decode cL_latencyOf 9 = .ok (.goto 6, 3) := by decide +kernel
theorem dL_latencyOf_12 : decode cL_latencyOf 12 = .ok (.astore_n 3, 1) := by decide +kernel
theorem dL_latencyOf_13 : decode cL_latencyOf 13 = .ok (.iconst 1, 1) := by decide +kernel
theorem dL_latencyOf_14 : decode cL_latencyOf 14 = .ok (.ireturn, 1) := by decide +kernel
theorem dL_latencyOf_15 : decode cL_latencyOf 15 = .ok (.iconst 0, 1) := by decide +kernel
theorem dL_latencyOf_16 : decode cL_latencyOf 16 = .ok (.ireturn, 1) := by decide +kernel
theorem cvL_latencyOf : MLV RL 70 yX8_latencyOf cX8_latencyOf 2 (some .int) 1 := ⟨(zw 1045 (by decide +kernel) (by decide +kernel)), (zw 1046 (by decide +kernel) (by decide +kernel)), (zw 1047 (by decide +kernel) (by decide +kernel)), (zw 1 (by decide +kernel) (by decide +kernel)), (zw 1048 (by decide +kernel) (by decide +kernel)), ⟨by decide +kernel, by decide +kernel, by decide +kernel⟩, by decide⟩
theorem thr_latencyOf {X : Mem} {a1 : Int32} : Thr [1] (fX8_latencyOf X a1) := by
  unfold fX8_latencyOf
  repeat' (first | exact tr_inl | exact tr_none | exact tr_inr (by decide) | refine tr_if ?_ ?_ | refine tr_bx ?_ (fun _ _ => ?_) | refine tr_bd (fun _ _ => ?_) | refine tr_bind (fun _ => ?_) | unfold fX8_checkStep | unfold fX8_checkStep_L15)
theorem cwL_latencyOf {l : Launch} {D : va_G} {cI cR cL : ClassId} {adX : Nat → Nat} {q : Nat} {X : Mem} {o : Nat → Int64} {a1 : Int32} (hl9 : l.stackTraces = false) {r : Int32 ⊕ Nat} {X1 : Mem} (hf : fX8_latencyOf X a1 = some (r, X1)) : CW l yL_latencyOf cL_latencyOf 4 [(0, 9, 12, 13)] 9 1 D cI cR cL adX q [.ref (adX 0), .int a1, .ref q] X o (cdw cd1 r) X1 (ow o r) := by
  refine cw_of (own := RL) (by decide +kernel) rfl (Nat.le_of_ble_eq_true rfl) (fun p e s m below meth c A0 E htab hr => ?_)
  refine lc_lo (lo' := [some (.ref (adX 0)), some (.int a1), some (.ref q), none]) ⟨rfl, rfl, rfl, trivial⟩ ?_
  refine lc_aload_n E.1 (pc := 0) dL_latencyOf_0 rfl ?_
  refine lc_iconst E.1 (pc := 1) dL_latencyOf_1 kc_0 ?_
  refine lc_aload_n E.1 (pc := 2) dL_latencyOf_2 rfl ?_
  refine lc_iload_n E.1 (pc := 3) dL_latencyOf_3 rfl ?_
  refine lc_wcall E (pc := 4) [(12, 1)] 9 htab (by decide) [.int a1] [.int 0, .ref q] dL_latencyOf_4 cvL_latencyOf (cxX8_latencyOf hl9 hf) rfl rfl rfl (Nat.le_of_ble_eq_true rfl) ⟨(Nat.le_of_ble_eq_true rfl), (Nat.le_of_ble_eq_true rfl)⟩ ⟨(Nat.le_of_ble_eq_true rfl), (Nat.le_of_ble_eq_true rfl)⟩ (fun k hk => ?_) (fun v hv => ?_)
  · subst hk
    have hk9 := thr_latencyOf _ _ hf
    simp only [List.mem_cons, List.not_mem_nil, or_false] at hk9
    subst hk9
    · refine ⟨[], 12, [], rfl, by decide, by decide, by decide, fun q9 => ?_⟩
      rw [show cdw cd1 (.inr 1) = (1 : Int32) from by decide +kernel]
      exact lc_astore_n E.1 (pc := 12) dL_latencyOf_12 (by decide) rfl rfl (lc_iconst E.1 (pc := 13) dL_latencyOf_13 kc_1 (lc_wret E (pc := 14) hr dL_latencyOf_14 (by decide)))
  · subst hv
    exact lc_i2l E.1 (pc := 7) dL_latencyOf_7 (lc_last E (pc := 8) NX xo_get xo_set dL_latencyOf_8 (lc_goto E.1 (pc := 9) (tgt := 15) dL_latencyOf_9 rfl (lc_iconst E.1 (pc := 15) dL_latencyOf_15 kc_0 (lc_wret E (pc := 16) hr dL_latencyOf_16 (by decide)))))
theorem wL_latencyOf {l : Launch} (hl9 : l.stackTraces = false) {c : Cf} {X M : Mem} (hG : GC c) (hX : XC c X) (hM : MC c M) (a1 : Int32) (D : va_G) (cI cR cL : ClassId) (adX : Nat → Nat) (q : Nat) (o9 : Nat → Int64) : ∃ (c1 : Cf) (X1 M1 : Mem) (w v : Int32) (o1 : Nat → Int64), GC c1 ∧ XC c1 X1 ∧ MC c1 M1 ∧ CW l yL_latencyOf cL_latencyOf 4 [(0, 9, 12, 13)] 9 1 D cI cR cL adX q [.ref (adX 0), .int a1, .ref q] X o9 w X1 o1 ∧ fX9_latencyOf M a1 = some (v, M1) ∧ M1 0 22 = w ∧ (w = 0 → o1 0 = v.toInt64) :=
  agr_w (P := fun w X1 o1 => CW l yL_latencyOf cL_latencyOf 4 [(0, 9, 12, 13)] 9 1 D cI cR cL adX q [.ref (adX 0), .int a1, .ref q] X o9 w X1 o1) (a_latencyOf hG hX hM a1) (fun r X1 h => cwL_latencyOf hl9 h)
theorem dL_separation_0 : decode cL_separation 0 = .ok (.aload_n 3, 1) := by decide +kernel
theorem dL_separation_1 : decode cL_separation 1 = .ok (.iconst 0, 1) := by decide +kernel
theorem dL_separation_2 : decode cL_separation 2 = .ok (.aload_n 0, 1) := by decide +kernel
theorem dL_separation_3 : decode cL_separation 3 = .ok (.iload_n 1, 1) := by decide +kernel
theorem dL_separation_4 : decode cL_separation 4 = .ok (.iload_n 2, 1) := by decide +kernel
theorem dL_separation_5 : decode cL_separation 5 = .ok (.invokevirtual 73, 3) := by decide +kernel
theorem dL_separation_8 : decode cL_separation 8 = .ok (.i2l, 1) := by decide +kernel
theorem dL_separation_9 : decode cL_separation 9 = .ok (.lastore, 1) := by decide +kernel
theorem dL_separation_10 : decode cL_separation 10 = .ok (.goto 7, 3) := by decide +kernel
theorem dL_separation_13 : decode cL_separation 13 = .ok (.astore 4, 2) := by decide +kernel
theorem dL_separation_15 : decode cL_separation 15 = .ok (.iconst 1, 1) := by decide +kernel
theorem dL_separation_16 : decode cL_separation 16 = .ok (.ireturn, 1) := by decide +kernel
theorem dL_separation_17 : decode cL_separation 17 = .ok (.iconst 0, 1) := by decide +kernel
theorem dL_separation_18 : decode cL_separation 18 = .ok (.ireturn, 1) := by decide +kernel
theorem cvL_separation : MLV RL 73 yX8_separation cX8_separation 3 (some .int) 2 := ⟨(zw 1052 (by decide +kernel) (by decide +kernel)), (zw 1053 (by decide +kernel) (by decide +kernel)), (zw 1054 (by decide +kernel) (by decide +kernel)), (zw 1 (by decide +kernel) (by decide +kernel)), (zw 1055 (by decide +kernel) (by decide +kernel)), ⟨by decide +kernel, by decide +kernel, by decide +kernel⟩, by decide⟩
theorem thr_separation {X : Mem} {a1 : Int32} {a2 : Int32} : Thr [1] (fX8_separation X a1 a2) := by
  unfold fX8_separation
  repeat' (first | exact tr_inl | exact tr_none | exact tr_inr (by decide) | refine tr_if ?_ ?_ | refine tr_bx ?_ (fun _ _ => ?_) | refine tr_bd (fun _ _ => ?_) | refine tr_bind (fun _ => ?_) | unfold fX8_checkStep | unfold fX8_checkStep_L15)
theorem cwL_separation {l : Launch} {D : va_G} {cI cR cL : ClassId} {adX : Nat → Nat} {q : Nat} {X : Mem} {o : Nat → Int64} {a1 : Int32} {a2 : Int32} (hl9 : l.stackTraces = false) {r : Int32 ⊕ Nat} {X1 : Mem} (hf : fX8_separation X a1 a2 = some (r, X1)) : CW l yL_separation cL_separation 5 [(0, 10, 13, 13)] 9 2 D cI cR cL adX q [.ref (adX 0), .int a1, .int a2, .ref q] X o (cdw cd1 r) X1 (ow o r) := by
  refine cw_of (own := RL) (by decide +kernel) rfl (Nat.le_of_ble_eq_true rfl) (fun p e s m below meth c A0 E htab hr => ?_)
  refine lc_lo (lo' := [some (.ref (adX 0)), some (.int a1), some (.int a2), some (.ref q), none]) ⟨rfl, rfl, rfl, rfl, trivial⟩ ?_
  refine lc_aload_n E.1 (pc := 0) dL_separation_0 rfl ?_
  refine lc_iconst E.1 (pc := 1) dL_separation_1 kc_0 ?_
  refine lc_aload_n E.1 (pc := 2) dL_separation_2 rfl ?_
  refine lc_iload_n E.1 (pc := 3) dL_separation_3 rfl ?_
  refine lc_iload_n E.1 (pc := 4) dL_separation_4 rfl ?_
  refine lc_wcall E (pc := 5) [(13, 1)] 10 htab (by decide) [.int a1, .int a2] [.int 0, .ref q] dL_separation_5 cvL_separation (cxX8_separation hl9 hf) rfl rfl rfl (Nat.le_of_ble_eq_true rfl) ⟨(Nat.le_of_ble_eq_true rfl), (Nat.le_of_ble_eq_true rfl)⟩ ⟨(Nat.le_of_ble_eq_true rfl), (Nat.le_of_ble_eq_true rfl)⟩ (fun k hk => ?_) (fun v hv => ?_)
  · subst hk
    have hk9 := thr_separation _ _ hf
    simp only [List.mem_cons, List.not_mem_nil, or_false] at hk9
    subst hk9
    · refine ⟨[], 13, [], rfl, by decide, by decide, by decide, fun q9 => ?_⟩
      rw [show cdw cd1 (.inr 1) = (1 : Int32) from by decide +kernel]
      exact lc_astore E.1 (pc := 13) dL_separation_13 (by decide) rfl rfl (lc_iconst E.1 (pc := 15) dL_separation_15 kc_1 (lc_wret E (pc := 16) hr dL_separation_16 (by decide)))
  · subst hv
    exact lc_i2l E.1 (pc := 8) dL_separation_8 (lc_last E (pc := 9) NX xo_get xo_set dL_separation_9 (lc_goto E.1 (pc := 10) (tgt := 17) dL_separation_10 rfl (lc_iconst E.1 (pc := 17) dL_separation_17 kc_0 (lc_wret E (pc := 18) hr dL_separation_18 (by decide)))))
theorem wL_separation {l : Launch} (hl9 : l.stackTraces = false) {c : Cf} {X M : Mem} (hG : GC c) (hX : XC c X) (hM : MC c M) (a1 : Int32) (a2 : Int32) (D : va_G) (cI cR cL : ClassId) (adX : Nat → Nat) (q : Nat) (o9 : Nat → Int64) : ∃ (c1 : Cf) (X1 M1 : Mem) (w v : Int32) (o1 : Nat → Int64), GC c1 ∧ XC c1 X1 ∧ MC c1 M1 ∧ CW l yL_separation cL_separation 5 [(0, 10, 13, 13)] 9 2 D cI cR cL adX q [.ref (adX 0), .int a1, .int a2, .ref q] X o9 w X1 o1 ∧ fX9_separation M a1 a2 = some (v, M1) ∧ M1 0 22 = w ∧ (w = 0 → o1 0 = v.toInt64) :=
  agr_w (P := fun w X1 o1 => CW l yL_separation cL_separation 5 [(0, 10, 13, 13)] 9 2 D cI cR cL adX q [.ref (adX 0), .int a1, .int a2, .ref q] X o9 w X1 o1) (a_separation hG hX hM a1 a2) (fun r X1 h => cwL_separation hl9 h)
theorem dL_carried_0 : decode cL_carried 0 = .ok (.aload_n 3, 1) := by decide +kernel
theorem dL_carried_1 : decode cL_carried 1 = .ok (.iconst 0, 1) := by decide +kernel
theorem dL_carried_2 : decode cL_carried 2 = .ok (.aload_n 0, 1) := by decide +kernel
theorem dL_carried_3 : decode cL_carried 3 = .ok (.iload_n 1, 1) := by decide +kernel
theorem dL_carried_4 : decode cL_carried 4 = .ok (.iload_n 2, 1) := by decide +kernel
theorem dL_carried_5 : decode cL_carried 5 = .ok (.invokevirtual 76, 3) := by decide +kernel
theorem dL_carried_8 : decode cL_carried 8 = .ok (.i2l, 1) := by decide +kernel
theorem dL_carried_9 : decode cL_carried 9 = .ok (.lastore, 1) := by decide +kernel
theorem dL_carried_10 : decode cL_carried 10 = .ok (.goto 7, 3) := by decide +kernel
theorem dL_carried_13 : decode cL_carried 13 = .ok (.astore 4, 2) := by decide +kernel
theorem dL_carried_15 : decode cL_carried 15 = .ok (.iconst 1, 1) := by decide +kernel
theorem dL_carried_16 : decode cL_carried 16 = .ok (.ireturn, 1) := by decide +kernel
theorem dL_carried_17 : decode cL_carried 17 = .ok (.iconst 0, 1) := by decide +kernel
theorem dL_carried_18 : decode cL_carried 18 = .ok (.ireturn, 1) := by decide +kernel
theorem cvL_carried : MLV RL 76 yX8_carried cX8_carried 3 (some .int) 2 := ⟨(zw 1059 (by decide +kernel) (by decide +kernel)), (zw 1060 (by decide +kernel) (by decide +kernel)), (zw 1061 (by decide +kernel) (by decide +kernel)), (zw 1 (by decide +kernel) (by decide +kernel)), (zw 1062 (by decide +kernel) (by decide +kernel)), ⟨by decide +kernel, by decide +kernel, by decide +kernel⟩, by decide⟩
theorem thr_carried {X : Mem} {a1 : Int32} {a2 : Int32} : Thr [1] (fX8_carried X a1 a2) := by
  unfold fX8_carried
  repeat' (first | exact tr_inl | exact tr_none | exact tr_inr (by decide) | refine tr_if ?_ ?_ | refine tr_bx ?_ (fun _ _ => ?_) | refine tr_bd (fun _ _ => ?_) | refine tr_bind (fun _ => ?_) | unfold fX8_checkStep | unfold fX8_checkStep_L15)
theorem cwL_carried {l : Launch} {D : va_G} {cI cR cL : ClassId} {adX : Nat → Nat} {q : Nat} {X : Mem} {o : Nat → Int64} {a1 : Int32} {a2 : Int32} (hl9 : l.stackTraces = false) {r : Int32 ⊕ Nat} {X1 : Mem} (hf : fX8_carried X a1 a2 = some (r, X1)) : CW l yL_carried cL_carried 5 [(0, 10, 13, 13)] 9 2 D cI cR cL adX q [.ref (adX 0), .int a1, .int a2, .ref q] X o (cdw cd1 r) X1 (ow o r) := by
  refine cw_of (own := RL) (by decide +kernel) rfl (Nat.le_of_ble_eq_true rfl) (fun p e s m below meth c A0 E htab hr => ?_)
  refine lc_lo (lo' := [some (.ref (adX 0)), some (.int a1), some (.int a2), some (.ref q), none]) ⟨rfl, rfl, rfl, rfl, trivial⟩ ?_
  refine lc_aload_n E.1 (pc := 0) dL_carried_0 rfl ?_
  refine lc_iconst E.1 (pc := 1) dL_carried_1 kc_0 ?_
  refine lc_aload_n E.1 (pc := 2) dL_carried_2 rfl ?_
  refine lc_iload_n E.1 (pc := 3) dL_carried_3 rfl ?_
  refine lc_iload_n E.1 (pc := 4) dL_carried_4 rfl ?_
  refine lc_wcall E (pc := 5) [(13, 1)] 10 htab (by decide) [.int a1, .int a2] [.int 0, .ref q] dL_carried_5 cvL_carried (cxX8_carried hl9 hf) rfl rfl rfl (Nat.le_of_ble_eq_true rfl) ⟨(Nat.le_of_ble_eq_true rfl), (Nat.le_of_ble_eq_true rfl)⟩ ⟨(Nat.le_of_ble_eq_true rfl), (Nat.le_of_ble_eq_true rfl)⟩ (fun k hk => ?_) (fun v hv => ?_)
  · subst hk
    have hk9 := thr_carried _ _ hf
    simp only [List.mem_cons, List.not_mem_nil, or_false] at hk9
    subst hk9
    · refine ⟨[], 13, [], rfl, by decide, by decide, by decide, fun q9 => ?_⟩
      rw [show cdw cd1 (.inr 1) = (1 : Int32) from by decide +kernel]
      exact lc_astore E.1 (pc := 13) dL_carried_13 (by decide) rfl rfl (lc_iconst E.1 (pc := 15) dL_carried_15 kc_1 (lc_wret E (pc := 16) hr dL_carried_16 (by decide)))
  · subst hv
    exact lc_i2l E.1 (pc := 8) dL_carried_8 (lc_last E (pc := 9) NX xo_get xo_set dL_carried_9 (lc_goto E.1 (pc := 10) (tgt := 17) dL_carried_10 rfl (lc_iconst E.1 (pc := 17) dL_carried_17 kc_0 (lc_wret E (pc := 18) hr dL_carried_18 (by decide)))))
theorem wL_carried {l : Launch} (hl9 : l.stackTraces = false) {c : Cf} {X M : Mem} (hG : GC c) (hX : XC c X) (hM : MC c M) (a1 : Int32) (a2 : Int32) (D : va_G) (cI cR cL : ClassId) (adX : Nat → Nat) (q : Nat) (o9 : Nat → Int64) : ∃ (c1 : Cf) (X1 M1 : Mem) (w v : Int32) (o1 : Nat → Int64), GC c1 ∧ XC c1 X1 ∧ MC c1 M1 ∧ CW l yL_carried cL_carried 5 [(0, 10, 13, 13)] 9 2 D cI cR cL adX q [.ref (adX 0), .int a1, .int a2, .ref q] X o9 w X1 o1 ∧ fX9_carried M a1 a2 = some (v, M1) ∧ M1 0 22 = w ∧ (w = 0 → o1 0 = v.toInt64) :=
  agr_w (P := fun w X1 o1 => CW l yL_carried cL_carried 5 [(0, 10, 13, 13)] 9 2 D cI cR cL adX q [.ref (adX 0), .int a1, .int a2, .ref q] X o9 w X1 o1) (a_carried hG hX hM a1 a2) (fun r X1 h => cwL_carried hl9 h)
theorem dL_heightOf_0 : decode cL_heightOf 0 = .ok (.aload_n 2, 1) := by decide +kernel
theorem dL_heightOf_1 : decode cL_heightOf 1 = .ok (.iconst 0, 1) := by decide +kernel
theorem dL_heightOf_2 : decode cL_heightOf 2 = .ok (.aload_n 0, 1) := by decide +kernel
theorem dL_heightOf_3 : decode cL_heightOf 3 = .ok (.iload_n 1, 1) := by decide +kernel
theorem dL_heightOf_4 : decode cL_heightOf 4 = .ok (.invokevirtual 79, 3) := by decide +kernel
theorem dL_heightOf_7 : decode cL_heightOf 7 = .ok (.i2l, 1) := by decide +kernel
theorem dL_heightOf_8 : decode cL_heightOf 8 = .ok (.lastore, 1) := by decide +kernel
theorem dL_heightOf_9 : decode cL_heightOf 9 = .ok (.goto 6, 3) := by decide +kernel
theorem dL_heightOf_12 : decode cL_heightOf 12 = .ok (.astore_n 3, 1) := by decide +kernel
theorem dL_heightOf_13 : decode cL_heightOf 13 = .ok (.iconst 1, 1) := by decide +kernel
theorem dL_heightOf_14 : decode cL_heightOf 14 = .ok (.ireturn, 1) := by decide +kernel
theorem dL_heightOf_15 : decode cL_heightOf 15 = .ok (.iconst 0, 1) := by decide +kernel
theorem dL_heightOf_16 : decode cL_heightOf 16 = .ok (.ireturn, 1) := by decide +kernel
theorem cvL_heightOf : MLV RL 79 yX8_heightOf cX8_heightOf 2 (some .int) 1 := ⟨(zw 1066 (by decide +kernel) (by decide +kernel)), (zw 1067 (by decide +kernel) (by decide +kernel)), (zw 1068 (by decide +kernel) (by decide +kernel)), (zw 1 (by decide +kernel) (by decide +kernel)), (zw 1069 (by decide +kernel) (by decide +kernel)), ⟨by decide +kernel, by decide +kernel, by decide +kernel⟩, by decide⟩
theorem thr_heightOf {X : Mem} {a1 : Int32} : Thr [1] (fX8_heightOf X a1) := by
  unfold fX8_heightOf
  repeat' (first | exact tr_inl | exact tr_none | exact tr_inr (by decide) | refine tr_if ?_ ?_ | refine tr_bx ?_ (fun _ _ => ?_) | refine tr_bd (fun _ _ => ?_) | refine tr_bind (fun _ => ?_) | unfold fX8_checkStep | unfold fX8_checkStep_L15)
theorem cwL_heightOf {l : Launch} {D : va_G} {cI cR cL : ClassId} {adX : Nat → Nat} {q : Nat} {X : Mem} {o : Nat → Int64} {a1 : Int32} (hl9 : l.stackTraces = false) {r : Int32 ⊕ Nat} {X1 : Mem} (hf : fX8_heightOf X a1 = some (r, X1)) : CW l yL_heightOf cL_heightOf 4 [(0, 9, 12, 13)] 9 1 D cI cR cL adX q [.ref (adX 0), .int a1, .ref q] X o (cdw cd1 r) X1 (ow o r) := by
  refine cw_of (own := RL) (by decide +kernel) rfl (Nat.le_of_ble_eq_true rfl) (fun p e s m below meth c A0 E htab hr => ?_)
  refine lc_lo (lo' := [some (.ref (adX 0)), some (.int a1), some (.ref q), none]) ⟨rfl, rfl, rfl, trivial⟩ ?_
  refine lc_aload_n E.1 (pc := 0) dL_heightOf_0 rfl ?_
  refine lc_iconst E.1 (pc := 1) dL_heightOf_1 kc_0 ?_
  refine lc_aload_n E.1 (pc := 2) dL_heightOf_2 rfl ?_
  refine lc_iload_n E.1 (pc := 3) dL_heightOf_3 rfl ?_
  refine lc_wcall E (pc := 4) [(12, 1)] 9 htab (by decide) [.int a1] [.int 0, .ref q] dL_heightOf_4 cvL_heightOf (cxX8_heightOf hl9 hf) rfl rfl rfl (Nat.le_of_ble_eq_true rfl) ⟨(Nat.le_of_ble_eq_true rfl), (Nat.le_of_ble_eq_true rfl)⟩ ⟨(Nat.le_of_ble_eq_true rfl), (Nat.le_of_ble_eq_true rfl)⟩ (fun k hk => ?_) (fun v hv => ?_)
  · subst hk
    have hk9 := thr_heightOf _ _ hf
    simp only [List.mem_cons, List.not_mem_nil, or_false] at hk9
    subst hk9
    · refine ⟨[], 12, [], rfl, by decide, by decide, by decide, fun q9 => ?_⟩
      rw [show cdw cd1 (.inr 1) = (1 : Int32) from by decide +kernel]
      exact lc_astore_n E.1 (pc := 12) dL_heightOf_12 (by decide) rfl rfl (lc_iconst E.1 (pc := 13) dL_heightOf_13 kc_1 (lc_wret E (pc := 14) hr dL_heightOf_14 (by decide)))
  · subst hv
    exact lc_i2l E.1 (pc := 7) dL_heightOf_7 (lc_last E (pc := 8) NX xo_get xo_set dL_heightOf_8 (lc_goto E.1 (pc := 9) (tgt := 15) dL_heightOf_9 rfl (lc_iconst E.1 (pc := 15) dL_heightOf_15 kc_0 (lc_wret E (pc := 16) hr dL_heightOf_16 (by decide)))))
theorem wL_heightOf {l : Launch} (hl9 : l.stackTraces = false) {c : Cf} {X M : Mem} (hG : GC c) (hX : XC c X) (hM : MC c M) (a1 : Int32) (D : va_G) (cI cR cL : ClassId) (adX : Nat → Nat) (q : Nat) (o9 : Nat → Int64) : ∃ (c1 : Cf) (X1 M1 : Mem) (w v : Int32) (o1 : Nat → Int64), GC c1 ∧ XC c1 X1 ∧ MC c1 M1 ∧ CW l yL_heightOf cL_heightOf 4 [(0, 9, 12, 13)] 9 1 D cI cR cL adX q [.ref (adX 0), .int a1, .ref q] X o9 w X1 o1 ∧ fX9_heightOf M a1 = some (v, M1) ∧ M1 0 22 = w ∧ (w = 0 → o1 0 = v.toInt64) :=
  agr_w (P := fun w X1 o1 => CW l yL_heightOf cL_heightOf 4 [(0, 9, 12, 13)] 9 1 D cI cR cL adX q [.ref (adX 0), .int a1, .ref q] X o9 w X1 o1) (a_heightOf hG hX hM a1) (fun r X1 h => cwL_heightOf hl9 h)
theorem dL_earliestOf_0 : decode cL_earliestOf 0 = .ok (.aload_n 2, 1) := by decide +kernel
theorem dL_earliestOf_1 : decode cL_earliestOf 1 = .ok (.iconst 0, 1) := by decide +kernel
theorem dL_earliestOf_2 : decode cL_earliestOf 2 = .ok (.aload_n 0, 1) := by decide +kernel
theorem dL_earliestOf_3 : decode cL_earliestOf 3 = .ok (.iload_n 1, 1) := by decide +kernel
theorem dL_earliestOf_4 : decode cL_earliestOf 4 = .ok (.invokevirtual 82, 3) := by decide +kernel
theorem dL_earliestOf_7 : decode cL_earliestOf 7 = .ok (.i2l, 1) := by decide +kernel
theorem dL_earliestOf_8 : decode cL_earliestOf 8 = .ok (.lastore, 1) := by decide +kernel
theorem dL_earliestOf_9 : decode cL_earliestOf 9 = .ok (.goto 6, 3) := by decide +kernel
theorem dL_earliestOf_12 : decode cL_earliestOf 12 = .ok (.astore_n 3, 1) := by decide +kernel
theorem dL_earliestOf_13 : decode cL_earliestOf 13 = .ok (.iconst 1, 1) := by decide +kernel
theorem dL_earliestOf_14 : decode cL_earliestOf 14 = .ok (.ireturn, 1) := by decide +kernel
theorem dL_earliestOf_15 : decode cL_earliestOf 15 = .ok (.iconst 0, 1) := by decide +kernel
theorem dL_earliestOf_16 : decode cL_earliestOf 16 = .ok (.ireturn, 1) := by decide +kernel
theorem cvL_earliestOf : MLV RL 82 yX8_earliestOf cX8_earliestOf 2 (some .int) 1 := ⟨(zw 1073 (by decide +kernel) (by decide +kernel)), (zw 1074 (by decide +kernel) (by decide +kernel)), (zw 1075 (by decide +kernel) (by decide +kernel)), (zw 1 (by decide +kernel) (by decide +kernel)), (zw 1076 (by decide +kernel) (by decide +kernel)), ⟨by decide +kernel, by decide +kernel, by decide +kernel⟩, by decide⟩
theorem thr_earliestOf {X : Mem} {a1 : Int32} : Thr [1] (fX8_earliestOf X a1) := by
  unfold fX8_earliestOf
  repeat' (first | exact tr_inl | exact tr_none | exact tr_inr (by decide) | refine tr_if ?_ ?_ | refine tr_bx ?_ (fun _ _ => ?_) | refine tr_bd (fun _ _ => ?_) | refine tr_bind (fun _ => ?_) | unfold fX8_checkStep | unfold fX8_checkStep_L15)
theorem cwL_earliestOf {l : Launch} {D : va_G} {cI cR cL : ClassId} {adX : Nat → Nat} {q : Nat} {X : Mem} {o : Nat → Int64} {a1 : Int32} (hl9 : l.stackTraces = false) {r : Int32 ⊕ Nat} {X1 : Mem} (hf : fX8_earliestOf X a1 = some (r, X1)) : CW l yL_earliestOf cL_earliestOf 4 [(0, 9, 12, 13)] 9 1 D cI cR cL adX q [.ref (adX 0), .int a1, .ref q] X o (cdw cd1 r) X1 (ow o r) := by
  refine cw_of (own := RL) (by decide +kernel) rfl (Nat.le_of_ble_eq_true rfl) (fun p e s m below meth c A0 E htab hr => ?_)
  refine lc_lo (lo' := [some (.ref (adX 0)), some (.int a1), some (.ref q), none]) ⟨rfl, rfl, rfl, trivial⟩ ?_
  refine lc_aload_n E.1 (pc := 0) dL_earliestOf_0 rfl ?_
  refine lc_iconst E.1 (pc := 1) dL_earliestOf_1 kc_0 ?_
  refine lc_aload_n E.1 (pc := 2) dL_earliestOf_2 rfl ?_
  refine lc_iload_n E.1 (pc := 3) dL_earliestOf_3 rfl ?_
  refine lc_wcall E (pc := 4) [(12, 1)] 9 htab (by decide) [.int a1] [.int 0, .ref q] dL_earliestOf_4 cvL_earliestOf (cxX8_earliestOf hl9 hf) rfl rfl rfl (Nat.le_of_ble_eq_true rfl) ⟨(Nat.le_of_ble_eq_true rfl), (Nat.le_of_ble_eq_true rfl)⟩ ⟨(Nat.le_of_ble_eq_true rfl), (Nat.le_of_ble_eq_true rfl)⟩ (fun k hk => ?_) (fun v hv => ?_)
  · subst hk
    have hk9 := thr_earliestOf _ _ hf
    simp only [List.mem_cons, List.not_mem_nil, or_false] at hk9
    subst hk9
    · refine ⟨[], 12, [], rfl, by decide, by decide, by decide, fun q9 => ?_⟩
      rw [show cdw cd1 (.inr 1) = (1 : Int32) from by decide +kernel]
      exact lc_astore_n E.1 (pc := 12) dL_earliestOf_12 (by decide) rfl rfl (lc_iconst E.1 (pc := 13) dL_earliestOf_13 kc_1 (lc_wret E (pc := 14) hr dL_earliestOf_14 (by decide)))
  · subst hv
    exact lc_i2l E.1 (pc := 7) dL_earliestOf_7 (lc_last E (pc := 8) NX xo_get xo_set dL_earliestOf_8 (lc_goto E.1 (pc := 9) (tgt := 15) dL_earliestOf_9 rfl (lc_iconst E.1 (pc := 15) dL_earliestOf_15 kc_0 (lc_wret E (pc := 16) hr dL_earliestOf_16 (by decide)))))
theorem wL_earliestOf {l : Launch} (hl9 : l.stackTraces = false) {c : Cf} {X M : Mem} (hG : GC c) (hX : XC c X) (hM : MC c M) (a1 : Int32) (D : va_G) (cI cR cL : ClassId) (adX : Nat → Nat) (q : Nat) (o9 : Nat → Int64) : ∃ (c1 : Cf) (X1 M1 : Mem) (w v : Int32) (o1 : Nat → Int64), GC c1 ∧ XC c1 X1 ∧ MC c1 M1 ∧ CW l yL_earliestOf cL_earliestOf 4 [(0, 9, 12, 13)] 9 1 D cI cR cL adX q [.ref (adX 0), .int a1, .ref q] X o9 w X1 o1 ∧ fX9_earliestOf M a1 = some (v, M1) ∧ M1 0 22 = w ∧ (w = 0 → o1 0 = v.toInt64) :=
  agr_w (P := fun w X1 o1 => CW l yL_earliestOf cL_earliestOf 4 [(0, 9, 12, 13)] 9 1 D cI cR cL adX q [.ref (adX 0), .int a1, .ref q] X o9 w X1 o1) (a_earliestOf hG hX hM a1) (fun r X1 h => cwL_earliestOf hl9 h)
theorem dL_bundleOf_0 : decode cL_bundleOf 0 = .ok (.aload_n 2, 1) := by decide +kernel
theorem dL_bundleOf_1 : decode cL_bundleOf 1 = .ok (.iconst 0, 1) := by decide +kernel
theorem dL_bundleOf_2 : decode cL_bundleOf 2 = .ok (.aload_n 0, 1) := by decide +kernel
theorem dL_bundleOf_3 : decode cL_bundleOf 3 = .ok (.iload_n 1, 1) := by decide +kernel
theorem dL_bundleOf_4 : decode cL_bundleOf 4 = .ok (.invokevirtual 85, 3) := by decide +kernel
theorem dL_bundleOf_7 : decode cL_bundleOf 7 = .ok (.i2l, 1) := by decide +kernel
theorem dL_bundleOf_8 : decode cL_bundleOf 8 = .ok (.lastore, 1) := by decide +kernel
theorem dL_bundleOf_9 : decode cL_bundleOf 9 = .ok (.goto 6, 3) := by decide +kernel
theorem dL_bundleOf_12 : decode cL_bundleOf 12 = .ok (.astore_n 3, 1) := by decide +kernel
theorem dL_bundleOf_13 : decode cL_bundleOf 13 = .ok (.iconst 1, 1) := by decide +kernel
theorem dL_bundleOf_14 : decode cL_bundleOf 14 = .ok (.ireturn, 1) := by decide +kernel
theorem dL_bundleOf_15 : decode cL_bundleOf 15 = .ok (.iconst 0, 1) := by decide +kernel
theorem dL_bundleOf_16 : decode cL_bundleOf 16 = .ok (.ireturn, 1) := by decide +kernel
theorem cvL_bundleOf : MLV RL 85 yX8_bundleOf cX8_bundleOf 2 (some .int) 1 := ⟨(zw 1080 (by decide +kernel) (by decide +kernel)), (zw 1081 (by decide +kernel) (by decide +kernel)), (zw 1082 (by decide +kernel) (by decide +kernel)), (zw 1 (by decide +kernel) (by decide +kernel)), (zw 1083 (by decide +kernel) (by decide +kernel)), ⟨by decide +kernel, by decide +kernel, by decide +kernel⟩, by decide⟩
theorem thr_bundleOf {X : Mem} {a1 : Int32} : Thr [1] (fX8_bundleOf X a1) := by
  unfold fX8_bundleOf
  repeat' (first | exact tr_inl | exact tr_none | exact tr_inr (by decide) | refine tr_if ?_ ?_ | refine tr_bx ?_ (fun _ _ => ?_) | refine tr_bd (fun _ _ => ?_) | refine tr_bind (fun _ => ?_) | unfold fX8_checkStep | unfold fX8_checkStep_L15)
theorem cwL_bundleOf {l : Launch} {D : va_G} {cI cR cL : ClassId} {adX : Nat → Nat} {q : Nat} {X : Mem} {o : Nat → Int64} {a1 : Int32} (hl9 : l.stackTraces = false) {r : Int32 ⊕ Nat} {X1 : Mem} (hf : fX8_bundleOf X a1 = some (r, X1)) : CW l yL_bundleOf cL_bundleOf 4 [(0, 9, 12, 13)] 9 1 D cI cR cL adX q [.ref (adX 0), .int a1, .ref q] X o (cdw cd1 r) X1 (ow o r) := by
  refine cw_of (own := RL) (by decide +kernel) rfl (Nat.le_of_ble_eq_true rfl) (fun p e s m below meth c A0 E htab hr => ?_)
  refine lc_lo (lo' := [some (.ref (adX 0)), some (.int a1), some (.ref q), none]) ⟨rfl, rfl, rfl, trivial⟩ ?_
  refine lc_aload_n E.1 (pc := 0) dL_bundleOf_0 rfl ?_
  refine lc_iconst E.1 (pc := 1) dL_bundleOf_1 kc_0 ?_
  refine lc_aload_n E.1 (pc := 2) dL_bundleOf_2 rfl ?_
  refine lc_iload_n E.1 (pc := 3) dL_bundleOf_3 rfl ?_
  refine lc_wcall E (pc := 4) [(12, 1)] 9 htab (by decide) [.int a1] [.int 0, .ref q] dL_bundleOf_4 cvL_bundleOf (cxX8_bundleOf hl9 hf) rfl rfl rfl (Nat.le_of_ble_eq_true rfl) ⟨(Nat.le_of_ble_eq_true rfl), (Nat.le_of_ble_eq_true rfl)⟩ ⟨(Nat.le_of_ble_eq_true rfl), (Nat.le_of_ble_eq_true rfl)⟩ (fun k hk => ?_) (fun v hv => ?_)
  · subst hk
    have hk9 := thr_bundleOf _ _ hf
    simp only [List.mem_cons, List.not_mem_nil, or_false] at hk9
    subst hk9
    · refine ⟨[], 12, [], rfl, by decide, by decide, by decide, fun q9 => ?_⟩
      rw [show cdw cd1 (.inr 1) = (1 : Int32) from by decide +kernel]
      exact lc_astore_n E.1 (pc := 12) dL_bundleOf_12 (by decide) rfl rfl (lc_iconst E.1 (pc := 13) dL_bundleOf_13 kc_1 (lc_wret E (pc := 14) hr dL_bundleOf_14 (by decide)))
  · subst hv
    exact lc_i2l E.1 (pc := 7) dL_bundleOf_7 (lc_last E (pc := 8) NX xo_get xo_set dL_bundleOf_8 (lc_goto E.1 (pc := 9) (tgt := 15) dL_bundleOf_9 rfl (lc_iconst E.1 (pc := 15) dL_bundleOf_15 kc_0 (lc_wret E (pc := 16) hr dL_bundleOf_16 (by decide)))))
theorem wL_bundleOf {l : Launch} (hl9 : l.stackTraces = false) {c : Cf} {X M : Mem} (hG : GC c) (hX : XC c X) (hM : MC c M) (a1 : Int32) (D : va_G) (cI cR cL : ClassId) (adX : Nat → Nat) (q : Nat) (o9 : Nat → Int64) : ∃ (c1 : Cf) (X1 M1 : Mem) (w v : Int32) (o1 : Nat → Int64), GC c1 ∧ XC c1 X1 ∧ MC c1 M1 ∧ CW l yL_bundleOf cL_bundleOf 4 [(0, 9, 12, 13)] 9 1 D cI cR cL adX q [.ref (adX 0), .int a1, .ref q] X o9 w X1 o1 ∧ fX9_bundleOf M a1 = some (v, M1) ∧ M1 0 22 = w ∧ (w = 0 → o1 0 = v.toInt64) :=
  agr_w (P := fun w X1 o1 => CW l yL_bundleOf cL_bundleOf 4 [(0, 9, 12, 13)] 9 1 D cI cR cL adX q [.ref (adX 0), .int a1, .ref q] X o9 w X1 o1) (a_bundleOf hG hX hM a1) (fun r X1 h => cwL_bundleOf hl9 h)
theorem dL_stepsIn_0 : decode cL_stepsIn 0 = .ok (.aload_n 2, 1) := by decide +kernel
theorem dL_stepsIn_1 : decode cL_stepsIn 1 = .ok (.iconst 0, 1) := by decide +kernel
theorem dL_stepsIn_2 : decode cL_stepsIn 2 = .ok (.aload_n 0, 1) := by decide +kernel
theorem dL_stepsIn_3 : decode cL_stepsIn 3 = .ok (.iload_n 1, 1) := by decide +kernel
theorem dL_stepsIn_4 : decode cL_stepsIn 4 = .ok (.invokevirtual 88, 3) := by decide +kernel
theorem dL_stepsIn_7 : decode cL_stepsIn 7 = .ok (.i2l, 1) := by decide +kernel
theorem dL_stepsIn_8 : decode cL_stepsIn 8 = .ok (.lastore, 1) := by decide +kernel
theorem dL_stepsIn_9 : decode cL_stepsIn 9 = .ok (.goto 6, 3) := by decide +kernel
theorem dL_stepsIn_12 : decode cL_stepsIn 12 = .ok (.astore_n 3, 1) := by decide +kernel
theorem dL_stepsIn_13 : decode cL_stepsIn 13 = .ok (.iconst 1, 1) := by decide +kernel
theorem dL_stepsIn_14 : decode cL_stepsIn 14 = .ok (.ireturn, 1) := by decide +kernel
theorem dL_stepsIn_15 : decode cL_stepsIn 15 = .ok (.iconst 0, 1) := by decide +kernel
theorem dL_stepsIn_16 : decode cL_stepsIn 16 = .ok (.ireturn, 1) := by decide +kernel
theorem cvL_stepsIn : MLV RL 88 yX8_stepsIn cX8_stepsIn 2 (some .int) 1 := ⟨(zw 1087 (by decide +kernel) (by decide +kernel)), (zw 1088 (by decide +kernel) (by decide +kernel)), (zw 1089 (by decide +kernel) (by decide +kernel)), (zw 1 (by decide +kernel) (by decide +kernel)), (zw 1090 (by decide +kernel) (by decide +kernel)), ⟨by decide +kernel, by decide +kernel, by decide +kernel⟩, by decide⟩
theorem thr_stepsIn {X : Mem} {a1 : Int32} : Thr [2] (fX8_stepsIn X a1) := by
  unfold fX8_stepsIn
  repeat' (first | exact tr_inl | exact tr_none | exact tr_inr (by decide) | refine tr_if ?_ ?_ | refine tr_bx ?_ (fun _ _ => ?_) | refine tr_bd (fun _ _ => ?_) | refine tr_bind (fun _ => ?_) | unfold fX8_checkBundle | unfold fX8_checkBundle_L11)
theorem cwL_stepsIn {l : Launch} {D : va_G} {cI cR cL : ClassId} {adX : Nat → Nat} {q : Nat} {X : Mem} {o : Nat → Int64} {a1 : Int32} (hl9 : l.stackTraces = false) {r : Int32 ⊕ Nat} {X1 : Mem} (hf : fX8_stepsIn X a1 = some (r, X1)) : CW l yL_stepsIn cL_stepsIn 4 [(0, 9, 12, 15)] 9 1 D cI cR cL adX q [.ref (adX 0), .int a1, .ref q] X o (cdw cd1 r) X1 (ow o r) := by
  refine cw_of (own := RL) (by decide +kernel) rfl (Nat.le_of_ble_eq_true rfl) (fun p e s m below meth c A0 E htab hr => ?_)
  refine lc_lo (lo' := [some (.ref (adX 0)), some (.int a1), some (.ref q), none]) ⟨rfl, rfl, rfl, trivial⟩ ?_
  refine lc_aload_n E.1 (pc := 0) dL_stepsIn_0 rfl ?_
  refine lc_iconst E.1 (pc := 1) dL_stepsIn_1 kc_0 ?_
  refine lc_aload_n E.1 (pc := 2) dL_stepsIn_2 rfl ?_
  refine lc_iload_n E.1 (pc := 3) dL_stepsIn_3 rfl ?_
  refine lc_wcall E (pc := 4) [(12, 2)] 9 htab (by decide) [.int a1] [.int 0, .ref q] dL_stepsIn_4 cvL_stepsIn (cxX8_stepsIn hl9 hf) rfl rfl rfl (Nat.le_of_ble_eq_true rfl) ⟨(Nat.le_of_ble_eq_true rfl), (Nat.le_of_ble_eq_true rfl)⟩ ⟨(Nat.le_of_ble_eq_true rfl), (Nat.le_of_ble_eq_true rfl)⟩ (fun k hk => ?_) (fun v hv => ?_)
  · subst hk
    have hk9 := thr_stepsIn _ _ hf
    simp only [List.mem_cons, List.not_mem_nil, or_false] at hk9
    subst hk9
    · refine ⟨[], 12, [], rfl, by decide, by decide, by decide, fun q9 => ?_⟩
      rw [show cdw cd1 (.inr 2) = (1 : Int32) from by decide +kernel]
      exact lc_astore_n E.1 (pc := 12) dL_stepsIn_12 (by decide) rfl rfl (lc_iconst E.1 (pc := 13) dL_stepsIn_13 kc_1 (lc_wret E (pc := 14) hr dL_stepsIn_14 (by decide)))
  · subst hv
    exact lc_i2l E.1 (pc := 7) dL_stepsIn_7 (lc_last E (pc := 8) NX xo_get xo_set dL_stepsIn_8 (lc_goto E.1 (pc := 9) (tgt := 15) dL_stepsIn_9 rfl (lc_iconst E.1 (pc := 15) dL_stepsIn_15 kc_0 (lc_wret E (pc := 16) hr dL_stepsIn_16 (by decide)))))
theorem wL_stepsIn {l : Launch} (hl9 : l.stackTraces = false) {c : Cf} {X M : Mem} (hG : GC c) (hX : XC c X) (hM : MC c M) (a1 : Int32) (D : va_G) (cI cR cL : ClassId) (adX : Nat → Nat) (q : Nat) (o9 : Nat → Int64) : ∃ (c1 : Cf) (X1 M1 : Mem) (w v : Int32) (o1 : Nat → Int64), GC c1 ∧ XC c1 X1 ∧ MC c1 M1 ∧ CW l yL_stepsIn cL_stepsIn 4 [(0, 9, 12, 15)] 9 1 D cI cR cL adX q [.ref (adX 0), .int a1, .ref q] X o9 w X1 o1 ∧ fX9_stepsIn M a1 = some (v, M1) ∧ M1 0 22 = w ∧ (w = 0 → o1 0 = v.toInt64) :=
  agr_w (P := fun w X1 o1 => CW l yL_stepsIn cL_stepsIn 4 [(0, 9, 12, 15)] 9 1 D cI cR cL adX q [.ref (adX 0), .int a1, .ref q] X o9 w X1 o1) (a_stepsIn hG hX hM a1) (fun r X1 h => cwL_stepsIn hl9 h)
theorem dL_registerInOrder_0 : decode cL_registerInOrder 0 = .ok (.aload_n 2, 1) := by decide +kernel
theorem dL_registerInOrder_1 : decode cL_registerInOrder 1 = .ok (.iconst 0, 1) := by decide +kernel
theorem dL_registerInOrder_2 : decode cL_registerInOrder 2 = .ok (.aload_n 0, 1) := by decide +kernel
theorem dL_registerInOrder_3 : decode cL_registerInOrder 3 = .ok (.iload_n 1, 1) := by decide +kernel
theorem dL_registerInOrder_4 : decode cL_registerInOrder 4 = .ok (.invokevirtual 91, 3) := by decide +kernel
theorem dL_registerInOrder_7 : decode cL_registerInOrder 7 = .ok (.i2l, 1) := by decide +kernel
theorem dL_registerInOrder_8 : decode cL_registerInOrder 8 = .ok (.lastore, 1) := by decide +kernel
theorem dL_registerInOrder_9 : decode cL_registerInOrder 9 = .ok (.goto 6, 3) := by decide +kernel
theorem dL_registerInOrder_12 : decode cL_registerInOrder 12 = .ok (.astore_n 3, 1) := by decide +kernel
theorem dL_registerInOrder_13 : decode cL_registerInOrder 13 = .ok (.iconst 1, 1) := by decide +kernel
theorem dL_registerInOrder_14 : decode cL_registerInOrder 14 = .ok (.ireturn, 1) := by decide +kernel
theorem dL_registerInOrder_15 : decode cL_registerInOrder 15 = .ok (.iconst 0, 1) := by decide +kernel
theorem dL_registerInOrder_16 : decode cL_registerInOrder 16 = .ok (.ireturn, 1) := by decide +kernel
theorem cvL_registerInOrder : MLV RL 91 yX8_registerInOrder cX8_registerInOrder 2 (some .int) 1 := ⟨(zw 1094 (by decide +kernel) (by decide +kernel)), (zw 1095 (by decide +kernel) (by decide +kernel)), (zw 1096 (by decide +kernel) (by decide +kernel)), (zw 1 (by decide +kernel) (by decide +kernel)), (zw 1097 (by decide +kernel) (by decide +kernel)), ⟨by decide +kernel, by decide +kernel, by decide +kernel⟩, by decide⟩
theorem thr_registerInOrder {X : Mem} {a1 : Int32} : Thr [1] (fX8_registerInOrder X a1) := by
  unfold fX8_registerInOrder
  repeat' (first | exact tr_inl | exact tr_none | exact tr_inr (by decide) | refine tr_if ?_ ?_ | refine tr_bx ?_ (fun _ _ => ?_) | refine tr_bd (fun _ _ => ?_) | refine tr_bind (fun _ => ?_) | unfold fX8_checkRegister)
theorem cwL_registerInOrder {l : Launch} {D : va_G} {cI cR cL : ClassId} {adX : Nat → Nat} {q : Nat} {X : Mem} {o : Nat → Int64} {a1 : Int32} (hl9 : l.stackTraces = false) {r : Int32 ⊕ Nat} {X1 : Mem} (hf : fX8_registerInOrder X a1 = some (r, X1)) : CW l yL_registerInOrder cL_registerInOrder 4 [(0, 9, 12, 13)] 9 1 D cI cR cL adX q [.ref (adX 0), .int a1, .ref q] X o (cdw cd1 r) X1 (ow o r) := by
  refine cw_of (own := RL) (by decide +kernel) rfl (Nat.le_of_ble_eq_true rfl) (fun p e s m below meth c A0 E htab hr => ?_)
  refine lc_lo (lo' := [some (.ref (adX 0)), some (.int a1), some (.ref q), none]) ⟨rfl, rfl, rfl, trivial⟩ ?_
  refine lc_aload_n E.1 (pc := 0) dL_registerInOrder_0 rfl ?_
  refine lc_iconst E.1 (pc := 1) dL_registerInOrder_1 kc_0 ?_
  refine lc_aload_n E.1 (pc := 2) dL_registerInOrder_2 rfl ?_
  refine lc_iload_n E.1 (pc := 3) dL_registerInOrder_3 rfl ?_
  refine lc_wcall E (pc := 4) [(12, 1)] 9 htab (by decide) [.int a1] [.int 0, .ref q] dL_registerInOrder_4 cvL_registerInOrder (cxX8_registerInOrder hl9 hf) rfl rfl rfl (Nat.le_of_ble_eq_true rfl) ⟨(Nat.le_of_ble_eq_true rfl), (Nat.le_of_ble_eq_true rfl)⟩ ⟨(Nat.le_of_ble_eq_true rfl), (Nat.le_of_ble_eq_true rfl)⟩ (fun k hk => ?_) (fun v hv => ?_)
  · subst hk
    have hk9 := thr_registerInOrder _ _ hf
    simp only [List.mem_cons, List.not_mem_nil, or_false] at hk9
    subst hk9
    · refine ⟨[], 12, [], rfl, by decide, by decide, by decide, fun q9 => ?_⟩
      rw [show cdw cd1 (.inr 1) = (1 : Int32) from by decide +kernel]
      exact lc_astore_n E.1 (pc := 12) dL_registerInOrder_12 (by decide) rfl rfl (lc_iconst E.1 (pc := 13) dL_registerInOrder_13 kc_1 (lc_wret E (pc := 14) hr dL_registerInOrder_14 (by decide)))
  · subst hv
    exact lc_i2l E.1 (pc := 7) dL_registerInOrder_7 (lc_last E (pc := 8) NX xo_get xo_set dL_registerInOrder_8 (lc_goto E.1 (pc := 9) (tgt := 15) dL_registerInOrder_9 rfl (lc_iconst E.1 (pc := 15) dL_registerInOrder_15 kc_0 (lc_wret E (pc := 16) hr dL_registerInOrder_16 (by decide)))))
theorem wL_registerInOrder {l : Launch} (hl9 : l.stackTraces = false) {c : Cf} {X M : Mem} (hG : GC c) (hX : XC c X) (hM : MC c M) (a1 : Int32) (D : va_G) (cI cR cL : ClassId) (adX : Nat → Nat) (q : Nat) (o9 : Nat → Int64) : ∃ (c1 : Cf) (X1 M1 : Mem) (w v : Int32) (o1 : Nat → Int64), GC c1 ∧ XC c1 X1 ∧ MC c1 M1 ∧ CW l yL_registerInOrder cL_registerInOrder 4 [(0, 9, 12, 13)] 9 1 D cI cR cL adX q [.ref (adX 0), .int a1, .ref q] X o9 w X1 o1 ∧ fX9_registerInOrder M a1 = some (v, M1) ∧ M1 0 22 = w ∧ (w = 0 → o1 0 = v.toInt64) :=
  agr_w (P := fun w X1 o1 => CW l yL_registerInOrder cL_registerInOrder 4 [(0, 9, 12, 13)] 9 1 D cI cR cL adX q [.ref (adX 0), .int a1, .ref q] X o9 w X1 o1) (a_registerInOrder hG hX hM a1) (fun r X1 h => cwL_registerInOrder hl9 h)
theorem dL_registerInBundles_0 : decode cL_registerInBundles 0 = .ok (.aload_n 2, 1) := by decide +kernel
theorem dL_registerInBundles_1 : decode cL_registerInBundles 1 = .ok (.iconst 0, 1) := by decide +kernel
theorem dL_registerInBundles_2 : decode cL_registerInBundles 2 = .ok (.aload_n 0, 1) := by decide +kernel
theorem dL_registerInBundles_3 : decode cL_registerInBundles 3 = .ok (.iload_n 1, 1) := by decide +kernel
theorem dL_registerInBundles_4 : decode cL_registerInBundles 4 = .ok (.invokevirtual 94, 3) := by decide +kernel
theorem dL_registerInBundles_7 : decode cL_registerInBundles 7 = .ok (.i2l, 1) := by decide +kernel
theorem dL_registerInBundles_8 : decode cL_registerInBundles 8 = .ok (.lastore, 1) := by decide +kernel
theorem dL_registerInBundles_9 : decode cL_registerInBundles 9 = .ok (.goto 6, 3) := by decide +kernel
theorem dL_registerInBundles_12 : decode cL_registerInBundles 12 = .ok (.astore_n 3, 1) := by decide +kernel
theorem dL_registerInBundles_13 : decode cL_registerInBundles 13 = .ok (.iconst 1, 1) := by decide +kernel
theorem dL_registerInBundles_14 : decode cL_registerInBundles 14 = .ok (.ireturn, 1) := by decide +kernel
theorem dL_registerInBundles_15 : decode cL_registerInBundles 15 = .ok (.iconst 0, 1) := by decide +kernel
theorem dL_registerInBundles_16 : decode cL_registerInBundles 16 = .ok (.ireturn, 1) := by decide +kernel
theorem cvL_registerInBundles : MLV RL 94 yX8_registerInBundles cX8_registerInBundles 2 (some .int) 1 := ⟨(zw 1101 (by decide +kernel) (by decide +kernel)), (zw 1102 (by decide +kernel) (by decide +kernel)), (zw 1103 (by decide +kernel) (by decide +kernel)), (zw 1 (by decide +kernel) (by decide +kernel)), (zw 1104 (by decide +kernel) (by decide +kernel)), ⟨by decide +kernel, by decide +kernel, by decide +kernel⟩, by decide⟩
theorem thr_registerInBundles {X : Mem} {a1 : Int32} : Thr [1] (fX8_registerInBundles X a1) := by
  unfold fX8_registerInBundles
  repeat' (first | exact tr_inl | exact tr_none | exact tr_inr (by decide) | refine tr_if ?_ ?_ | refine tr_bx ?_ (fun _ _ => ?_) | refine tr_bd (fun _ _ => ?_) | refine tr_bind (fun _ => ?_) | unfold fX8_checkRegister)
theorem cwL_registerInBundles {l : Launch} {D : va_G} {cI cR cL : ClassId} {adX : Nat → Nat} {q : Nat} {X : Mem} {o : Nat → Int64} {a1 : Int32} (hl9 : l.stackTraces = false) {r : Int32 ⊕ Nat} {X1 : Mem} (hf : fX8_registerInBundles X a1 = some (r, X1)) : CW l yL_registerInBundles cL_registerInBundles 4 [(0, 9, 12, 13)] 9 1 D cI cR cL adX q [.ref (adX 0), .int a1, .ref q] X o (cdw cd1 r) X1 (ow o r) := by
  refine cw_of (own := RL) (by decide +kernel) rfl (Nat.le_of_ble_eq_true rfl) (fun p e s m below meth c A0 E htab hr => ?_)
  refine lc_lo (lo' := [some (.ref (adX 0)), some (.int a1), some (.ref q), none]) ⟨rfl, rfl, rfl, trivial⟩ ?_
  refine lc_aload_n E.1 (pc := 0) dL_registerInBundles_0 rfl ?_
  refine lc_iconst E.1 (pc := 1) dL_registerInBundles_1 kc_0 ?_
  refine lc_aload_n E.1 (pc := 2) dL_registerInBundles_2 rfl ?_
  refine lc_iload_n E.1 (pc := 3) dL_registerInBundles_3 rfl ?_
  refine lc_wcall E (pc := 4) [(12, 1)] 9 htab (by decide) [.int a1] [.int 0, .ref q] dL_registerInBundles_4 cvL_registerInBundles (cxX8_registerInBundles hl9 hf) rfl rfl rfl (Nat.le_of_ble_eq_true rfl) ⟨(Nat.le_of_ble_eq_true rfl), (Nat.le_of_ble_eq_true rfl)⟩ ⟨(Nat.le_of_ble_eq_true rfl), (Nat.le_of_ble_eq_true rfl)⟩ (fun k hk => ?_) (fun v hv => ?_)
  · subst hk
    have hk9 := thr_registerInBundles _ _ hf
    simp only [List.mem_cons, List.not_mem_nil, or_false] at hk9
    subst hk9
    · refine ⟨[], 12, [], rfl, by decide, by decide, by decide, fun q9 => ?_⟩
      rw [show cdw cd1 (.inr 1) = (1 : Int32) from by decide +kernel]
      exact lc_astore_n E.1 (pc := 12) dL_registerInBundles_12 (by decide) rfl rfl (lc_iconst E.1 (pc := 13) dL_registerInBundles_13 kc_1 (lc_wret E (pc := 14) hr dL_registerInBundles_14 (by decide)))
  · subst hv
    exact lc_i2l E.1 (pc := 7) dL_registerInBundles_7 (lc_last E (pc := 8) NX xo_get xo_set dL_registerInBundles_8 (lc_goto E.1 (pc := 9) (tgt := 15) dL_registerInBundles_9 rfl (lc_iconst E.1 (pc := 15) dL_registerInBundles_15 kc_0 (lc_wret E (pc := 16) hr dL_registerInBundles_16 (by decide)))))
theorem wL_registerInBundles {l : Launch} (hl9 : l.stackTraces = false) {c : Cf} {X M : Mem} (hG : GC c) (hX : XC c X) (hM : MC c M) (a1 : Int32) (D : va_G) (cI cR cL : ClassId) (adX : Nat → Nat) (q : Nat) (o9 : Nat → Int64) : ∃ (c1 : Cf) (X1 M1 : Mem) (w v : Int32) (o1 : Nat → Int64), GC c1 ∧ XC c1 X1 ∧ MC c1 M1 ∧ CW l yL_registerInBundles cL_registerInBundles 4 [(0, 9, 12, 13)] 9 1 D cI cR cL adX q [.ref (adX 0), .int a1, .ref q] X o9 w X1 o1 ∧ fX9_registerInBundles M a1 = some (v, M1) ∧ M1 0 22 = w ∧ (w = 0 → o1 0 = v.toInt64) :=
  agr_w (P := fun w X1 o1 => CW l yL_registerInBundles cL_registerInBundles 4 [(0, 9, 12, 13)] 9 1 D cI cR cL adX q [.ref (adX 0), .int a1, .ref q] X o9 w X1 o1) (a_registerInBundles hG hX hM a1) (fun r X1 h => cwL_registerInBundles hl9 h)
theorem dL_cellInOrder_0 : decode cL_cellInOrder 0 = .ok (.aload_n 2, 1) := by decide +kernel
theorem dL_cellInOrder_1 : decode cL_cellInOrder 1 = .ok (.iconst 0, 1) := by decide +kernel
theorem dL_cellInOrder_2 : decode cL_cellInOrder 2 = .ok (.aload_n 0, 1) := by decide +kernel
theorem dL_cellInOrder_3 : decode cL_cellInOrder 3 = .ok (.iload_n 1, 1) := by decide +kernel
theorem dL_cellInOrder_4 : decode cL_cellInOrder 4 = .ok (.invokevirtual 97, 3) := by decide +kernel
theorem dL_cellInOrder_7 : decode cL_cellInOrder 7 = .ok (.i2l, 1) := by decide +kernel
theorem dL_cellInOrder_8 : decode cL_cellInOrder 8 = .ok (.lastore, 1) := by decide +kernel
theorem dL_cellInOrder_9 : decode cL_cellInOrder 9 = .ok (.goto 6, 3) := by decide +kernel
theorem dL_cellInOrder_12 : decode cL_cellInOrder 12 = .ok (.astore_n 3, 1) := by decide +kernel
theorem dL_cellInOrder_13 : decode cL_cellInOrder 13 = .ok (.iconst 1, 1) := by decide +kernel
theorem dL_cellInOrder_14 : decode cL_cellInOrder 14 = .ok (.ireturn, 1) := by decide +kernel
theorem dL_cellInOrder_15 : decode cL_cellInOrder 15 = .ok (.iconst 0, 1) := by decide +kernel
theorem dL_cellInOrder_16 : decode cL_cellInOrder 16 = .ok (.ireturn, 1) := by decide +kernel
theorem cvL_cellInOrder : MLV RL 97 yX8_cellInOrder cX8_cellInOrder 2 (some .int) 1 := ⟨(zw 1108 (by decide +kernel) (by decide +kernel)), (zw 1109 (by decide +kernel) (by decide +kernel)), (zw 1110 (by decide +kernel) (by decide +kernel)), (zw 1 (by decide +kernel) (by decide +kernel)), (zw 1111 (by decide +kernel) (by decide +kernel)), ⟨by decide +kernel, by decide +kernel, by decide +kernel⟩, by decide⟩
theorem thr_cellInOrder {X : Mem} {a1 : Int32} : Thr [1] (fX8_cellInOrder X a1) := by
  unfold fX8_cellInOrder
  repeat' (first | exact tr_inl | exact tr_none | exact tr_inr (by decide) | refine tr_if ?_ ?_ | refine tr_bx ?_ (fun _ _ => ?_) | refine tr_bd (fun _ _ => ?_) | refine tr_bind (fun _ => ?_) | unfold fX8_checkCell | unfold fX8_checkCell_L10)
theorem cwL_cellInOrder {l : Launch} {D : va_G} {cI cR cL : ClassId} {adX : Nat → Nat} {q : Nat} {X : Mem} {o : Nat → Int64} {a1 : Int32} (hl9 : l.stackTraces = false) {r : Int32 ⊕ Nat} {X1 : Mem} (hf : fX8_cellInOrder X a1 = some (r, X1)) : CW l yL_cellInOrder cL_cellInOrder 4 [(0, 9, 12, 13)] 9 1 D cI cR cL adX q [.ref (adX 0), .int a1, .ref q] X o (cdw cd1 r) X1 (ow o r) := by
  refine cw_of (own := RL) (by decide +kernel) rfl (Nat.le_of_ble_eq_true rfl) (fun p e s m below meth c A0 E htab hr => ?_)
  refine lc_lo (lo' := [some (.ref (adX 0)), some (.int a1), some (.ref q), none]) ⟨rfl, rfl, rfl, trivial⟩ ?_
  refine lc_aload_n E.1 (pc := 0) dL_cellInOrder_0 rfl ?_
  refine lc_iconst E.1 (pc := 1) dL_cellInOrder_1 kc_0 ?_
  refine lc_aload_n E.1 (pc := 2) dL_cellInOrder_2 rfl ?_
  refine lc_iload_n E.1 (pc := 3) dL_cellInOrder_3 rfl ?_
  refine lc_wcall E (pc := 4) [(12, 1)] 9 htab (by decide) [.int a1] [.int 0, .ref q] dL_cellInOrder_4 cvL_cellInOrder (cxX8_cellInOrder hl9 hf) rfl rfl rfl (Nat.le_of_ble_eq_true rfl) ⟨(Nat.le_of_ble_eq_true rfl), (Nat.le_of_ble_eq_true rfl)⟩ ⟨(Nat.le_of_ble_eq_true rfl), (Nat.le_of_ble_eq_true rfl)⟩ (fun k hk => ?_) (fun v hv => ?_)
  · subst hk
    have hk9 := thr_cellInOrder _ _ hf
    simp only [List.mem_cons, List.not_mem_nil, or_false] at hk9
    subst hk9
    · refine ⟨[], 12, [], rfl, by decide, by decide, by decide, fun q9 => ?_⟩
      rw [show cdw cd1 (.inr 1) = (1 : Int32) from by decide +kernel]
      exact lc_astore_n E.1 (pc := 12) dL_cellInOrder_12 (by decide) rfl rfl (lc_iconst E.1 (pc := 13) dL_cellInOrder_13 kc_1 (lc_wret E (pc := 14) hr dL_cellInOrder_14 (by decide)))
  · subst hv
    exact lc_i2l E.1 (pc := 7) dL_cellInOrder_7 (lc_last E (pc := 8) NX xo_get xo_set dL_cellInOrder_8 (lc_goto E.1 (pc := 9) (tgt := 15) dL_cellInOrder_9 rfl (lc_iconst E.1 (pc := 15) dL_cellInOrder_15 kc_0 (lc_wret E (pc := 16) hr dL_cellInOrder_16 (by decide)))))
theorem wL_cellInOrder {l : Launch} (hl9 : l.stackTraces = false) {c : Cf} {X M : Mem} (hG : GC c) (hX : XC c X) (hM : MC c M) (a1 : Int32) (D : va_G) (cI cR cL : ClassId) (adX : Nat → Nat) (q : Nat) (o9 : Nat → Int64) : ∃ (c1 : Cf) (X1 M1 : Mem) (w v : Int32) (o1 : Nat → Int64), GC c1 ∧ XC c1 X1 ∧ MC c1 M1 ∧ CW l yL_cellInOrder cL_cellInOrder 4 [(0, 9, 12, 13)] 9 1 D cI cR cL adX q [.ref (adX 0), .int a1, .ref q] X o9 w X1 o1 ∧ fX9_cellInOrder M a1 = some (v, M1) ∧ M1 0 22 = w ∧ (w = 0 → o1 0 = v.toInt64) :=
  agr_w (P := fun w X1 o1 => CW l yL_cellInOrder cL_cellInOrder 4 [(0, 9, 12, 13)] 9 1 D cI cR cL adX q [.ref (adX 0), .int a1, .ref q] X o9 w X1 o1) (a_cellInOrder hG hX hM a1) (fun r X1 h => cwL_cellInOrder hl9 h)
theorem dL_cellInBundles_0 : decode cL_cellInBundles 0 = .ok (.aload_n 2, 1) := by decide +kernel
theorem dL_cellInBundles_1 : decode cL_cellInBundles 1 = .ok (.iconst 0, 1) := by decide +kernel
theorem dL_cellInBundles_2 : decode cL_cellInBundles 2 = .ok (.aload_n 0, 1) := by decide +kernel
theorem dL_cellInBundles_3 : decode cL_cellInBundles 3 = .ok (.iload_n 1, 1) := by decide +kernel
theorem dL_cellInBundles_4 : decode cL_cellInBundles 4 = .ok (.invokevirtual 100, 3) := by decide +kernel
theorem dL_cellInBundles_7 : decode cL_cellInBundles 7 = .ok (.i2l, 1) := by decide +kernel
theorem dL_cellInBundles_8 : decode cL_cellInBundles 8 = .ok (.lastore, 1) := by decide +kernel
theorem dL_cellInBundles_9 : decode cL_cellInBundles 9 = .ok (.goto 6, 3) := by decide +kernel
theorem dL_cellInBundles_12 : decode cL_cellInBundles 12 = .ok (.astore_n 3, 1) := by decide +kernel
theorem dL_cellInBundles_13 : decode cL_cellInBundles 13 = .ok (.iconst 1, 1) := by decide +kernel
theorem dL_cellInBundles_14 : decode cL_cellInBundles 14 = .ok (.ireturn, 1) := by decide +kernel
theorem dL_cellInBundles_15 : decode cL_cellInBundles 15 = .ok (.iconst 0, 1) := by decide +kernel
theorem dL_cellInBundles_16 : decode cL_cellInBundles 16 = .ok (.ireturn, 1) := by decide +kernel
theorem cvL_cellInBundles : MLV RL 100 yX8_cellInBundles cX8_cellInBundles 2 (some .int) 1 := ⟨(zw 1115 (by decide +kernel) (by decide +kernel)), (zw 1116 (by decide +kernel) (by decide +kernel)), (zw 1117 (by decide +kernel) (by decide +kernel)), (zw 1 (by decide +kernel) (by decide +kernel)), (zw 1118 (by decide +kernel) (by decide +kernel)), ⟨by decide +kernel, by decide +kernel, by decide +kernel⟩, by decide⟩
theorem thr_cellInBundles {X : Mem} {a1 : Int32} : Thr [1] (fX8_cellInBundles X a1) := by
  unfold fX8_cellInBundles
  repeat' (first | exact tr_inl | exact tr_none | exact tr_inr (by decide) | refine tr_if ?_ ?_ | refine tr_bx ?_ (fun _ _ => ?_) | refine tr_bd (fun _ _ => ?_) | refine tr_bind (fun _ => ?_) | unfold fX8_checkCell | unfold fX8_checkCell_L10)
theorem cwL_cellInBundles {l : Launch} {D : va_G} {cI cR cL : ClassId} {adX : Nat → Nat} {q : Nat} {X : Mem} {o : Nat → Int64} {a1 : Int32} (hl9 : l.stackTraces = false) {r : Int32 ⊕ Nat} {X1 : Mem} (hf : fX8_cellInBundles X a1 = some (r, X1)) : CW l yL_cellInBundles cL_cellInBundles 4 [(0, 9, 12, 13)] 9 1 D cI cR cL adX q [.ref (adX 0), .int a1, .ref q] X o (cdw cd1 r) X1 (ow o r) := by
  refine cw_of (own := RL) (by decide +kernel) rfl (Nat.le_of_ble_eq_true rfl) (fun p e s m below meth c A0 E htab hr => ?_)
  refine lc_lo (lo' := [some (.ref (adX 0)), some (.int a1), some (.ref q), none]) ⟨rfl, rfl, rfl, trivial⟩ ?_
  refine lc_aload_n E.1 (pc := 0) dL_cellInBundles_0 rfl ?_
  refine lc_iconst E.1 (pc := 1) dL_cellInBundles_1 kc_0 ?_
  refine lc_aload_n E.1 (pc := 2) dL_cellInBundles_2 rfl ?_
  refine lc_iload_n E.1 (pc := 3) dL_cellInBundles_3 rfl ?_
  refine lc_wcall E (pc := 4) [(12, 1)] 9 htab (by decide) [.int a1] [.int 0, .ref q] dL_cellInBundles_4 cvL_cellInBundles (cxX8_cellInBundles hl9 hf) rfl rfl rfl (Nat.le_of_ble_eq_true rfl) ⟨(Nat.le_of_ble_eq_true rfl), (Nat.le_of_ble_eq_true rfl)⟩ ⟨(Nat.le_of_ble_eq_true rfl), (Nat.le_of_ble_eq_true rfl)⟩ (fun k hk => ?_) (fun v hv => ?_)
  · subst hk
    have hk9 := thr_cellInBundles _ _ hf
    simp only [List.mem_cons, List.not_mem_nil, or_false] at hk9
    subst hk9
    · refine ⟨[], 12, [], rfl, by decide, by decide, by decide, fun q9 => ?_⟩
      rw [show cdw cd1 (.inr 1) = (1 : Int32) from by decide +kernel]
      exact lc_astore_n E.1 (pc := 12) dL_cellInBundles_12 (by decide) rfl rfl (lc_iconst E.1 (pc := 13) dL_cellInBundles_13 kc_1 (lc_wret E (pc := 14) hr dL_cellInBundles_14 (by decide)))
  · subst hv
    exact lc_i2l E.1 (pc := 7) dL_cellInBundles_7 (lc_last E (pc := 8) NX xo_get xo_set dL_cellInBundles_8 (lc_goto E.1 (pc := 9) (tgt := 15) dL_cellInBundles_9 rfl (lc_iconst E.1 (pc := 15) dL_cellInBundles_15 kc_0 (lc_wret E (pc := 16) hr dL_cellInBundles_16 (by decide)))))
theorem wL_cellInBundles {l : Launch} (hl9 : l.stackTraces = false) {c : Cf} {X M : Mem} (hG : GC c) (hX : XC c X) (hM : MC c M) (a1 : Int32) (D : va_G) (cI cR cL : ClassId) (adX : Nat → Nat) (q : Nat) (o9 : Nat → Int64) : ∃ (c1 : Cf) (X1 M1 : Mem) (w v : Int32) (o1 : Nat → Int64), GC c1 ∧ XC c1 X1 ∧ MC c1 M1 ∧ CW l yL_cellInBundles cL_cellInBundles 4 [(0, 9, 12, 13)] 9 1 D cI cR cL adX q [.ref (adX 0), .int a1, .ref q] X o9 w X1 o1 ∧ fX9_cellInBundles M a1 = some (v, M1) ∧ M1 0 22 = w ∧ (w = 0 → o1 0 = v.toInt64) :=
  agr_w (P := fun w X1 o1 => CW l yL_cellInBundles cL_cellInBundles 4 [(0, 9, 12, 13)] 9 1 D cI cR cL adX q [.ref (adX 0), .int a1, .ref q] X o9 w X1 o1) (a_cellInBundles hG hX hM a1) (fun r X1 h => cwL_cellInBundles hl9 h)
theorem dL_registerAt_0 : decode cL_registerAt 0 = .ok (.aload_n 3, 1) := by decide +kernel
theorem dL_registerAt_1 : decode cL_registerAt 1 = .ok (.iconst 0, 1) := by decide +kernel
theorem dL_registerAt_2 : decode cL_registerAt 2 = .ok (.aload_n 0, 1) := by decide +kernel
theorem dL_registerAt_3 : decode cL_registerAt 3 = .ok (.iload_n 1, 1) := by decide +kernel
theorem dL_registerAt_4 : decode cL_registerAt 4 = .ok (.iload_n 2, 1) := by decide +kernel
theorem dL_registerAt_5 : decode cL_registerAt 5 = .ok (.invokevirtual 103, 3) := by decide +kernel
theorem dL_registerAt_8 : decode cL_registerAt 8 = .ok (.i2l, 1) := by decide +kernel
theorem dL_registerAt_9 : decode cL_registerAt 9 = .ok (.lastore, 1) := by decide +kernel
theorem dL_registerAt_10 : decode cL_registerAt 10 = .ok (.goto 11, 3) := by decide +kernel
theorem dL_registerAt_13 : decode cL_registerAt 13 = .ok (.astore 4, 2) := by decide +kernel
theorem dL_registerAt_15 : decode cL_registerAt 15 = .ok (.iconst 1, 1) := by decide +kernel
theorem dL_registerAt_16 : decode cL_registerAt 16 = .ok (.ireturn, 1) := by decide +kernel
theorem dL_registerAt_17 : decode cL_registerAt 17 = .ok (.astore 4, 2) := by decide +kernel
theorem dL_registerAt_19 : decode cL_registerAt 19 = .ok (.iconst 2, 1) := by decide +kernel
theorem dL_registerAt_20 : decode cL_registerAt 20 = .ok (.ireturn, 1) := by decide +kernel
theorem dL_registerAt_21 : decode cL_registerAt 21 = .ok (.iconst 0, 1) := by decide +kernel
theorem dL_registerAt_22 : decode cL_registerAt 22 = .ok (.ireturn, 1) := by decide +kernel
theorem cvL_registerAt : MLV RL 103 yX8_registerAt cX8_registerAt 3 (some .int) 2 := ⟨(zw 1122 (by decide +kernel) (by decide +kernel)), (zw 1123 (by decide +kernel) (by decide +kernel)), (zw 1124 (by decide +kernel) (by decide +kernel)), (zw 1 (by decide +kernel) (by decide +kernel)), (zw 1125 (by decide +kernel) (by decide +kernel)), ⟨by decide +kernel, by decide +kernel, by decide +kernel⟩, by decide⟩
theorem thr_registerAt {X : Mem} {a1 : Int32} {a2 : Int32} : Thr [1, 2] (fX8_registerAt X a1 a2) := by
  unfold fX8_registerAt
  repeat' (first | exact tr_inl | exact tr_none | exact tr_inr (by decide) | refine tr_if ?_ ?_ | refine tr_bx ?_ (fun _ _ => ?_) | refine tr_bd (fun _ _ => ?_) | refine tr_bind (fun _ => ?_) | unfold fX8_registerAt_L15 | unfold fX8_checkRegister)
theorem cwL_registerAt {l : Launch} {D : va_G} {cI cR cL : ClassId} {adX : Nat → Nat} {q : Nat} {X : Mem} {o : Nat → Int64} {a1 : Int32} {a2 : Int32} (hl9 : l.stackTraces = false) {r : Int32 ⊕ Nat} {X1 : Mem} (hf : fX8_registerAt X a1 a2 = some (r, X1)) : CW l yL_registerAt cL_registerAt 5 [(0, 10, 13, 13), (0, 10, 17, 15)] 9 2 D cI cR cL adX q [.ref (adX 0), .int a1, .int a2, .ref q] X o (cdw cdB r) X1 (ow o r) := by
  refine cw_of (own := RL) (by decide +kernel) rfl (Nat.le_of_ble_eq_true rfl) (fun p e s m below meth c A0 E htab hr => ?_)
  refine lc_lo (lo' := [some (.ref (adX 0)), some (.int a1), some (.int a2), some (.ref q), none]) ⟨rfl, rfl, rfl, rfl, trivial⟩ ?_
  refine lc_aload_n E.1 (pc := 0) dL_registerAt_0 rfl ?_
  refine lc_iconst E.1 (pc := 1) dL_registerAt_1 kc_0 ?_
  refine lc_aload_n E.1 (pc := 2) dL_registerAt_2 rfl ?_
  refine lc_iload_n E.1 (pc := 3) dL_registerAt_3 rfl ?_
  refine lc_iload_n E.1 (pc := 4) dL_registerAt_4 rfl ?_
  refine lc_wcall E (pc := 5) [(13, 1), (17, 2)] 10 htab (by decide) [.int a1, .int a2] [.int 0, .ref q] dL_registerAt_5 cvL_registerAt (cxX8_registerAt hl9 hf) rfl rfl rfl (Nat.le_of_ble_eq_true rfl) ⟨(Nat.le_of_ble_eq_true rfl), (Nat.le_of_ble_eq_true rfl)⟩ ⟨(Nat.le_of_ble_eq_true rfl), (Nat.le_of_ble_eq_true rfl)⟩ (fun k hk => ?_) (fun v hv => ?_)
  · subst hk
    have hk9 := thr_registerAt _ _ hf
    simp only [List.mem_cons, List.not_mem_nil, or_false] at hk9
    rcases hk9 with rfl | rfl
    · refine ⟨[], 13, [(17, 2)], rfl, by decide, by decide, by decide, fun q9 => ?_⟩
      rw [show cdw cdB (.inr 1) = (1 : Int32) from by decide +kernel]
      exact lc_astore E.1 (pc := 13) dL_registerAt_13 (by decide) rfl rfl (lc_iconst E.1 (pc := 15) dL_registerAt_15 kc_1 (lc_wret E (pc := 16) hr dL_registerAt_16 (by decide)))
    · refine ⟨[(13, 1)], 17, [], rfl, by decide, by decide, by decide, fun q9 => ?_⟩
      rw [show cdw cdB (.inr 2) = (2 : Int32) from by decide +kernel]
      exact lc_astore E.1 (pc := 17) dL_registerAt_17 (by decide) rfl rfl (lc_iconst E.1 (pc := 19) dL_registerAt_19 kc_2 (lc_wret E (pc := 20) hr dL_registerAt_20 (by decide)))
  · subst hv
    exact lc_i2l E.1 (pc := 8) dL_registerAt_8 (lc_last E (pc := 9) NX xo_get xo_set dL_registerAt_9 (lc_goto E.1 (pc := 10) (tgt := 21) dL_registerAt_10 rfl (lc_iconst E.1 (pc := 21) dL_registerAt_21 kc_0 (lc_wret E (pc := 22) hr dL_registerAt_22 (by decide)))))
theorem wL_registerAt {l : Launch} (hl9 : l.stackTraces = false) {c : Cf} {X M : Mem} (hG : GC c) (hX : XC c X) (hM : MC c M) (a1 : Int32) (a2 : Int32) (D : va_G) (cI cR cL : ClassId) (adX : Nat → Nat) (q : Nat) (o9 : Nat → Int64) : ∃ (c1 : Cf) (X1 M1 : Mem) (w v : Int32) (o1 : Nat → Int64), GC c1 ∧ XC c1 X1 ∧ MC c1 M1 ∧ CW l yL_registerAt cL_registerAt 5 [(0, 10, 13, 13), (0, 10, 17, 15)] 9 2 D cI cR cL adX q [.ref (adX 0), .int a1, .int a2, .ref q] X o9 w X1 o1 ∧ fX9_registerAt M a1 a2 = some (v, M1) ∧ M1 0 22 = w ∧ (w = 0 → o1 0 = v.toInt64) :=
  agr_w (P := fun w X1 o1 => CW l yL_registerAt cL_registerAt 5 [(0, 10, 13, 13), (0, 10, 17, 15)] 9 2 D cI cR cL adX q [.ref (adX 0), .int a1, .int a2, .ref q] X o9 w X1 o1) (a_registerAt hG hX hM a1 a2) (fun r X1 h => cwL_registerAt hl9 h)
theorem dL_loopBundleOf_0 : decode cL_loopBundleOf 0 = .ok (.aload_n 2, 1) := by decide +kernel
theorem dL_loopBundleOf_1 : decode cL_loopBundleOf 1 = .ok (.iconst 0, 1) := by decide +kernel
theorem dL_loopBundleOf_2 : decode cL_loopBundleOf 2 = .ok (.aload_n 0, 1) := by decide +kernel
theorem dL_loopBundleOf_3 : decode cL_loopBundleOf 3 = .ok (.iload_n 1, 1) := by decide +kernel
theorem dL_loopBundleOf_4 : decode cL_loopBundleOf 4 = .ok (.invokevirtual 106, 3) := by decide +kernel
theorem dL_loopBundleOf_7 : decode cL_loopBundleOf 7 = .ok (.i2l, 1) := by decide +kernel
theorem dL_loopBundleOf_8 : decode cL_loopBundleOf 8 = .ok (.lastore, 1) := by decide +kernel
theorem dL_loopBundleOf_9 : decode cL_loopBundleOf 9 = .ok (.goto 6, 3) := by decide +kernel
theorem dL_loopBundleOf_12 : decode cL_loopBundleOf 12 = .ok (.astore_n 3, 1) := by decide +kernel
theorem dL_loopBundleOf_13 : decode cL_loopBundleOf 13 = .ok (.iconst 1, 1) := by decide +kernel
theorem dL_loopBundleOf_14 : decode cL_loopBundleOf 14 = .ok (.ireturn, 1) := by decide +kernel
theorem dL_loopBundleOf_15 : decode cL_loopBundleOf 15 = .ok (.iconst 0, 1) := by decide +kernel
theorem dL_loopBundleOf_16 : decode cL_loopBundleOf 16 = .ok (.ireturn, 1) := by decide +kernel
theorem cvL_loopBundleOf : MLV RL 106 yX8_loopBundleOf cX8_loopBundleOf 2 (some .int) 1 := ⟨(zw 1129 (by decide +kernel) (by decide +kernel)), (zw 1130 (by decide +kernel) (by decide +kernel)), (zw 1131 (by decide +kernel) (by decide +kernel)), (zw 1 (by decide +kernel) (by decide +kernel)), (zw 1132 (by decide +kernel) (by decide +kernel)), ⟨by decide +kernel, by decide +kernel, by decide +kernel⟩, by decide⟩
theorem thr_loopBundleOf {X : Mem} {a1 : Int32} : Thr [1] (fX8_loopBundleOf X a1) := by
  unfold fX8_loopBundleOf
  repeat' (first | exact tr_inl | exact tr_none | exact tr_inr (by decide) | refine tr_if ?_ ?_ | refine tr_bx ?_ (fun _ _ => ?_) | refine tr_bd (fun _ _ => ?_) | refine tr_bind (fun _ => ?_) | unfold fX8_checkStep | unfold fX8_checkStep_L15)
theorem cwL_loopBundleOf {l : Launch} {D : va_G} {cI cR cL : ClassId} {adX : Nat → Nat} {q : Nat} {X : Mem} {o : Nat → Int64} {a1 : Int32} (hl9 : l.stackTraces = false) {r : Int32 ⊕ Nat} {X1 : Mem} (hf : fX8_loopBundleOf X a1 = some (r, X1)) : CW l yL_loopBundleOf cL_loopBundleOf 4 [(0, 9, 12, 13)] 9 1 D cI cR cL adX q [.ref (adX 0), .int a1, .ref q] X o (cdw cd1 r) X1 (ow o r) := by
  refine cw_of (own := RL) (by decide +kernel) rfl (Nat.le_of_ble_eq_true rfl) (fun p e s m below meth c A0 E htab hr => ?_)
  refine lc_lo (lo' := [some (.ref (adX 0)), some (.int a1), some (.ref q), none]) ⟨rfl, rfl, rfl, trivial⟩ ?_
  refine lc_aload_n E.1 (pc := 0) dL_loopBundleOf_0 rfl ?_
  refine lc_iconst E.1 (pc := 1) dL_loopBundleOf_1 kc_0 ?_
  refine lc_aload_n E.1 (pc := 2) dL_loopBundleOf_2 rfl ?_
  refine lc_iload_n E.1 (pc := 3) dL_loopBundleOf_3 rfl ?_
  refine lc_wcall E (pc := 4) [(12, 1)] 9 htab (by decide) [.int a1] [.int 0, .ref q] dL_loopBundleOf_4 cvL_loopBundleOf (cxX8_loopBundleOf hl9 hf) rfl rfl rfl (Nat.le_of_ble_eq_true rfl) ⟨(Nat.le_of_ble_eq_true rfl), (Nat.le_of_ble_eq_true rfl)⟩ ⟨(Nat.le_of_ble_eq_true rfl), (Nat.le_of_ble_eq_true rfl)⟩ (fun k hk => ?_) (fun v hv => ?_)
  · subst hk
    have hk9 := thr_loopBundleOf _ _ hf
    simp only [List.mem_cons, List.not_mem_nil, or_false] at hk9
    subst hk9
    · refine ⟨[], 12, [], rfl, by decide, by decide, by decide, fun q9 => ?_⟩
      rw [show cdw cd1 (.inr 1) = (1 : Int32) from by decide +kernel]
      exact lc_astore_n E.1 (pc := 12) dL_loopBundleOf_12 (by decide) rfl rfl (lc_iconst E.1 (pc := 13) dL_loopBundleOf_13 kc_1 (lc_wret E (pc := 14) hr dL_loopBundleOf_14 (by decide)))
  · subst hv
    exact lc_i2l E.1 (pc := 7) dL_loopBundleOf_7 (lc_last E (pc := 8) NX xo_get xo_set dL_loopBundleOf_8 (lc_goto E.1 (pc := 9) (tgt := 15) dL_loopBundleOf_9 rfl (lc_iconst E.1 (pc := 15) dL_loopBundleOf_15 kc_0 (lc_wret E (pc := 16) hr dL_loopBundleOf_16 (by decide)))))
theorem wL_loopBundleOf {l : Launch} (hl9 : l.stackTraces = false) {c : Cf} {X M : Mem} (hG : GC c) (hX : XC c X) (hM : MC c M) (a1 : Int32) (D : va_G) (cI cR cL : ClassId) (adX : Nat → Nat) (q : Nat) (o9 : Nat → Int64) : ∃ (c1 : Cf) (X1 M1 : Mem) (w v : Int32) (o1 : Nat → Int64), GC c1 ∧ XC c1 X1 ∧ MC c1 M1 ∧ CW l yL_loopBundleOf cL_loopBundleOf 4 [(0, 9, 12, 13)] 9 1 D cI cR cL adX q [.ref (adX 0), .int a1, .ref q] X o9 w X1 o1 ∧ fX9_loopBundleOf M a1 = some (v, M1) ∧ M1 0 22 = w ∧ (w = 0 → o1 0 = v.toInt64) :=
  agr_w (P := fun w X1 o1 => CW l yL_loopBundleOf cL_loopBundleOf 4 [(0, 9, 12, 13)] 9 1 D cI cR cL adX q [.ref (adX 0), .int a1, .ref q] X o9 w X1 o1) (a_loopBundleOf hG hX hM a1) (fun r X1 h => cwL_loopBundleOf hl9 h)
theorem dL_loopBundles_0 : decode cL_loopBundles 0 = .ok (.aload_n 2, 1) := by decide +kernel
theorem dL_loopBundles_1 : decode cL_loopBundles 1 = .ok (.iconst 0, 1) := by decide +kernel
theorem dL_loopBundles_2 : decode cL_loopBundles 2 = .ok (.aload_n 0, 1) := by decide +kernel
theorem dL_loopBundles_3 : decode cL_loopBundles 3 = .ok (.iload_n 1, 1) := by decide +kernel
theorem dL_loopBundles_4 : decode cL_loopBundles 4 = .ok (.invokevirtual 109, 3) := by decide +kernel
theorem dL_loopBundles_7 : decode cL_loopBundles 7 = .ok (.i2l, 1) := by decide +kernel
theorem dL_loopBundles_8 : decode cL_loopBundles 8 = .ok (.lastore, 1) := by decide +kernel
theorem dL_loopBundles_9 : decode cL_loopBundles 9 = .ok (.goto 6, 3) := by decide +kernel
theorem dL_loopBundles_12 : decode cL_loopBundles 12 = .ok (.astore_n 3, 1) := by decide +kernel
theorem dL_loopBundles_13 : decode cL_loopBundles 13 = .ok (.iconst 1, 1) := by decide +kernel
theorem dL_loopBundles_14 : decode cL_loopBundles 14 = .ok (.ireturn, 1) := by decide +kernel
theorem dL_loopBundles_15 : decode cL_loopBundles 15 = .ok (.iconst 0, 1) := by decide +kernel
theorem dL_loopBundles_16 : decode cL_loopBundles 16 = .ok (.ireturn, 1) := by decide +kernel
theorem cvL_loopBundles : MLV RL 109 yX8_loopBundles cX8_loopBundles 2 (some .int) 1 := ⟨(zw 1136 (by decide +kernel) (by decide +kernel)), (zw 1137 (by decide +kernel) (by decide +kernel)), (zw 1138 (by decide +kernel) (by decide +kernel)), (zw 1 (by decide +kernel) (by decide +kernel)), (zw 1139 (by decide +kernel) (by decide +kernel)), ⟨by decide +kernel, by decide +kernel, by decide +kernel⟩, by decide⟩
theorem thr_loopBundles {X : Mem} {a1 : Int32} : Thr [2] (fX8_loopBundles X a1) := by
  unfold fX8_loopBundles
  repeat' (first | exact tr_inl | exact tr_none | exact tr_inr (by decide) | refine tr_if ?_ ?_ | refine tr_bx ?_ (fun _ _ => ?_) | refine tr_bd (fun _ _ => ?_) | refine tr_bind (fun _ => ?_) | unfold fX8_checkRounds | unfold fX8_checkRounds_L10)
theorem cwL_loopBundles {l : Launch} {D : va_G} {cI cR cL : ClassId} {adX : Nat → Nat} {q : Nat} {X : Mem} {o : Nat → Int64} {a1 : Int32} (hl9 : l.stackTraces = false) {r : Int32 ⊕ Nat} {X1 : Mem} (hf : fX8_loopBundles X a1 = some (r, X1)) : CW l yL_loopBundles cL_loopBundles 4 [(0, 9, 12, 15)] 9 1 D cI cR cL adX q [.ref (adX 0), .int a1, .ref q] X o (cdw cd1 r) X1 (ow o r) := by
  refine cw_of (own := RL) (by decide +kernel) rfl (Nat.le_of_ble_eq_true rfl) (fun p e s m below meth c A0 E htab hr => ?_)
  refine lc_lo (lo' := [some (.ref (adX 0)), some (.int a1), some (.ref q), none]) ⟨rfl, rfl, rfl, trivial⟩ ?_
  refine lc_aload_n E.1 (pc := 0) dL_loopBundles_0 rfl ?_
  refine lc_iconst E.1 (pc := 1) dL_loopBundles_1 kc_0 ?_
  refine lc_aload_n E.1 (pc := 2) dL_loopBundles_2 rfl ?_
  refine lc_iload_n E.1 (pc := 3) dL_loopBundles_3 rfl ?_
  refine lc_wcall E (pc := 4) [(12, 2)] 9 htab (by decide) [.int a1] [.int 0, .ref q] dL_loopBundles_4 cvL_loopBundles (cxX8_loopBundles hl9 hf) rfl rfl rfl (Nat.le_of_ble_eq_true rfl) ⟨(Nat.le_of_ble_eq_true rfl), (Nat.le_of_ble_eq_true rfl)⟩ ⟨(Nat.le_of_ble_eq_true rfl), (Nat.le_of_ble_eq_true rfl)⟩ (fun k hk => ?_) (fun v hv => ?_)
  · subst hk
    have hk9 := thr_loopBundles _ _ hf
    simp only [List.mem_cons, List.not_mem_nil, or_false] at hk9
    subst hk9
    · refine ⟨[], 12, [], rfl, by decide, by decide, by decide, fun q9 => ?_⟩
      rw [show cdw cd1 (.inr 2) = (1 : Int32) from by decide +kernel]
      exact lc_astore_n E.1 (pc := 12) dL_loopBundles_12 (by decide) rfl rfl (lc_iconst E.1 (pc := 13) dL_loopBundles_13 kc_1 (lc_wret E (pc := 14) hr dL_loopBundles_14 (by decide)))
  · subst hv
    exact lc_i2l E.1 (pc := 7) dL_loopBundles_7 (lc_last E (pc := 8) NX xo_get xo_set dL_loopBundles_8 (lc_goto E.1 (pc := 9) (tgt := 15) dL_loopBundles_9 rfl (lc_iconst E.1 (pc := 15) dL_loopBundles_15 kc_0 (lc_wret E (pc := 16) hr dL_loopBundles_16 (by decide)))))
theorem wL_loopBundles {l : Launch} (hl9 : l.stackTraces = false) {c : Cf} {X M : Mem} (hG : GC c) (hX : XC c X) (hM : MC c M) (a1 : Int32) (D : va_G) (cI cR cL : ClassId) (adX : Nat → Nat) (q : Nat) (o9 : Nat → Int64) : ∃ (c1 : Cf) (X1 M1 : Mem) (w v : Int32) (o1 : Nat → Int64), GC c1 ∧ XC c1 X1 ∧ MC c1 M1 ∧ CW l yL_loopBundles cL_loopBundles 4 [(0, 9, 12, 15)] 9 1 D cI cR cL adX q [.ref (adX 0), .int a1, .ref q] X o9 w X1 o1 ∧ fX9_loopBundles M a1 = some (v, M1) ∧ M1 0 22 = w ∧ (w = 0 → o1 0 = v.toInt64) :=
  agr_w (P := fun w X1 o1 => CW l yL_loopBundles cL_loopBundles 4 [(0, 9, 12, 15)] 9 1 D cI cR cL adX q [.ref (adX 0), .int a1, .ref q] X o9 w X1 o1) (a_loopBundles hG hX hM a1) (fun r X1 h => cwL_loopBundles hl9 h)
theorem dL_registerInLoop_0 : decode cL_registerInLoop 0 = .ok (.aload_n 3, 1) := by decide +kernel
theorem dL_registerInLoop_1 : decode cL_registerInLoop 1 = .ok (.iconst 0, 1) := by decide +kernel
theorem dL_registerInLoop_2 : decode cL_registerInLoop 2 = .ok (.aload_n 0, 1) := by decide +kernel
theorem dL_registerInLoop_3 : decode cL_registerInLoop 3 = .ok (.iload_n 1, 1) := by decide +kernel
theorem dL_registerInLoop_4 : decode cL_registerInLoop 4 = .ok (.iload_n 2, 1) := by decide +kernel
theorem dL_registerInLoop_5 : decode cL_registerInLoop 5 = .ok (.invokevirtual 112, 3) := by decide +kernel
theorem dL_registerInLoop_8 : decode cL_registerInLoop 8 = .ok (.i2l, 1) := by decide +kernel
theorem dL_registerInLoop_9 : decode cL_registerInLoop 9 = .ok (.lastore, 1) := by decide +kernel
theorem dL_registerInLoop_10 : decode cL_registerInLoop 10 = .ok (.goto 11, 3) := by decide +kernel
theorem dL_registerInLoop_13 : decode cL_registerInLoop 13 = .ok (.astore 4, 2) := by decide +kernel
theorem dL_registerInLoop_15 : decode cL_registerInLoop 15 = .ok (.iconst 1, 1) := by decide +kernel
theorem dL_registerInLoop_16 : decode cL_registerInLoop 16 = .ok (.ireturn, 1) := by decide +kernel
theorem dL_registerInLoop_17 : decode cL_registerInLoop 17 = .ok (.astore 4, 2) := by decide +kernel
theorem dL_registerInLoop_19 : decode cL_registerInLoop 19 = .ok (.iconst 2, 1) := by decide +kernel
theorem dL_registerInLoop_20 : decode cL_registerInLoop 20 = .ok (.ireturn, 1) := by decide +kernel
theorem dL_registerInLoop_21 : decode cL_registerInLoop 21 = .ok (.iconst 0, 1) := by decide +kernel
theorem dL_registerInLoop_22 : decode cL_registerInLoop 22 = .ok (.ireturn, 1) := by decide +kernel
theorem cvL_registerInLoop : MLV RL 112 yX8_registerInLoop cX8_registerInLoop 3 (some .int) 2 := ⟨(zw 1147 (by decide +kernel) (by decide +kernel)), (zw 1148 (by decide +kernel) (by decide +kernel)), (zw 1149 (by decide +kernel) (by decide +kernel)), (zw 1 (by decide +kernel) (by decide +kernel)), (zw 1150 (by decide +kernel) (by decide +kernel)), ⟨by decide +kernel, by decide +kernel, by decide +kernel⟩, by decide⟩
theorem thr_registerInLoop {X : Mem} {a1 : Int32} {a2 : Int32} : Thr [1, 2] (fX8_registerInLoop X a1 a2) := by
  unfold fX8_registerInLoop
  repeat' (first | exact tr_inl | exact tr_none | exact tr_inr (by decide) | refine tr_if ?_ ?_ | refine tr_bx ?_ (fun _ _ => ?_) | refine tr_bd (fun _ _ => ?_) | refine tr_bind (fun _ => ?_) | unfold fX8_checkRegister | unfold fX8_checkRounds | unfold fX8_checkRounds_L10)
theorem cwL_registerInLoop {l : Launch} {D : va_G} {cI cR cL : ClassId} {adX : Nat → Nat} {q : Nat} {X : Mem} {o : Nat → Int64} {a1 : Int32} {a2 : Int32} (hl9 : l.stackTraces = false) {r : Int32 ⊕ Nat} {X1 : Mem} (hf : fX8_registerInLoop X a1 a2 = some (r, X1)) : CW l yL_registerInLoop cL_registerInLoop 5 [(0, 10, 13, 13), (0, 10, 17, 15)] 9 2 D cI cR cL adX q [.ref (adX 0), .int a1, .int a2, .ref q] X o (cdw cdB r) X1 (ow o r) := by
  refine cw_of (own := RL) (by decide +kernel) rfl (Nat.le_of_ble_eq_true rfl) (fun p e s m below meth c A0 E htab hr => ?_)
  refine lc_lo (lo' := [some (.ref (adX 0)), some (.int a1), some (.int a2), some (.ref q), none]) ⟨rfl, rfl, rfl, rfl, trivial⟩ ?_
  refine lc_aload_n E.1 (pc := 0) dL_registerInLoop_0 rfl ?_
  refine lc_iconst E.1 (pc := 1) dL_registerInLoop_1 kc_0 ?_
  refine lc_aload_n E.1 (pc := 2) dL_registerInLoop_2 rfl ?_
  refine lc_iload_n E.1 (pc := 3) dL_registerInLoop_3 rfl ?_
  refine lc_iload_n E.1 (pc := 4) dL_registerInLoop_4 rfl ?_
  refine lc_wcall E (pc := 5) [(13, 1), (17, 2)] 10 htab (by decide) [.int a1, .int a2] [.int 0, .ref q] dL_registerInLoop_5 cvL_registerInLoop (cxX8_registerInLoop hl9 hf) rfl rfl rfl (Nat.le_of_ble_eq_true rfl) ⟨(Nat.le_of_ble_eq_true rfl), (Nat.le_of_ble_eq_true rfl)⟩ ⟨(Nat.le_of_ble_eq_true rfl), (Nat.le_of_ble_eq_true rfl)⟩ (fun k hk => ?_) (fun v hv => ?_)
  · subst hk
    have hk9 := thr_registerInLoop _ _ hf
    simp only [List.mem_cons, List.not_mem_nil, or_false] at hk9
    rcases hk9 with rfl | rfl
    · refine ⟨[], 13, [(17, 2)], rfl, by decide, by decide, by decide, fun q9 => ?_⟩
      rw [show cdw cdB (.inr 1) = (1 : Int32) from by decide +kernel]
      exact lc_astore E.1 (pc := 13) dL_registerInLoop_13 (by decide) rfl rfl (lc_iconst E.1 (pc := 15) dL_registerInLoop_15 kc_1 (lc_wret E (pc := 16) hr dL_registerInLoop_16 (by decide)))
    · refine ⟨[(13, 1)], 17, [], rfl, by decide, by decide, by decide, fun q9 => ?_⟩
      rw [show cdw cdB (.inr 2) = (2 : Int32) from by decide +kernel]
      exact lc_astore E.1 (pc := 17) dL_registerInLoop_17 (by decide) rfl rfl (lc_iconst E.1 (pc := 19) dL_registerInLoop_19 kc_2 (lc_wret E (pc := 20) hr dL_registerInLoop_20 (by decide)))
  · subst hv
    exact lc_i2l E.1 (pc := 8) dL_registerInLoop_8 (lc_last E (pc := 9) NX xo_get xo_set dL_registerInLoop_9 (lc_goto E.1 (pc := 10) (tgt := 21) dL_registerInLoop_10 rfl (lc_iconst E.1 (pc := 21) dL_registerInLoop_21 kc_0 (lc_wret E (pc := 22) hr dL_registerInLoop_22 (by decide)))))
theorem wL_registerInLoop {l : Launch} (hl9 : l.stackTraces = false) {c : Cf} {X M : Mem} (hG : GC c) (hX : XC c X) (hM : MC c M) (a1 : Int32) (a2 : Int32) (D : va_G) (cI cR cL : ClassId) (adX : Nat → Nat) (q : Nat) (o9 : Nat → Int64) : ∃ (c1 : Cf) (X1 M1 : Mem) (w v : Int32) (o1 : Nat → Int64), GC c1 ∧ XC c1 X1 ∧ MC c1 M1 ∧ CW l yL_registerInLoop cL_registerInLoop 5 [(0, 10, 13, 13), (0, 10, 17, 15)] 9 2 D cI cR cL adX q [.ref (adX 0), .int a1, .int a2, .ref q] X o9 w X1 o1 ∧ fX9_registerInLoop M a1 a2 = some (v, M1) ∧ M1 0 22 = w ∧ (w = 0 → o1 0 = v.toInt64) :=
  agr_w (P := fun w X1 o1 => CW l yL_registerInLoop cL_registerInLoop 5 [(0, 10, 13, 13), (0, 10, 17, 15)] 9 2 D cI cR cL adX q [.ref (adX 0), .int a1, .int a2, .ref q] X o9 w X1 o1) (a_registerInLoop hG hX hM a1 a2) (fun r X1 h => cwL_registerInLoop hl9 h)
theorem dL_registerInRounds_0 : decode cL_registerInRounds 0 = .ok (.aload_n 3, 1) := by decide +kernel
theorem dL_registerInRounds_1 : decode cL_registerInRounds 1 = .ok (.iconst 0, 1) := by decide +kernel
theorem dL_registerInRounds_2 : decode cL_registerInRounds 2 = .ok (.aload_n 0, 1) := by decide +kernel
theorem dL_registerInRounds_3 : decode cL_registerInRounds 3 = .ok (.iload_n 1, 1) := by decide +kernel
theorem dL_registerInRounds_4 : decode cL_registerInRounds 4 = .ok (.iload_n 2, 1) := by decide +kernel
theorem dL_registerInRounds_5 : decode cL_registerInRounds 5 = .ok (.invokevirtual 115, 3) := by decide +kernel
theorem dL_registerInRounds_8 : decode cL_registerInRounds 8 = .ok (.i2l, 1) := by decide +kernel
theorem dL_registerInRounds_9 : decode cL_registerInRounds 9 = .ok (.lastore, 1) := by decide +kernel
theorem dL_registerInRounds_10 : decode cL_registerInRounds 10 = .ok (.goto 11, 3) := by decide +kernel
theorem dL_registerInRounds_13 : decode cL_registerInRounds 13 = .ok (.astore 4, 2) := by decide +kernel
theorem dL_registerInRounds_15 : decode cL_registerInRounds 15 = .ok (.iconst 1, 1) := by decide +kernel
theorem dL_registerInRounds_16 : decode cL_registerInRounds 16 = .ok (.ireturn, 1) := by decide +kernel
theorem dL_registerInRounds_17 : decode cL_registerInRounds 17 = .ok (.astore 4, 2) := by decide +kernel
theorem dL_registerInRounds_19 : decode cL_registerInRounds 19 = .ok (.iconst 2, 1) := by decide +kernel
theorem dL_registerInRounds_20 : decode cL_registerInRounds 20 = .ok (.ireturn, 1) := by decide +kernel
theorem dL_registerInRounds_21 : decode cL_registerInRounds 21 = .ok (.iconst 0, 1) := by decide +kernel
theorem dL_registerInRounds_22 : decode cL_registerInRounds 22 = .ok (.ireturn, 1) := by decide +kernel
theorem cvL_registerInRounds : MLV RL 115 yX8_registerInRounds cX8_registerInRounds 3 (some .int) 2 := ⟨(zw 1154 (by decide +kernel) (by decide +kernel)), (zw 1155 (by decide +kernel) (by decide +kernel)), (zw 1156 (by decide +kernel) (by decide +kernel)), (zw 1 (by decide +kernel) (by decide +kernel)), (zw 1157 (by decide +kernel) (by decide +kernel)), ⟨by decide +kernel, by decide +kernel, by decide +kernel⟩, by decide⟩
theorem thr_registerInRounds {X : Mem} {a1 : Int32} {a2 : Int32} : Thr [1, 2] (fX8_registerInRounds X a1 a2) := by
  unfold fX8_registerInRounds
  repeat' (first | exact tr_inl | exact tr_none | exact tr_inr (by decide) | refine tr_if ?_ ?_ | refine tr_bx ?_ (fun _ _ => ?_) | refine tr_bd (fun _ _ => ?_) | refine tr_bind (fun _ => ?_) | unfold fX8_checkRegister | unfold fX8_checkRounds | unfold fX8_checkRounds_L10)
theorem cwL_registerInRounds {l : Launch} {D : va_G} {cI cR cL : ClassId} {adX : Nat → Nat} {q : Nat} {X : Mem} {o : Nat → Int64} {a1 : Int32} {a2 : Int32} (hl9 : l.stackTraces = false) {r : Int32 ⊕ Nat} {X1 : Mem} (hf : fX8_registerInRounds X a1 a2 = some (r, X1)) : CW l yL_registerInRounds cL_registerInRounds 5 [(0, 10, 13, 13), (0, 10, 17, 15)] 9 2 D cI cR cL adX q [.ref (adX 0), .int a1, .int a2, .ref q] X o (cdw cdB r) X1 (ow o r) := by
  refine cw_of (own := RL) (by decide +kernel) rfl (Nat.le_of_ble_eq_true rfl) (fun p e s m below meth c A0 E htab hr => ?_)
  refine lc_lo (lo' := [some (.ref (adX 0)), some (.int a1), some (.int a2), some (.ref q), none]) ⟨rfl, rfl, rfl, rfl, trivial⟩ ?_
  refine lc_aload_n E.1 (pc := 0) dL_registerInRounds_0 rfl ?_
  refine lc_iconst E.1 (pc := 1) dL_registerInRounds_1 kc_0 ?_
  refine lc_aload_n E.1 (pc := 2) dL_registerInRounds_2 rfl ?_
  refine lc_iload_n E.1 (pc := 3) dL_registerInRounds_3 rfl ?_
  refine lc_iload_n E.1 (pc := 4) dL_registerInRounds_4 rfl ?_
  refine lc_wcall E (pc := 5) [(13, 1), (17, 2)] 10 htab (by decide) [.int a1, .int a2] [.int 0, .ref q] dL_registerInRounds_5 cvL_registerInRounds (cxX8_registerInRounds hl9 hf) rfl rfl rfl (Nat.le_of_ble_eq_true rfl) ⟨(Nat.le_of_ble_eq_true rfl), (Nat.le_of_ble_eq_true rfl)⟩ ⟨(Nat.le_of_ble_eq_true rfl), (Nat.le_of_ble_eq_true rfl)⟩ (fun k hk => ?_) (fun v hv => ?_)
  · subst hk
    have hk9 := thr_registerInRounds _ _ hf
    simp only [List.mem_cons, List.not_mem_nil, or_false] at hk9
    rcases hk9 with rfl | rfl
    · refine ⟨[], 13, [(17, 2)], rfl, by decide, by decide, by decide, fun q9 => ?_⟩
      rw [show cdw cdB (.inr 1) = (1 : Int32) from by decide +kernel]
      exact lc_astore E.1 (pc := 13) dL_registerInRounds_13 (by decide) rfl rfl (lc_iconst E.1 (pc := 15) dL_registerInRounds_15 kc_1 (lc_wret E (pc := 16) hr dL_registerInRounds_16 (by decide)))
    · refine ⟨[(13, 1)], 17, [], rfl, by decide, by decide, by decide, fun q9 => ?_⟩
      rw [show cdw cdB (.inr 2) = (2 : Int32) from by decide +kernel]
      exact lc_astore E.1 (pc := 17) dL_registerInRounds_17 (by decide) rfl rfl (lc_iconst E.1 (pc := 19) dL_registerInRounds_19 kc_2 (lc_wret E (pc := 20) hr dL_registerInRounds_20 (by decide)))
  · subst hv
    exact lc_i2l E.1 (pc := 8) dL_registerInRounds_8 (lc_last E (pc := 9) NX xo_get xo_set dL_registerInRounds_9 (lc_goto E.1 (pc := 10) (tgt := 21) dL_registerInRounds_10 rfl (lc_iconst E.1 (pc := 21) dL_registerInRounds_21 kc_0 (lc_wret E (pc := 22) hr dL_registerInRounds_22 (by decide)))))
theorem wL_registerInRounds {l : Launch} (hl9 : l.stackTraces = false) {c : Cf} {X M : Mem} (hG : GC c) (hX : XC c X) (hM : MC c M) (a1 : Int32) (a2 : Int32) (D : va_G) (cI cR cL : ClassId) (adX : Nat → Nat) (q : Nat) (o9 : Nat → Int64) : ∃ (c1 : Cf) (X1 M1 : Mem) (w v : Int32) (o1 : Nat → Int64), GC c1 ∧ XC c1 X1 ∧ MC c1 M1 ∧ CW l yL_registerInRounds cL_registerInRounds 5 [(0, 10, 13, 13), (0, 10, 17, 15)] 9 2 D cI cR cL adX q [.ref (adX 0), .int a1, .int a2, .ref q] X o9 w X1 o1 ∧ fX9_registerInRounds M a1 a2 = some (v, M1) ∧ M1 0 22 = w ∧ (w = 0 → o1 0 = v.toInt64) :=
  agr_w (P := fun w X1 o1 => CW l yL_registerInRounds cL_registerInRounds 5 [(0, 10, 13, 13), (0, 10, 17, 15)] 9 2 D cI cR cL adX q [.ref (adX 0), .int a1, .int a2, .ref q] X o9 w X1 o1) (a_registerInRounds hG hX hM a1 a2) (fun r X1 h => cwL_registerInRounds hl9 h)
theorem dL_cellInLoop_0 : decode cL_cellInLoop 0 = .ok (.aload_n 3, 1) := by decide +kernel
theorem dL_cellInLoop_1 : decode cL_cellInLoop 1 = .ok (.iconst 0, 1) := by decide +kernel
theorem dL_cellInLoop_2 : decode cL_cellInLoop 2 = .ok (.aload_n 0, 1) := by decide +kernel
theorem dL_cellInLoop_3 : decode cL_cellInLoop 3 = .ok (.iload_n 1, 1) := by decide +kernel
theorem dL_cellInLoop_4 : decode cL_cellInLoop 4 = .ok (.iload_n 2, 1) := by decide +kernel
theorem dL_cellInLoop_5 : decode cL_cellInLoop 5 = .ok (.invokevirtual 118, 3) := by decide +kernel
theorem dL_cellInLoop_8 : decode cL_cellInLoop 8 = .ok (.i2l, 1) := by decide +kernel
theorem dL_cellInLoop_9 : decode cL_cellInLoop 9 = .ok (.lastore, 1) := by decide +kernel
theorem dL_cellInLoop_10 : decode cL_cellInLoop 10 = .ok (.goto 11, 3) := by decide +kernel
theorem dL_cellInLoop_13 : decode cL_cellInLoop 13 = .ok (.astore 4, 2) := by decide +kernel
theorem dL_cellInLoop_15 : decode cL_cellInLoop 15 = .ok (.iconst 1, 1) := by decide +kernel
theorem dL_cellInLoop_16 : decode cL_cellInLoop 16 = .ok (.ireturn, 1) := by decide +kernel
theorem dL_cellInLoop_17 : decode cL_cellInLoop 17 = .ok (.astore 4, 2) := by decide +kernel
theorem dL_cellInLoop_19 : decode cL_cellInLoop 19 = .ok (.iconst 2, 1) := by decide +kernel
theorem dL_cellInLoop_20 : decode cL_cellInLoop 20 = .ok (.ireturn, 1) := by decide +kernel
theorem dL_cellInLoop_21 : decode cL_cellInLoop 21 = .ok (.iconst 0, 1) := by decide +kernel
theorem dL_cellInLoop_22 : decode cL_cellInLoop 22 = .ok (.ireturn, 1) := by decide +kernel
theorem cvL_cellInLoop : MLV RL 118 yX8_cellInLoop cX8_cellInLoop 3 (some .int) 2 := ⟨(zw 1161 (by decide +kernel) (by decide +kernel)), (zw 1162 (by decide +kernel) (by decide +kernel)), (zw 1163 (by decide +kernel) (by decide +kernel)), (zw 1 (by decide +kernel) (by decide +kernel)), (zw 1164 (by decide +kernel) (by decide +kernel)), ⟨by decide +kernel, by decide +kernel, by decide +kernel⟩, by decide⟩
theorem thr_cellInLoop {X : Mem} {a1 : Int32} {a2 : Int32} : Thr [1, 2] (fX8_cellInLoop X a1 a2) := by
  unfold fX8_cellInLoop
  repeat' (first | exact tr_inl | exact tr_none | exact tr_inr (by decide) | refine tr_if ?_ ?_ | refine tr_bx ?_ (fun _ _ => ?_) | refine tr_bd (fun _ _ => ?_) | refine tr_bind (fun _ => ?_) | unfold fX8_checkCell | unfold fX8_checkCell_L10 | unfold fX8_checkRounds | unfold fX8_checkRounds_L10)
theorem cwL_cellInLoop {l : Launch} {D : va_G} {cI cR cL : ClassId} {adX : Nat → Nat} {q : Nat} {X : Mem} {o : Nat → Int64} {a1 : Int32} {a2 : Int32} (hl9 : l.stackTraces = false) {r : Int32 ⊕ Nat} {X1 : Mem} (hf : fX8_cellInLoop X a1 a2 = some (r, X1)) : CW l yL_cellInLoop cL_cellInLoop 5 [(0, 10, 13, 13), (0, 10, 17, 15)] 9 2 D cI cR cL adX q [.ref (adX 0), .int a1, .int a2, .ref q] X o (cdw cdB r) X1 (ow o r) := by
  refine cw_of (own := RL) (by decide +kernel) rfl (Nat.le_of_ble_eq_true rfl) (fun p e s m below meth c A0 E htab hr => ?_)
  refine lc_lo (lo' := [some (.ref (adX 0)), some (.int a1), some (.int a2), some (.ref q), none]) ⟨rfl, rfl, rfl, rfl, trivial⟩ ?_
  refine lc_aload_n E.1 (pc := 0) dL_cellInLoop_0 rfl ?_
  refine lc_iconst E.1 (pc := 1) dL_cellInLoop_1 kc_0 ?_
  refine lc_aload_n E.1 (pc := 2) dL_cellInLoop_2 rfl ?_
  refine lc_iload_n E.1 (pc := 3) dL_cellInLoop_3 rfl ?_
  refine lc_iload_n E.1 (pc := 4) dL_cellInLoop_4 rfl ?_
  refine lc_wcall E (pc := 5) [(13, 1), (17, 2)] 10 htab (by decide) [.int a1, .int a2] [.int 0, .ref q] dL_cellInLoop_5 cvL_cellInLoop (cxX8_cellInLoop hl9 hf) rfl rfl rfl (Nat.le_of_ble_eq_true rfl) ⟨(Nat.le_of_ble_eq_true rfl), (Nat.le_of_ble_eq_true rfl)⟩ ⟨(Nat.le_of_ble_eq_true rfl), (Nat.le_of_ble_eq_true rfl)⟩ (fun k hk => ?_) (fun v hv => ?_)
  · subst hk
    have hk9 := thr_cellInLoop _ _ hf
    simp only [List.mem_cons, List.not_mem_nil, or_false] at hk9
    rcases hk9 with rfl | rfl
    · refine ⟨[], 13, [(17, 2)], rfl, by decide, by decide, by decide, fun q9 => ?_⟩
      rw [show cdw cdB (.inr 1) = (1 : Int32) from by decide +kernel]
      exact lc_astore E.1 (pc := 13) dL_cellInLoop_13 (by decide) rfl rfl (lc_iconst E.1 (pc := 15) dL_cellInLoop_15 kc_1 (lc_wret E (pc := 16) hr dL_cellInLoop_16 (by decide)))
    · refine ⟨[(13, 1)], 17, [], rfl, by decide, by decide, by decide, fun q9 => ?_⟩
      rw [show cdw cdB (.inr 2) = (2 : Int32) from by decide +kernel]
      exact lc_astore E.1 (pc := 17) dL_cellInLoop_17 (by decide) rfl rfl (lc_iconst E.1 (pc := 19) dL_cellInLoop_19 kc_2 (lc_wret E (pc := 20) hr dL_cellInLoop_20 (by decide)))
  · subst hv
    exact lc_i2l E.1 (pc := 8) dL_cellInLoop_8 (lc_last E (pc := 9) NX xo_get xo_set dL_cellInLoop_9 (lc_goto E.1 (pc := 10) (tgt := 21) dL_cellInLoop_10 rfl (lc_iconst E.1 (pc := 21) dL_cellInLoop_21 kc_0 (lc_wret E (pc := 22) hr dL_cellInLoop_22 (by decide)))))
theorem wL_cellInLoop {l : Launch} (hl9 : l.stackTraces = false) {c : Cf} {X M : Mem} (hG : GC c) (hX : XC c X) (hM : MC c M) (a1 : Int32) (a2 : Int32) (D : va_G) (cI cR cL : ClassId) (adX : Nat → Nat) (q : Nat) (o9 : Nat → Int64) : ∃ (c1 : Cf) (X1 M1 : Mem) (w v : Int32) (o1 : Nat → Int64), GC c1 ∧ XC c1 X1 ∧ MC c1 M1 ∧ CW l yL_cellInLoop cL_cellInLoop 5 [(0, 10, 13, 13), (0, 10, 17, 15)] 9 2 D cI cR cL adX q [.ref (adX 0), .int a1, .int a2, .ref q] X o9 w X1 o1 ∧ fX9_cellInLoop M a1 a2 = some (v, M1) ∧ M1 0 22 = w ∧ (w = 0 → o1 0 = v.toInt64) :=
  agr_w (P := fun w X1 o1 => CW l yL_cellInLoop cL_cellInLoop 5 [(0, 10, 13, 13), (0, 10, 17, 15)] 9 2 D cI cR cL adX q [.ref (adX 0), .int a1, .int a2, .ref q] X o9 w X1 o1) (a_cellInLoop hG hX hM a1 a2) (fun r X1 h => cwL_cellInLoop hl9 h)
