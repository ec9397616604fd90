/-! THE LAW'S METHODS: contracts with cells that are made; calls that answer; a new object -/
def NCn (U : State) : Prop := ∀ i j, 1 ≤ i → i ≤ 3 → 1 ≤ j → j ≤ 3 → i ≠ j → va_Nc (xnm i) (xnm j) U
theorem NCn.moved {u U : State} (h : u.vm.Alike U.vm) (q : NCn u) : NCn U := fun i j a b c d e => (q i j a b c d e).moved h
/-- what stands fast beside EV while a method of the law's runs -/
abbrev EM9 (l : Launch) (s : State) (A0 : Nat → Prop) : Prop := l.stackTraces = false ∧ NCn s ∧ STT A0 s s.heap
def PCm (D : va_G) (cI cR : ClassId) (ad : Nat → Nat) (shf : Nat → Shp) (N : Nat) (av : List Value) (μ : Mem) (sz : Nat) : Array Value → State → Prop := va_Pc av (fun U => U.heap.size = sz ∧ va_P D vwCl (wo cI cR ad shf N μ) U.heap ∧ va_K D vwCl (tyC cI cR) U ∧ va_D (fun _ => True) (wo cI cR ad shf N μ) ∧ EXn U ∧ NCn U ∧ STT (aA ad N sz) U U.heap)
theorem PCm_blind {D : va_G} {cI cR : ClassId} {ad : Nat → Nat} {shf : Nat → Shp} {N : Nat} {av : List Value} {μ : Mem} {sz : Nat} : FrameBlind (PCm D cI cR ad shf N av μ sz) := fun a U g mk q => by
  obtain ⟨q0, q1, qP, qK, qD, qE, qN, qS⟩ := q
  exact ⟨q0, q1, qP, va_K.moved (u := U) (U := U.calling g mk a) (Vm.Alike.refl U.vm) qK, qD, EXn.same (u := U) (U := U.calling g mk a) rfl qE, NCn.moved (u := U) (U := U.calling g mk a) (Vm.Alike.refl U.vm) qN, STT.moved (u := U) (U := U.calling g mk a) (Vm.Alike.refl U.vm) qS⟩
/-- the contract of a method of the law's over one object (N = NX), or over none (N = 0) -/
def CM (l : Launch) (y : MethodName) (w0 : Cond) (d mc : Nat) (D : va_G) (cI cR : ClassId) (ad : Nat → Nat) (shf : Nat → Shp) (N : Nat) (av : List Value) (μ : Mem) (v : Option Value) (μ' : Mem) : Prop :=
  ∀ sz, Met l y (w0 :: Z_W) (RX d mc) (PCm D cI cR ad shf N av μ sz) (QG D cI cR ad shf N (aA ad N sz) μ' v) mc (6 * mc) (aA ad N sz)
abbrev KM (below : List Frame) (args : Array Value) (s : State) (D : va_G) (cI cR : ClassId) (ad : Nat → Nat) (shf : Nat → Shp) (N : Nat) (A0 : Nat → Prop) (mc : Nat) (v : Option Value) (μ' : Mem) : State → Prop := MQ below (QG D cI cR ad shf N A0 μ' v) args s mc (6 * mc) A0
theorem mcc {n mc d : Nat} (h : n ≤ mc) : n ≤ (RX d mc).cells ∧ 6 * n ≤ (RX d mc).slots := ⟨h, Nat.mul_le_mul_left 6 h⟩
theorem mcd {n k mc d : Nat} (h : n + k ≤ mc) : n + k ≤ (RX d mc).cells ∧ 6 * n + 6 * k ≤ (RX d mc).slots := ⟨h, by show 6 * n + 6 * k ≤ 6 * mc; omega⟩
theorem wp0 {D : va_G} {cI cR : ClassId} {ad : Nat → Nat} {shf : Nat → Shp} {μ : Mem} {H : Heap} : va_P D vwCl (wo cI cR ad shf 0 μ) H := fun k q h => by simp [wo] at h
section LLM
variable {p : Program} {l : Launch} {e : Env} {R : Room} {s : State} {m : MethodId} {args : Array Value} {below : List Frame} {meth : Method} {c : Code} {cc : ByteArray} {nL : Nat} {own : String} {D : va_G} {cI cR : ClassId} {ad : Nat → Nat} {shf : Nat → Shp} {N : Nat} {A0 : Nat → Prop}
variable {α β : Type} {KQ : α → Mem → State → Prop} {t ta tb : Option (α × Mem)} {cl sl pc : Nat} {lo lo' : List (Option Value)} {st : List Value} {μ : Mem}
theorem ll_lshr (E : EV p s m args meth c cc nL own D cI cR ad shf N A0) {x : Int64} {y : Int32} (hd : decode cc pc = .ok (.lshr, 1)) (k : LL p l e R s m args below meth c nL D cI cR ad shf N A0 KQ t cl sl (pc + 1) lo (.long (x >>> (y.toInt64 &&& 63)) :: st) μ) : LL p l e R s m args below meth c nL D cI cR ad shf N A0 KQ t cl sl pc lo (.int y :: .long x :: st) μ :=
  fun r μ' h H locs ls hP hS hL => lv_lshr E.1 E.2.1 hd rfl (k r μ' h H locs ls hP hS hL)
theorem ll_land (E : EV p s m args meth c cc nL own D cI cR ad shf N A0) {x y : Int64} (hd : decode cc pc = .ok (.land, 1)) (k : LL p l e R s m args below meth c nL D cI cR ad shf N A0 KQ t cl sl (pc + 1) lo (.long (x &&& y) :: st) μ) : LL p l e R s m args below meth c nL D cI cR ad shf N A0 KQ t cl sl pc lo (.long y :: .long x :: st) μ :=
  fun r μ' h H locs ls hP hS hL => lv_land E.1 E.2.1 hd (k r μ' h H locs ls hP hS hL)
theorem ll_wd {n n' : Nat} (h : n ≤ n') (k : LL p l e R s m args below meth c nL D cI cR ad shf N A0 KQ t n' (6 * n') pc lo st μ) : LL p l e R s m args below meth c nL D cI cR ad shf N A0 KQ t n (6 * n) pc lo st μ :=
  fun r μ' h9 H locs ls hP hS hL => W.widen h (Nat.mul_le_mul_left 6 h) (k r μ' h9 H locs ls hP hS hL)
theorem cm_of {y : MethodName} {maxL d mc : Nat} {ret : Option FieldType} {av : List Value} {ov : α → Option Value} {f : Option (α × Mem)} (hl9 : l.stackTraces = false) (hy : plainFor y = true) (hown : y.cls = own) (hlen : (lg_sl av).length ≤ maxL)
    (body : ∀ (p : Program) (e : Env) (s : State) (m : MethodId) (below : List Frame) (meth : Method) (c : Code) (A0 : Nat → Prop), EV p s m av.toArray meth c cc maxL own D cI cR ad shf N A0 → EM9 l s A0 → meth.sig.returnType = ret →
      LL p l e (RX d mc) s m av.toArray below meth c maxL D cI cR ad shf N A0 (fun r μ' => KM below av.toArray s D cI cR ad shf N A0 mc (ov r) μ') f 0 (6 * 0) 0 (lo0 av maxL) [] μ)
    {r : α} {μ' : Mem} (hf : f = some (r, μ')) : CM l y (.code y cc maxL ret) d mc D cI cR ad shf N av μ (ov r) μ' := by
  intro sz
  refine met_ofWF (cc := cc) (maxL := maxL) (ret := ret) hy rfl ?_
  intro p e s m args below meth c s₁ B hml hv
  obtain ⟨rfl, hsz, hP, hK, hD0, hE0, hN0, hS0⟩ := hv
  have hts := atoms_spec (ws := .code y cc maxL ret :: Z_W) B.pre
  have ho : s.vm.findClass own = some m.cls := hown ▸ findClass_of_methodNamed B.named
  subst hsz
  have hD : ∀ μ9, va_D (aA ad N s.heap.size) (wo cI cR ad shf N μ9) := fun μ9 => wo_D hD0 (fun k hk => Or.inl ⟨k, hk, rfl⟩)
  have hl := lv_entry av (n := maxL) hlen
  rw [lg_entry_eq]
  generalize (lg_sl av ++ List.replicate (maxL - (lg_sl av).length) Slot.unset).toArray = ls at hl ⊢
  exact body p e s m below meth c (aA ad N s.heap.size) ⟨B.exec, B.bytes, hml, ho, fun w hw => hts w (List.mem_cons_of_mem _ hw), hK, hD, fun q h => Or.inr h, B.notSynchronized, hE0⟩ ⟨hl9, hN0, hS0⟩ B.returns r μ' hf s.heap [] ls hP va_S.rf
    ⟨hl.1, hl.2.1, fun i v h => hl.2.2 (i, v) (by have h2 := lo0_args av maxL 0 i v h; rwa [Nat.zero_add] at h2)⟩
/-- the same of one with handlers -/
theorem cm_ofH {y : MethodName} {maxL d mc : Nat} {hh : List (Nat × Nat × Nat × Nat)} {av : List Value} {ov : α → Option Value} {f : Option (α × Mem)} (hl9 : l.stackTraces = false) (hy : plainName y.cls = true) (hown : y.cls = own) (hlen : (lg_sl av).length ≤ maxL)
    (body : ∀ (p : Program) (e : Env) (s : State) (m : MethodId) (below : List Frame) (meth : Method) (c : Code) (A0 : Nat → Prop), EV p s m av.toArray meth c cc maxL own D cI cR ad shf N A0 → EM9 l s A0 → c.exceptionTable.toList = tableOf hh → meth.sig.returnType = some .int →
      LL p l e (RX d mc) s m av.toArray below meth c maxL D cI cR ad shf N A0 (fun r μ' => KM below av.toArray s D cI cR ad shf N A0 mc (ov r) μ') f 0 (6 * 0) 0 (lo0 av maxL) [] μ)
    {r : α} {μ' : Mem} (hf : f = some (r, μ')) : CM l y (.codeWith y cc maxL (some .int) hh) d mc D cI cR ad shf N av μ (ov r) μ' := by
  intro sz
  refine va_MetW (cc := cc) (maxL := maxL) (ret := some .int) (hh := hh) hy rfl ?_
  intro p e s m args below meth c s₁ B hml hv
  obtain ⟨rfl, hsz, hP, hK, hD0, hE0, hN0, hS0⟩ := hv
  have hts := atoms_spec (ws := .codeWith y cc maxL (some .int) hh :: Z_W) B.pre
  have ho : s.vm.findClass own = some m.cls := hown ▸ findClass_of_methodNamed B.named
  have htab := vx_table (x := y) B (hts _ List.mem_cons_self)
  subst hsz
  have hD : ∀ μ9, va_D (aA ad N s.heap.size) (wo cI cR ad shf N μ9) := fun μ9 => wo_D hD0 (fun k hk => Or.inl ⟨k, hk, rfl⟩)
  have hl := lv_entry av (n := maxL) hlen
  rw [lg_entry_eq]
  generalize (lg_sl av ++ List.replicate (maxL - (lg_sl av).length) Slot.unset).toArray = ls at hl ⊢
  exact body p e s m below meth c (aA ad N s.heap.size) ⟨B.exec, B.bytes, hml, ho, fun w hw => hts w (List.mem_cons_of_mem _ hw), hK, hD, fun q h => Or.inr h, B.notSynchronized, hE0⟩ ⟨hl9, hN0, hS0⟩ htab B.returns r μ' hf s.heap [] ls hP va_S.rf
    ⟨hl.1, hl.2.1, fun i v h => hl.2.2 (i, v) (by have h2 := lo0_args av maxL 0 i v h; rwa [Nat.zero_add] at h2)⟩
/-! its ends -/
section ENDS
variable {ad0 : Nat → Nat} {shf0 : Nat → Shp} {N0 : Nat} {mc : Nat}
theorem ll_mireturn (E : EV p s m args meth c cc nL own D cI cR ad shf N A0) {r : Int32} (hr : meth.sig.returnType = some .int) (hw : ∀ H, va_P D vwCl (wo cI cR ad shf N μ) H → va_P D vwCl (wo cI cR ad0 shf0 N0 μ) H) (hd : decode cc pc = .ok (.ireturn, 1)) (hc : cl ≤ mc) : LL p l e R s m args below meth c nL D cI cR ad shf N A0 (fun (r : Int32) μ' => KM below args s D cI cR ad0 shf0 N0 A0 mc (some (.int r)) μ') (some (r, μ)) cl (6 * cl) pc lo [.int r] μ :=
  ll_some (fun H locs ls hP hS hL => W.widen hc (Nat.mul_le_mul_left 6 hc) (W.iret E.1 E.2.1 hr (fun t ht hW => ⟨rfl, by rw [ht]; exact hw H hP, va_K.moved hW.alike E.2.2.2.2.2.1, hS.F ht⟩) hS.2.2 hd E.2.2.2.2.2.2.2.2.1))
theorem ll_mlreturn (E : EV p s m args meth c cc nL own D cI cR ad shf N A0) {r : Int64} (hr : meth.sig.returnType = some .long) (hw : ∀ H, va_P D vwCl (wo cI cR ad shf N μ) H → va_P D vwCl (wo cI cR ad0 shf0 N0 μ) H) (hd : decode cc pc = .ok (.lreturn, 1)) (hc : cl ≤ mc) : LL p l e R s m args below meth c nL D cI cR ad shf N A0 (fun (r : Int64) μ' => KM below args s D cI cR ad0 shf0 N0 A0 mc (some (.long r)) μ') (some (r, μ)) cl (6 * cl) pc lo [.long r] μ :=
  ll_some (fun H locs ls hP hS hL => W.widen hc (Nat.mul_le_mul_left 6 hc) (W.lret E.1 E.2.1 hr (fun t ht hW => ⟨rfl, by rw [ht]; exact hw H hP, va_K.moved hW.alike E.2.2.2.2.2.1, hS.F ht⟩) hS.2.2 hd E.2.2.2.2.2.2.2.2.1))
theorem ll_mzreturn (E : EV p s m args meth c cc nL own D cI cR ad shf N A0) {r : Int32} (hr : meth.sig.returnType = some .boolean) (hw : ∀ H, va_P D vwCl (wo cI cR ad shf N μ) H → va_P D vwCl (wo cI cR ad0 shf0 N0 μ) H) (hz : narrow .boolean (.int r) = .int r) (hd : decode cc pc = .ok (.ireturn, 1)) (hc : cl ≤ mc) : LL p l e R s m args below meth c nL D cI cR ad shf N A0 (fun (r : Int32) μ' => KM below args s D cI cR ad0 shf0 N0 A0 mc (some (.int r)) μ') (some (r, μ)) cl (6 * cl) pc lo [.int r] μ :=
  ll_some (fun H locs ls hP hS hL => W.widen hc (Nat.mul_le_mul_left 6 hc) (W.zret E.1 E.2.1 hr hz (fun t ht hW => ⟨rfl, by rw [ht]; exact hw H hP, va_K.moved hW.alike E.2.2.2.2.2.1, hS.F ht⟩) hS.2.2 hd E.2.2.2.2.2.2.2.2.1))
theorem ll_mzret (E : EV p s m args meth c cc nL own D cI cR ad shf N A0) {r : Int32} (hr : meth.sig.returnType = some .boolean) (hw : ∀ H, va_P D vwCl (wo cI cR ad shf N μ) H → va_P D vwCl (wo cI cR ad0 shf0 N0 μ) H) (hd : decode cc pc = .ok (.ireturn, 1)) (hc : cl ≤ mc) : LL p l e R s m args below meth c nL D cI cR ad shf N A0 (fun (r : Int32) μ' => KM below args s D cI cR ad0 shf0 N0 A0 mc (some (.int r)) μ') (zret r μ) cl (6 * cl) pc lo [.int r] μ := by
  by_cases h : r = 0 ∨ r = 1
  · rw [zret, if_pos h]
    exact ll_mzreturn E hr hw (by rcases h with rfl | rfl <;> rfl) hd hc
  · rw [zret, if_neg h]
    exact ll_none
end ENDS
/-! calls -/
/-- a call's answer handed on, where it throws none -/
def bz {β γ : Type} (o : Option ((β ⊕ Nat) × Mem)) (f : β → Mem → Option γ) : Option γ := match o with
  | some (.inl r, μ) => f r μ
  | some (.inr _, _) => none
  | none => none
/-- a call's answer handed on, and its exception -/
def bc {β γ : Type} (o : Option ((β ⊕ Nat) × Mem)) (f : β → Mem → Option γ) (g : Nat → Mem → Option γ) : Option γ := match o with
  | some (.inl r, μ) => f r μ
  | some (.inr k, μ) => g k μ
  | none => none
theorem aA_in (E : EV p s m args meth c cc nL own D cI cR ad shf N A0) {H : Heap} {locs : List Loc} (hS : va_S A0 s.heap H locs) : ∀ q, aA ad N H.size q → A0 q := by
  rintro q (⟨k9, h1, rfl⟩ | h1)
  · exact (E.2.2.2.2.2.2.1 (fun _ _ => 0)).2 k9 _ (wo_get h1)
  · exact E.2.2.2.2.2.2.2.1 q (Nat.le_trans hS.1 h1)
theorem ll_prey (E : EV p s m args meth c cc nL own D cI cR ad shf N A0) (X : EM9 l s A0) {H : Heap} {locs : List Loc} {As : List Value} (hP : va_P D vwCl (wo cI cR ad shf N μ) H) (hS : va_S A0 s.heap H locs) : PreS s H (PCx D cI cR ad shf N As μ H.size) As :=
  ⟨PCx_blind, fun U hU hW => ⟨rfl, by rw [hU], by rw [hU]; exact hP, va_K.moved hW.alike E.2.2.2.2.2.1, (E.2.2.2.2.2.2.1 μ).weaken (fun _ _ _ _ => trivial), EXn.warm hW E.2.2.2.2.2.2.2.2.2, by
    rw [hU]
    exact STT.moved hW.alike ((X.2.2.kept hS.2.1).narrow (aA_in E hS))⟩⟩
theorem ll_prem (E : EV p s m args meth c cc nL own D cI cR ad shf N A0) (X : EM9 l s A0) {H : Heap} {locs : List Loc} {As : List Value} (hP : va_P D vwCl (wo cI cR ad shf N μ) H) (hS : va_S A0 s.heap H locs) : PreS s H (PCm D cI cR ad shf N As μ H.size) As :=
  ⟨PCm_blind, fun U hU hW => ⟨rfl, by rw [hU], by rw [hU]; exact hP, va_K.moved hW.alike E.2.2.2.2.2.1, (E.2.2.2.2.2.2.1 μ).weaken (fun _ _ _ _ => trivial), EXn.warm hW E.2.2.2.2.2.2.2.2.2, NCn.moved hW.alike X.2.1, by
    rw [hU]
    exact STT.moved hW.alike ((X.2.2.kept hS.2.1).narrow (aA_in E hS))⟩⟩
/-- a method of the class's that may throw, called where it answers -/
theorem ll_ycallV (E : EV p s m args meth c cc nL own D cI cR ad shf N A0) (X : EM9 l s A0) {y : MethodName} {cy : ByteArray} {maxL d idx n mc1 ci o9 : Nat} {ret : Option FieldType} {ov : β → Option Value} {f : Option ((β ⊕ Nat) × Mem)} {t9 : β → Mem → Option (α × Mem)} (As rest : List Value) {st0 : List Value} (hd : decode cc pc = .ok (.invokevirtual idx, 3)) (hM : MLV own idx y cy maxL ret n)
    (hC : ∀ {r : β ⊕ Nat} {μ1 : Mem}, f = some (r, μ1) → CX l y cy maxL ret d mc1 D cI cR ad shf N (.ref (ad o9) :: As) μ (r.elim (fun r => .inl (ov r)) .inr) μ1) (ho : o9 < N) (hso : (shf o9).1 = ci + 2) (hci : (vwCl[ci]?).map (fun q => q.1) = some y.cls) (hst : st0 = As.reverse ++ .ref (ad o9) :: rest) (hn : As.length = n) (hcat : (rest.map fun v => v.category).sum ≤ 8) (hR : d + 1 ≤ R.frames ∧ 38 * (d + 1) ≤ R.locals) (hRc : cl + mc1 ≤ R.cells ∧ 6 * cl + 6 * mc1 ≤ R.slots)
    (k : ∀ r μ1, LL p l e R s m args below meth c nL D cI cR ad shf N A0 KQ (t9 r μ1) (cl + mc1) (6 * (cl + mc1)) (pc + 3) lo ((ov r).toList ++ rest) μ1) : LL p l e R s m args below meth c nL D cI cR ad shf N A0 KQ (bz f t9) cl (6 * cl) pc lo st0 μ := by
  intro r μ' h H locs ls hP hS hL
  cases hf : f with
  | none => rw [hf] at h; cases h
  | some x =>
    obtain ⟨r1, μ1⟩ := x
    rw [hf] at h
    have hg := wo_get (cI := cI) (cR := cR) (ad := ad) (shf := shf) (μ := μ) ho
    rw [cont_o hso] at hg
    cases hcl9 : vwCl[ci]? with
    | none => rw [hcl9] at hci; cases hci
    | some qc =>
      rw [hcl9] at hci
      have hrec := va_recv E.2.2.2.2.2.1 hP hcl9 hg
      rw [show qc.1 = y.cls from Option.some.inj hci] at hrec
      have hpre := ll_prey E X (As := .ref (ad o9) :: As) hP hS
      refine ll_backX (ovc := fun (_ : Unit) => .inr 0) (K9 := fun _ _ _ => True) E (vx_runV (Ts := Z_W) (C := y.cls) ⟨E.1, E.2.1, E.2.2.1, E.2.2.2.1, E.2.2.2.2.1⟩ (hC hf H.size) (mlv_cwx hM E.2.2.2.2.1 hR) ⟨hpre.1, hrec, hpre.2⟩ rfl hn hL.1 hst (lv_room hcat) hd hRc) hS (fun v hv H1 locs1 hP1 hS1 => ?_) (fun k9 hk4 hk9 H1 locs1 q ce hP1 hS1 hce hcv hcl => ?_)
      · cases r1 with
        | inl r1 =>
          cases hv
          have h8 := k r1 μ1 r μ' h H1 locs1 ls hP1 hS1 hL
          rw [Nat.mul_add] at h8
          exact h8
        | inr k1 => cases hv
      · cases r1 with
        | inl r1 => cases hk9
        | inr k1 => cases h
theorem ll_ycallVi (E : EV p s m args meth c cc nL own D cI cR ad shf N A0) (X : EM9 l s A0) {y : MethodName} {cy : ByteArray} {maxL d idx n mc1 ci o9 : Nat} {ret : Option FieldType} {f : Option ((Int32 ⊕ Nat) × Mem)} {t9 : Int32 → Mem → Option (α × Mem)} (As rest : List Value) {st0 : List Value} (hd : decode cc pc = .ok (.invokevirtual idx, 3)) (hM : MLV own idx y cy maxL ret n)
    (hC : ∀ {r : Int32 ⊕ Nat} {μ1 : Mem}, f = some (r, μ1) → CX l y cy maxL ret d mc1 D cI cR ad shf N (.ref (ad o9) :: As) μ (r.elim (fun r => .inl (some (.int r))) .inr) μ1) (ho : o9 < N) (hso : (shf o9).1 = ci + 2) (hci : (vwCl[ci]?).map (fun q => q.1) = some y.cls) (hst : st0 = As.reverse ++ .ref (ad o9) :: rest) (hn : As.length = n) (hcat : (rest.map fun v => v.category).sum ≤ 8) (hR : d + 1 ≤ R.frames ∧ 38 * (d + 1) ≤ R.locals) (hRc : cl + mc1 ≤ R.cells ∧ 6 * cl + 6 * mc1 ≤ R.slots)
    (k : ∀ r μ1, LL p l e R s m args below meth c nL D cI cR ad shf N A0 KQ (t9 r μ1) (cl + mc1) (6 * (cl + mc1)) (pc + 3) lo (.int r :: rest) μ1) : LL p l e R s m args below meth c nL D cI cR ad shf N A0 KQ (bz f t9) cl (6 * cl) pc lo st0 μ := ll_ycallV E X (ov := fun r => some (.int r)) As rest hd hM hC ho hso hci hst hn hcat hR hRc k
/-- a method of the class's that may throw and answers an int, called by one that hands its exceptions out -/
theorem ll_xcallVi {γ : Type} {ovg : γ → Option Value} (E : EV p s m args meth c cc nL own D cI cR ad shf N A0) (X : EX9 l s c A0) {y : MethodName} {cy : ByteArray} {maxL d idx n mc1 mc ci o9 : Nat} {ret : Option FieldType} {f : Option ((Int32 ⊕ Nat) × Mem)} {t9 : Int32 → Mem → Option ((γ ⊕ Nat) × Mem)} (As rest : List Value) {st0 : List Value} (hd : decode cc pc = .ok (.invokevirtual idx, 3)) (hM : MLV own idx y cy maxL ret n)
    (hC : ∀ {r : Int32 ⊕ Nat} {μ1 : Mem}, f = some (r, μ1) → CX l y cy maxL ret d mc1 D cI cR ad shf N (.ref (ad o9) :: As) μ (r.elim (fun r => .inl (some (.int r))) .inr) μ1) (ho : o9 < N) (hso : (shf o9).1 = ci + 2) (hci : (vwCl[ci]?).map (fun q => q.1) = some y.cls) (hst : st0 = As.reverse ++ .ref (ad o9) :: rest) (hn : As.length = n) (hcat : (rest.map fun v => v.category).sum ≤ 8) (hR : d + 1 ≤ R.frames ∧ 38 * (d + 1) ≤ R.locals) (hc : cl + mc1 ≤ mc ∧ sl + 6 * mc1 ≤ 6 * mc) (hRc : mc ≤ R.cells ∧ 6 * mc ≤ R.slots)
    (k : ∀ r μ1, LL p l e R s m args below meth c nL D cI cR ad shf N A0 (fun (r : γ ⊕ Nat) μ' => KX below args s D cI cR ad shf N A0 mc (r.elim (fun r => .inl (ovg r)) .inr) μ') (t9 r μ1) (cl + mc1) (sl + 6 * mc1) (pc + 3) lo (.int r :: rest) μ1) : LL p l e R s m args below meth c nL D cI cR ad shf N A0 (fun (r : γ ⊕ Nat) μ' => KX below args s D cI cR ad shf N A0 mc (r.elim (fun r => .inl (ovg r)) .inr) μ') (bx f t9) cl sl pc lo st0 μ := ll_xcallV E X (ov := fun r => some (.int r)) As rest hd hM hC ho hso hci hst hn hcat hR hc hRc k
/-- behind a call of a method of the law's -/
theorem ll_backM (E : EV p s m args meth c cc nL own D cI cR ad shf N A0) {ad1 : Nat → Nat} {shf1 : Nat → Shp} {N1 : Nat} {H : Heap} {locs : List Loc} {ls : Array Slot} {v : Option Value} {μ1 : Mem} {st0 rest : List Value} {av : Array Value} {Q : State → Prop} {mc1 : Nat} (hA : ∀ q, aA ad1 N1 H.size q → A0 q)
    (hr : va_Run p l e R s m args below meth c H locs cl (6 * cl) mc1 (6 * mc1) (F0 m pc ls st0) rest (QG D cI cR ad1 shf1 N1 (aA ad1 N1 H.size) μ1 v av) (aA ad1 N1 H.size)) (hS : va_S A0 s.heap H locs)
    (k : ∀ (H1 : Heap) (locs1 : List Loc), va_P D vwCl (wo cI cR ad1 shf1 N1 μ1) H1 → H.size ≤ H1.size → (∀ q : Nat, q < H.size → ¬ aA ad1 N1 H.size q → H1[q]? = H[q]?) → va_S A0 s.heap H1 locs1 → W p l e R s m args below meth c H1 locs1 (cl + mc1) (6 * cl + 6 * mc1) Q (F0 m (pc + 3) ls (v.toList ++ rest))) : W p l e R s m args below meth c H locs cl (6 * cl) Q (F0 m pc ls st0) := by
  intro T hT X
  obtain ⟨v', st₀, t, T', L, h0, X', hL, e1, e2, ⟨hv, hP1, hK1, hz, hk⟩, stp⟩ := hr T hT X
  cases hv
  rw [h0] at hz hk
  obtain ⟨t2, a1, b1⟩ := k T'.heap (locs ++ L) (by rw [e1]; exact hP1) (by rw [e1]; exact hz) (fun q h1 h2 => by rw [e1]; exact hk q h1 h2)
    ⟨Nat.le_trans hS.1 (by rw [e1]; exact hz), fun q h1 h2 => by rw [e1, hk q (Nat.lt_of_lt_of_le h1 hS.1) (fun z => h2 (hA q z))]; exact hS.2.1 q h1 h2, fun q hq => by
      rcases List.mem_append.mp hq with h | h
      · exact hS.2.2 q h
      · exact hA _ (hL q h)⟩ T' rfl X'
  exact ⟨t2, stp t2 a1, b1⟩
theorem mls_cwm {idx : Nat} {y : MethodName} {cy : ByteArray} {maxL : Nat} {ret : Option FieldType} {n d mc : Nat} (h : MLS own idx y cy maxL ret n) (hts : ∀ w ∈ Z_W, w.before args s = true) (hR : d + 1 ≤ R.frames ∧ 38 * (d + 1) ≤ R.locals) :
    CallB R s args own idx y cy maxL ret (.code y cy maxL ret :: Z_W) (RX d mc) mc (6 * mc) n ∧ (Cond.static y).before args s = true := by
  obtain ⟨h1, h2, h4, h5, h6, h7⟩ := h
  refine ⟨callB_of n hts (gi_code h5) rfl rfl rfl (hts _ h4) (hts _ h1) h6 ⟨hR.1, ?_⟩, hts _ h2⟩
  have h8 := hR.2
  show 8 + (maxL + 11) + 38 * d ≤ R.locals
  omega
/-- the words of a call of a method with handlers -/
def MLH (own : String) (idx : Nat) (y : MethodName) (cy : ByteArray) (maxL : Nat) (hh : List (Nat × Nat × Nat × Nat)) (n : Nat) : Prop :=
  Cond.methodLink own idx y ∈ Z_W ∧ Cond.static y ∈ Z_W ∧ Cond.initialized y.cls ∈ Z_W ∧ Cond.codeWith y cy maxL (some .int) hh ∈ Z_W ∧ (y.cls ≠ "java/lang/invoke/MethodHandle" ∧ y.cls ≠ "java/lang/invoke/VarHandle" ∧ (parseMethodDescriptor y.desc).map (fun d => d.parameters.length) = some n) ∧ maxL ≤ 19
theorem ll_mcallS (E : EV p s m args meth c cc nL own D cI cR ad shf N A0) (X : EM9 l s A0) {y : MethodName} {cy : ByteArray} {maxL d idx n mc1 : Nat} {ret : Option FieldType} {ov : β → Option Value} {f : Option (β × Mem)} {t9 : β → Mem → Option (α × Mem)} (As rest : List Value) {st0 : List Value} (hd : decode cc pc = .ok (.invokestatic idx, 3)) (hM : MLS own idx y cy maxL ret n)
    (hC : ∀ {r : β} {μ1 : Mem}, f = some (r, μ1) → CM l y (.code y cy maxL ret) d mc1 D cI cR ad shf N As μ (ov r) μ1) (hst : st0 = As.reverse ++ rest) (hn : As.length = n) (hcat : (rest.map fun v => v.category).sum ≤ 8) (hR : d + 1 ≤ R.frames ∧ 38 * (d + 1) ≤ R.locals) (hRc : cl + mc1 ≤ R.cells ∧ 6 * cl + 6 * mc1 ≤ R.slots)
    (k : ∀ r μ1, LL p l e R s m args below meth c nL D cI cR ad shf N A0 KQ (t9 r μ1) (cl + mc1) (6 * (cl + mc1)) (pc + 3) lo ((ov r).toList ++ rest) μ1) : LL p l e R s m args below meth c nL D cI cR ad shf N A0 KQ (bd f t9) cl (6 * cl) pc lo st0 μ := by
  intro r μ' h H locs ls hP hS hL
  cases hf : f with
  | none => rw [hf] at h; cases h
  | some x =>
    obtain ⟨r1, μ1⟩ := x
    rw [hf] at h
    exact ll_backM E (aA_in E hS) (va_runS (Ts := Z_W) ⟨E.1, E.2.1, E.2.2.1, E.2.2.2.1, E.2.2.2.2.1⟩ (hC hf H.size) (mls_cwm hM E.2.2.2.2.1 hR) (ll_prem E X hP hS) rfl hn hL.1 hst (lv_room hcat) hd hRc) hS (fun H1 locs1 hP1 _ _ hS1 => by
      have h8 := k r1 μ1 r μ' h H1 locs1 ls hP1 hS1 hL
      rw [Nat.mul_add] at h8
      exact h8)
theorem ll_mcallSi (E : EV p s m args meth c cc nL own D cI cR ad shf N A0) (X : EM9 l s A0) {y : MethodName} {cy : ByteArray} {maxL d idx n mc1 : Nat} {ret : Option FieldType} {f : Option (Int32 × Mem)} {t9 : Int32 → Mem → Option (α × Mem)} (As rest : List Value) {st0 : List Value} (hd : decode cc pc = .ok (.invokestatic idx, 3)) (hM : MLS own idx y cy maxL ret n)
    (hC : ∀ {r : Int32} {μ1 : Mem}, f = some (r, μ1) → CM l y (.code y cy maxL ret) d mc1 D cI cR ad shf N As μ (some (.int r)) μ1) (hst : st0 = As.reverse ++ rest) (hn : As.length = n) (hcat : (rest.map fun v => v.category).sum ≤ 8) (hR : d + 1 ≤ R.frames ∧ 38 * (d + 1) ≤ R.locals) (hRc : cl + mc1 ≤ R.cells ∧ 6 * cl + 6 * mc1 ≤ R.slots)
    (k : ∀ r μ1, LL p l e R s m args below meth c nL D cI cR ad shf N A0 KQ (t9 r μ1) (cl + mc1) (6 * (cl + mc1)) (pc + 3) lo (.int r :: rest) μ1) : LL p l e R s m args below meth c nL D cI cR ad shf N A0 KQ (bd f t9) cl (6 * cl) pc lo st0 μ := ll_mcallS E X (ov := fun r => some (.int r)) As rest hd hM hC hst hn hcat hR hRc k
theorem ll_mcallSj (E : EV p s m args meth c cc nL own D cI cR ad shf N A0) (X : EM9 l s A0) {y : MethodName} {cy : ByteArray} {maxL d idx n mc1 : Nat} {ret : Option FieldType} {f : Option (Int64 × Mem)} {t9 : Int64 → Mem → Option (α × Mem)} (As rest : List Value) {st0 : List Value} (hd : decode cc pc = .ok (.invokestatic idx, 3)) (hM : MLS own idx y cy maxL ret n)
    (hC : ∀ {r : Int64} {μ1 : Mem}, f = some (r, μ1) → CM l y (.code y cy maxL ret) d mc1 D cI cR ad shf N As μ (some (.long r)) μ1) (hst : st0 = As.reverse ++ rest) (hn : As.length = n) (hcat : (rest.map fun v => v.category).sum ≤ 8) (hR : d + 1 ≤ R.frames ∧ 38 * (d + 1) ≤ R.locals) (hRc : cl + mc1 ≤ R.cells ∧ 6 * cl + 6 * mc1 ≤ R.slots)
    (k : ∀ r μ1, LL p l e R s m args below meth c nL D cI cR ad shf N A0 KQ (t9 r μ1) (cl + mc1) (6 * (cl + mc1)) (pc + 3) lo (.long r :: rest) μ1) : LL p l e R s m args below meth c nL D cI cR ad shf N A0 KQ (bd f t9) cl (6 * cl) pc lo st0 μ := ll_mcallS E X (ov := fun r => some (.long r)) As rest hd hM hC hst hn hcat hR hRc k
/-- the law's call, which has handlers -/
theorem ll_mcallH (E : EV p s m args meth c cc nL own D cI cR ad shf N A0) (X : EM9 l s A0) {y : MethodName} {cy : ByteArray} {maxL d idx n mc1 : Nat} {hh : List (Nat × Nat × Nat × Nat)} {f : Option (Int32 × Mem)} {t9 : Int32 → Mem → Option (α × Mem)} (As rest : List Value) {st0 : List Value} (hd : decode cc pc = .ok (.invokestatic idx, 3)) (hM : MLH own idx y cy maxL hh n)
    (hC : ∀ {r : Int32} {μ1 : Mem}, f = some (r, μ1) → CM l y (.codeWith y cy maxL (some .int) hh) d mc1 D cI cR ad shf N As μ (some (.int r)) μ1) (hst : st0 = As.reverse ++ rest) (hn : As.length = n) (hcat : (rest.map fun v => v.category).sum ≤ 8) (hR : d + 1 ≤ R.frames ∧ 38 * (d + 1) ≤ R.locals) (hRc : cl + mc1 ≤ R.cells ∧ 6 * cl + 6 * mc1 ≤ R.slots)
    (k : ∀ r μ1, LL p l e R s m args below meth c nL D cI cR ad shf N A0 KQ (t9 r μ1) (cl + mc1) (6 * (cl + mc1)) (pc + 3) lo (.int r :: rest) μ1) : LL p l e R s m args below meth c nL D cI cR ad shf N A0 KQ (bd f t9) cl (6 * cl) pc lo st0 μ := by
  intro r μ' h H locs ls hP hS hL
  cases hf : f with
  | none => rw [hf] at h; cases h
  | some x =>
    obtain ⟨r1, μ1⟩ := x
    rw [hf] at h
    obtain ⟨m1, m2, m3, m4, m5, m6⟩ := hM
    have hgi : GoodIn Z_W (va_wsS own idx y (.codeWith y cy maxL (some .int) hh :: Z_W)) := zw_goodc (fun w hw => by
      simp only [va_wsS, List.mem_append, List.mem_cons, List.not_mem_nil, or_false] at hw
      rcases hw with (rfl | rfl | rfl) | rfl | h
      all_goals assumption)
    have h8 := hR.2
    exact ll_backM E (aA_in E hS) (vx_runSW (locs := locs) (cells := cl) (slots := 6 * cl) (R := R) (Ts := Z_W) ⟨E.1, E.2.1, E.2.2.1, E.2.2.2.1, E.2.2.2.2.1⟩ (hC hf H.size) (vx_cwSW n E.2.2.2.2.1 hgi rfl rfl rfl m5 ⟨hR.1, show 8 + (maxL + 11) + 38 * d ≤ R.locals by omega⟩) (ll_prem E X hP hS) (g := F0 m pc ls st0) rfl hn hL.1 hst (lv_room hcat) hd hRc) hS (fun H1 locs1 hP1 _ _ hS1 => by
      have h8 := k r1 μ1 r μ' h H1 locs1 ls hP1 hS1 hL
      rw [Nat.mul_add] at h8
      exact h8)
/-- a method of the law's that makes its own objects -/
theorem ll_mcall0 (E : EV p s m args meth c cc nL own D cI cR ad shf N A0) (X : EM9 l s A0) {y : MethodName} {cy : ByteArray} {maxL d idx mc1 : Nat} {ret : Option FieldType} {f : Option (Int32 × Mem)} {μd : Mem} {t9 : Int32 → Option (α × Mem)} (rest : List Value) {st0 : List Value} (hd : decode cc pc = .ok (.invokestatic idx, 3)) (hM : MLS own idx y cy maxL ret 0)
    (hC : ∀ {r : Int32} {μ1 : Mem}, f = some (r, μ1) → CM l y (.code y cy maxL ret) d mc1 D cI cR (fun _ => 0) shX 0 [] μd (some (.int r)) μ1) (hst : st0 = rest) (hcat : (rest.map fun v => v.category).sum ≤ 8) (hR : d + 1 ≤ R.frames ∧ 38 * (d + 1) ≤ R.locals) (hRc : cl + mc1 ≤ R.cells ∧ 6 * cl + 6 * mc1 ≤ R.slots)
    (k : ∀ r, LL p l e R s m args below meth c nL D cI cR ad shf N A0 KQ (t9 r) (cl + mc1) (6 * (cl + mc1)) (pc + 3) lo (.int r :: rest) μ) : LL p l e R s m args below meth c nL D cI cR ad shf N A0 KQ (bd f fun r _ => t9 r) cl (6 * cl) pc lo st0 μ := by
  intro r μ' h H locs ls hP hS hL
  cases hf : f with
  | none => rw [hf] at h; cases h
  | some x =>
    obtain ⟨r1, μ1⟩ := x
    rw [hf] at h
    have hA : ∀ q, aA (fun _ => 0) 0 H.size q → A0 q := by
      rintro q (⟨k9, h1, rfl⟩ | h1)
      · omega
      · exact E.2.2.2.2.2.2.2.1 q (Nat.le_trans hS.1 h1)
    have hpre : PreS s H (PCm D cI cR (fun _ => 0) shX 0 [] μd H.size) [] := ⟨PCm_blind, fun U hU hW => ⟨rfl, by rw [hU], wp0, va_K.moved hW.alike E.2.2.2.2.2.1, ⟨fun i j p q h => by simp [wo] at h, fun k q h => by simp [wo] at h⟩, EXn.warm hW E.2.2.2.2.2.2.2.2.2, NCn.moved hW.alike X.2.1, by
      rw [hU]
      exact STT.moved hW.alike ((X.2.2.kept hS.2.1).narrow hA)⟩⟩
    exact ll_backM E hA (va_runS (Ts := Z_W) (As := []) ⟨E.1, E.2.1, E.2.2.1, E.2.2.2.1, E.2.2.2.2.1⟩ (hC hf H.size) (mls_cwm hM E.2.2.2.2.1 hR) hpre rfl rfl hL.1 hst (lv_room hcat) hd hRc) hS (fun H1 locs1 _ hz hk hS1 => by
      have h8 := k r1 r μ' h H1 locs1 ls (hP.kept (fun i q hq => hk q.1 (hP i q hq).lt (by
        rintro (⟨k9, h1, _⟩ | h1)
        · omega
        · exact absurd (hP i q hq).lt (by omega)))) hS1 hL
      rw [Nat.mul_add] at h8
      exact h8)
/-- the class links of the law's handlers -/
def hci (k : Nat) : Nat := if k = 1 then 22 else if k = 2 then 24 else 26
theorem ll_ccallS (E : EV p s m args meth c cc nL RL D cI cR ad shf N A0) (X : EM9 l s A0) (hxc : ∀ k, 1 ≤ k → k ≤ 3 → Cond.classLink RL (hci k) (xnm k) ∈ Z_W) (h1 h2 h3 e9 : Nat) (htab : c.exceptionTable.toList = tableOf [(0, e9, h1, 22), (0, e9, h2, 24), (0, e9, h3, 26)]) (he : pc < e9) {y : MethodName} {cy : ByteArray} {maxL d idx n mc1 : Nat} {ret : Option FieldType} {f : Option ((Int32 ⊕ Nat) × Mem)} {t9 : Int32 → Mem → Option (α × Mem)} {tx : Nat → Mem → Option (α × Mem)} (As rest : List Value) {st0 : List Value} (hd : decode cc pc = .ok (.invokestatic idx, 3)) (hM : MLS RL idx y cy maxL ret n)
    (hC : ∀ {r : Int32 ⊕ Nat} {μ1 : Mem}, f = some (r, μ1) → CX l y cy maxL ret d mc1 D cI cR ad shf N As μ (r.elim (fun r => .inl (some (.int r))) .inr) μ1) (hst : st0 = As.reverse ++ rest) (hn : As.length = n) (hcat : (rest.map fun v => v.category).sum ≤ 8) (hR : d + 1 ≤ R.frames ∧ 38 * (d + 1) ≤ R.locals) (hRc : cl + mc1 ≤ R.cells ∧ 6 * cl + 6 * mc1 ≤ R.slots)
    (hx1 : ∀ μ1 q9, LL p l e R s m args below meth c nL D cI cR ad shf N A0 KQ (tx 1 μ1) (cl + mc1) (6 * (cl + mc1)) h1 lo [.ref q9] μ1) (hx2 : ∀ μ1 q9, LL p l e R s m args below meth c nL D cI cR ad shf N A0 KQ (tx 2 μ1) (cl + mc1) (6 * (cl + mc1)) h2 lo [.ref q9] μ1) (hx3 : ∀ k μ1 q9, k ≠ 1 → k ≠ 2 → LL p l e R s m args below meth c nL D cI cR ad shf N A0 KQ (tx k μ1) (cl + mc1) (6 * (cl + mc1)) h3 lo [.ref q9] μ1)
    (k : ∀ r μ1, LL p l e R s m args below meth c nL D cI cR ad shf N A0 KQ (t9 r μ1) (cl + mc1) (6 * (cl + mc1)) (pc + 3) lo (.int r :: rest) μ1) : LL p l e R s m args below meth c nL D cI cR ad shf N A0 KQ (bc f t9 tx) cl (6 * cl) pc lo st0 μ := by
  intro r μ' h H locs ls hP hS hL
  cases hf : f with
  | none => rw [hf] at h; cases h
  | some x =>
    obtain ⟨r1, μ1⟩ := x
    rw [hf] at h
    refine ll_backX (ovc := fun (_ : Unit) => .inr 0) (K9 := fun _ _ _ => True) E (vx_runS (Ts := Z_W) ⟨E.1, E.2.1, E.2.2.1, E.2.2.2.1, E.2.2.2.2.1⟩ (hC hf H.size) (mls_cwx hM E.2.2.2.2.1 hR) (ll_prey E X hP hS) rfl hn hL.1 hst (lv_room hcat) hd hRc) hS (fun v hv H1 locs1 hP1 hS1 => ?_) (fun k9 hk4 hk9 H1 locs1 q ce hP1 hS1 hce hcv hcl => ?_)
    · cases r1 with
      | inl r1 =>
        cases hv
        have h8 := k r1 μ1 r μ' h H1 locs1 ls hP1 hS1 hL
        rw [Nat.mul_add] at h8
        exact h8
      | inr k1 => cases hv
    · cases r1 with
      | inl r1 => cases hk9
      | inr k1 =>
        cases hk9
        have key : ∀ (j hj : Nat) (pre suf : List (Nat × Nat)), 1 ≤ j → j ≤ 3 → xnm k9 = xnm j → [(h1, 1), (h2, 2), (h3, 3)] = pre ++ (hj, j) :: suf → (∀ z ∈ pre, 1 ≤ z.2 ∧ z.2 ≤ 3 ∧ z.2 ≠ j) → LL p l e R s m args below meth c nL D cI cR ad shf N A0 KQ (tx k9 μ1) (cl + mc1) (6 * (cl + mc1)) hj lo [.ref q] μ1 → vx_W p l e R s m args below meth c H1 locs1 (cl + mc1) (6 * cl + 6 * mc1) (KQ r μ') (F0 m pc ls rest) q := by
          intro j hj pre suf g1 g2 g3 g4 g5 g6
          have h8 := g6 r μ' h H1 locs1 ls hP1 hS1 hL
          rw [Nat.mul_add] at h8
          rw [g3] at hcl
          have hz : ∀ z : Nat × Nat, 1 ≤ z.2 → z.2 ≤ 3 → hci z.2 ≠ 0 := fun z _ _ => by
            unfold hci
            split
            · omega
            · split <;> omega
          refine vx_catch (own := RL) (name := xnm j) (E := xnm j) E.2.2.2.1 (tableOf (pre.map fun z => (0, e9, z.1, hci z.2))) ⟨0, e9, hj, hci j⟩ (tableOf (suf.map fun z => (0, e9, z.1, hci z.2))) ?_ ?_ ?_ ?_ (E.2.2.2.2.1 _ (hxc j g1 g2)) (va_Nw.use rfl (E.2.2.2.2.2.2.2.2.2.2.2.1 j (by omega))) hce hcv hcl h8
          · have e3 : [((0 : Nat), e9, h1, 22), (0, e9, h2, 24), (0, e9, h3, 26)] = ([(h1, 1), (h2, 2), (h3, 3)] : List (Nat × Nat)).map fun z => (0, e9, z.1, hci z.2) := rfl
            rw [htab, e3, g4]
            simp [tableOf]
          · intro z hz9
            obtain ⟨z1, hz1, rfl⟩ := List.mem_map.mp hz9
            obtain ⟨z2, hz2, rfl⟩ := List.mem_map.mp hz1
            obtain ⟨q1, q2, q3⟩ := g5 z2 hz2
            exact Or.inr ⟨hz z2 q1 q2, xnm z2.2, E.2.2.2.2.1 _ (hxc z2.2 q1 q2), X.2.1 j z2.2 g1 g2 q1 q2 (fun w => q3 w.symm)⟩
          · simp [covers, he]
          · exact hz (hj, j) g1 g2
        rcases (show k9 = 1 ∨ k9 = 2 ∨ k9 = 0 ∨ k9 = 3 by omega) with rfl | rfl | rfl | rfl
        · exact key 1 h1 [] [(h2, 2), (h3, 3)] (by omega) (by omega) rfl rfl (fun z hz => by cases hz) (hx1 μ1 q)
        · exact key 2 h2 [(h1, 1)] [(h3, 3)] (by omega) (by omega) rfl rfl (fun z hz => by
            simp only [List.mem_cons, List.not_mem_nil, or_false] at hz
            subst hz
            refine ⟨?_, ?_, ?_⟩ <;> simp) (hx2 μ1 q)
        · exact key 3 h3 [(h1, 1), (h2, 2)] [] (by omega) (by omega) rfl rfl (fun z hz => by
            simp only [List.mem_cons, List.not_mem_nil, or_false] at hz
            rcases hz with rfl | rfl <;> (refine ⟨?_, ?_, ?_⟩ <;> simp)) (hx3 0 μ1 q (by omega) (by omega))
        · exact key 3 h3 [(h1, 1), (h2, 2)] [] (by omega) (by omega) rfl rfl (fun z hz => by
            simp only [List.mem_cons, List.not_mem_nil, or_false] at hz
            rcases hz with rfl | rfl <;> (refine ⟨?_, ?_, ?_⟩ <;> simp)) (hx3 3 μ1 q (by omega) (by omega))
end LLM
/-! a new object of the class's -/
section LLN
variable {p : Program} {l : Launch} {e : Env} {R : Room} {s : State} {m : MethodId} {args : Array Value} {below : List Frame} {meth : Method} {c : Code} {cc : ByteArray} {nL : Nat} {D : va_G} {cI cR : ClassId} {ad : Nat → Nat} {shf : Nat → Shp} {N : Nat} {A0 : Nat → Prop}
variable {α : Type} {KQ : α → Mem → State → Prop} {t : Option (α × Mem)} {cl pc : Nat} {lo : List (Option Value)} {st : List Value} {μ : Mem}
theorem ll_newX (E : EV p s m args meth c cc nL RL D cI cR ad shf N A0) {i1 i2 : Nat} (w1 : Cond.classLink RL i1 RX8 ∈ Z_W) (w2 : Cond.instantiable RX8 16 ∈ Z_W) (w3 : Cond.initialized RX8 ∈ Z_W) (w4 : Cond.methodLink RL i2 yX8_init ∈ Z_W) (w5 : Cond.instanceMethod yX8_init ∈ Z_W) (w6 : Cond.code yX8_init cX8_init 1 none ∈ Z_W) (d0 : decode cc pc = .ok (.new i1, 3)) (d3 : decode cc (pc + 3) = .ok (.dup, 1)) (d4 : decode cc (pc + 4) = .ok (.invokespecial i2, 3)) (hcat : (st.map fun v => v.category).sum ≤ 7) (hR : 4 ≤ R.frames ∧ 152 ≤ R.locals) (hRc : cl + 760 ≤ R.cells ∧ 6 * cl + 6 * 760 ≤ R.slots)
    (k : ∀ ad1, EV p s m args meth c cc nL RL D cI cR ad1 shX NX A0 → LL p l e R s m args below meth c nL D cI cR ad1 shX NX A0 KQ t (cl + 760) (6 * (cl + 760)) (pc + 7) lo (.ref (ad1 0) :: st) μ0X) : LL p l e R s m args below meth c nL D cI cR ad shf N A0 KQ t cl (6 * cl) pc lo st μ := by
  intro r μ' h H locs ls hP hS hL
  have EC9 : EC p s m args meth c cc nL RL D cI cR A0 := ⟨E.1, E.2.1, E.2.2.1, E.2.2.2.1, E.2.2.2.2.1, E.2.2.2.2.2.1, E.2.2.2.2.2.2.2.1, E.2.2.2.2.2.2.2.2.1, E.2.2.2.2.2.2.2.2.2⟩
  have hP0 : va_P D vwCl [] H := fun k q h => by simp at h
  have hD0 : va_D A0 [] := ⟨fun i j p q h => by simp at h, fun k q h => by simp at h⟩
  suffices kk : LC p l e R s m args below meth c nL D A0 (KQ r μ') [] cl (6 * cl) pc lo st from kk H locs ls hP0 hD0 hS hL
  refine lc_new EC9 (ci := 8) (fs := [.null, .null, .null, .int 0, .null, .null, .int 0, .null, .null, .null, .int 0, .null, .null, .null, .null, .null]) d0 rfl uw_8 tyX8_ok w1 w2 w3 df_8 ⟨by omega, by omega⟩ (fun q1 => ?_)
  refine lc_dup EC9 (pc := pc + 3) d3 rfl ?_
  refine lc_call EC9 (wr := []) (pc := pc + 4) (d := 3) (mc := 100) (ms := 4543) d4 ctX8_init (Or.inl w4) w5 w3 w6 rfl ⟨by decide +kernel, by decide +kernel, by decide +kernel⟩ (by decide) (by simp only [List.map_cons, List.sum_cons]; show 1 + _ ≤ 8; omega) ⟨hR.1, hR.2⟩ ⟨by omega, by omega⟩ (fun aX haX => ?_)
  subst haX
  intro H1 locs1 ls1 hP1 hD1 hS1 hL1
  have E1 : EV p s m args meth c cc nL RL D cI cR aX shX NX A0 := ⟨E.1, E.2.1, E.2.2.1, E.2.2.2.1, E.2.2.2.2.1, E.2.2.2.2.2.1, fun μ9 => wo_D hD1 (fun k hk => hD1.2 k _ (wo_get hk)), E.2.2.2.2.2.2.2.1, E.2.2.2.2.2.2.2.2.1, E.2.2.2.2.2.2.2.2.2⟩
  exact W.widen (by omega) (by omega) (k aX E1 r μ' h H1 locs1 ls1 hP1 hS1 hL1)
end LLN
