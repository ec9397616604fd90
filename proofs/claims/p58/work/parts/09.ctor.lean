/-! THE CONSTRUCTORS: over rows of cells that grow -/
abbrev EC (p : Program) (s : State) (m : MethodId) (args : Array Value) (meth : Method) (c : Code) (cc : ByteArray) (nL : Nat) (own : String) (D : va_G) (cI cR : ClassId) (A0 : Nat → Prop) : Prop :=
  p.tables.exec = Jvm.exec ∧ c.code = cc ∧ c.maxLocals = nL ∧ s.vm.findClass own = some m.cls ∧ (∀ w ∈ Z_W, w.before args s = true) ∧ va_K D vwCl (tyC cI cR) s ∧ (∀ q, s.heap.size ≤ q → A0 q) ∧ meth.locks = false ∧ EXn s
def LC (p : Program) (l : Launch) (e : Env) (R : Room) (s : State) (m : MethodId) (args : Array Value) (below : List Frame) (meth : Method) (c : Code) (nL : Nat) (D : va_G) (A0 : Nat → Prop) (Q : State → Prop) (ws : va_W) (cl sl pc : Nat) (lo : List (Option Value)) (st : List Value) : Prop :=
  ∀ (H : Heap) (locs : List Loc) (ls : Array Slot), va_P D vwCl ws H → va_D A0 ws → va_S A0 s.heap H locs → lo_has ls nL lo → W p l e R s m args below meth c H locs cl sl Q (F0 m pc ls st)
section LCROWS
variable {p : Program} {l : Launch} {e : Env} {R : Room} {s : State} {m : MethodId} {args : Array Value} {below : List Frame} {meth : Method} {c : Code} {cc : ByteArray} {nL : Nat} {own : String} {D : va_G} {cI cR : ClassId} {A0 : Nat → Prop} {Q : State → Prop}
variable {cl sl pc : Nat} {lo lo' : List (Option Value)} {st : List Value} {ws ws' : va_W}

theorem lc_ws (h : ws = ws') (k : LC p l e R s m args below meth c nL D A0 Q ws' cl sl pc lo st) : LC p l e R s m args below meth c nL D A0 Q ws cl sl pc lo st := h ▸ k
theorem lc_dup (E : EC p s m args meth c cc nL own D cI cR A0) {v : Value} (hd : decode cc pc = .ok (.dup, 1)) (hv : v.category = 1) (k : LC p l e R s m args below meth c nL D A0 Q ws cl sl (pc + 1) lo (v :: v :: st)) : LC p l e R s m args below meth c nL D A0 Q ws cl sl pc lo (v :: st) :=
  fun H locs ls hP hD hS hL => lv_dup E.1 E.2.1 hd hv (k H locs ls hP hD hS hL)
theorem lc_iconst (E : EC p s m args meth c cc nL own D cI cR A0) {n : Int} {v : Int32} (hd : decode cc pc = .ok (.iconst n, 1)) (hv : Int32.ofInt n = v) (k : LC p l e R s m args below meth c nL D A0 Q ws cl sl (pc + 1) lo (.int v :: st)) : LC p l e R s m args below meth c nL D A0 Q ws cl sl pc lo (st) :=
  fun H locs ls hP hD hS hL => lv_iconst E.1 E.2.1 hd hv (k H locs ls hP hD hS hL)
theorem lc_bipush (E : EC p s m args meth c cc nL own D cI cR A0) {n : Int} {v : Int32} (hd : decode cc pc = .ok (.bipush n, 2)) (hv : (Int8.ofInt n).toInt32 = v) (k : LC p l e R s m args below meth c nL D A0 Q ws cl sl (pc + 2) lo (.int v :: st)) : LC p l e R s m args below meth c nL D A0 Q ws cl sl pc lo (st) :=
  fun H locs ls hP hD hS hL => lv_bipush E.1 E.2.1 hd hv (k H locs ls hP hD hS hL)
theorem lc_sipush (E : EC p s m args meth c cc nL own D cI cR A0) {n : Int} {v : Int32} (hd : decode cc pc = .ok (.sipush n, 3)) (hv : (Int16.ofInt n).toInt32 = v) (k : LC p l e R s m args below meth c nL D A0 Q ws cl sl (pc + 3) lo (.int v :: st)) : LC p l e R s m args below meth c nL D A0 Q ws cl sl pc lo (st) :=
  fun H locs ls hP hD hS hL => lv_sipush E.1 E.2.1 hd hv (k H locs ls hP hD hS hL)
theorem lc_iload_n (E : EC p s m args meth c cc nL own D cI cR A0) {i : Fin 4} {x : Int32} (hd : decode cc pc = .ok (.iload_n i, 1)) (hl : lg lo (i : Nat) = some (.int x)) (k : LC p l e R s m args below meth c nL D A0 Q ws cl sl (pc + 1) lo (.int x :: st)) : LC p l e R s m args below meth c nL D A0 Q ws cl sl pc lo st :=
  fun H locs ls hP hD hS hL => lv_iload_n E.1 E.2.1 hd rfl (hL.2.2 _ _ hl) (k H locs ls hP hD hS hL)
theorem lc_istore_n (E : EC p s m args meth c cc nL own D cI cR A0) {i : Fin 4} {x : Int32} (hd : decode cc pc = .ok (.istore_n i, 1)) (hn : (i : Nat) < nL) (hk : lk1 lo (i : Nat) = true) (hl : lst lo (i : Nat) (some (.int x)) = lo') (k : LC p l e R s m args below meth c nL D A0 Q ws cl sl (pc + 1) lo' st) : LC p l e R s m args below meth c nL D A0 Q ws cl sl pc lo (.int x :: st) :=
  fun H locs ls hP hD hS hL => lv_istore_n E.1 E.2.1 hd rfl (lo_lv hL) hn rfl (fun ls' h9 => k H locs ls' hP hD hS (hl ▸ lo_of_lv1 hL hk h9))
theorem lc_istore (E : EC p s m args meth c cc nL own D cI cR A0) {i : Nat} {x : Int32} (hd : decode cc pc = .ok (.istore i, 2)) (hn : i < nL) (hk : lk1 lo i = true) (hl : lst lo i (some (.int x)) = lo') (k : LC p l e R s m args below meth c nL D A0 Q ws cl sl (pc + 2) lo' st) : LC p l e R s m args below meth c nL D A0 Q ws cl sl pc lo (.int x :: st) :=
  fun H locs ls hP hD hS hL => lv_istore E.1 E.2.1 hd (lo_lv hL) hn rfl (fun ls' h9 => k H locs ls' hP hD hS (hl ▸ lo_of_lv1 hL hk h9))
theorem lc_aload_n (E : EC p s m args meth c cc nL own D cI cR A0) {i : Fin 4} {x : Nat} (hd : decode cc pc = .ok (.aload_n i, 1)) (hl : lg lo (i : Nat) = some (.ref x)) (k : LC p l e R s m args below meth c nL D A0 Q ws cl sl (pc + 1) lo (.ref x :: st)) : LC p l e R s m args below meth c nL D A0 Q ws cl sl pc lo st :=
  fun H locs ls hP hD hS hL => lv_aload_n E.1 E.2.1 hd rfl (hL.2.2 _ _ hl) (k H locs ls hP hD hS hL)
theorem lc_astore_n (E : EC p s m args meth c cc nL own D cI cR A0) {i : Fin 4} {x : Nat} (hd : decode cc pc = .ok (.astore_n i, 1)) (hn : (i : Nat) < nL) (hk : lk1 lo (i : Nat) = true) (hl : lst lo (i : Nat) (some (.ref x)) = lo') (k : LC p l e R s m args below meth c nL D A0 Q ws cl sl (pc + 1) lo' st) : LC p l e R s m args below meth c nL D A0 Q ws cl sl pc lo (.ref x :: st) :=
  fun H locs ls hP hD hS hL => lv_astore_n E.1 E.2.1 hd rfl (lo_lv hL) hn rfl (fun ls' h9 => k H locs ls' hP hD hS (hl ▸ lo_of_lv1 hL hk h9))
theorem lc_astore (E : EC p s m args meth c cc nL own D cI cR A0) {i : Nat} {x : Nat} (hd : decode cc pc = .ok (.astore i, 2)) (hn : i < nL) (hk : lk1 lo i = true) (hl : lst lo i (some (.ref x)) = lo') (k : LC p l e R s m args below meth c nL D A0 Q ws cl sl (pc + 2) lo' st) : LC p l e R s m args below meth c nL D A0 Q ws cl sl pc lo (.ref x :: st) :=
  fun H locs ls hP hD hS hL => lv_astore E.1 E.2.1 hd (lo_lv hL) hn rfl (fun ls' h9 => k H locs ls' hP hD hS (hl ▸ lo_of_lv1 hL hk h9))
theorem lc_iinc (E : EC p s m args meth c cc nL own D cI cR A0) {i : Nat} {n : Int} {x v : Int32} (hd : decode cc pc = .ok (.iinc i n, 3)) (hx : lg lo i = some (.int x)) (hv : x + Int32.ofInt n = v) (hn : i < nL) (hk : lk1 lo i = true) (hl : lst lo i (some (.int v)) = lo') (k : LC p l e R s m args below meth c nL D A0 Q ws cl sl (pc + 3) lo' st) : LC p l e R s m args below meth c nL D A0 Q ws cl sl pc lo st := by
  intro H locs ls hP hD hS hL
  have hm : (i, Value.int x) ∈ lp 0 lo := (lp_mem lo 0 i _).mpr ⟨i, (Nat.zero_add i).symm, hx⟩
  obtain ⟨k9, h9⟩ := List.getElem?_of_mem hm
  exact lv_iinc E.1 E.2.1 hd (lo_lv hL) h9 hv hn rfl (fun ls' h8 => k H locs ls' hP hD hS (hl ▸ lo_of_lv1 hL hk h8))
theorem lc_goto (E : EC p s m args meth c cc nL own D cI cR A0) {off : Int} {tgt : Nat} (hd : decode cc pc = .ok (.goto off, 3)) (ht : (pc : Int) + off = (tgt : Int)) (k : LC p l e R s m args below meth c nL D A0 Q ws cl sl tgt lo st) : LC p l e R s m args below meth c nL D A0 Q ws cl sl pc lo st :=
  fun H locs ls hP hD hS hL => lv_goto E.1 E.2.1 hd ht (k H locs ls hP hD hS hL)
theorem lc_geY (E : EC p s m args meth c cc nL own D cI cR A0) {x y : Int32} {off : Int} {tgt : Nat} (hd : decode cc pc = .ok (.if_icmp .ge off, 3)) (ht : (pc : Int) + off = (tgt : Int)) (hx : y ≤ x) (k : LC p l e R s m args below meth c nL D A0 Q ws cl sl tgt lo st) : LC p l e R s m args below meth c nL D A0 Q ws cl sl pc lo (.int y :: .int x :: st) :=
  fun H locs ls hP hD hS hL => lv_icmp_ge E.1 E.2.1 hd ht (fun _ => k H locs ls hP hD hS hL) (fun h => absurd hx h)
theorem lc_geN (E : EC p s m args meth c cc nL own D cI cR A0) {x y : Int32} {off : Int} {tgt : Nat} (hd : decode cc pc = .ok (.if_icmp .ge off, 3)) (ht : (pc : Int) + off = (tgt : Int)) (hx : ¬ y ≤ x) (k : LC p l e R s m args below meth c nL D A0 Q ws cl sl (pc + 3) lo st) : LC p l e R s m args below meth c nL D A0 Q ws cl sl pc lo (.int y :: .int x :: st) :=
  fun H locs ls hP hD hS hL => lv_icmp_ge E.1 E.2.1 hd ht (fun h => absurd h hx) (fun _ => k H locs ls hP hD hS hL)
theorem cI_one {cA : ClassId} {ty : FieldType} {t1 t2 : List (ClassId × FieldType)} (hK : va_K D vwCl ((cI, ty) :: t1) s) (hK2 : va_K D vwCl (t2 ++ [(cA, ty)]) s) (hp : ∀ C, ty ≠ .object C) : cA = cI := by
  have h1 := (hK.2 0 _ rfl).2
  have h2 := (hK2.2 t2.length (cA, ty) (by simp)).2
  cases ty <;> first | exact absurd rfl (hp _) | exact Option.some.inj (h2.symm.trans h1)
theorem cR_one {cA cR : ClassId} {C : String} {q : ClassId × FieldType} {t1 t2 : List (ClassId × FieldType)} (hK : va_K D vwCl (q :: (cR, .object C) :: t1) s) (hK2 : va_K D vwCl (t2 ++ [(cA, .object C)]) s) : cA = cR := by
  obtain ⟨-, -, -, -, -, h1⟩ := (hK.2 1 _ rfl).2
  obtain ⟨-, -, -, -, -, h2⟩ := (hK2.2 t2.length (cA, .object C) (by simp)).2
  exact Option.some.inj (h2.symm.trans h1)
theorem lc_newa (E : EC p s m args meth c cc nL own D cI cR A0) {n : Int32} {N' : Nat} (hd : decode cc pc = .ok (.newarray .int, 2)) (hw : Cond.arrayClass .int ∈ Z_W) (hn : ¬ n < 0) (hN : n.toNatClampNeg = N') (hb : N' ≤ 100000) (hc : cl + 1 ≤ R.cells ∧ sl + N' ≤ R.slots)
    (k : ∀ q, LC p l e R s m args below meth c nL D A0 Q (ws ++ [(q, .inl (cI, N', .inl (fun _ => 0)))]) (cl + 1) (sl + N') (pc + 2) lo (.ref q :: st)) : LC p l e R s m args below meth c nL D A0 Q ws cl sl pc lo (.int n :: st) := by
  intro H locs ls hP hD hS hL
  refine va_newa (atype := .int) (ty := .int) (a0 := (N', .inl (fun _ => 0))) E.1 E.2.1 (E.2.2.2.2.1 _ hw) rfl E.2.2.2.2.2.1 hP hD hS E.2.2.2.2.2.2.1 (fun _ => rfl) hn hN (by show N' * 4 ≤ 536870912; omega) hc.1 hc.2 hd (fun q cA H1 hK1 hP1 hD1 hS1 => ?_)
  have he : cA = cI := cI_one E.2.2.2.2.2.1 hK1 (fun C h => by cases h)
  subst he
  exact k q H1 locs ls hP1 hD1 hS1 hL
theorem lc_newq (E : EC p s m args meth c cc nL own D cI cR A0) {n : Int32} {N' idx : Nat} (hd : decode cc pc = .ok (.anewarray idx, 3)) (hw : Cond.classLink own idx RX6 ∈ Z_W) (hn : ¬ n < 0) (hN : n.toNatClampNeg = N') (hb : N' ≤ 100000) (hc : cl + 1 ≤ R.cells ∧ sl + N' ≤ R.slots)
    (k : ∀ q, LC p l e R s m args below meth c nL D A0 Q (ws ++ [(q, .inl (cR, N', .inr (.inr (.inr (.inr (fun _ => none))))))]) (cl + 1) (sl + N') (pc + 3) lo (.ref q :: st)) : LC p l e R s m args below meth c nL D A0 Q ws cl sl pc lo (.int n :: st) := by
  intro H locs ls hP hD hS hL
  refine va_newq E.1 E.2.1 E.2.2.2.1 (E.2.2.2.2.1 _ hw) E.2.2.2.2.2.2.2.2.2.2.2.2 E.2.2.2.2.2.1 hP hD hS E.2.2.2.2.2.2.1 hn hN (by omega) hc.1 hc.2 hd (fun q cA H1 hK1 hP1 hD1 hS1 => ?_)
  have he : cA = cR := cR_one E.2.2.2.2.2.1 hK1
  subst he
  exact k q H1 locs ls hP1 hD1 hS1 hL
theorem lc_new (E : EC p s m args meth c cc nL own D cI cR A0) {ci idx N' : Nat} {C : String} {T : u_T} {ty : Nat → FieldType} {fs : List Value} (hd : decode cc pc = .ok (.new idx, 3)) (hcl : vwCl[ci]? = some (C, T, N')) (hin : ∀ w ∈ u_ws C T N', w ∈ Z_W) (hty : ∀ k, k < N' → parseFieldDescriptor (T k).2.2.1 = some (ty k)) (hw : Cond.classLink own idx C ∈ Z_W) (hw2 : Cond.instantiable C N' ∈ Z_W) (hw3 : Cond.initialized C ∈ Z_W) (hfs : ∀ j, j < N' → defaultValue (ty j) = vp_V fs j) (hc : cl + 1 ≤ R.cells ∧ sl + N' ≤ R.slots)
    (k : ∀ q, LC p l e R s m args below meth c nL D A0 Q (ws ++ [(q, .inr (ci, fs))]) (cl + 1) (sl + N') (pc + 3) lo (.ref q :: st)) : LC p l e R s m args below meth c nL D A0 Q ws cl sl pc lo st :=
  fun H locs ls hP hD hS hL => va_new E.1 E.2.1 E.2.2.2.2.1 hin ty hty E.2.2.2.1 (E.2.2.2.2.1 _ hw) (E.2.2.2.2.1 _ hw2) (E.2.2.2.2.1 _ hw3) E.2.2.2.2.2.1 hP hD hS E.2.2.2.2.2.2.1 hcl hfs hc.1 hc.2 hd (fun q H1 hP1 hD1 hS1 => k q H1 locs ls hP1 hD1 hS1 hL)
theorem lc_obj (E : EC p s m args meth c cc nL own D cI cR A0) {idx a : Nat} (hd : decode cc pc = .ok (.invokespecial idx, 3)) (hw : Cond.methodLink own idx objectInit ∈ Z_W) (hw2 : Cond.instanceMethod objectInit ∈ Z_W) (hw3 : Cond.code objectInit ⟨#[0xb1]⟩ 1 none ∈ Z_W) (hR : 1 ≤ R.frames ∧ 38 ≤ R.locals) (hcat : (st.map fun v => v.category).sum ≤ 8) (k : LC p l e R s m args below meth c nL D A0 Q ws cl sl (pc + 3) lo st) : LC p l e R s m args below meth c nL D A0 Q ws cl sl pc lo (.ref a :: st) :=
  fun H locs ls hP hD hS hL => W.objInit E.1 E.2.1 E.2.2.2.1 (E.2.2.2.2.1 _ hw) (E.2.2.2.2.1 _ hw2) (E.2.2.2.2.1 _ hw3) rfl (hL.1.trans E.2.2.1.symm) rfl hd hR.1 (by have h9 := hR.2; show 2 * 0 + (st.map fun v => v.category).sum + 12 ≤ R.locals; omega) (W.eq (g2 := F0 m (pc + 3) ls st) rfl (k H locs ls hP hD hS hL))
theorem lc_get (E : EC p s m args meth c cc nL own D cI cR A0) {a idx ci k9 : Nat} {fs : List Value} {v : Value} (q0 : Nat) (hd : decode cc pc = .ok (.getfield idx, 3)) (hF : FLK own idx ci k9) (hq : ws[q0]? = some (a, .inr (ci, fs))) (hv : fs[k9]? = some v) (k : LC p l e R s m args below meth c nL D A0 Q ws cl sl (pc + 3) lo (v :: st)) : LC p l e R s m args below meth c nL D A0 Q ws cl sl pc lo (.ref a :: st) := by
  intro H locs ls hP hD hS hL
  obtain ⟨C, T, n, ty0, hc, hk, hin, hlink, -, -⟩ := hF
  exact va_get E.1 E.2.1 E.2.2.2.2.1 hin E.2.2.2.1 E.2.2.2.2.2.1 hP q0 hq hc k9 hk (E.2.2.2.2.1 _ hlink) (fun _ h9 => h9) hv hd (k H locs ls hP hD hS hL)
theorem lc_put (E : EC p s m args meth c cc nL own D cI cR A0) {a idx ci k9 : Nat} {z : Bool} {fs : List Value} {v : Int32} (q0 : Nat) (hd : decode cc pc = .ok (.putfield idx, 3)) (hF : FLW own idx ci k9 z) (hq : ws[q0]? = some (a, .inr (ci, fs))) (hl9 : k9 < fs.length) (hz : narrow (zty z) (.int v) = .int v) (hf : fits (zty z) (.int v) = true) (hs : ws.set q0 (a, .inr (ci, fs.set k9 (.int v))) = ws') (k : LC p l e R s m args below meth c nL D A0 Q ws' cl sl (pc + 3) lo st) : LC p l e R s m args below meth c nL D A0 Q ws cl sl pc lo (.int v :: .ref a :: st) := by
  intro H locs ls hP hD hS hL
  obtain ⟨⟨C, T, n, ty0, hc, hk, hin, hlink, hty, hnm⟩, C2, T2, n2, hc2, hfin, hdesc⟩ := hF
  cases hc.symm.trans hc2
  refine va_put E.1 E.2.1 E.2.2.2.2.1 hin ty0 hty hnm E.2.2.2.1 E.2.2.2.2.2.1 hP hD hS q0 hq hc k9 hk (E.2.2.2.2.1 _ hlink) (fun _ h9 => h9) hfin hdesc hz hf hl9 hd (fun H1 locs1 hP1 hD1 hS1 => ?_)
  rw [hs] at hP1 hD1
  exact k H1 locs1 ls hP1 hD1 hS1 hL
/-- a final field of references, in the constructor -/
def FLF (own : String) (idx ci k : Nat) : Prop := FLK own idx ci k ∧ ∃ (C : String) (T : u_T) (n : Nat) (ty : FieldType), vwCl[ci]? = some (C, T, n) ∧ (T k).2.2.2 = true ∧ (T k).1 = own ∧ parseFieldDescriptor (T k).2.2.1 = some ty ∧ ∀ q : Nat, narrow ty (.ref q) = .ref q ∧ fits ty (.ref q) = true
theorem lc_putF (E : EC p s m args meth c cc nL own D cI cR A0) (hin9 : meth.name = "<init>") {a idx ci k9 q : Nat} {fs : List Value} (q0 : Nat) (hd : decode cc pc = .ok (.putfield idx, 3)) (hF : FLF own idx ci k9) (hq : ws[q0]? = some (a, .inr (ci, fs))) (hl9 : k9 < fs.length) (hs : ws.set q0 (a, .inr (ci, fs.set k9 (.ref q))) = ws') (k : LC p l e R s m args below meth c nL D A0 Q ws' cl sl (pc + 3) lo st) : LC p l e R s m args below meth c nL D A0 Q ws cl sl pc lo (.ref q :: .ref a :: st) := by
  intro H locs ls hP hD hS hL
  obtain ⟨⟨C, T, n, ty0, hc, hk, hin, hlink, hty, hnm⟩, C2, T2, n2, ty, hc2, hfin, hdecl, hdesc, hnf⟩ := hF
  cases hc.symm.trans hc2
  refine va_putF E.1 E.2.1 E.2.2.2.2.1 hin ty0 hty hnm E.2.2.2.1 E.2.2.2.2.2.1 hP hD hS q0 hq hc k9 hk (E.2.2.2.2.1 _ hlink) (fun _ h9 => h9) hfin hin9 hdecl hdesc (hnf q).1 (hnf q).2 hl9 hd (fun H1 locs1 hP1 hD1 hS1 => ?_)
  rw [hs] at hP1 hD1
  exact k H1 locs1 ls hP1 hD1 hS1 hL
theorem lc_iast (E : EC p s m args meth c cc nL own D cI cR A0) {a n : Nat} {j v : Int32} {f : Nat → Int32} (q0 : Nat) (hd : decode cc pc = .ok (.iastore, 1)) (hq : ws[q0]? = some (a, .inl (cI, n, .inl f))) (hj : ibn j n = true) (hs : ws.set q0 (a, .inl (cI, n, .inl (upd f j.toNatClampNeg v))) = ws') (k : LC p l e R s m args below meth c nL D A0 Q ws' cl sl (pc + 1) lo st) : LC p l e R s m args below meth c nL D A0 Q ws cl sl pc lo (.int v :: .int j :: .ref a :: st) := by
  intro H locs ls hP hD hS hL
  refine va_iast E.1 E.2.1 E.2.2.2.2.2.1 hP hD hS q0 0 hq rfl (ibn_in hj) hd (fun H1 locs1 hP1 hD1 hS1 => ?_)
  rw [hs] at hP1 hD1
  exact k H1 locs1 ls hP1 hD1 hS1 hL
theorem lc_aast (E : EC p s m args meth c cc nL own D cI cR A0) {a n v : Nat} {j : Int32} {vs : List Value} {f : Nat → Option Nat} (q0 qk : Nat) (hd : decode cc pc = .ok (.aastore, 1)) (hq : ws[q0]? = some (a, .inl (cR, n, .inr (.inr (.inr (.inr f)))))) (hv : ws[qk]? = some (v, .inr (6, vs))) (hj : ibn j n = true) (hs : ws.set q0 (a, .inl (cR, n, .inr (.inr (.inr (.inr (va_up f j.toNatClampNeg (some v))))))) = ws') (k : LC p l e R s m args below meth c nL D A0 Q ws' cl sl (pc + 1) lo st) : LC p l e R s m args below meth c nL D A0 Q ws cl sl pc lo (.ref v :: .int j :: .ref a :: st) := by
  intro H locs ls hP hD hS hL
  refine va_astq (ci := 6) E.1 E.2.1 E.2.2.2.2.2.1 hP hD hS q0 1 qk hq rfl hv rfl (ibn_in hj) hd (fun H1 locs1 hP1 hD1 hS1 => ?_)
  rw [hs] at hP1 hD1
  exact k H1 locs1 ls hP1 hD1 hS1 hL
/-- a constructor's contract: the blank cell e0 becomes the cells W9 a -/
def PCi (D : va_G) (cI cR : ClassId) (e0 : va_E) (h0 sz : Nat) : Array Value → State → Prop := va_Pc [.ref h0] (fun U => U.heap.size = sz ∧ va_P D vwCl [(h0, e0)] U.heap ∧ va_K D vwCl (tyC cI cR) U ∧ va_D (fun _ => True) [(h0, e0)] ∧ EXn U)
def QCi (D : va_G) (cI cR : ClassId) (e0 : va_E) (h0 sz : Nat) (W9 : (Nat → Nat) → va_W) : Array Value → State → Outcome → State → Prop := fun _ st o t => o = .returned none ∧ (∃ a : Nat → Nat, a 0 = h0 ∧ va_P D vwCl (W9 a) t.heap ∧ va_D (va_A [(h0, e0)] sz) (W9 a)) ∧ va_K D vwCl (tyC cI cR) t ∧ va_F (va_A [(h0, e0)] sz) st t
def CI (l : Launch) (y : MethodName) (cy : ByteArray) (maxL d mc ms : Nat) (D : va_G) (cI cR : ClassId) (e0 : va_E) (W9 : (Nat → Nat) → va_W) : Prop :=
  ∀ h0 sz, Met l y (.code y cy maxL none :: Z_W) { frames := d, cells := mc, slots := ms, locals := 38 * d } (PCi D cI cR e0 h0 sz) (QCi D cI cR e0 h0 sz W9) mc ms (va_A [(h0, e0)] sz)
theorem PCi_blind {e0 : va_E} {h0 sz : Nat} : FrameBlind (PCi D cI cR e0 h0 sz) := fun a U g mk q => by
  obtain ⟨q0, q1, qP, qK, qD, qE⟩ := q
  exact ⟨q0, q1, qP, va_K.moved (u := U) (U := U.calling g mk a) (Vm.Alike.refl U.vm) qK, qD, EXn.same (u := U) (U := U.calling g mk a) rfl qE⟩
theorem ci_of {y : MethodName} {maxL d mc ms : Nat} {e0 : va_E} {W9 : (Nat → Nat) → va_W} (hy : plainFor y = true) (hown : y.cls = own) (hnm : y.name = "<init>") (hlen : 1 ≤ maxL)
    (body : ∀ (h0 : Nat) (p : Program) (e : Env) (s : State) (m : MethodId) (below : List Frame) (meth : Method) (c : Code) (A0 : Nat → Prop), EC p s m #[.ref h0] meth c cc maxL own D cI cR A0 → meth.sig.returnType = none → meth.name = "<init>" → A0 = va_A [(h0, e0)] s.heap.size →
      LC p l e { frames := d, cells := mc, slots := ms, locals := 38 * d } s m #[.ref h0] below meth c maxL D A0 (MQ below (QCi D cI cR e0 h0 s.heap.size W9) #[.ref h0] s mc ms A0) [(h0, e0)] 0 0 0 (some (.ref h0) :: List.replicate (maxL - 1) none) []) : CI l y cc maxL d mc ms D cI cR e0 W9 := by
  intro h0 sz
  refine met_ofWF (cc := cc) (maxL := maxL) (ret := none) hy rfl ?_
  intro p e s m args below meth c s₁ B hml hv
  obtain ⟨rfl, hsz, hP, hK, hD0, hE0⟩ := hv
  have hts := atoms_spec (ws := .code y cc maxL none :: Z_W) B.pre
  have ho : s.vm.findClass own = some m.cls := hown ▸ findClass_of_methodNamed B.named
  subst hsz
  have hl := lv_entry [.ref h0] (n := maxL) hlen
  have hin : meth.name = "<init>" := (name_of_methodNamed B.named B.method).1.trans hnm
  rw [lg_entry_eq]
  generalize (lg_sl [.ref h0] ++ List.replicate (maxL - (lg_sl [.ref h0]).length) Slot.unset).toArray = ls at hl ⊢
  exact body h0 p e s m below meth c _ ⟨B.exec, B.bytes, hml, ho, fun w hw => hts w (List.mem_cons_of_mem _ hw), hK, fun q h => Or.inr h, B.notSynchronized, hE0⟩ B.returns hin rfl s.heap [] ls hP hD0.self va_S.rf
    ⟨hl.1, hl.2.1, fun i v h => hl.2.2 (i, v) (by have h2 := lo0_args [.ref h0] maxL 0 i v h; rwa [Nat.zero_add] at h2)⟩
theorem lc_ret (E : EC p s m args meth c cc nL own D cI cR A0) {mc ms h0 : Nat} {e0 : va_E} {W9 : (Nat → Nat) → va_W} (a : Nat → Nat) (hr : meth.sig.returnType = none) (hA : A0 = va_A [(h0, e0)] s.heap.size) (hd : decode cc pc = .ok (.return_, 1)) (h0a : a 0 = h0) (hw : ws = W9 a) (hc : cl = mc ∧ sl = ms) : LC p l e R s m args below meth c nL D A0 (MQ below (QCi D cI cR e0 h0 s.heap.size W9) args s mc ms A0) ws cl sl pc lo [] := by
  obtain ⟨rfl, rfl⟩ := hc
  subst hw
  intro H locs ls hP hD hS hL
  refine W.vret E.1 E.2.1 hr (fun t ht hW => ⟨rfl, ⟨a, h0a, by rw [ht]; exact hP, hA ▸ hD⟩, va_K.moved hW.alike E.2.2.2.2.2.1, hA ▸ hS.F ht⟩) hS.2.2 hd E.2.2.2.2.2.2.2.1
theorem nd_range : ∀ (n k : Nat), va_nd ((List.range' k n)) = true
  | 0, _ => rfl
  | n + 1, k => by
    rw [List.range'_succ, va_nd, nd_range n (k + 1), Bool.and_true, decide_eq_true_eq]
    intro h
    have h2 := List.mem_range'_1.mp h
    omega
/-- a constructor called on the cell made last -/
theorem lc_call (E : EC p s m args meth c cc nL own D cI cR A0) {wr : va_W} {y : MethodName} {cy : ByteArray} {maxL d mc ms idx q : Nat} {e0 : va_E} {W9 : (Nat → Nat) → va_W} (hd : decode cc pc = .ok (.invokespecial idx, 3)) (hC : CI l y cy maxL d mc ms D cI cR e0 W9) (hlink : (Cond.methodLink own idx y ∈ Z_W) ∨ ∃ host, va_Nw (.methodLinkNest own idx y host) s) (hw1 : Cond.instanceMethod y ∈ Z_W) (hw2 : Cond.initialized y.cls ∈ Z_W) (hw3 : Cond.code y cy maxL none ∈ Z_W) (hy : y.name = "<init>") (hdsc : y.cls ≠ "java/lang/invoke/MethodHandle" ∧ y.cls ≠ "java/lang/invoke/VarHandle" ∧ (parseMethodDescriptor y.desc).map (fun d => d.parameters.length) = some 0) (hm : maxL ≤ 19) (hcat : (st.map fun v => v.category).sum ≤ 8) (hR : d + 1 ≤ R.frames ∧ 38 * (d + 1) ≤ R.locals) (hc : cl + mc ≤ R.cells ∧ sl + ms ≤ R.slots)
    (k : ∀ a : Nat → Nat, a 0 = q → LC p l e R s m args below meth c nL D A0 Q (wr ++ W9 a) (cl + mc) (sl + ms) (pc + 3) lo st) : LC p l e R s m args below meth c nL D A0 Q (wr ++ [(q, e0)]) cl sl pc lo (.ref q :: st) := by
  intro H locs ls hP hD hS hL
  have hts := E.2.2.2.2.1
  have g0 : (wr ++ [(q, e0)])[wr.length]? = some (q, e0) := by simp
  have hPc : va_P D vwCl [(q, e0)] H := hP.sub [wr.length] (by simp)
  have hDc : va_D A0 [(q, e0)] := hD.sub [wr.length] rfl (by simp)
  have hFc := va_free (wc := [(q, e0)]) hD hS E.2.2.2.2.2.2.1 [wr.length] (by simp)
  have hrm : d + 1 ≤ R.frames ∧ 8 + (maxL + 11) + 38 * d ≤ R.locals := ⟨hR.1, by have h8 := hR.2; omega⟩
  have hpre : PreS s H (PCi D cI cR e0 q H.size) (.ref q :: []) := ⟨PCi_blind, fun U hU hW => ⟨rfl, by rw [hU], by rw [hU]; exact hPc, va_K.moved hW.alike E.2.2.2.2.2.1, hDc.weaken (fun _ _ _ _ => trivial), EXn.warm hW E.2.2.2.2.2.2.2.2⟩⟩
  have hrun : va_Run p l e R s m args below meth c H locs cl sl mc ms (F0 m pc ls (.ref q :: st)) st (QCi D cI cR e0 q H.size W9 (Value.ref q :: []).toArray) (va_A [(q, e0)] H.size) := by
    rcases hlink with hl | ⟨host, hl⟩
    · exact va_runI (Ts := Z_W) (n := 0) ⟨E.1, E.2.1, E.2.2.1, E.2.2.2.1, hts⟩ (hC q H.size) ⟨callB_of 0 hts (gi_code hw3) rfl rfl rfl (hts _ hw2) (hts _ hl) hdsc hrm, hy, hts _ hw1⟩ hpre rfl rfl hL.1 rfl (lv_room hcat) hd hc
    · exact va_runIN (Ts := Z_W) (n := 0) ⟨E.1, E.2.1, E.2.2.1, E.2.2.2.1, hts⟩ (hC q H.size) ⟨va_cnB 0 hts (gi_code hw3) rfl rfl rfl hl (hts _ hw2) hdsc hrm, hy, hts _ hw1⟩ hpre rfl rfl hL.1 rfl (lv_room hcat) hd hc
  intro T hT X
  obtain ⟨v', st₀, t, T', L, h0, X', hLc, e1, e2, ⟨hv, ⟨a, ha, hP1, hD1⟩, hK1, hz, hk⟩, stp⟩ := hrun T hT X
  cases hv
  rw [h0] at hz hk
  have hk9 : ∀ q9 : Nat, q9 < H.size → ¬ va_A [(q, e0)] H.size q9 → T'.heap[q9]? = H[q9]? := fun q9 h1 h2 => by rw [e1]; exact hk q9 h1 h2
  obtain ⟨hP2, hD2⟩ := va_join (wr := wr) (w1 := W9 a) hP hD [wr.length] (List.range' 0 wr.length) (by simp) (by
      apply List.ext_getElem?
      intro i
      by_cases hi : i < wr.length
      · simp [hi, List.getElem?_append_left hi]
      · rw [List.getElem?_eq_none (by simpa using hi), List.getElem?_eq_none (by simpa using hi)]) (nd_range _ _) (fun i hi h => by
      have h1 := List.mem_range'_1.mp hi
      have h2 := List.mem_singleton.mp h
      omega) hk9 hFc (by rw [e1]; exact hP1) hD1
  obtain ⟨t2, a1, b1⟩ := k a ha T'.heap (locs ++ L) ls hP2 hD2
    ⟨Nat.le_trans hS.1 (by rw [e1]; exact hz), fun q9 h1 h2 => by rw [hk9 q9 (Nat.lt_of_lt_of_le h1 hS.1) (fun z => h2 (hFc q9 z))]; exact hS.2.1 q9 h1 h2, fun q9 hq => by
      rcases List.mem_append.mp hq with h | h
      · exact hS.2.2 q9 h
      · exact hFc _ (hLc q9 h)⟩ hL T' rfl X'
  exact ⟨t2, stp t2 a1, b1⟩
theorem lc_fin (h : ∀ H, va_P D vwCl ws H → va_P D vwCl ws' H) (hd : ∀ A, va_D A ws → va_D A ws') (k : LC p l e R s m args below meth c nL D A0 Q ws' cl sl pc lo st) : LC p l e R s m args below meth c nL D A0 Q ws cl sl pc lo st :=
  fun H locs ls hP hD hS hL => k H locs ls (h H hP) (hd A0 hD) hS hL
theorem arrV_ext {cA : ClassId} {n : Nat} {f g : Nat → Value} (h : ∀ j, j < n → f j = g j) : arrV cA n f = arrV cA n g := by
  unfold arrV
  congr 1
  first
    | (congr 1; exact List.map_congr_left (fun j hj => h j (List.mem_range.mp hj)))
    | (apply Array.ext
       · simp
       · intro i h1 h2
         simp
         exact h i (by simpa using h1))
end LCROWS
