/-! THE LAW ITSELF: the class's cells beside a row of 64 longs, and the script -/
abbrev tyL (cI cR cL : ClassId) : List (ClassId × FieldType) := [(cI, .int), (cR, .object RX6), (cL, .long)]
section WMID
variable {D : va_G} {cl : List vw_C} {A : Nat → Prop} {w1 w w' w2 : va_W} {H H1 : Heap}
theorem mid_get {k : Nat} {x : Nat × va_E} (h : w[k]? = some x) : (w1 ++ (w ++ w2))[w1.length + k]? = some x := by
  have hk : k < w.length := (List.getElem?_eq_some_iff.mp h).1
  rw [List.getElem?_append_right (by omega), show w1.length + k - w1.length = k by omega, List.getElem?_append_left hk, h]
theorem vaP_mid (h : va_P D cl (w1 ++ (w ++ w2)) H) : va_P D cl w H := fun k x hk => h _ x (mid_get hk)
theorem vaD_mid (h : va_D A (w1 ++ (w ++ w2))) : va_D A w := ⟨fun i j p q hi hj hpq => by
  have := h.1 _ _ p q (mid_get (w1 := w1) (w2 := w2) hi) (mid_get (w1 := w1) (w2 := w2) hj) hpq
  omega, fun k x hk => h.2 _ x (mid_get hk)⟩
/-- the same addresses -/
def sad (w w' : va_W) : Prop := w'.length = w.length ∧ ∀ k : Nat, (w'[k]?).map (fun x => x.1) = (w[k]?).map (fun x => x.1)
theorem sad_get (h : sad w w') {k : Nat} {x : Nat × va_E} (hk : w'[k]? = some x) : ∃ e, w[k]? = some (x.1, e) := by
  have h1 := h.2 k
  rw [hk] at h1
  cases hw : w[k]? with
  | none => rw [hw] at h1; cases h1
  | some y =>
    rw [hw] at h1
    obtain ⟨y1, y2⟩ := y
    have h2 : x.1 = y1 := Option.some.inj h1
    exact ⟨y2, by rw [h2]⟩
theorem app_r {α : Type} {u v : List α} {k : Nat} (h : u.length ≤ k) : (u ++ v)[k]? = v[k - u.length]? := List.getElem?_append_right h
theorem app_l {α : Type} {u v : List α} {k : Nat} (h : k < u.length) : (u ++ v)[k]? = u[k]? := List.getElem?_append_left h
theorem sad_mid (h : sad w w') : sad (w1 ++ (w ++ w2)) (w1 ++ (w' ++ w2)) := by
  refine ⟨by simp [h.1], fun k => ?_⟩
  by_cases h1 : k < w1.length
  · rw [app_l h1, app_l h1]
  · rw [app_r (u := w1) (v := w' ++ w2) (by omega), app_r (u := w1) (v := w ++ w2) (by omega)]
    by_cases h2 : k - w1.length < w.length
    · rw [app_l (u := w') (v := w2) (by rw [h.1]; exact h2), app_l (u := w) (v := w2) h2]
      exact h.2 _
    · rw [app_r (u := w') (v := w2) (by rw [h.1]; omega), app_r (u := w) (v := w2) (by omega), h.1]
theorem sad_D (h : sad w w') (hD : va_D A w) : va_D A w' := by
  refine ⟨fun i j p q hi hj hpq => ?_, fun k x hk => ?_⟩
  · obtain ⟨e1, h1⟩ := sad_get h hi
    obtain ⟨e2, h2⟩ := sad_get h hj
    exact hD.1 i j _ _ h1 h2 hpq
  · obtain ⟨e1, h1⟩ := sad_get h hk
    exact hD.2 k (x.1, e1) h1
/-- what a call over w changed, put back beside what it left -/
theorem mid_join (hP : va_P D cl (w1 ++ (w ++ w2)) H) (hD : va_D A (w1 ++ (w ++ w2))) (hk : ∀ q : Nat, q < H.size → ¬ va_A w H.size q → H1[q]? = H[q]?) (hs : sad w w') (hP1 : va_P D cl w' H1) : va_P D cl (w1 ++ (w' ++ w2)) H1 ∧ va_D A (w1 ++ (w' ++ w2)) := by
  refine ⟨fun k x hx => ?_, sad_D (sad_mid hs) hD⟩
  have key : ∀ (k9 : Nat) (x9 : Nat × va_E), (w1 ++ (w ++ w2))[k9]? = some x9 → (k9 < w1.length ∨ w1.length + w.length ≤ k9) → va_at D cl x9 H1 := by
    intro k9 x9 h9 h8
    have h7 := hP k9 x9 h9
    refine h7.kept (hk x9.1 h7.lt ?_)
    rintro (⟨j, e, hj⟩ | h6)
    · have hj2 : j < w.length := (List.getElem?_eq_some_iff.mp hj).1
      have := hD.1 k9 _ x9 _ h9 (mid_get (w1 := w1) (w2 := w2) hj) rfl
      omega
    · have := h7.lt
      omega
  by_cases h1 : k < w1.length
  · rw [List.getElem?_append_left h1] at hx
    exact key k x (by rw [List.getElem?_append_left h1]; exact hx) (Or.inl h1)
  · rw [List.getElem?_append_right (by omega)] at hx
    by_cases h2 : k - w1.length < w'.length
    · rw [List.getElem?_append_left h2] at hx
      exact hP1 _ x hx
    · rw [List.getElem?_append_right (by omega), hs.1] at hx
      refine key k x ?_ (Or.inr (by rw [hs.1] at h2; omega))
      rw [List.getElem?_append_right (by omega), List.getElem?_append_right (by rw [hs.1] at h2; omega)]
      exact hx
theorem sad_wo {cI cR : ClassId} {ad : Nat → Nat} {shf : Nat → Shp} {N : Nat} {μ μ' : Mem} : sad (wo cI cR ad shf N μ) (wo cI cR ad shf N μ') := by
  refine ⟨by rw [wo_len, wo_len], fun k => ?_⟩
  by_cases h : k < N
  · rw [wo_get h, wo_get h]
    rfl
  · rw [List.getElem?_eq_none (by rw [wo_len]; omega), List.getElem?_eq_none (by rw [wo_len]; omega)]
end WMID
abbrev oq (cL : ClassId) (q : Nat) (w : Nat → Int64) : Nat × va_E := (q, .inl (cL, 64, .inr (.inl w)))
abbrev wl (cI cR cL : ClassId) (ad : Nat → Nat) (q : Nat) (μ : Mem) (w : Nat → Int64) : va_W := [] ++ (wo cI cR ad shX NX μ ++ [oq cL q w])
abbrev EG (p : Program) (s : State) (m : MethodId) (args : Array Value) (meth : Method) (c : Code) (cc : ByteArray) (nL : Nat) (own : String) (D : va_G) (cI cR cL : ClassId) (ad : Nat → Nat) (q : Nat) (A0 : Nat → Prop) : Prop :=
  p.tables.exec = Jvm.exec ∧ c.code = cc ∧ c.maxLocals = nL ∧ s.vm.findClass own = some m.cls ∧ (∀ w ∈ Z_W, w.before args s = true) ∧ va_K D vwCl (tyL cI cR cL) s ∧ (∀ μ w, va_D A0 (wl cI cR cL ad q μ w)) ∧ (∀ q, s.heap.size ≤ q → A0 q) ∧ meth.locks = false ∧ EXn s
/-- LL, over the larger world -/
def LGW {α : Type} (p : Program) (l : Launch) (e : Env) (R : Room) (s : State) (m : MethodId) (args : Array Value) (below : List Frame) (meth : Method) (c : Code) (nL : Nat) (D : va_G) (cI cR cL : ClassId) (ad : Nat → Nat) (q : Nat) (A0 : Nat → Prop) (KQ : α → Mem → State → Prop) (t : Option (α × Mem)) (cl sl pc : Nat) (lo : List (Option Value)) (st : List Value) (μ : Mem) (w : Nat → Int64) : Prop :=
  ∀ (r : α) (μ' : Mem), t = some (r, μ') → ∀ (H : Heap) (locs : List Jvm.Loc) (ls : Array Slot), va_P D vwCl (wl cI cR cL ad q μ w) H → va_S A0 s.heap H locs → lo_has ls nL lo → W p l e R s m args below meth c H locs cl sl (KQ r μ') (F0 m pc ls st)
/-- the script's shallow reads and the longs' -/
def lld (w : Nat → Int64) (j : Int32) : Option Int64 := if ibn j 64 = true then some (w j.toNatClampNeg) else none
def lls (w : Nat → Int64) (j : Int32) (x : Int64) : Option (Nat → Int64) := if ibn j 64 = true then some (vp_updL w j.toNatClampNeg x) else none
def MCq : Nat := 600074
theorem mch {n k : Nat} (h : n + k ≤ MCq) : n + k ≤ room_1.cells ∧ 6 * n + 6 * k ≤ room_1.slots := ⟨h, by
  show 6 * n + 6 * k ≤ 7301550
  have h9 : n + k ≤ 600074 := h
  omega⟩
theorem mch0 {n : Nat} (h : n ≤ MCq) : n ≤ room_1.cells ∧ 6 * n ≤ room_1.slots := ⟨h, by
  show 6 * n ≤ 7301550
  have h9 : n ≤ 600074 := h
  omega⟩
theorem ow_get {cI cR cL : ClassId} {ad : Nat → Nat} {q : Nat} {μ : Mem} {w : Nat → Int64} : (wl cI cR cL ad q μ w)[NX]? = some (oq cL q w) := by
  show ([] ++ (wo cI cR ad shX NX μ ++ [oq cL q w]))[NX]? = _
  rw [List.nil_append, List.getElem?_append_right (by rw [wo_len]; exact Nat.le_refl _), wo_len, Nat.sub_self]
  rfl
theorem ow_set {cI cR cL : ClassId} {ad : Nat → Nat} {q : Nat} {μ : Mem} {w w1 : Nat → Int64} : (wl cI cR cL ad q μ w).set NX (oq cL q w1) = wl cI cR cL ad q μ w1 := by
  show ([] ++ (wo cI cR ad shX NX μ ++ [oq cL q w])).set NX (oq cL q w1) = [] ++ (wo cI cR ad shX NX μ ++ [oq cL q w1])
  rw [List.nil_append, List.nil_append, List.set_append, if_neg (by rw [wo_len]; exact Nat.lt_irrefl _), wo_len, Nat.sub_self]
  rfl
section LGROWS
variable {p : Program} {l : Launch} {e : Env} {R : Room} {s : State} {m : MethodId} {args : Array Value} {below : List Frame} {meth : Method} {c : Code} {cc : ByteArray} {nL : Nat} {own : String} {D : va_G} {cI cR cL : ClassId} {ad : Nat → Nat} {q : Nat} {A0 : Nat → Prop}
variable {α β : Type} {KQ : α → Mem → State → Prop} {t ta tb : Option (α × Mem)} {cl sl pc : Nat} {lo lo' : List (Option Value)} {st : List Value} {μ : Mem} {w : Nat → Int64}
theorem EG.ev (E : EG p s m args meth c cc nL own D cI cR cL ad q A0) : EV p s m args meth c cc nL own D cI cR ad shX NX A0 := ⟨E.1, E.2.1, E.2.2.1, E.2.2.2.1, E.2.2.2.2.1, E.2.2.2.2.2.1.sub [0, 1] rfl, fun μ => vaD_mid (E.2.2.2.2.2.2.1 μ (fun _ => 0)), E.2.2.2.2.2.2.2.1, E.2.2.2.2.2.2.2.2.1, E.2.2.2.2.2.2.2.2.2⟩
theorem lg_some {r : α} {μ' : Mem} (k : ∀ (H : Heap) (locs : List Jvm.Loc) (ls : Array Slot), va_P D vwCl (wl cI cR cL ad q μ w) H → va_S A0 s.heap H locs → lo_has ls nL lo → W p l e R s m args below meth c H locs cl sl (KQ r μ') (F0 m pc ls st)) : LGW p l e R s m args below meth c nL D cI cR cL ad q A0 KQ (some (r, μ')) cl sl pc lo st μ w := by
  intro r1 μ1 h
  cases h
  exact k
theorem lg_none : LGW p l e R s m args below meth c nL D cI cR cL ad q A0 KQ none cl sl pc lo st μ w := fun r μ' h => by cases h
theorem lg_lo (hs : lsub lo' lo) (k : LGW p l e R s m args below meth c nL D cI cR cL ad q A0 KQ t cl sl pc lo' st μ w) : LGW p l e R s m args below meth c nL D cI cR cL ad q A0 KQ t cl sl pc lo st μ w := fun r μ' h H locs ls hP hS hL => k r μ' h H locs ls hP hS ⟨hL.1, hL.2.1, fun i v hi => hL.2.2 i v (lo_sub hs i v hi)⟩
theorem lg_iadd (E : EG p s m args meth c cc nL own D cI cR cL ad q A0) {x y : Int32} (hd : decode cc pc = .ok (.iadd, 1)) (k : LGW p l e R s m args below meth c nL D cI cR cL ad q A0 KQ t cl sl (pc + 1) lo (.int (x + y) :: st) μ w) : LGW p l e R s m args below meth c nL D cI cR cL ad q A0 KQ t cl sl pc lo (.int y :: .int x :: st) μ w :=
  fun r μ' h H locs ls hP hS hL => lv_iadd E.1 E.2.1 hd (k r μ' h H locs ls hP hS hL)
theorem lg_isub (E : EG p s m args meth c cc nL own D cI cR cL ad q A0) {x y : Int32} (hd : decode cc pc = .ok (.isub, 1)) (k : LGW p l e R s m args below meth c nL D cI cR cL ad q A0 KQ t cl sl (pc + 1) lo (.int (x - y) :: st) μ w) : LGW p l e R s m args below meth c nL D cI cR cL ad q A0 KQ t cl sl pc lo (.int y :: .int x :: st) μ w :=
  fun r μ' h H locs ls hP hS hL => lv_isub E.1 E.2.1 hd (k r μ' h H locs ls hP hS hL)
theorem lg_imul (E : EG p s m args meth c cc nL own D cI cR cL ad q A0) {x y : Int32} (hd : decode cc pc = .ok (.imul, 1)) (k : LGW p l e R s m args below meth c nL D cI cR cL ad q A0 KQ t cl sl (pc + 1) lo (.int (x * y) :: st) μ w) : LGW p l e R s m args below meth c nL D cI cR cL ad q A0 KQ t cl sl pc lo (.int y :: .int x :: st) μ w :=
  fun r μ' h H locs ls hP hS hL => lv_imul E.1 E.2.1 hd (k r μ' h H locs ls hP hS hL)
theorem lg_ior (E : EG p s m args meth c cc nL own D cI cR cL ad q A0) {x y : Int32} (hd : decode cc pc = .ok (.ior, 1)) (k : LGW p l e R s m args below meth c nL D cI cR cL ad q A0 KQ t cl sl (pc + 1) lo (.int (x ||| y) :: st) μ w) : LGW p l e R s m args below meth c nL D cI cR cL ad q A0 KQ t cl sl pc lo (.int y :: .int x :: st) μ w :=
  fun r μ' h H locs ls hP hS hL => lv_ior E.1 E.2.1 hd (k r μ' h H locs ls hP hS hL)
theorem lg_ishl (E : EG p s m args meth c cc nL own D cI cR cL ad q A0) {x y : Int32} (hd : decode cc pc = .ok (.ishl, 1)) (k : LGW p l e R s m args below meth c nL D cI cR cL ad q A0 KQ t cl sl (pc + 1) lo (.int (x <<< (y &&& 31)) :: st) μ w) : LGW p l e R s m args below meth c nL D cI cR cL ad q A0 KQ t cl sl pc lo (.int y :: .int x :: st) μ w :=
  fun r μ' h H locs ls hP hS hL => lv_ishl E.1 E.2.1 hd (k r μ' h H locs ls hP hS hL)
theorem lg_ishr (E : EG p s m args meth c cc nL own D cI cR cL ad q A0) {x y : Int32} (hd : decode cc pc = .ok (.ishr, 1)) (k : LGW p l e R s m args below meth c nL D cI cR cL ad q A0 KQ t cl sl (pc + 1) lo (.int (x >>> (y &&& 31)) :: st) μ w) : LGW p l e R s m args below meth c nL D cI cR cL ad q A0 KQ t cl sl pc lo (.int y :: .int x :: st) μ w :=
  fun r μ' h H locs ls hP hS hL => lv_ishr E.1 E.2.1 hd (k r μ' h H locs ls hP hS hL)
theorem lg_lcmp (E : EG p s m args meth c cc nL own D cI cR cL ad q A0) {x y : Int64} (hd : decode cc pc = .ok (.lcmp, 1)) (k : LGW p l e R s m args below meth c nL D cI cR cL ad q A0 KQ t cl sl (pc + 1) lo (.int (lg_cmp x y) :: st) μ w) : LGW p l e R s m args below meth c nL D cI cR cL ad q A0 KQ t cl sl pc lo (.long y :: .long x :: st) μ w :=
  fun r μ' h H locs ls hP hS hL => W.lcmp E.1 E.2.1 hd (k r μ' h H locs ls hP hS hL)
theorem lg_iconst (E : EG p s m args meth c cc nL own D cI cR cL ad q A0) {n : Int} {v : Int32} (hd : decode cc pc = .ok (.iconst n, 1)) (hv : Int32.ofInt n = v) (k : LGW p l e R s m args below meth c nL D cI cR cL ad q A0 KQ t cl sl (pc + 1) lo (.int v :: st) μ w) : LGW p l e R s m args below meth c nL D cI cR cL ad q A0 KQ t cl sl pc lo (st) μ w :=
  fun r μ' h H locs ls hP hS hL => lv_iconst E.1 E.2.1 hd hv (k r μ' h H locs ls hP hS hL)
theorem lg_bipush (E : EG p s m args meth c cc nL own D cI cR cL ad q A0) {n : Int} {v : Int32} (hd : decode cc pc = .ok (.bipush n, 2)) (hv : (Int8.ofInt n).toInt32 = v) (k : LGW p l e R s m args below meth c nL D cI cR cL ad q A0 KQ t cl sl (pc + 2) lo (.int v :: st) μ w) : LGW p l e R s m args below meth c nL D cI cR cL ad q A0 KQ t cl sl pc lo (st) μ w :=
  fun r μ' h H locs ls hP hS hL => lv_bipush E.1 E.2.1 hd hv (k r μ' h H locs ls hP hS hL)
theorem lg_sipush (E : EG p s m args meth c cc nL own D cI cR cL ad q A0) {n : Int} {v : Int32} (hd : decode cc pc = .ok (.sipush n, 3)) (hv : (Int16.ofInt n).toInt32 = v) (k : LGW p l e R s m args below meth c nL D cI cR cL ad q A0 KQ t cl sl (pc + 3) lo (.int v :: st) μ w) : LGW p l e R s m args below meth c nL D cI cR cL ad q A0 KQ t cl sl pc lo (st) μ w :=
  fun r μ' h H locs ls hP hS hL => lv_sipush E.1 E.2.1 hd hv (k r μ' h H locs ls hP hS hL)
theorem lg_iload (E : EG p s m args meth c cc nL own D cI cR cL ad q A0) {i : Nat} {x : Int32} (hd : decode cc pc = .ok (.iload i, 2)) (hl : lg lo i = some (.int x)) (k : LGW p l e R s m args below meth c nL D cI cR cL ad q A0 KQ t cl sl (pc + 2) lo (.int x :: st) μ w) : LGW p l e R s m args below meth c nL D cI cR cL ad q A0 KQ t cl sl pc lo st μ w :=
  fun r μ' h H locs ls hP hS hL => lv_iload E.1 E.2.1 hd (hL.2.2 _ _ hl) (k r μ' h H locs ls hP hS hL)
theorem lg_iload_n (E : EG p s m args meth c cc nL own D cI cR cL ad q A0) {i : Fin 4} {x : Int32} (hd : decode cc pc = .ok (.iload_n i, 1)) (hl : lg lo (i : Nat) = some (.int x)) (k : LGW p l e R s m args below meth c nL D cI cR cL ad q A0 KQ t cl sl (pc + 1) lo (.int x :: st) μ w) : LGW p l e R s m args below meth c nL D cI cR cL ad q A0 KQ t cl sl pc lo st μ w :=
  fun r μ' h H locs ls hP hS hL => lv_iload_n E.1 E.2.1 hd rfl (hL.2.2 _ _ hl) (k r μ' h H locs ls hP hS hL)
theorem lg_lload (E : EG p s m args meth c cc nL own D cI cR cL ad q A0) {i : Nat} {x : Int64} (hd : decode cc pc = .ok (.lload i, 2)) (hl : lg lo i = some (.long x)) (k : LGW p l e R s m args below meth c nL D cI cR cL ad q A0 KQ t cl sl (pc + 2) lo (.long x :: st) μ w) : LGW p l e R s m args below meth c nL D cI cR cL ad q A0 KQ t cl sl pc lo st μ w :=
  fun r μ' h H locs ls hP hS hL => lv_lload E.1 E.2.1 hd (hL.2.2 _ _ hl) (k r μ' h H locs ls hP hS hL)
theorem lg_aload_n (E : EG p s m args meth c cc nL own D cI cR cL ad q A0) {i : Fin 4} {x : Nat} (hd : decode cc pc = .ok (.aload_n i, 1)) (hl : lg lo (i : Nat) = some (.ref x)) (k : LGW p l e R s m args below meth c nL D cI cR cL ad q A0 KQ t cl sl (pc + 1) lo (.ref x :: st) μ w) : LGW p l e R s m args below meth c nL D cI cR cL ad q A0 KQ t cl sl pc lo st μ w :=
  fun r μ' h H locs ls hP hS hL => lv_aload_n E.1 E.2.1 hd rfl (hL.2.2 _ _ hl) (k r μ' h H locs ls hP hS hL)
theorem lg_istore (E : EG p s m args meth c cc nL own D cI cR cL ad q A0) {i : Nat} {x : Int32} (hd : decode cc pc = .ok (.istore i, 2)) (hn : i < nL) (hk : lk1 lo i = true) (hl : lst lo i (some (.int x)) = lo') (k : LGW p l e R s m args below meth c nL D cI cR cL ad q A0 KQ t cl sl (pc + 2) lo' st μ w) : LGW p l e R s m args below meth c nL D cI cR cL ad q A0 KQ t cl sl pc lo (.int x :: st) μ w :=
  fun r μ' h H locs ls hP hS hL => lv_istore E.1 E.2.1 hd (lo_lv hL) hn rfl (fun ls' h9 => k r μ' h H locs ls' hP hS (hl ▸ lo_of_lv1 hL hk h9))
theorem lg_istore_n (E : EG p s m args meth c cc nL own D cI cR cL ad q A0) {i : Fin 4} {x : Int32} (hd : decode cc pc = .ok (.istore_n i, 1)) (hn : (i : Nat) < nL) (hk : lk1 lo (i : Nat) = true) (hl : lst lo (i : Nat) (some (.int x)) = lo') (k : LGW p l e R s m args below meth c nL D cI cR cL ad q A0 KQ t cl sl (pc + 1) lo' st μ w) : LGW p l e R s m args below meth c nL D cI cR cL ad q A0 KQ t cl sl pc lo (.int x :: st) μ w :=
  fun r μ' h H locs ls hP hS hL => lv_istore_n E.1 E.2.1 hd rfl (lo_lv hL) hn rfl (fun ls' h9 => k r μ' h H locs ls' hP hS (hl ▸ lo_of_lv1 hL hk h9))
theorem lg_lstore (E : EG p s m args meth c cc nL own D cI cR cL ad q A0) {i : Nat} {x : Int64} (hd : decode cc pc = .ok (.lstore i, 2)) (hn : i + 1 < nL) (hk : lk1 lo i = true) (hl : lst (lst lo i (some (.long x))) (i + 1) none = lo') (k : LGW p l e R s m args below meth c nL D cI cR cL ad q A0 KQ t cl sl (pc + 2) lo' st μ w) : LGW p l e R s m args below meth c nL D cI cR cL ad q A0 KQ t cl sl pc lo (.long x :: st) μ w :=
  fun r μ' h H locs ls hP hS hL => lv_lstore E.1 E.2.1 hd (lo_lv hL) hn rfl (fun ls' h9 => k r μ' h H locs ls' hP hS (hl ▸ lo_of_lv2 hL hk h9))
theorem lg_astore_n (E : EG p s m args meth c cc nL own D cI cR cL ad q A0) {i : Fin 4} {x : Nat} (hd : decode cc pc = .ok (.astore_n i, 1)) (hn : (i : Nat) < nL) (hk : lk1 lo (i : Nat) = true) (hl : lst lo (i : Nat) (some (.ref x)) = lo') (k : LGW p l e R s m args below meth c nL D cI cR cL ad q A0 KQ t cl sl (pc + 1) lo' st μ w) : LGW p l e R s m args below meth c nL D cI cR cL ad q A0 KQ t cl sl pc lo (.ref x :: st) μ w :=
  fun r μ' h H locs ls hP hS hL => lv_astore_n E.1 E.2.1 hd rfl (lo_lv hL) hn rfl (fun ls' h9 => k r μ' h H locs ls' hP hS (hl ▸ lo_of_lv1 hL hk h9))
theorem lg_iinc (E : EG p s m args meth c cc nL own D cI cR cL ad q A0) {i : Nat} {n : Int} {x v : Int32} (hd : decode cc pc = .ok (.iinc i n, 3)) (hx : lg lo i = some (.int x)) (hv : Int32.ofInt n = v) (hn : i < nL) (hk : lk1 lo i = true) (hl : lst lo i (some (.int (x + v))) = lo') (k : LGW p l e R s m args below meth c nL D cI cR cL ad q A0 KQ t cl sl (pc + 3) lo' st μ w) : LGW p l e R s m args below meth c nL D cI cR cL ad q A0 KQ t cl sl pc lo st μ w := by
  intro r μ' h H locs ls hP hS hL
  have hm : (i, Value.int x) ∈ lp 0 lo := (lp_mem lo 0 i _).mpr ⟨i, (Nat.zero_add i).symm, hx⟩
  obtain ⟨k9, h9⟩ := List.getElem?_of_mem hm
  exact lv_iinc E.1 E.2.1 hd (lo_lv hL) h9 (by rw [hv]) hn rfl (fun ls' h8 => k r μ' h H locs ls' hP hS (hl ▸ lo_of_lv1 hL hk h8))
theorem lg_icmp_eq (E : EG p s m args meth c cc nL own D cI cR cL ad q A0) {x y : Int32} {off : Int} {tgt : Nat} (hd : decode cc pc = .ok (.if_icmp .eq off, 3)) (ht : (pc : Int) + off = (tgt : Int)) (kt : LGW p l e R s m args below meth c nL D cI cR cL ad q A0 KQ ta cl sl tgt lo st μ w) (kf : LGW p l e R s m args below meth c nL D cI cR cL ad q A0 KQ tb cl sl (pc + 3) lo st μ w) : LGW p l e R s m args below meth c nL D cI cR cL ad q A0 KQ (if x = y then ta else tb) cl sl pc lo (.int y :: .int x :: st) μ w := by
  intro r μ' h H locs ls hP hS hL
  refine lv_icmp_eq E.1 E.2.1 hd ht (fun z => ?_) (fun z => ?_)
  · rw [if_pos z] at h
    exact kt r μ' h H locs ls hP hS hL
  · rw [if_neg z] at h
    exact kf r μ' h H locs ls hP hS hL
theorem lg_icmp_ne (E : EG p s m args meth c cc nL own D cI cR cL ad q A0) {x y : Int32} {off : Int} {tgt : Nat} (hd : decode cc pc = .ok (.if_icmp .ne off, 3)) (ht : (pc : Int) + off = (tgt : Int)) (kt : LGW p l e R s m args below meth c nL D cI cR cL ad q A0 KQ tb cl sl tgt lo st μ w) (kf : LGW p l e R s m args below meth c nL D cI cR cL ad q A0 KQ ta cl sl (pc + 3) lo st μ w) : LGW p l e R s m args below meth c nL D cI cR cL ad q A0 KQ (if x = y then ta else tb) cl sl pc lo (.int y :: .int x :: st) μ w := by
  intro r μ' h H locs ls hP hS hL
  refine lv_icmp_ne E.1 E.2.1 hd ht (fun z => ?_) (fun z => ?_)
  · rw [if_neg z] at h
    exact kt r μ' h H locs ls hP hS hL
  · rw [if_pos z] at h
    exact kf r μ' h H locs ls hP hS hL
theorem lg_icmp_ge (E : EG p s m args meth c cc nL own D cI cR cL ad q A0) {x y : Int32} {off : Int} {tgt : Nat} (hd : decode cc pc = .ok (.if_icmp .ge off, 3)) (ht : (pc : Int) + off = (tgt : Int)) (kt : LGW p l e R s m args below meth c nL D cI cR cL ad q A0 KQ ta cl sl tgt lo st μ w) (kf : LGW p l e R s m args below meth c nL D cI cR cL ad q A0 KQ tb cl sl (pc + 3) lo st μ w) : LGW p l e R s m args below meth c nL D cI cR cL ad q A0 KQ (if y ≤ x then ta else tb) cl sl pc lo (.int y :: .int x :: st) μ w := by
  intro r μ' h H locs ls hP hS hL
  refine lv_icmp_ge E.1 E.2.1 hd ht (fun z => ?_) (fun z => ?_)
  · rw [if_pos z] at h
    exact kt r μ' h H locs ls hP hS hL
  · rw [if_neg z] at h
    exact kf r μ' h H locs ls hP hS hL
theorem lg_icmp_gt (E : EG p s m args meth c cc nL own D cI cR cL ad q A0) {x y : Int32} {off : Int} {tgt : Nat} (hd : decode cc pc = .ok (.if_icmp .gt off, 3)) (ht : (pc : Int) + off = (tgt : Int)) (kt : LGW p l e R s m args below meth c nL D cI cR cL ad q A0 KQ ta cl sl tgt lo st μ w) (kf : LGW p l e R s m args below meth c nL D cI cR cL ad q A0 KQ tb cl sl (pc + 3) lo st μ w) : LGW p l e R s m args below meth c nL D cI cR cL ad q A0 KQ (if y < x then ta else tb) cl sl pc lo (.int y :: .int x :: st) μ w := by
  intro r μ' h H locs ls hP hS hL
  refine lv_icmp_gt E.1 E.2.1 hd ht (fun z => ?_) (fun z => ?_)
  · rw [if_pos z] at h
    exact kt r μ' h H locs ls hP hS hL
  · rw [if_neg z] at h
    exact kf r μ' h H locs ls hP hS hL
theorem lg_if_eq (E : EG p s m args meth c cc nL own D cI cR cL ad q A0) {x : Int32} {off : Int} {tgt : Nat} (hd : decode cc pc = .ok (.ifCond .eq off, 3)) (ht : (pc : Int) + off = (tgt : Int)) (kt : LGW p l e R s m args below meth c nL D cI cR cL ad q A0 KQ ta cl sl tgt lo st μ w) (kf : LGW p l e R s m args below meth c nL D cI cR cL ad q A0 KQ tb cl sl (pc + 3) lo st μ w) : LGW p l e R s m args below meth c nL D cI cR cL ad q A0 KQ (if x = 0 then ta else tb) cl sl pc lo (.int x :: st) μ w := by
  intro r μ' h H locs ls hP hS hL
  refine lv_if_eq E.1 E.2.1 hd ht (fun z => ?_) (fun z => ?_)
  · rw [if_pos z] at h
    exact kt r μ' h H locs ls hP hS hL
  · rw [if_neg z] at h
    exact kf r μ' h H locs ls hP hS hL
theorem lg_if_ne (E : EG p s m args meth c cc nL own D cI cR cL ad q A0) {x : Int32} {off : Int} {tgt : Nat} (hd : decode cc pc = .ok (.ifCond .ne off, 3)) (ht : (pc : Int) + off = (tgt : Int)) (kt : LGW p l e R s m args below meth c nL D cI cR cL ad q A0 KQ tb cl sl tgt lo st μ w) (kf : LGW p l e R s m args below meth c nL D cI cR cL ad q A0 KQ ta cl sl (pc + 3) lo st μ w) : LGW p l e R s m args below meth c nL D cI cR cL ad q A0 KQ (if x = 0 then ta else tb) cl sl pc lo (.int x :: st) μ w := by
  intro r μ' h H locs ls hP hS hL
  refine lv_if_ne E.1 E.2.1 hd ht (fun z => ?_) (fun z => ?_)
  · rw [if_neg z] at h
    exact kt r μ' h H locs ls hP hS hL
  · rw [if_pos z] at h
    exact kf r μ' h H locs ls hP hS hL
theorem lg_if_ge (E : EG p s m args meth c cc nL own D cI cR cL ad q A0) {x : Int32} {off : Int} {tgt : Nat} (hd : decode cc pc = .ok (.ifCond .ge off, 3)) (ht : (pc : Int) + off = (tgt : Int)) (kt : LGW p l e R s m args below meth c nL D cI cR cL ad q A0 KQ ta cl sl tgt lo st μ w) (kf : LGW p l e R s m args below meth c nL D cI cR cL ad q A0 KQ tb cl sl (pc + 3) lo st μ w) : LGW p l e R s m args below meth c nL D cI cR cL ad q A0 KQ (if 0 ≤ x then ta else tb) cl sl pc lo (.int x :: st) μ w := by
  intro r μ' h H locs ls hP hS hL
  refine lv_if_ge E.1 E.2.1 hd ht (fun z => ?_) (fun z => ?_)
  · rw [if_pos z] at h
    exact kt r μ' h H locs ls hP hS hL
  · rw [if_neg z] at h
    exact kf r μ' h H locs ls hP hS hL
theorem lg_if_le (E : EG p s m args meth c cc nL own D cI cR cL ad q A0) {x : Int32} {off : Int} {tgt : Nat} (hd : decode cc pc = .ok (.ifCond .le off, 3)) (ht : (pc : Int) + off = (tgt : Int)) (kt : LGW p l e R s m args below meth c nL D cI cR cL ad q A0 KQ ta cl sl tgt lo st μ w) (kf : LGW p l e R s m args below meth c nL D cI cR cL ad q A0 KQ tb cl sl (pc + 3) lo st μ w) : LGW p l e R s m args below meth c nL D cI cR cL ad q A0 KQ (if x ≤ 0 then ta else tb) cl sl pc lo (.int x :: st) μ w := by
  intro r μ' h H locs ls hP hS hL
  refine lv_if_le E.1 E.2.1 hd ht (fun z => ?_) (fun z => ?_)
  · rw [if_pos z] at h
    exact kt r μ' h H locs ls hP hS hL
  · rw [if_neg z] at h
    exact kf r μ' h H locs ls hP hS hL
theorem lg_goto (E : EG p s m args meth c cc nL own D cI cR cL ad q A0) {off : Int} {tgt : Nat} (hd : decode cc pc = .ok (.goto off, 3)) (ht : (pc : Int) + off = (tgt : Int)) (k : LGW p l e R s m args below meth c nL D cI cR cL ad q A0 KQ t cl sl tgt lo st μ w) : LGW p l e R s m args below meth c nL D cI cR cL ad q A0 KQ t cl sl pc lo st μ w :=
  fun r μ' h H locs ls hP hS hL => lv_goto E.1 E.2.1 hd ht (k r μ' h H locs ls hP hS hL)
theorem lg_lald (E : EG p s m args meth c cc nL own D cI cR cL ad q A0) {j : Int32} {t9 : Int64 → Option (α × Mem)} (hd : decode cc pc = .ok (.laload, 1)) (k : ∀ v, LGW p l e R s m args below meth c nL D cI cR cL ad q A0 KQ (t9 v) cl sl (pc + 1) lo (.long v :: st) μ w) : LGW p l e R s m args below meth c nL D cI cR cL ad q A0 KQ ((lld w j).bind t9) cl sl pc lo (.int j :: .ref q :: st) μ w := by
  intro r μ' h H locs ls hP hS hL
  by_cases hj : ibn j 64 = true
  · rw [lld, if_pos hj] at h
    exact va_lald E.1 E.2.1 E.2.2.2.2.2.1 hP NX 2 (ow_get (w := w)) rfl (ibn_in hj) hd (k _ r μ' h H locs ls hP hS hL)
  · rw [lld, if_neg hj] at h
    cases h
theorem lg_last (E : EG p s m args meth c cc nL own D cI cR cL ad q A0) {j : Int32} {x : Int64} {t9 : (Nat → Int64) → Option (α × Mem)} (hd : decode cc pc = .ok (.lastore, 1)) (k : ∀ w1, LGW p l e R s m args below meth c nL D cI cR cL ad q A0 KQ (t9 w1) cl sl (pc + 1) lo st μ w1) : LGW p l e R s m args below meth c nL D cI cR cL ad q A0 KQ ((lls w j x).bind t9) cl sl pc lo (.long x :: .int j :: .ref q :: st) μ w := by
  intro r μ' h H locs ls hP hS hL
  by_cases hj : ibn j 64 = true
  · rw [lls, if_pos hj] at h
    refine va_last E.1 E.2.1 E.2.2.2.2.2.1 hP (E.2.2.2.2.2.2.1 μ w) hS NX 2 (ow_get (w := w)) rfl (ibn_in hj) hd (fun H1 locs1 hP1 hD1 hS1 => ?_)
    have hP2 : va_P D vwCl ((wl cI cR cL ad q μ w).set NX (oq cL q (vp_updL w j.toNatClampNeg x))) H1 := hP1
    rw [ow_set] at hP2
    exact k _ r μ' h H1 locs1 ls hP2 hS1 hL
  · rw [lls, if_neg hj] at h
    cases h
theorem lg_backM (E : EG p s m args meth c cc nL own D cI cR cL ad q A0) {H : Heap} {locs : List Jvm.Loc} {ls : Array Slot} {v : Option Value} {μ1 : Mem} {st0 rest : List Value} {av : Array Value} {Q : State → Prop} {mc1 : Nat} (hP : va_P D vwCl (wl cI cR cL ad q μ w) H)
    (hr : va_Run p l e R s m args below meth c H locs cl (6 * cl) mc1 (6 * mc1) (F0 m pc ls st0) rest (QG D cI cR ad shX NX (aA ad NX H.size) μ1 v av) (aA ad NX H.size)) (hS : va_S A0 s.heap H locs)
    (k : ∀ (H1 : Heap) (locs1 : List Jvm.Loc), va_P D vwCl (wl cI cR cL ad q μ1 w) H1 → va_S A0 s.heap H1 locs1 → W p l e R s m args below meth c H1 locs1 (cl + mc1) (6 * cl + 6 * mc1) Q (F0 m (pc + 3) ls (v.toList ++ rest))) : W p l e R s m args below meth c H locs cl (6 * cl) Q (F0 m pc ls st0) :=
  ll_backM E.ev (aA_in E.ev hS) hr hS (fun H1 locs1 hP1 hz hk hS1 => k H1 locs1 (mid_join (w' := wo cI cR ad shX NX μ1) hP (E.2.2.2.2.2.2.1 μ w) (fun q9 h1 h2 => hk q9 h1 (by rw [wo_A] at h2; exact h2)) sad_wo hP1).1 hS1)
theorem lg_mcallS (E : EG p s m args meth c cc nL own D cI cR cL ad q A0) (X : EM9 l s A0) {y : MethodName} {cy : ByteArray} {maxL d idx n mc1 : Nat} {ret : Option FieldType} {ov : β → Option Value} {f : Option (β × Mem)} {t9 : β → Mem → Option (α × Mem)} (As rest : List Value) {st0 : List Value} (hd : decode cc pc = .ok (.invokestatic idx, 3)) (hM : MLS own idx y cy maxL ret n)
    (hC : ∀ {r : β} {μ1 : Mem}, f = some (r, μ1) → CM l y (.code y cy maxL ret) d mc1 D cI cR ad shX NX As μ (ov r) μ1) (hst : st0 = As.reverse ++ rest) (hn : As.length = n) (hcat : (rest.map fun v => v.category).sum ≤ 8) (hR : d + 1 ≤ R.frames ∧ 38 * (d + 1) ≤ R.locals) (hRc : cl + mc1 ≤ R.cells ∧ 6 * cl + 6 * mc1 ≤ R.slots)
    (k : ∀ r μ1, LGW p l e R s m args below meth c nL D cI cR cL ad q A0 KQ (t9 r μ1) (cl + mc1) (6 * (cl + mc1)) (pc + 3) lo ((ov r).toList ++ rest) μ1 w) : LGW p l e R s m args below meth c nL D cI cR cL ad q A0 KQ (bd f t9) cl (6 * cl) pc lo st0 μ w := by
  intro r μ' h H locs ls hP hS hL
  cases hf : f with
  | none => rw [hf] at h; cases h
  | some x =>
    obtain ⟨r1, μ1⟩ := x
    rw [hf] at h
    exact lg_backM E hP (va_runS (Ts := Z_W) ⟨E.1, E.2.1, E.2.2.1, E.2.2.2.1, E.2.2.2.2.1⟩ (hC hf H.size) (mls_cwm hM E.2.2.2.2.1 hR) (ll_prem E.ev X (vaP_mid hP) hS) rfl hn hL.1 hst (lv_room hcat) hd hRc) hS (fun H1 locs1 hP1 hS1 => by
      have h8 := k r1 μ1 r μ' h H1 locs1 ls hP1 hS1 hL
      rw [Nat.mul_add] at h8
      exact h8)
theorem lg_mcallSi (E : EG p s m args meth c cc nL own D cI cR cL ad q A0) (X : EM9 l s A0) {y : MethodName} {cy : ByteArray} {maxL d idx n mc1 : Nat} {ret : Option FieldType} {f : Option (Int32 × Mem)} {t9 : Int32 → Mem → Option (α × Mem)} (As rest : List Value) {st0 : List Value} (hd : decode cc pc = .ok (.invokestatic idx, 3)) (hM : MLS own idx y cy maxL ret n)
    (hC : ∀ {r : Int32} {μ1 : Mem}, f = some (r, μ1) → CM l y (.code y cy maxL ret) d mc1 D cI cR ad shX NX As μ (some (.int r)) μ1) (hst : st0 = As.reverse ++ rest) (hn : As.length = n) (hcat : (rest.map fun v => v.category).sum ≤ 8) (hR : d + 1 ≤ R.frames ∧ 38 * (d + 1) ≤ R.locals) (hRc : cl + mc1 ≤ R.cells ∧ 6 * cl + 6 * mc1 ≤ R.slots)
    (k : ∀ r μ1, LGW p l e R s m args below meth c nL D cI cR cL ad q A0 KQ (t9 r μ1) (cl + mc1) (6 * (cl + mc1)) (pc + 3) lo (.int r :: rest) μ1 w) : LGW p l e R s m args below meth c nL D cI cR cL ad q A0 KQ (bd f t9) cl (6 * cl) pc lo st0 μ w := lg_mcallS E X (ov := fun r => some (.int r)) As rest hd hM hC hst hn hcat hR hRc k
theorem lg_mcallSj (E : EG p s m args meth c cc nL own D cI cR cL ad q A0) (X : EM9 l s A0) {y : MethodName} {cy : ByteArray} {maxL d idx n mc1 : Nat} {ret : Option FieldType} {f : Option (Int64 × Mem)} {t9 : Int64 → Mem → Option (α × Mem)} (As rest : List Value) {st0 : List Value} (hd : decode cc pc = .ok (.invokestatic idx, 3)) (hM : MLS own idx y cy maxL ret n)
    (hC : ∀ {r : Int64} {μ1 : Mem}, f = some (r, μ1) → CM l y (.code y cy maxL ret) d mc1 D cI cR ad shX NX As μ (some (.long r)) μ1) (hst : st0 = As.reverse ++ rest) (hn : As.length = n) (hcat : (rest.map fun v => v.category).sum ≤ 8) (hR : d + 1 ≤ R.frames ∧ 38 * (d + 1) ≤ R.locals) (hRc : cl + mc1 ≤ R.cells ∧ 6 * cl + 6 * mc1 ≤ R.slots)
    (k : ∀ r μ1, LGW p l e R s m args below meth c nL D cI cR cL ad q A0 KQ (t9 r μ1) (cl + mc1) (6 * (cl + mc1)) (pc + 3) lo (.long r :: rest) μ1 w) : LGW p l e R s m args below meth c nL D cI cR cL ad q A0 KQ (bd f t9) cl (6 * cl) pc lo st0 μ w := lg_mcallS E X (ov := fun r => some (.long r)) As rest hd hM hC hst hn hcat hR hRc k
theorem lg_mcallH (E : EG p s m args meth c cc nL own D cI cR cL ad q A0) (X : EM9 l s A0) {y : MethodName} {cy : ByteArray} {maxL d idx n mc1 : Nat} {hh : List (Nat × Nat × Nat × Nat)} {f : Option (Int32 × Mem)} {t9 : Int32 → Mem → Option (α × Mem)} (As rest : List Value) {st0 : List Value} (hd : decode cc pc = .ok (.invokestatic idx, 3)) (hM : MLH own idx y cy maxL hh n)
    (hC : ∀ {r : Int32} {μ1 : Mem}, f = some (r, μ1) → CM l y (.codeWith y cy maxL (some .int) hh) d mc1 D cI cR ad shX NX As μ (some (.int r)) μ1) (hst : st0 = As.reverse ++ rest) (hn : As.length = n) (hcat : (rest.map fun v => v.category).sum ≤ 8) (hR : d + 1 ≤ R.frames ∧ 38 * (d + 1) ≤ R.locals) (hRc : cl + mc1 ≤ R.cells ∧ 6 * cl + 6 * mc1 ≤ R.slots)
    (k : ∀ r μ1, LGW p l e R s m args below meth c nL D cI cR cL ad q A0 KQ (t9 r μ1) (cl + mc1) (6 * (cl + mc1)) (pc + 3) lo (.int r :: rest) μ1 w) : LGW p l e R s m args below meth c nL D cI cR cL ad q A0 KQ (bd f t9) cl (6 * cl) pc lo st0 μ w := by
  intro r μ' h H locs ls hP hS hL
  cases hf : f with
  | none => rw [hf] at h; cases h
  | some x =>
    obtain ⟨r1, μ1⟩ := x
    rw [hf] at h
    obtain ⟨m1, m2, m3, m4, m5, m6⟩ := hM
    have hgi : GoodIn Z_W (va_wsS own idx y (.codeWith y cy maxL (some .int) hh :: Z_W)) := zw_goodc (fun w hw => by
      simp only [va_wsS, List.mem_append, List.mem_cons, List.not_mem_nil, or_false] at hw
      rcases hw with (rfl | rfl | rfl) | rfl | h
      all_goals assumption)
    have h8 := hR.2
    exact lg_backM E hP (vx_runSW (locs := locs) (cells := cl) (slots := 6 * cl) (R := R) (Ts := Z_W) ⟨E.1, E.2.1, E.2.2.1, E.2.2.2.1, E.2.2.2.2.1⟩ (hC hf H.size) (vx_cwSW n E.2.2.2.2.1 hgi rfl rfl rfl m5 ⟨hR.1, show 8 + (maxL + 11) + 38 * d ≤ R.locals by omega⟩) (ll_prem E.ev X (vaP_mid hP) hS) (g := F0 m pc ls st0) rfl hn hL.1 hst (lv_room hcat) hd hRc) hS (fun H1 locs1 hP1 hS1 => by
      have h8 := k r1 μ1 r μ' h H1 locs1 ls hP1 hS1 hL
      rw [Nat.mul_add] at h8
      exact h8)
theorem lg_callSi (E : EG p s m args meth c cc nL own D cI cR cL ad q A0) {y : MethodName} {cy : ByteArray} {maxL d idx n : Nat} {ret : Option FieldType} {f : Option (Int32 × Mem)} {t9 : Int32 → Mem → Option (α × Mem)} (As rest : List Value) {st0 : List Value} (hd : decode cc pc = .ok (.invokestatic idx, 3)) (hM : MLS own idx y cy maxL ret n)
    (hC : ∀ {r : Int32} {μ1 : Mem}, f = some (r, μ1) → CT l y cy maxL ret d D cI cR ad shX NX As μ (some (.int r)) μ1) (hst : st0 = As.reverse ++ rest) (hn : As.length = n) (hcat : (rest.map fun v => v.category).sum ≤ 8) (hR : d + 1 ≤ R.frames ∧ 38 * (d + 1) ≤ R.locals) (hc : cl ≤ R.cells ∧ 6 * cl ≤ R.slots)
    (k : ∀ r μ1, LGW p l e R s m args below meth c nL D cI cR cL ad q A0 KQ (t9 r μ1) cl (6 * cl) (pc + 3) lo (.int r :: rest) μ1 w) : LGW p l e R s m args below meth c nL D cI cR cL ad q A0 KQ (bd f t9) cl (6 * cl) pc lo st0 μ w := by
  intro r μ' h H locs ls hP hS hL
  cases hf : f with
  | none => rw [hf] at h; cases h
  | some x =>
    obtain ⟨r1, μ1⟩ := x
    rw [hf] at h
    exact lg_backM (mc1 := 0) E hP (va_runS (Ts := Z_W) ⟨E.1, E.2.1, E.2.2.1, E.2.2.2.1, E.2.2.2.2.1⟩ (hC hf H.size) (mls_cw hM E.2.2.2.2.1 hR) (ll_pre E.ev (locs := locs) (vaP_mid hP)) rfl hn hL.1 hst (lv_room hcat) hd ⟨hc.1, hc.2⟩) hS (fun H1 locs1 hP1 hS1 => k r1 μ1 r μ' h H1 locs1 ls hP1 hS1 hL)
theorem lg_callVi (E : EG p s m args meth c cc nL own D cI cR cL ad q A0) {y : MethodName} {cy : ByteArray} {maxL d idx n ci o9 : Nat} {ret : Option FieldType} {f : Option (Int32 × Mem)} {t9 : Int32 → Mem → Option (α × Mem)} (As rest : List Value) {st0 : List Value} (hd : decode cc pc = .ok (.invokevirtual idx, 3)) (hM : MLV own idx y cy maxL ret n)
    (hC : ∀ {r : Int32} {μ1 : Mem}, f = some (r, μ1) → CT l y cy maxL ret d D cI cR ad shX NX (.ref (ad o9) :: As) μ (some (.int r)) μ1) (ho : o9 < NX) (hso : (shX o9).1 = ci + 2) (hci : (vwCl[ci]?).map (fun q => q.1) = some y.cls) (hst : st0 = As.reverse ++ .ref (ad o9) :: rest) (hn : As.length = n) (hcat : (rest.map fun v => v.category).sum ≤ 8) (hR : d + 1 ≤ R.frames ∧ 38 * (d + 1) ≤ R.locals) (hc : cl ≤ R.cells ∧ 6 * cl ≤ R.slots)
    (k : ∀ r μ1, LGW p l e R s m args below meth c nL D cI cR cL ad q A0 KQ (t9 r μ1) cl (6 * cl) (pc + 3) lo (.int r :: rest) μ1 w) : LGW p l e R s m args below meth c nL D cI cR cL ad q A0 KQ (bd f t9) cl (6 * cl) pc lo st0 μ w := by
  intro r μ' h H locs ls hP hS hL
  cases hf : f with
  | none => rw [hf] at h; cases h
  | some x =>
    obtain ⟨r1, μ1⟩ := x
    rw [hf] at h
    have hg := wo_get (cI := cI) (cR := cR) (ad := ad) (shf := shX) (μ := μ) ho
    rw [cont_o hso] at hg
    cases hcl : vwCl[ci]? with
    | none => rw [hcl] at hci; cases hci
    | some qc =>
      rw [hcl] at hci
      have hrec := va_recv E.ev.2.2.2.2.2.1 (vaP_mid hP) hcl hg
      rw [show qc.1 = y.cls from Option.some.inj hci] at hrec
      have hpre := ll_pre E.ev (locs := locs) (As := .ref (ad o9) :: As) (vaP_mid hP)
      exact lg_backM (mc1 := 0) E hP (va_runV (Ts := Z_W) (C := y.cls) ⟨E.1, E.2.1, E.2.2.1, E.2.2.2.1, E.2.2.2.2.1⟩ (hC hf H.size) (mlv_cw hM E.2.2.2.2.1 hR) ⟨hpre.1, hrec, hpre.2⟩ rfl hn hL.1 hst (lv_room hcat) hd ⟨hc.1, hc.2⟩) hS (fun H1 locs1 hP1 hS1 => k r1 μ1 r μ' h H1 locs1 ls hP1 hS1 hL)
theorem lg_backX (E : EG p s m args meth c cc nL own D cI cR cL ad q A0) {H : Heap} {locs : List Jvm.Loc} {ls : Array Slot} {v1 : Option Value} {μ1 : Mem} {st0 rest : List Value} {av : Array Value} {Q : State → Prop} {mc1 ms1 : Nat} (hP : va_P D vwCl (wl cI cR cL ad q μ w) H)
    (hr : vx_Run p l e R s m args below meth c H locs cl sl mc1 ms1 (F0 m pc ls st0) rest (QXc D cI cR ad shX NX (aA ad NX H.size) μ1 (.inl v1) av) (QXx D cI cR ad shX NX (aA ad NX H.size) μ1 (.inl v1)) (aA ad NX H.size)) (hS : va_S A0 s.heap H locs)
    (kk : ∀ (H1 : Heap) (locs1 : List Jvm.Loc), va_P D vwCl (wl cI cR cL ad q μ1 w) H1 → va_S A0 s.heap H1 locs1 → W p l e R s m args below meth c H1 locs1 (cl + mc1) (sl + ms1) Q (F0 m (pc + 3) ls (v1.toList ++ rest))) : W p l e R s m args below meth c H locs cl sl Q (F0 m pc ls st0) := by
  have hA := aA_in E.ev hS
  intro T hT X9
  rcases hr T hT X9 with ⟨v', st₀, t, T', L, h0, X', hL, e1, e2, ⟨v9, ho, hv, hP1, hK1, hz, hk⟩, stp⟩ | ⟨q9, st₀, t, T', L, E9, ce, h0, X', hL, e1, e2, ⟨k, hk4, ho, hE, hP1, hK1, hz, hk⟩, hce, hcv, hcl, stp⟩
  · cases hv
    cases ho
    rw [h0] at hz hk
    obtain ⟨t2, a1, b1⟩ := kk T'.heap (locs ++ L) (mid_join (w' := wo cI cR ad shX NX μ1) hP (E.2.2.2.2.2.2.1 μ w) (fun q9 h1 h2 => by rw [e1]; exact hk q9 h1 (by rw [wo_A] at h2; exact h2)) sad_wo (by rw [e1]; exact hP1)).1
      ⟨Nat.le_trans hS.1 (by rw [e1]; exact hz), fun q h1 h2 => by rw [e1, hk q (Nat.lt_of_lt_of_le h1 hS.1) (fun z => h2 (hA q z))]; exact hS.2.1 q h1 h2, fun q hq => by
        rcases List.mem_append.mp hq with h | h
        · exact hS.2.2 q h
        · exact hA _ (hL q h)⟩ T' rfl X'
    exact ⟨t2, stp t2 a1, b1⟩
  · cases ho
theorem lg_ycallVi (E : EG p s m args meth c cc nL own D cI cR cL ad q A0) (X : EM9 l s A0) {y : MethodName} {cy : ByteArray} {maxL d idx n mc1 ci o9 : Nat} {ret : Option FieldType} {f : Option ((Int32 ⊕ Nat) × Mem)} {t9 : Int32 → Mem → Option (α × Mem)} (As rest : List Value) {st0 : List Value} (hd : decode cc pc = .ok (.invokevirtual idx, 3)) (hM : MLV own idx y cy maxL ret n)
    (hC : ∀ {r : Int32 ⊕ Nat} {μ1 : Mem}, f = some (r, μ1) → CX l y cy maxL ret d mc1 D cI cR ad shX NX (.ref (ad o9) :: As) μ (r.elim (fun r => .inl (some (.int r))) .inr) μ1) (ho : o9 < NX) (hso : (shX o9).1 = ci + 2) (hci : (vwCl[ci]?).map (fun q => q.1) = some y.cls) (hst : st0 = As.reverse ++ .ref (ad o9) :: rest) (hn : As.length = n) (hcat : (rest.map fun v => v.category).sum ≤ 8) (hR : d + 1 ≤ R.frames ∧ 38 * (d + 1) ≤ R.locals) (hRc : cl + mc1 ≤ R.cells ∧ 6 * cl + 6 * mc1 ≤ R.slots)
    (k : ∀ r μ1, LGW p l e R s m args below meth c nL D cI cR cL ad q A0 KQ (t9 r μ1) (cl + mc1) (6 * (cl + mc1)) (pc + 3) lo (.int r :: rest) μ1 w) : LGW p l e R s m args below meth c nL D cI cR cL ad q A0 KQ (bz f t9) cl (6 * cl) pc lo st0 μ w := by
  intro r μ' h H locs ls hP hS hL
  cases hf : f with
  | none => rw [hf] at h; cases h
  | some x =>
    obtain ⟨r1, μ1⟩ := x
    rw [hf] at h
    cases r1 with
    | inr k1 => cases h
    | inl r1 =>
      have hg := wo_get (cI := cI) (cR := cR) (ad := ad) (shf := shX) (μ := μ) ho
      rw [cont_o hso] at hg
      cases hcl9 : vwCl[ci]? with
      | none => rw [hcl9] at hci; cases hci
      | some qc =>
        rw [hcl9] at hci
        have hrec := va_recv E.ev.2.2.2.2.2.1 (vaP_mid hP) hcl9 hg
        rw [show qc.1 = y.cls from Option.some.inj hci] at hrec
        have hpre := ll_prey E.ev X (As := .ref (ad o9) :: As) (vaP_mid hP) hS
        exact lg_backX E hP (vx_runV (Ts := Z_W) (C := y.cls) ⟨E.1, E.2.1, E.2.2.1, E.2.2.2.1, E.2.2.2.2.1⟩ (hC hf H.size) (mlv_cwx hM E.2.2.2.2.1 hR) ⟨hpre.1, hrec, hpre.2⟩ rfl hn hL.1 hst (lv_room hcat) hd hRc) hS (fun H1 locs1 hP1 hS1 => by
          have h8 := k r1 μ1 r μ' h H1 locs1 ls hP1 hS1 hL
          rw [Nat.mul_add] at h8
          exact h8)
end LGROWS
/-! the script -/
section DRROWS
variable {p : Program} {l : Launch} {e : Env} {R : Room} {s : State} {m : MethodId} {args : Array Value} {below : List Frame} {meth : Method} {c : Code} {cc : ByteArray} {nL : Nat} {own : String} {D : va_G} {cI cR : ClassId} {ad : Nat → Nat} {shf : Nat → Shp} {N : Nat} {A0 : Nat → Prop}
variable {α β : Type} {KQ : α → Mem → State → Prop} {t : Option (α × Mem)} {cl sl pc : Nat} {lo lo' : List (Option Value)} {st : List Value} {μ : Mem}
abbrev ES (s : State) (A0 : Nat → Prop) (b L : Nat) (xs : Nat → Int32) : Prop := va_X b L xs s s.heap ∧ b < s.heap.size ∧ ¬ A0 b
theorem ll_sld (E : EV p s m args meth c cc nL own D cI cR ad shf N A0) {b L : Nat} {xs : Nat → Int32} (S : ES s A0 b L xs) {j : Int32} {t9 : Int32 → Option (α × Mem)} (hd : decode cc pc = .ok (.iaload, 1)) (k : ∀ v, LL p l e R s m args below meth c nL D cI cR ad shf N A0 KQ (t9 v) cl sl (pc + 1) lo (.int v :: st) μ) : LL p l e R s m args below meth c nL D cI cR ad shf N A0 KQ ((ld L xs j).bind t9) cl sl pc lo (.int j :: .ref b :: st) μ := by
  intro r μ' h H locs ls hP hS hL
  by_cases hj : ibn j L = true
  · rw [ld, if_pos hj] at h
    exact va_sld E.1 E.2.1 S.1 S.2.1 S.2.2 hS (ibn_in hj) hd (k _ r μ' h H locs ls hP hS hL)
  · rw [ld, if_neg hj] at h
    cases h
theorem ll_slen (E : EV p s m args meth c cc nL own D cI cR ad shf N A0) {b L : Nat} {xs : Nat → Int32} (S : ES s A0 b L xs) (hd : decode cc pc = .ok (.arraylength, 1)) (k : LL p l e R s m args below meth c nL D cI cR ad shf N A0 KQ t cl sl (pc + 1) lo (.int (Int32.ofNat L) :: st) μ) : LL p l e R s m args below meth c nL D cI cR ad shf N A0 KQ t cl sl pc lo (.ref b :: st) μ :=
  fun r μ' h H locs ls hP hS hL => va_slen E.1 E.2.1 S.1 S.2.1 S.2.2 hS hd (k r μ' h H locs ls hP hS hL)
def PCd (D : va_G) (cI cR : ClassId) (b L : Nat) (xs : Nat → Int32) (av : List Value) (sz : Nat) : Array Value → State → Prop := va_Pc av (fun U => U.heap.size = sz ∧ va_X b L xs U U.heap ∧ b < sz ∧ va_K D vwCl (tyC cI cR) U ∧ EXn U)
theorem PCd_blind {b L : Nat} {xs : Nat → Int32} {av : List Value} {sz : Nat} : FrameBlind (PCd D cI cR b L xs av sz) := fun a U g mk q => by
  obtain ⟨q0, q1, qX, qb, qK, qE⟩ := q
  exact ⟨q0, q1, va_X.moved (u := U) (U := U.calling g mk a) (Vm.Alike.refl U.vm) qX, qb, va_K.moved (u := U) (U := U.calling g mk a) (Vm.Alike.refl U.vm) qK, EXn.same (u := U) (U := U.calling g mk a) rfl qE⟩
def CD (l : Launch) (y : MethodName) (cy : ByteArray) (maxL : Nat) (ret : Option FieldType) (d : Nat) (D : va_G) (cI cR : ClassId) (b L : Nat) (xs : Nat → Int32) (av : List Value) (v : Option Value) : Prop :=
  ∀ sz, Met l y (.code y cy maxL ret :: Z_W) (RM d) (PCd D cI cR b L xs av sz) (QG D cI cR (fun _ => 0) shX 0 (aA (fun _ => 0) 0 sz) (fun _ _ => 0) v) 0 0 (aA (fun _ => 0) 0 sz)
theorem cd_of {y : MethodName} {cy : ByteArray} {maxL d b L : Nat} {xs : Nat → Int32} {ret : Option FieldType} {av : List Value} {ov : α → Option Value} {f : Option (α × Mem)} (hy : plainFor y = true) (hown : y.cls = own) (hlen : (lg_sl av).length ≤ maxL)
    (body : ∀ (p : Program) (e : Env) (s : State) (m : MethodId) (below : List Frame) (meth : Method) (c : Code) (A0 : Nat → Prop), EV p s m av.toArray meth c cy maxL own D cI cR (fun _ => 0) shX 0 A0 → ES s A0 b L xs → meth.sig.returnType = ret →
      LL p l e (RM d) s m av.toArray below meth c maxL D cI cR (fun _ => 0) shX 0 A0 (fun r μ' => KG below av.toArray s D cI cR (fun _ => 0) shX 0 A0 (ov r) μ') f 0 0 0 (lo0 av maxL) [] (fun _ _ => 0))
    {r : α} (hf : f = some (r, fun _ _ => 0)) : CD l y cy maxL ret d D cI cR b L xs av (ov r) := by
  intro sz
  refine met_ofWF (cc := cy) (maxL := maxL) (ret := ret) hy rfl ?_
  intro p e s m args below meth c s₁ B hml hv
  obtain ⟨rfl, hsz, hX, hb, hK, hE0⟩ := hv
  have hts := atoms_spec (ws := .code y cy maxL ret :: Z_W) B.pre
  have ho : s.vm.findClass own = some m.cls := hown ▸ findClass_of_methodNamed B.named
  subst hsz
  have hl := lv_entry av (n := maxL) hlen
  rw [lg_entry_eq]
  generalize (lg_sl av ++ List.replicate (maxL - (lg_sl av).length) Slot.unset).toArray = ls at hl ⊢
  exact body p e s m below meth c (aA (fun _ => 0) 0 s.heap.size) ⟨B.exec, B.bytes, hml, ho, fun w hw => hts w (List.mem_cons_of_mem _ hw), hK, fun μ => ⟨fun i j p q h => by simp [wo] at h, fun k q h => by simp [wo] at h⟩, fun q h => Or.inr h, B.notSynchronized, hE0⟩ ⟨hX, hb, by
      rintro (⟨k9, h1, _⟩ | h1)
      · omega
      · omega⟩ B.returns r _ hf s.heap [] ls wp0 va_S.rf
    ⟨hl.1, hl.2.1, fun i v h => hl.2.2 (i, v) (by have h2 := lo0_args av maxL 0 i v h; rwa [Nat.zero_add] at h2)⟩
theorem lg_drawn {cL : ClassId} {q : Nat} {w : Nat → Int64} (E : EG p s m args meth c cc nL own D cI cR cL ad q A0) {b L : Nat} {xs : Nat → Int32} (S : ES s A0 b L xs) {y : MethodName} {cy : ByteArray} {maxL d idx n : Nat} {ret : Option FieldType} {f : Option (Int32 × Mem)} {t9 : Int32 → Option (α × Mem)} (As rest : List Value) {st0 : List Value} (hd : decode cc pc = .ok (.invokestatic idx, 3)) (hM : MLS own idx y cy maxL ret n)
    (hC : ∀ {r : Int32}, f = some (r, fun _ _ => 0) → CD l y cy maxL ret d D cI cR b L xs As (some (.int r))) (hf0 : ∀ r μ1, f = some (r, μ1) → μ1 = fun _ _ => 0) (hst : st0 = As.reverse ++ rest) (hn : As.length = n) (hcat : (rest.map fun v => v.category).sum ≤ 8) (hR : d + 1 ≤ R.frames ∧ 38 * (d + 1) ≤ R.locals) (hc : cl ≤ R.cells ∧ 6 * cl ≤ R.slots)
    (k : ∀ r, LGW p l e R s m args below meth c nL D cI cR cL ad q A0 KQ (t9 r) cl (6 * cl) (pc + 3) lo (.int r :: rest) μ w) : LGW p l e R s m args below meth c nL D cI cR cL ad q A0 KQ (bd f fun r _ => t9 r) cl (6 * cl) pc lo st0 μ w := by
  intro r μ' h H locs ls hP hS hL
  cases hf : f with
  | none => rw [hf] at h; cases h
  | some x =>
    obtain ⟨r1, μ1⟩ := x
    have h0 := hf0 r1 μ1 hf
    subst h0
    rw [hf] at h
    have hbH : b < H.size := Nat.lt_of_lt_of_le S.2.1 hS.1
    have hA : ∀ q, aA (fun _ => 0) 0 H.size q → A0 q := by
      rintro q (⟨k9, h1, rfl⟩ | h1)
      · omega
      · exact E.2.2.2.2.2.2.2.1 q (Nat.le_trans hS.1 h1)
    have hpre : PreS s H (PCd D cI cR b L xs As H.size) As := ⟨PCd_blind, fun U hU hW => ⟨rfl, by rw [hU], by
      rw [hU]
      exact va_X.moved hW.alike (S.1.kept (hS.2.1 b S.2.1 S.2.2)), hbH, va_K.moved hW.alike E.ev.2.2.2.2.2.1, EXn.warm hW E.2.2.2.2.2.2.2.2.2⟩⟩
    exact ll_backM (mc1 := 0) E.ev hA (va_runS (Ts := Z_W) ⟨E.1, E.2.1, E.2.2.1, E.2.2.2.1, E.2.2.2.2.1⟩ (hC hf H.size) (mls_cw hM E.2.2.2.2.1 hR) hpre rfl hn hL.1 hst (lv_room hcat) hd ⟨hc.1, hc.2⟩) hS (fun H1 locs1 _ hz hk hS1 => k r1 r μ' h H1 locs1 ls (hP.kept (fun i q hq => hk q.1 (hP i q hq).lt (by
        rintro (⟨k9, h1, _⟩ | h1)
        · omega
        · exact absurd (hP i q hq).lt (by omega)))) hS1 hL)
end DRROWS
