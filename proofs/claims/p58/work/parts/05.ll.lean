/-- what the machine's tables say beside the words: the texts of the class's exceptions, and its one call of a nest mate -/
def strs : List (Nat × String) := [(91, "no such place or register"), (98, "kind or number out of range"), (103, "there are 20 steps"), (387, "no such register"), (224, "no saved state"), (239, "no snapshot"), (395, "no such step"), (391, "no such unit"), (152, "slots out of range"), (157, "latency out of range"), (162, "delay out of range"), (292, "bundle out of range"), (173, "the step is laid in none"), (192, "code out of range"), (197, "the buffer is full"), (210, "not complete steps as a text"), (215, "more than 20 steps"), (389, "no such cell"), (393, "rounds out of range")]
/-- the exceptions that the class throws -/
def xnm (k : Nat) : String := match k with
  | 1 => "java/lang/IndexOutOfBoundsException"
  | 2 => "java/lang/IllegalArgumentException"
  | _ => "java/lang/IllegalStateException"
def dcls : List MethodName := [⟨"java/lang/RuntimeException", "<init>", "()V"⟩, ⟨"java/lang/RuntimeException", "<init>", "(Ljava/lang/String;)V"⟩, ⟨"java/lang/Exception", "<init>", "()V"⟩, ⟨"java/lang/Exception", "<init>", "(Ljava/lang/String;)V"⟩, ⟨"java/lang/Throwable", "<init>", "()V"⟩, ⟨"java/lang/Throwable", "<init>", "(Ljava/lang/String;)V"⟩]
def nests : List (String × Nat × MethodName × String) := [("BuntingBundles", 11, ⟨"BuntingBundles$State", "<init>", "()V"⟩, "BuntingBundles"), ("BuntingBundles$History", 17, ⟨"BuntingBundles$State", "<init>", "()V"⟩, "BuntingBundles"), ("BuntingBundles", 28, ⟨"BuntingBundles$Text", "<init>", "()V"⟩, "BuntingBundles"), ("BuntingBundles", 35, ⟨"BuntingBundles$Links", "<init>", "()V"⟩, "BuntingBundles"), ("BuntingBundles", 42, ⟨"BuntingBundles$Packer", "<init>", "()V"⟩, "BuntingBundles"), ("BuntingBundles", 49, ⟨"BuntingBundles$Circles", "<init>", "()V"⟩, "BuntingBundles"), ("BuntingBundles", 56, ⟨"BuntingBundles$LoopPlan", "<init>", "()V"⟩, "BuntingBundles"), ("BuntingBundles", 63, ⟨"BuntingBundles$Runner", "<init>", "()V"⟩, "BuntingBundles"), ("BuntingBundles$Text", 71, ⟨"BuntingBundles", "mixed", "(JJ)J"⟩, "BuntingBundles")]
def EXn (U : State) : Prop := (∀ q ∈ nests, va_Nw (.methodLinkNest q.1 q.2.1 q.2.2.1 q.2.2.2) U) ∧ (∀ q ∈ strs, (∃ sa, vk_R RX8 q.1 q.2 sa U)) ∧ (∀ k, k < 4 → va_Nw (.castable (xnm k) (xnm k)) U) ∧ (∀ x ∈ dcls, va_Nw (.declares x) U) ∧ va_AO RX6 U
theorem EXn.same {u U : State} (h : u.vm = U.vm) (hE : EXn u) : EXn U := ⟨fun q hq => (hE.1 q hq).same rfl h, fun q hq => (hE.2.1 q hq).imp fun _ h9 => h9.same h.symm, fun k hk => (hE.2.2.1 k hk).same rfl h, fun x hx => (hE.2.2.2.1 x hx).same rfl h, hE.2.2.2.2.moved (by rw [h]; exact Vm.Alike.refl _)⟩
theorem EXn.warm {s U : State} (hW : s.WarmedH U.vm) (hE : EXn s) : EXn U := ⟨fun q hq => (hE.1 q hq).warmM hW, fun q hq => (hE.2.1 q hq).imp fun _ h9 => h9.warm hW, fun k hk => (hE.2.2.1 k hk).warmC hW, fun x hx => (hE.2.2.2.1 x hx).warmD hW, hE.2.2.2.2.moved hW.alike⟩

/-- what stands fast while a method runs -/
abbrev EV (p : Program) (s : State) (m : MethodId) (args : Array Value) (meth : Method) (c : Code) (cc : ByteArray) (nL : Nat) (own : String) (D : va_G) (cI cR : ClassId) (ad : Nat → Nat) (shf : Nat → Shp) (N : Nat) (A0 : Nat → Prop) : Prop :=
  p.tables.exec = Jvm.exec ∧ c.code = cc ∧ c.maxLocals = nL ∧ s.vm.findClass own = some m.cls ∧ (∀ w ∈ Z_W, w.before args s = true) ∧ va_K D vwCl (tyC cI cR) s ∧ (∀ μ, va_D A0 (wo cI cR ad shf N μ)) ∧ (∀ q, s.heap.size ≤ q → A0 q) ∧ meth.locks = false ∧ EXn s
/-- where the shallow term t answers (r, μ'), the machine at pc comes to KQ r μ' -/
def LL {α : Type} (p : Program) (l : Launch) (e : Env) (R : Room) (s : State) (m : MethodId) (args : Array Value) (below : List Frame) (meth : Method) (c : Code) (nL : Nat) (D : va_G) (cI cR : ClassId) (ad : Nat → Nat) (shf : Nat → Shp) (N : Nat) (A0 : Nat → Prop) (KQ : α → Mem → State → Prop) (t : Option (α × Mem)) (cl sl pc : Nat) (lo : List (Option Value)) (st : List Value) (μ : Mem) : Prop :=
  ∀ (r : α) (μ' : Mem), t = some (r, μ') → ∀ (H : Heap) (locs : List Loc) (ls : Array Slot), va_P D vwCl (wo cI cR ad shf N μ) H → va_S A0 s.heap H locs → lo_has ls nL lo → W p l e R s m args below meth c H locs cl sl (KQ r μ') (F0 m pc ls st)
def ibn (j : Int32) (n : Nat) : Bool := decide (0 ≤ j) && decide (j.toNatClampNeg < n)
theorem ibn_in {j : Int32} {n : Nat} (h : ibn j n = true) : vp_in j n := by
  unfold ibn at h
  simp only [Bool.and_eq_true, decide_eq_true_eq] at h
  rintro (q | q)
  · exact absurd h.1 (Int32.not_le.mpr q)
  · omega
/-- a call's answer and memory handed on -/
def bd {β γ : Type} (o : Option (β × Mem)) (f : β → Mem → Option γ) : Option γ := match o with
  | some x => f x.1 x.2
  | none => none
/-- reading, writing and copying in a row of n; dividing; writing a field -/
def ld (n : Nat) (f : Nat → Int32) (j : Int32) : Option Int32 := if ibn j n = true then some (f j.toNatClampNeg) else none
def ldr (n : Nat) (ok : Nat → Bool) (f : Nat → Int32) (j : Int32) : Option Nat := if ibn j n = true ∧ ok (f j.toNatClampNeg).toNatClampNeg = true then some (f j.toNatClampNeg).toNatClampNeg else none
def ast (n : Nat) (μ : Mem) (a : Nat) (j v : Int32) : Option Mem := if ibn j n = true then some (mu μ a j.toNatClampNeg v) else none
def astr (n : Nat) (μ : Mem) (a : Nat) (j : Int32) (q : Nat) : Option Mem := if ibn j n = true ∧ q < 2147483648 then some (mu μ a j.toNatClampNeg (nI q)) else none
def pt (μ : Mem) (a k : Nat) (v : Int32) : Option Mem := some (mu μ a k v)
def dv (x y : Int32) : Option Int32 := if y = 0 then none else some (x / y)
def rmd (x y : Int32) : Option Int32 := if y = 0 then none else some (x - x / y * y)
def lrmd (x y : Int64) : Option Int64 := if y = 0 then none else some (x - x / y * y)
def acp (n0 n1 : Nat) (μ : Mem) (a0 : Nat) (sp : Int32) (a1 : Nat) (dp n : Int32) : Option Mem :=
  if 0 ≤ sp ∧ 0 ≤ dp ∧ 0 ≤ n ∧ sp.toNatClampNeg + n.toNatClampNeg ≤ n0 ∧ dp.toNatClampNeg + n.toNatClampNeg ≤ n1 then some (ms μ a1 (va_cpy (μ a0) (μ a1) sp.toNatClampNeg dp.toNatClampNeg n.toNatClampNeg)) else none
/-- the greater of two, the less of two, as Math has them -/
def jmax (x y : Int32) : Int32 := if x < y then y else x
def jmin (x y : Int32) : Int32 := if y < x then y else x
def ak (sh : Shp) : Option Nat := if sh.1 = 0 then some sh.2.1 else none
def rk (sh : Shp) : Option Nat := if sh.1 = 1 then some sh.2.1 else none
def fk (sh : Shp) (ci k : Nat) : Option (Option Nat) := if sh.1 = ci + 2 ∧ k < sh.2.1 then some (sh.2.2 k) else none
theorem ak_eq {sh : Shp} {n : Nat} (h : ak sh = some n) : sh.1 = 0 ∧ sh.2.1 = n := by
  unfold ak at h
  split at h
  · next h1 => exact ⟨h1, Option.some.inj h⟩
  · cases h
theorem rk_eq {sh : Shp} {n : Nat} (h : rk sh = some n) : sh.1 = 1 ∧ sh.2.1 = n := by
  unfold rk at h
  split at h
  · next h1 => exact ⟨h1, Option.some.inj h⟩
  · cases h
theorem fk_eq {sh : Shp} {ci k : Nat} {r : Option Nat} (h : fk sh ci k = some r) : sh.1 = ci + 2 ∧ k < sh.2.1 ∧ sh.2.2 k = r := by
  unfold fk at h
  split at h
  · next h1 => exact ⟨h1.1, h1.2, Option.some.inj h⟩
  · cases h
/-- the field at this class's constant idx is the field k of the class ci -/
def FLK (own : String) (idx ci k : Nat) : Prop := ∃ (C : String) (T : u_T) (n : Nat) (ty0 : Nat → FieldType), vwCl[ci]? = some (C, T, n) ∧ k < n ∧ (∀ w ∈ u_ws C T n, w ∈ Z_W) ∧ Cond.fieldLink own idx (T k).1 (T k).2.1 (T k).2.2.1 ∈ Z_W ∧ (∀ k, k < n → parseFieldDescriptor (T k).2.2.1 = some (ty0 k)) ∧ (∀ a, a < n → ∀ b, b < n → a ≠ b → (T a).2.1 ≠ (T b).2.1)
def zty (z : Bool) : FieldType := match z with
  | true => .boolean
  | false => .int
def FLW (own : String) (idx ci k : Nat) (z : Bool) : Prop := FLK own idx ci k ∧ ∃ (C : String) (T : u_T) (n : Nat), vwCl[ci]? = some (C, T, n) ∧ (T k).2.2.2 = false ∧ parseFieldDescriptor (T k).2.2.1 = some (zty z)
section LLROWS
variable {p : Program} {l : Launch} {e : Env} {R : Room} {s : State} {m : MethodId} {args : Array Value} {below : List Frame} {meth : Method} {c : Code} {cc : ByteArray} {nL : Nat} {own : String} {D : va_G} {cI cR : ClassId} {ad : Nat → Nat} {shf : Nat → Shp} {N : Nat} {A0 : Nat → Prop}
variable {α β : Type} {KQ : α → Mem → State → Prop} {t ta tb : Option (α × Mem)} {cl sl pc : Nat} {lo lo' : List (Option Value)} {st : List Value} {μ : Mem}

theorem ll_some {r : α} {μ' : Mem} (k : ∀ (H : Heap) (locs : List Loc) (ls : Array Slot), va_P D vwCl (wo cI cR ad shf N μ) H → va_S A0 s.heap H locs → lo_has ls nL lo → W p l e R s m args below meth c H locs cl sl (KQ r μ') (F0 m pc ls st)) : LL p l e R s m args below meth c nL D cI cR ad shf N A0 KQ (some (r, μ')) cl sl pc lo st μ := by
  intro r1 μ1 h
  cases h
  exact k
theorem ll_none : LL p l e R s m args below meth c nL D cI cR ad shf N A0 KQ none cl sl pc lo st μ := fun r μ' h => by cases h
theorem ll_lo (hs : lsub lo' lo) (k : LL p l e R s m args below meth c nL D cI cR ad shf N A0 KQ t cl sl pc lo' st μ) : LL p l e R s m args below meth c nL D cI cR ad shf N A0 KQ t cl sl pc lo st μ := fun r μ' h H locs ls hP hS hL => k r μ' h H locs ls hP hS ⟨hL.1, hL.2.1, fun i v hi => hL.2.2 i v (lo_sub hs i v hi)⟩
theorem ll_t {t' : Option (α × Mem)} (h : t = t') (k : LL p l e R s m args below meth c nL D cI cR ad shf N A0 KQ t' cl sl pc lo st μ) : LL p l e R s m args below meth c nL D cI cR ad shf N A0 KQ t cl sl pc lo st μ := h ▸ k
theorem ll_iadd (E : EV p s m args meth c cc nL own D cI cR ad shf N A0) {x y : Int32} (hd : decode cc pc = .ok (.iadd, 1)) (k : LL p l e R s m args below meth c nL D cI cR ad shf N A0 KQ t cl sl (pc + 1) lo (.int (x + y) :: st) μ) : LL p l e R s m args below meth c nL D cI cR ad shf N A0 KQ t cl sl pc lo (.int y :: .int x :: st) μ :=
  fun r μ' h H locs ls hP hS hL => lv_iadd E.1 E.2.1 hd (k r μ' h H locs ls hP hS hL)
theorem ll_isub (E : EV p s m args meth c cc nL own D cI cR ad shf N A0) {x y : Int32} (hd : decode cc pc = .ok (.isub, 1)) (k : LL p l e R s m args below meth c nL D cI cR ad shf N A0 KQ t cl sl (pc + 1) lo (.int (x - y) :: st) μ) : LL p l e R s m args below meth c nL D cI cR ad shf N A0 KQ t cl sl pc lo (.int y :: .int x :: st) μ :=
  fun r μ' h H locs ls hP hS hL => lv_isub E.1 E.2.1 hd (k r μ' h H locs ls hP hS hL)
theorem ll_imul (E : EV p s m args meth c cc nL own D cI cR ad shf N A0) {x y : Int32} (hd : decode cc pc = .ok (.imul, 1)) (k : LL p l e R s m args below meth c nL D cI cR ad shf N A0 KQ t cl sl (pc + 1) lo (.int (x * y) :: st) μ) : LL p l e R s m args below meth c nL D cI cR ad shf N A0 KQ t cl sl pc lo (.int y :: .int x :: st) μ :=
  fun r μ' h H locs ls hP hS hL => lv_imul E.1 E.2.1 hd (k r μ' h H locs ls hP hS hL)
theorem ll_iand (E : EV p s m args meth c cc nL own D cI cR ad shf N A0) {x y : Int32} (hd : decode cc pc = .ok (.iand, 1)) (k : LL p l e R s m args below meth c nL D cI cR ad shf N A0 KQ t cl sl (pc + 1) lo (.int (x &&& y) :: st) μ) : LL p l e R s m args below meth c nL D cI cR ad shf N A0 KQ t cl sl pc lo (.int y :: .int x :: st) μ :=
  fun r μ' h H locs ls hP hS hL => lv_iand E.1 E.2.1 hd (k r μ' h H locs ls hP hS hL)
theorem ll_ior (E : EV p s m args meth c cc nL own D cI cR ad shf N A0) {x y : Int32} (hd : decode cc pc = .ok (.ior, 1)) (k : LL p l e R s m args below meth c nL D cI cR ad shf N A0 KQ t cl sl (pc + 1) lo (.int (x ||| y) :: st) μ) : LL p l e R s m args below meth c nL D cI cR ad shf N A0 KQ t cl sl pc lo (.int y :: .int x :: st) μ :=
  fun r μ' h H locs ls hP hS hL => lv_ior E.1 E.2.1 hd (k r μ' h H locs ls hP hS hL)
theorem ll_ixor (E : EV p s m args meth c cc nL own D cI cR ad shf N A0) {x y : Int32} (hd : decode cc pc = .ok (.ixor, 1)) (k : LL p l e R s m args below meth c nL D cI cR ad shf N A0 KQ t cl sl (pc + 1) lo (.int (x ^^^ y) :: st) μ) : LL p l e R s m args below meth c nL D cI cR ad shf N A0 KQ t cl sl pc lo (.int y :: .int x :: st) μ :=
  fun r μ' h H locs ls hP hS hL => lv_ixor E.1 E.2.1 hd (k r μ' h H locs ls hP hS hL)
theorem ll_ladd (E : EV p s m args meth c cc nL own D cI cR ad shf N A0) {x y : Int64} (hd : decode cc pc = .ok (.ladd, 1)) (k : LL p l e R s m args below meth c nL D cI cR ad shf N A0 KQ t cl sl (pc + 1) lo (.long (x + y) :: st) μ) : LL p l e R s m args below meth c nL D cI cR ad shf N A0 KQ t cl sl pc lo (.long y :: .long x :: st) μ :=
  fun r μ' h H locs ls hP hS hL => lv_ladd E.1 E.2.1 hd (k r μ' h H locs ls hP hS hL)
theorem ll_lsub (E : EV p s m args meth c cc nL own D cI cR ad shf N A0) {x y : Int64} (hd : decode cc pc = .ok (.lsub, 1)) (k : LL p l e R s m args below meth c nL D cI cR ad shf N A0 KQ t cl sl (pc + 1) lo (.long (x - y) :: st) μ) : LL p l e R s m args below meth c nL D cI cR ad shf N A0 KQ t cl sl pc lo (.long y :: .long x :: st) μ :=
  fun r μ' h H locs ls hP hS hL => lv_lsub E.1 E.2.1 hd (k r μ' h H locs ls hP hS hL)
theorem ll_lmul (E : EV p s m args meth c cc nL own D cI cR ad shf N A0) {x y : Int64} (hd : decode cc pc = .ok (.lmul, 1)) (k : LL p l e R s m args below meth c nL D cI cR ad shf N A0 KQ t cl sl (pc + 1) lo (.long (x * y) :: st) μ) : LL p l e R s m args below meth c nL D cI cR ad shf N A0 KQ t cl sl pc lo (.long y :: .long x :: st) μ :=
  fun r μ' h H locs ls hP hS hL => lv_lmul E.1 E.2.1 hd (k r μ' h H locs ls hP hS hL)
theorem ll_lxor (E : EV p s m args meth c cc nL own D cI cR ad shf N A0) {x y : Int64} (hd : decode cc pc = .ok (.lxor, 1)) (k : LL p l e R s m args below meth c nL D cI cR ad shf N A0 KQ t cl sl (pc + 1) lo (.long (x ^^^ y) :: st) μ) : LL p l e R s m args below meth c nL D cI cR ad shf N A0 KQ t cl sl pc lo (.long y :: .long x :: st) μ :=
  fun r μ' h H locs ls hP hS hL => lv_lxor E.1 E.2.1 hd (k r μ' h H locs ls hP hS hL)
theorem ll_ishl (E : EV p s m args meth c cc nL own D cI cR ad shf N A0) {x y : Int32} (hd : decode cc pc = .ok (.ishl, 1)) (k : LL p l e R s m args below meth c nL D cI cR ad shf N A0 KQ t cl sl (pc + 1) lo (.int (x <<< (y &&& 31)) :: st) μ) : LL p l e R s m args below meth c nL D cI cR ad shf N A0 KQ t cl sl pc lo (.int y :: .int x :: st) μ :=
  fun r μ' h H locs ls hP hS hL => lv_ishl E.1 E.2.1 hd (k r μ' h H locs ls hP hS hL)
theorem ll_ishr (E : EV p s m args meth c cc nL own D cI cR ad shf N A0) {x y : Int32} (hd : decode cc pc = .ok (.ishr, 1)) (k : LL p l e R s m args below meth c nL D cI cR ad shf N A0 KQ t cl sl (pc + 1) lo (.int (x >>> (y &&& 31)) :: st) μ) : LL p l e R s m args below meth c nL D cI cR ad shf N A0 KQ t cl sl pc lo (.int y :: .int x :: st) μ :=
  fun r μ' h H locs ls hP hS hL => lv_ishr E.1 E.2.1 hd (k r μ' h H locs ls hP hS hL)
theorem ll_ineg (E : EV p s m args meth c cc nL own D cI cR ad shf N A0) {x : Int32} (hd : decode cc pc = .ok (.ineg, 1)) (k : LL p l e R s m args below meth c nL D cI cR ad shf N A0 KQ t cl sl (pc + 1) lo (.int (-x) :: st) μ) : LL p l e R s m args below meth c nL D cI cR ad shf N A0 KQ t cl sl pc lo (.int x :: st) μ :=
  fun r μ' h H locs ls hP hS hL => lv_ineg E.1 E.2.1 hd (k r μ' h H locs ls hP hS hL)
theorem ll_i2l (E : EV p s m args meth c cc nL own D cI cR ad shf N A0) {x : Int32} (hd : decode cc pc = .ok (.i2l, 1)) (k : LL p l e R s m args below meth c nL D cI cR ad shf N A0 KQ t cl sl (pc + 1) lo (.long x.toInt64 :: st) μ) : LL p l e R s m args below meth c nL D cI cR ad shf N A0 KQ t cl sl pc lo (.int x :: st) μ :=
  fun r μ' h H locs ls hP hS hL => lv_i2l E.1 E.2.1 hd rfl (k r μ' h H locs ls hP hS hL)
theorem ll_l2i (E : EV p s m args meth c cc nL own D cI cR ad shf N A0) {x : Int64} (hd : decode cc pc = .ok (.l2i, 1)) (k : LL p l e R s m args below meth c nL D cI cR ad shf N A0 KQ t cl sl (pc + 1) lo (.int x.toInt32 :: st) μ) : LL p l e R s m args below meth c nL D cI cR ad shf N A0 KQ t cl sl pc lo (.long x :: st) μ :=
  fun r μ' h H locs ls hP hS hL => lv_l2i E.1 E.2.1 hd rfl (k r μ' h H locs ls hP hS hL)
theorem ll_lshl (E : EV p s m args meth c cc nL own D cI cR ad shf N A0) {x : Int64} {y : Int32} (hd : decode cc pc = .ok (.lshl, 1)) (k : LL p l e R s m args below meth c nL D cI cR ad shf N A0 KQ t cl sl (pc + 1) lo (.long (x <<< (y.toInt64 &&& 63)) :: st) μ) : LL p l e R s m args below meth c nL D cI cR ad shf N A0 KQ t cl sl pc lo (.int y :: .long x :: st) μ :=
  fun r μ' h H locs ls hP hS hL => lv_lshl E.1 E.2.1 hd rfl (k r μ' h H locs ls hP hS hL)
theorem ll_lcmp (E : EV p s m args meth c cc nL own D cI cR ad shf N A0) {x y : Int64} (hd : decode cc pc = .ok (.lcmp, 1)) (k : LL p l e R s m args below meth c nL D cI cR ad shf N A0 KQ t cl sl (pc + 1) lo (.int (lg_cmp x y) :: st) μ) : LL p l e R s m args below meth c nL D cI cR ad shf N A0 KQ t cl sl pc lo (.long y :: .long x :: st) μ :=
  fun r μ' h H locs ls hP hS hL => W.lcmp E.1 E.2.1 hd (k r μ' h H locs ls hP hS hL)
theorem ll_i2d (E : EV p s m args meth c cc nL own D cI cR ad shf N A0) {x : Int32} (hd : decode cc pc = .ok (.i2d, 1)) (k : LL p l e R s m args below meth c nL D cI cR ad shf N A0 KQ t cl sl (pc + 1) lo (.double (FP.i2d x) :: st) μ) : LL p l e R s m args below meth c nL D cI cR ad shf N A0 KQ t cl sl pc lo (.int x :: st) μ :=
  fun r μ' h H locs ls hP hS hL => lv_i2d E.1 E.2.1 hd (k r μ' h H locs ls hP hS hL)
theorem ll_d2l (E : EV p s m args meth c cc nL own D cI cR ad shf N A0) {x : UInt64} (hd : decode cc pc = .ok (.d2l, 1)) (k : LL p l e R s m args below meth c nL D cI cR ad shf N A0 KQ t cl sl (pc + 1) lo (.long (FP.d2l x) :: st) μ) : LL p l e R s m args below meth c nL D cI cR ad shf N A0 KQ t cl sl pc lo (.double x :: st) μ :=
  fun r μ' h H locs ls hP hS hL => lv_d2l E.1 E.2.1 hd (k r μ' h H locs ls hP hS hL)
theorem ll_dcmp (E : EV p s m args meth c cc nL own D cI cR ad shf N A0) {x y : UInt64} {op : CmpOp} (hd : decode cc pc = .ok (.dcmp op, 1)) (k : LL p l e R s m args below meth c nL D cI cR ad shf N A0 KQ t cl sl (pc + 1) lo (.int (Op.cmpValue (FP.dcmp x y) op) :: st) μ) : LL p l e R s m args below meth c nL D cI cR ad shf N A0 KQ t cl sl pc lo (.double y :: .double x :: st) μ :=
  fun r μ' h H locs ls hP hS hL => lv_dcmp E.1 E.2.1 hd (k r μ' h H locs ls hP hS hL)
theorem ll_dconst0 (E : EV p s m args meth c cc nL own D cI cR ad shf N A0) (hd : decode cc pc = .ok (.dconst 0, 1)) (k : LL p l e R s m args below meth c nL D cI cR ad shf N A0 KQ t cl sl (pc + 1) lo (.double FP.dconst0 :: st) μ) : LL p l e R s m args below meth c nL D cI cR ad shf N A0 KQ t cl sl pc lo (st) μ :=
  fun r μ' h H locs ls hP hS hL => lv_dconst0 E.1 E.2.1 hd (k r μ' h H locs ls hP hS hL)
theorem ll_dconst1 (E : EV p s m args meth c cc nL own D cI cR ad shf N A0) (hd : decode cc pc = .ok (.dconst 1, 1)) (k : LL p l e R s m args below meth c nL D cI cR ad shf N A0 KQ t cl sl (pc + 1) lo (.double FP.dconst1 :: st) μ) : LL p l e R s m args below meth c nL D cI cR ad shf N A0 KQ t cl sl pc lo (st) μ :=
  fun r μ' h H locs ls hP hS hL => lv_dconst1 E.1 E.2.1 hd (k r μ' h H locs ls hP hS hL)
theorem ll_dup (E : EV p s m args meth c cc nL own D cI cR ad shf N A0) {v : Value} (hd : decode cc pc = .ok (.dup, 1)) (hv : v.category = 1) (k : LL p l e R s m args below meth c nL D cI cR ad shf N A0 KQ t cl sl (pc + 1) lo (v :: v :: st) μ) : LL p l e R s m args below meth c nL D cI cR ad shf N A0 KQ t cl sl pc lo (v :: st) μ :=
  fun r μ' h H locs ls hP hS hL => lv_dup E.1 E.2.1 hd hv (k r μ' h H locs ls hP hS hL)
theorem ll_dup2 (E : EV p s m args meth c cc nL own D cI cR ad shf N A0) {v w : Value} (hd : decode cc pc = .ok (.dup2, 1)) (hv : v.category = 1) (hw : w.category = 1) (k : LL p l e R s m args below meth c nL D cI cR ad shf N A0 KQ t cl sl (pc + 1) lo (v :: w :: v :: w :: st) μ) : LL p l e R s m args below meth c nL D cI cR ad shf N A0 KQ t cl sl pc lo (v :: w :: st) μ :=
  fun r μ' h H locs ls hP hS hL => lv_dup2_11 E.1 E.2.1 hd hv hw (k r μ' h H locs ls hP hS hL)
theorem ll_pop (E : EV p s m args meth c cc nL own D cI cR ad shf N A0) {v : Value} (hd : decode cc pc = .ok (.pop, 1)) (hv : v.category = 1) (k : LL p l e R s m args below meth c nL D cI cR ad shf N A0 KQ t cl sl (pc + 1) lo (st) μ) : LL p l e R s m args below meth c nL D cI cR ad shf N A0 KQ t cl sl pc lo (v :: st) μ :=
  fun r μ' h H locs ls hP hS hL => lv_pop E.1 E.2.1 hd hv (k r μ' h H locs ls hP hS hL)
theorem ll_iconst (E : EV p s m args meth c cc nL own D cI cR ad shf N A0) {n : Int} {v : Int32} (hd : decode cc pc = .ok (.iconst n, 1)) (hv : Int32.ofInt n = v) (k : LL p l e R s m args below meth c nL D cI cR ad shf N A0 KQ t cl sl (pc + 1) lo (.int v :: st) μ) : LL p l e R s m args below meth c nL D cI cR ad shf N A0 KQ t cl sl pc lo (st) μ :=
  fun r μ' h H locs ls hP hS hL => lv_iconst E.1 E.2.1 hd hv (k r μ' h H locs ls hP hS hL)
theorem ll_bipush (E : EV p s m args meth c cc nL own D cI cR ad shf N A0) {n : Int} {v : Int32} (hd : decode cc pc = .ok (.bipush n, 2)) (hv : (Int8.ofInt n).toInt32 = v) (k : LL p l e R s m args below meth c nL D cI cR ad shf N A0 KQ t cl sl (pc + 2) lo (.int v :: st) μ) : LL p l e R s m args below meth c nL D cI cR ad shf N A0 KQ t cl sl pc lo (st) μ :=
  fun r μ' h H locs ls hP hS hL => lv_bipush E.1 E.2.1 hd hv (k r μ' h H locs ls hP hS hL)
theorem ll_sipush (E : EV p s m args meth c cc nL own D cI cR ad shf N A0) {n : Int} {v : Int32} (hd : decode cc pc = .ok (.sipush n, 3)) (hv : (Int16.ofInt n).toInt32 = v) (k : LL p l e R s m args below meth c nL D cI cR ad shf N A0 KQ t cl sl (pc + 3) lo (.int v :: st) μ) : LL p l e R s m args below meth c nL D cI cR ad shf N A0 KQ t cl sl pc lo (st) μ :=
  fun r μ' h H locs ls hP hS hL => lv_sipush E.1 E.2.1 hd hv (k r μ' h H locs ls hP hS hL)
theorem ll_lconst (E : EV p s m args meth c cc nL own D cI cR ad shf N A0) {n : Fin 2} {v : Int64} (hd : decode cc pc = .ok (.lconst n, 1)) (hv : Int64.ofNat (n : Nat) = v) (k : LL p l e R s m args below meth c nL D cI cR ad shf N A0 KQ t cl sl (pc + 1) lo (.long v :: st) μ) : LL p l e R s m args below meth c nL D cI cR ad shf N A0 KQ t cl sl pc lo (st) μ :=
  fun r μ' h H locs ls hP hS hL => lv_lconst E.1 E.2.1 hd hv (k r μ' h H locs ls hP hS hL)
theorem ll_ldc (E : EV p s m args meth c cc nL own D cI cR ad shf N A0) {idx : Nat} {v : Int32} (hd : decode cc pc = .ok (.ldc idx, 2)) (hw : Cond.constant own idx v ∈ Z_W) (k : LL p l e R s m args below meth c nL D cI cR ad shf N A0 KQ t cl sl (pc + 2) lo (.int v :: st) μ) : LL p l e R s m args below meth c nL D cI cR ad shf N A0 KQ t cl sl pc lo st μ :=
  fun r μ' h H locs ls hP hS hL => lv_ldc E.1 E.2.1 E.2.2.2.1 (E.2.2.2.2.1 _ hw) hd (k r μ' h H locs ls hP hS hL)
theorem ll_ldcw (E : EV p s m args meth c cc nL own D cI cR ad shf N A0) {idx : Nat} {v : Int32} (hd : decode cc pc = .ok (.ldc_w idx, 3)) (hw : Cond.constant own idx v ∈ Z_W) (k : LL p l e R s m args below meth c nL D cI cR ad shf N A0 KQ t cl sl (pc + 3) lo (.int v :: st) μ) : LL p l e R s m args below meth c nL D cI cR ad shf N A0 KQ t cl sl pc lo st μ :=
  fun r μ' h H locs ls hP hS hL => lv_ldcw E.1 E.2.1 E.2.2.2.1 (E.2.2.2.2.1 _ hw) hd (k r μ' h H locs ls hP hS hL)
theorem ll_ldc2 (E : EV p s m args meth c cc nL own D cI cR ad shf N A0) {idx : Nat} {v : Int64} (hd : decode cc pc = .ok (.ldc2_w idx, 3)) (hw : Cond.constantLong own idx v ∈ Z_W) (k : LL p l e R s m args below meth c nL D cI cR ad shf N A0 KQ t cl sl (pc + 3) lo (.long v :: st) μ) : LL p l e R s m args below meth c nL D cI cR ad shf N A0 KQ t cl sl pc lo st μ :=
  fun r μ' h H locs ls hP hS hL => lv_ldc2 E.1 E.2.1 E.2.2.2.1 (E.2.2.2.2.1 _ hw) hd (k r μ' h H locs ls hP hS hL)
theorem ll_ldc2d (E : EV p s m args meth c cc nL own D cI cR ad shf N A0) {idx : Nat} {v : UInt64} (hd : decode cc pc = .ok (.ldc2_w idx, 3)) (hw : Cond.constantDouble own idx v ∈ Z_W) (k : LL p l e R s m args below meth c nL D cI cR ad shf N A0 KQ t cl sl (pc + 3) lo (.double v :: st) μ) : LL p l e R s m args below meth c nL D cI cR ad shf N A0 KQ t cl sl pc lo st μ :=
  fun r μ' h H locs ls hP hS hL => lv_ldc2d E.1 E.2.1 E.2.2.2.1 (E.2.2.2.2.1 _ hw) hd (k r μ' h H locs ls hP hS hL)
theorem ll_iload (E : EV p s m args meth c cc nL own D cI cR ad shf N A0) {i : Nat} {x : Int32} (hd : decode cc pc = .ok (.iload i, 2)) (hl : lg lo i = some (.int x)) (k : LL p l e R s m args below meth c nL D cI cR ad shf N A0 KQ t cl sl (pc + 2) lo (.int x :: st) μ) : LL p l e R s m args below meth c nL D cI cR ad shf N A0 KQ t cl sl pc lo st μ :=
  fun r μ' h H locs ls hP hS hL => lv_iload E.1 E.2.1 hd (hL.2.2 _ _ hl) (k r μ' h H locs ls hP hS hL)
theorem ll_iload_n (E : EV p s m args meth c cc nL own D cI cR ad shf N A0) {i : Fin 4} {x : Int32} (hd : decode cc pc = .ok (.iload_n i, 1)) (hl : lg lo (i : Nat) = some (.int x)) (k : LL p l e R s m args below meth c nL D cI cR ad shf N A0 KQ t cl sl (pc + 1) lo (.int x :: st) μ) : LL p l e R s m args below meth c nL D cI cR ad shf N A0 KQ t cl sl pc lo st μ :=
  fun r μ' h H locs ls hP hS hL => lv_iload_n E.1 E.2.1 hd rfl (hL.2.2 _ _ hl) (k r μ' h H locs ls hP hS hL)
theorem ll_lload (E : EV p s m args meth c cc nL own D cI cR ad shf N A0) {i : Nat} {x : Int64} (hd : decode cc pc = .ok (.lload i, 2)) (hl : lg lo i = some (.long x)) (k : LL p l e R s m args below meth c nL D cI cR ad shf N A0 KQ t cl sl (pc + 2) lo (.long x :: st) μ) : LL p l e R s m args below meth c nL D cI cR ad shf N A0 KQ t cl sl pc lo st μ :=
  fun r μ' h H locs ls hP hS hL => lv_lload E.1 E.2.1 hd (hL.2.2 _ _ hl) (k r μ' h H locs ls hP hS hL)
theorem ll_lload_n (E : EV p s m args meth c cc nL own D cI cR ad shf N A0) {i : Fin 4} {x : Int64} (hd : decode cc pc = .ok (.lload_n i, 1)) (hl : lg lo (i : Nat) = some (.long x)) (k : LL p l e R s m args below meth c nL D cI cR ad shf N A0 KQ t cl sl (pc + 1) lo (.long x :: st) μ) : LL p l e R s m args below meth c nL D cI cR ad shf N A0 KQ t cl sl pc lo st μ :=
  fun r μ' h H locs ls hP hS hL => lv_lload_n E.1 E.2.1 hd rfl (hL.2.2 _ _ hl) (k r μ' h H locs ls hP hS hL)
theorem ll_dload (E : EV p s m args meth c cc nL own D cI cR ad shf N A0) {i : Nat} {x : UInt64} (hd : decode cc pc = .ok (.dload i, 2)) (hl : lg lo i = some (.double x)) (k : LL p l e R s m args below meth c nL D cI cR ad shf N A0 KQ t cl sl (pc + 2) lo (.double x :: st) μ) : LL p l e R s m args below meth c nL D cI cR ad shf N A0 KQ t cl sl pc lo st μ :=
  fun r μ' h H locs ls hP hS hL => lv_dload E.1 E.2.1 hd (hL.2.2 _ _ hl) (k r μ' h H locs ls hP hS hL)
theorem ll_dload_n (E : EV p s m args meth c cc nL own D cI cR ad shf N A0) {i : Fin 4} {x : UInt64} (hd : decode cc pc = .ok (.dload_n i, 1)) (hl : lg lo (i : Nat) = some (.double x)) (k : LL p l e R s m args below meth c nL D cI cR ad shf N A0 KQ t cl sl (pc + 1) lo (.double x :: st) μ) : LL p l e R s m args below meth c nL D cI cR ad shf N A0 KQ t cl sl pc lo st μ :=
  fun r μ' h H locs ls hP hS hL => lv_dload_n E.1 E.2.1 hd rfl (hL.2.2 _ _ hl) (k r μ' h H locs ls hP hS hL)
theorem ll_aload (E : EV p s m args meth c cc nL own D cI cR ad shf N A0) {i : Nat} {x : Nat} (hd : decode cc pc = .ok (.aload i, 2)) (hl : lg lo i = some (.ref x)) (k : LL p l e R s m args below meth c nL D cI cR ad shf N A0 KQ t cl sl (pc + 2) lo (.ref x :: st) μ) : LL p l e R s m args below meth c nL D cI cR ad shf N A0 KQ t cl sl pc lo st μ :=
  fun r μ' h H locs ls hP hS hL => lv_aload E.1 E.2.1 hd (hL.2.2 _ _ hl) (k r μ' h H locs ls hP hS hL)
theorem ll_aload_n (E : EV p s m args meth c cc nL own D cI cR ad shf N A0) {i : Fin 4} {x : Nat} (hd : decode cc pc = .ok (.aload_n i, 1)) (hl : lg lo (i : Nat) = some (.ref x)) (k : LL p l e R s m args below meth c nL D cI cR ad shf N A0 KQ t cl sl (pc + 1) lo (.ref x :: st) μ) : LL p l e R s m args below meth c nL D cI cR ad shf N A0 KQ t cl sl pc lo st μ :=
  fun r μ' h H locs ls hP hS hL => lv_aload_n E.1 E.2.1 hd rfl (hL.2.2 _ _ hl) (k r μ' h H locs ls hP hS hL)
theorem ll_istore (E : EV p s m args meth c cc nL own D cI cR ad shf N A0) {i : Nat} {x : Int32} (hd : decode cc pc = .ok (.istore i, 2)) (hn : i < nL) (hk : lk1 lo i = true) (hl : lst lo i (some (.int x)) = lo') (k : LL p l e R s m args below meth c nL D cI cR ad shf N A0 KQ t cl sl (pc + 2) lo' st μ) : LL p l e R s m args below meth c nL D cI cR ad shf N A0 KQ t cl sl pc lo (.int x :: st) μ :=
  fun r μ' h H locs ls hP hS hL => lv_istore E.1 E.2.1 hd (lo_lv hL) hn rfl (fun ls' h9 => k r μ' h H locs ls' hP hS (hl ▸ lo_of_lv1 hL hk h9))
theorem ll_istore_n (E : EV p s m args meth c cc nL own D cI cR ad shf N A0) {i : Fin 4} {x : Int32} (hd : decode cc pc = .ok (.istore_n i, 1)) (hn : (i : Nat) < nL) (hk : lk1 lo (i : Nat) = true) (hl : lst lo (i : Nat) (some (.int x)) = lo') (k : LL p l e R s m args below meth c nL D cI cR ad shf N A0 KQ t cl sl (pc + 1) lo' st μ) : LL p l e R s m args below meth c nL D cI cR ad shf N A0 KQ t cl sl pc lo (.int x :: st) μ :=
  fun r μ' h H locs ls hP hS hL => lv_istore_n E.1 E.2.1 hd rfl (lo_lv hL) hn rfl (fun ls' h9 => k r μ' h H locs ls' hP hS (hl ▸ lo_of_lv1 hL hk h9))
theorem ll_lstore (E : EV p s m args meth c cc nL own D cI cR ad shf N A0) {i : Nat} {x : Int64} (hd : decode cc pc = .ok (.lstore i, 2)) (hn : i + 1 < nL) (hk : lk1 lo i = true) (hl : lst (lst lo i (some (.long x))) (i + 1) none = lo') (k : LL p l e R s m args below meth c nL D cI cR ad shf N A0 KQ t cl sl (pc + 2) lo' st μ) : LL p l e R s m args below meth c nL D cI cR ad shf N A0 KQ t cl sl pc lo (.long x :: st) μ :=
  fun r μ' h H locs ls hP hS hL => lv_lstore E.1 E.2.1 hd (lo_lv hL) hn rfl (fun ls' h9 => k r μ' h H locs ls' hP hS (hl ▸ lo_of_lv2 hL hk h9))
theorem ll_lstore_n (E : EV p s m args meth c cc nL own D cI cR ad shf N A0) {i : Fin 4} {x : Int64} (hd : decode cc pc = .ok (.lstore_n i, 1)) (hn : (i : Nat) + 1 < nL) (hk : lk1 lo (i : Nat) = true) (hl : lst (lst lo (i : Nat) (some (.long x))) ((i : Nat) + 1) none = lo') (k : LL p l e R s m args below meth c nL D cI cR ad shf N A0 KQ t cl sl (pc + 1) lo' st μ) : LL p l e R s m args below meth c nL D cI cR ad shf N A0 KQ t cl sl pc lo (.long x :: st) μ :=
  fun r μ' h H locs ls hP hS hL => lv_lstore_n E.1 E.2.1 hd rfl (lo_lv hL) hn rfl (fun ls' h9 => k r μ' h H locs ls' hP hS (hl ▸ lo_of_lv2 hL hk h9))
theorem ll_dstore (E : EV p s m args meth c cc nL own D cI cR ad shf N A0) {i : Nat} {x : UInt64} (hd : decode cc pc = .ok (.dstore i, 2)) (hn : i + 1 < nL) (hk : lk1 lo i = true) (hl : lst (lst lo i (some (.double x))) (i + 1) none = lo') (k : LL p l e R s m args below meth c nL D cI cR ad shf N A0 KQ t cl sl (pc + 2) lo' st μ) : LL p l e R s m args below meth c nL D cI cR ad shf N A0 KQ t cl sl pc lo (.double x :: st) μ :=
  fun r μ' h H locs ls hP hS hL => lv_dstore E.1 E.2.1 hd (lo_lv hL) hn rfl (fun ls' h9 => k r μ' h H locs ls' hP hS (hl ▸ lo_of_lv2 hL hk h9))
theorem ll_dstore_n (E : EV p s m args meth c cc nL own D cI cR ad shf N A0) {i : Fin 4} {x : UInt64} (hd : decode cc pc = .ok (.dstore_n i, 1)) (hn : (i : Nat) + 1 < nL) (hk : lk1 lo (i : Nat) = true) (hl : lst (lst lo (i : Nat) (some (.double x))) ((i : Nat) + 1) none = lo') (k : LL p l e R s m args below meth c nL D cI cR ad shf N A0 KQ t cl sl (pc + 1) lo' st μ) : LL p l e R s m args below meth c nL D cI cR ad shf N A0 KQ t cl sl pc lo (.double x :: st) μ :=
  fun r μ' h H locs ls hP hS hL => lv_dstore_n E.1 E.2.1 hd rfl (lo_lv hL) hn rfl (fun ls' h9 => k r μ' h H locs ls' hP hS (hl ▸ lo_of_lv2 hL hk h9))
theorem ll_astore (E : EV p s m args meth c cc nL own D cI cR ad shf N A0) {i : Nat} {x : Nat} (hd : decode cc pc = .ok (.astore i, 2)) (hn : i < nL) (hk : lk1 lo i = true) (hl : lst lo i (some (.ref x)) = lo') (k : LL p l e R s m args below meth c nL D cI cR ad shf N A0 KQ t cl sl (pc + 2) lo' st μ) : LL p l e R s m args below meth c nL D cI cR ad shf N A0 KQ t cl sl pc lo (.ref x :: st) μ :=
  fun r μ' h H locs ls hP hS hL => lv_astore E.1 E.2.1 hd (lo_lv hL) hn rfl (fun ls' h9 => k r μ' h H locs ls' hP hS (hl ▸ lo_of_lv1 hL hk h9))
theorem ll_astore_n (E : EV p s m args meth c cc nL own D cI cR ad shf N A0) {i : Fin 4} {x : Nat} (hd : decode cc pc = .ok (.astore_n i, 1)) (hn : (i : Nat) < nL) (hk : lk1 lo (i : Nat) = true) (hl : lst lo (i : Nat) (some (.ref x)) = lo') (k : LL p l e R s m args below meth c nL D cI cR ad shf N A0 KQ t cl sl (pc + 1) lo' st μ) : LL p l e R s m args below meth c nL D cI cR ad shf N A0 KQ t cl sl pc lo (.ref x :: st) μ :=
  fun r μ' h H locs ls hP hS hL => lv_astore_n E.1 E.2.1 hd rfl (lo_lv hL) hn rfl (fun ls' h9 => k r μ' h H locs ls' hP hS (hl ▸ lo_of_lv1 hL hk h9))
theorem ll_iinc (E : EV p s m args meth c cc nL own D cI cR ad shf N A0) {i : Nat} {n : Int} {x v : Int32} (hd : decode cc pc = .ok (.iinc i n, 3)) (hx : lg lo i = some (.int x)) (hv : Int32.ofInt n = v) (hn : i < nL) (hk : lk1 lo i = true) (hl : lst lo i (some (.int (x + v))) = lo') (k : LL p l e R s m args below meth c nL D cI cR ad shf N A0 KQ t cl sl (pc + 3) lo' st μ) : LL p l e R s m args below meth c nL D cI cR ad shf N A0 KQ t cl sl pc lo st μ := by
  intro r μ' h H locs ls hP hS hL
  have hm : (i, Value.int x) ∈ lp 0 lo := (lp_mem lo 0 i _).mpr ⟨i, (Nat.zero_add i).symm, hx⟩
  obtain ⟨k9, h9⟩ := List.getElem?_of_mem hm
  exact lv_iinc E.1 E.2.1 hd (lo_lv hL) h9 (by rw [hv]) hn rfl (fun ls' h8 => k r μ' h H locs ls' hP hS (hl ▸ lo_of_lv1 hL hk h8))
theorem ll_icmp_eq (E : EV p s m args meth c cc nL own D cI cR ad shf N A0) {x y : Int32} {off : Int} {tgt : Nat} (hd : decode cc pc = .ok (.if_icmp .eq off, 3)) (ht : (pc : Int) + off = (tgt : Int)) (kt : LL p l e R s m args below meth c nL D cI cR ad shf N A0 KQ ta cl sl tgt lo st μ) (kf : LL p l e R s m args below meth c nL D cI cR ad shf N A0 KQ tb cl sl (pc + 3) lo st μ) : LL p l e R s m args below meth c nL D cI cR ad shf N A0 KQ (if x = y then ta else tb) cl sl pc lo (.int y :: .int x :: st) μ := by
  intro r μ' h H locs ls hP hS hL
  refine lv_icmp_eq E.1 E.2.1 hd ht (fun z => ?_) (fun z => ?_)
  · rw [if_pos z] at h
    exact kt r μ' h H locs ls hP hS hL
  · rw [if_neg z] at h
    exact kf r μ' h H locs ls hP hS hL
theorem ll_icmp_ne (E : EV p s m args meth c cc nL own D cI cR ad shf N A0) {x y : Int32} {off : Int} {tgt : Nat} (hd : decode cc pc = .ok (.if_icmp .ne off, 3)) (ht : (pc : Int) + off = (tgt : Int)) (kt : LL p l e R s m args below meth c nL D cI cR ad shf N A0 KQ tb cl sl tgt lo st μ) (kf : LL p l e R s m args below meth c nL D cI cR ad shf N A0 KQ ta cl sl (pc + 3) lo st μ) : LL p l e R s m args below meth c nL D cI cR ad shf N A0 KQ (if x = y then ta else tb) cl sl pc lo (.int y :: .int x :: st) μ := by
  intro r μ' h H locs ls hP hS hL
  refine lv_icmp_ne E.1 E.2.1 hd ht (fun z => ?_) (fun z => ?_)
  · rw [if_neg z] at h
    exact kt r μ' h H locs ls hP hS hL
  · rw [if_pos z] at h
    exact kf r μ' h H locs ls hP hS hL
theorem ll_icmp_lt (E : EV p s m args meth c cc nL own D cI cR ad shf N A0) {x y : Int32} {off : Int} {tgt : Nat} (hd : decode cc pc = .ok (.if_icmp .lt off, 3)) (ht : (pc : Int) + off = (tgt : Int)) (kt : LL p l e R s m args below meth c nL D cI cR ad shf N A0 KQ ta cl sl tgt lo st μ) (kf : LL p l e R s m args below meth c nL D cI cR ad shf N A0 KQ tb cl sl (pc + 3) lo st μ) : LL p l e R s m args below meth c nL D cI cR ad shf N A0 KQ (if x < y then ta else tb) cl sl pc lo (.int y :: .int x :: st) μ := by
  intro r μ' h H locs ls hP hS hL
  refine lv_icmp_lt E.1 E.2.1 hd ht (fun z => ?_) (fun z => ?_)
  · rw [if_pos z] at h
    exact kt r μ' h H locs ls hP hS hL
  · rw [if_neg z] at h
    exact kf r μ' h H locs ls hP hS hL
theorem ll_icmp_ge (E : EV p s m args meth c cc nL own D cI cR ad shf N A0) {x y : Int32} {off : Int} {tgt : Nat} (hd : decode cc pc = .ok (.if_icmp .ge off, 3)) (ht : (pc : Int) + off = (tgt : Int)) (kt : LL p l e R s m args below meth c nL D cI cR ad shf N A0 KQ ta cl sl tgt lo st μ) (kf : LL p l e R s m args below meth c nL D cI cR ad shf N A0 KQ tb cl sl (pc + 3) lo st μ) : LL p l e R s m args below meth c nL D cI cR ad shf N A0 KQ (if y ≤ x then ta else tb) cl sl pc lo (.int y :: .int x :: st) μ := by
  intro r μ' h H locs ls hP hS hL
  refine lv_icmp_ge E.1 E.2.1 hd ht (fun z => ?_) (fun z => ?_)
  · rw [if_pos z] at h
    exact kt r μ' h H locs ls hP hS hL
  · rw [if_neg z] at h
    exact kf r μ' h H locs ls hP hS hL
theorem ll_icmp_gt (E : EV p s m args meth c cc nL own D cI cR ad shf N A0) {x y : Int32} {off : Int} {tgt : Nat} (hd : decode cc pc = .ok (.if_icmp .gt off, 3)) (ht : (pc : Int) + off = (tgt : Int)) (kt : LL p l e R s m args below meth c nL D cI cR ad shf N A0 KQ ta cl sl tgt lo st μ) (kf : LL p l e R s m args below meth c nL D cI cR ad shf N A0 KQ tb cl sl (pc + 3) lo st μ) : LL p l e R s m args below meth c nL D cI cR ad shf N A0 KQ (if y < x then ta else tb) cl sl pc lo (.int y :: .int x :: st) μ := by
  intro r μ' h H locs ls hP hS hL
  refine lv_icmp_gt E.1 E.2.1 hd ht (fun z => ?_) (fun z => ?_)
  · rw [if_pos z] at h
    exact kt r μ' h H locs ls hP hS hL
  · rw [if_neg z] at h
    exact kf r μ' h H locs ls hP hS hL
theorem ll_icmp_le (E : EV p s m args meth c cc nL own D cI cR ad shf N A0) {x y : Int32} {off : Int} {tgt : Nat} (hd : decode cc pc = .ok (.if_icmp .le off, 3)) (ht : (pc : Int) + off = (tgt : Int)) (kt : LL p l e R s m args below meth c nL D cI cR ad shf N A0 KQ ta cl sl tgt lo st μ) (kf : LL p l e R s m args below meth c nL D cI cR ad shf N A0 KQ tb cl sl (pc + 3) lo st μ) : LL p l e R s m args below meth c nL D cI cR ad shf N A0 KQ (if x ≤ y then ta else tb) cl sl pc lo (.int y :: .int x :: st) μ := by
  intro r μ' h H locs ls hP hS hL
  refine lv_icmp_le E.1 E.2.1 hd ht (fun z => ?_) (fun z => ?_)
  · rw [if_pos z] at h
    exact kt r μ' h H locs ls hP hS hL
  · rw [if_neg z] at h
    exact kf r μ' h H locs ls hP hS hL
theorem ll_if_eq (E : EV p s m args meth c cc nL own D cI cR ad shf N A0) {x : Int32} {off : Int} {tgt : Nat} (hd : decode cc pc = .ok (.ifCond .eq off, 3)) (ht : (pc : Int) + off = (tgt : Int)) (kt : LL p l e R s m args below meth c nL D cI cR ad shf N A0 KQ ta cl sl tgt lo st μ) (kf : LL p l e R s m args below meth c nL D cI cR ad shf N A0 KQ tb cl sl (pc + 3) lo st μ) : LL p l e R s m args below meth c nL D cI cR ad shf N A0 KQ (if x = 0 then ta else tb) cl sl pc lo (.int x :: st) μ := by
  intro r μ' h H locs ls hP hS hL
  refine lv_if_eq E.1 E.2.1 hd ht (fun z => ?_) (fun z => ?_)
  · rw [if_pos z] at h
    exact kt r μ' h H locs ls hP hS hL
  · rw [if_neg z] at h
    exact kf r μ' h H locs ls hP hS hL
theorem ll_if_ne (E : EV p s m args meth c cc nL own D cI cR ad shf N A0) {x : Int32} {off : Int} {tgt : Nat} (hd : decode cc pc = .ok (.ifCond .ne off, 3)) (ht : (pc : Int) + off = (tgt : Int)) (kt : LL p l e R s m args below meth c nL D cI cR ad shf N A0 KQ tb cl sl tgt lo st μ) (kf : LL p l e R s m args below meth c nL D cI cR ad shf N A0 KQ ta cl sl (pc + 3) lo st μ) : LL p l e R s m args below meth c nL D cI cR ad shf N A0 KQ (if x = 0 then ta else tb) cl sl pc lo (.int x :: st) μ := by
  intro r μ' h H locs ls hP hS hL
  refine lv_if_ne E.1 E.2.1 hd ht (fun z => ?_) (fun z => ?_)
  · rw [if_neg z] at h
    exact kt r μ' h H locs ls hP hS hL
  · rw [if_pos z] at h
    exact kf r μ' h H locs ls hP hS hL
theorem ll_if_lt (E : EV p s m args meth c cc nL own D cI cR ad shf N A0) {x : Int32} {off : Int} {tgt : Nat} (hd : decode cc pc = .ok (.ifCond .lt off, 3)) (ht : (pc : Int) + off = (tgt : Int)) (kt : LL p l e R s m args below meth c nL D cI cR ad shf N A0 KQ ta cl sl tgt lo st μ) (kf : LL p l e R s m args below meth c nL D cI cR ad shf N A0 KQ tb cl sl (pc + 3) lo st μ) : LL p l e R s m args below meth c nL D cI cR ad shf N A0 KQ (if x < 0 then ta else tb) cl sl pc lo (.int x :: st) μ := by
  intro r μ' h H locs ls hP hS hL
  refine lv_if_lt E.1 E.2.1 hd ht (fun z => ?_) (fun z => ?_)
  · rw [if_pos z] at h
    exact kt r μ' h H locs ls hP hS hL
  · rw [if_neg z] at h
    exact kf r μ' h H locs ls hP hS hL
theorem ll_if_ge (E : EV p s m args meth c cc nL own D cI cR ad shf N A0) {x : Int32} {off : Int} {tgt : Nat} (hd : decode cc pc = .ok (.ifCond .ge off, 3)) (ht : (pc : Int) + off = (tgt : Int)) (kt : LL p l e R s m args below meth c nL D cI cR ad shf N A0 KQ ta cl sl tgt lo st μ) (kf : LL p l e R s m args below meth c nL D cI cR ad shf N A0 KQ tb cl sl (pc + 3) lo st μ) : LL p l e R s m args below meth c nL D cI cR ad shf N A0 KQ (if 0 ≤ x then ta else tb) cl sl pc lo (.int x :: st) μ := by
  intro r μ' h H locs ls hP hS hL
  refine lv_if_ge E.1 E.2.1 hd ht (fun z => ?_) (fun z => ?_)
  · rw [if_pos z] at h
    exact kt r μ' h H locs ls hP hS hL
  · rw [if_neg z] at h
    exact kf r μ' h H locs ls hP hS hL
theorem ll_if_gt (E : EV p s m args meth c cc nL own D cI cR ad shf N A0) {x : Int32} {off : Int} {tgt : Nat} (hd : decode cc pc = .ok (.ifCond .gt off, 3)) (ht : (pc : Int) + off = (tgt : Int)) (kt : LL p l e R s m args below meth c nL D cI cR ad shf N A0 KQ ta cl sl tgt lo st μ) (kf : LL p l e R s m args below meth c nL D cI cR ad shf N A0 KQ tb cl sl (pc + 3) lo st μ) : LL p l e R s m args below meth c nL D cI cR ad shf N A0 KQ (if 0 < x then ta else tb) cl sl pc lo (.int x :: st) μ := by
  intro r μ' h H locs ls hP hS hL
  refine lv_if_gt E.1 E.2.1 hd ht (fun z => ?_) (fun z => ?_)
  · rw [if_pos z] at h
    exact kt r μ' h H locs ls hP hS hL
  · rw [if_neg z] at h
    exact kf r μ' h H locs ls hP hS hL
theorem ll_if_le (E : EV p s m args meth c cc nL own D cI cR ad shf N A0) {x : Int32} {off : Int} {tgt : Nat} (hd : decode cc pc = .ok (.ifCond .le off, 3)) (ht : (pc : Int) + off = (tgt : Int)) (kt : LL p l e R s m args below meth c nL D cI cR ad shf N A0 KQ ta cl sl tgt lo st μ) (kf : LL p l e R s m args below meth c nL D cI cR ad shf N A0 KQ tb cl sl (pc + 3) lo st μ) : LL p l e R s m args below meth c nL D cI cR ad shf N A0 KQ (if x ≤ 0 then ta else tb) cl sl pc lo (.int x :: st) μ := by
  intro r μ' h H locs ls hP hS hL
  refine lv_if_le E.1 E.2.1 hd ht (fun z => ?_) (fun z => ?_)
  · rw [if_pos z] at h
    exact kt r μ' h H locs ls hP hS hL
  · rw [if_neg z] at h
    exact kf r μ' h H locs ls hP hS hL
theorem ll_goto (E : EV p s m args meth c cc nL own D cI cR ad shf N A0) {off : Int} {tgt : Nat} (hd : decode cc pc = .ok (.goto off, 3)) (ht : (pc : Int) + off = (tgt : Int)) (k : LL p l e R s m args below meth c nL D cI cR ad shf N A0 KQ t cl sl tgt lo st μ) : LL p l e R s m args below meth c nL D cI cR ad shf N A0 KQ t cl sl pc lo st μ :=
  fun r μ' h H locs ls hP hS hL => lv_goto E.1 E.2.1 hd ht (k r μ' h H locs ls hP hS hL)
theorem ll_ifnull (E : EV p s m args meth c cc nL own D cI cR ad shf N A0) {x : Nat} {off : Int} (hd : decode cc pc = .ok (.ifnull off, 3)) (k : LL p l e R s m args below meth c nL D cI cR ad shf N A0 KQ t cl sl (pc + 3) lo st μ) : LL p l e R s m args below meth c nL D cI cR ad shf N A0 KQ t cl sl pc lo (.ref x :: st) μ :=
  fun r μ' h H locs ls hP hS hL => lv_ifnull E.1 E.2.1 hd (k r μ' h H locs ls hP hS hL)
theorem ll_tabIn (E : EV p s m args meth c cc nL own D cI cR ad shf N A0) {dflt lo9 hi : Int} {offs : Array Int} {len : Nat} {x : Int32} {off : Int} {tgt : Nat} (i : Int) (hd : decode cc pc = .ok (.tableswitch dflt lo9 hi offs, len)) (hx : x = Int32.ofInt i) (hi9 : (Int32.ofInt i).toInt = i) (h1 : ¬ i < lo9) (h2 : ¬ hi < i) (ho : offs[(i - lo9).toNat]? = some off) (ht : (pc : Int) + off = (tgt : Int)) (k : LL p l e R s m args below meth c nL D cI cR ad shf N A0 KQ t cl sl tgt lo st μ) : LL p l e R s m args below meth c nL D cI cR ad shf N A0 KQ t cl sl pc lo (.int x :: st) μ := by
  intro r μ' h H locs ls hP hS hL
  have hxi : x.toInt = i := by rw [hx, hi9]
  exact lv_tableIn E.1 E.2.1 hd (by rw [hxi]; exact h1) (by rw [hxi]; exact h2) (by rw [hxi]; exact ho) ht (k r μ' h H locs ls hP hS hL)
theorem ll_tabOut (E : EV p s m args meth c cc nL own D cI cR ad shf N A0) {dflt lo9 hi : Int} {offs : Array Int} {len : Nat} {x : Int32} {tgt : Nat} (hd : decode cc pc = .ok (.tableswitch dflt lo9 hi offs, len)) (hx : x.toInt < lo9 ∨ hi < x.toInt) (ht : (pc : Int) + dflt = (tgt : Int)) (k : LL p l e R s m args below meth c nL D cI cR ad shf N A0 KQ t cl sl tgt lo st μ) : LL p l e R s m args below meth c nL D cI cR ad shf N A0 KQ t cl sl pc lo (.int x :: st) μ :=
  fun r μ' h H locs ls hP hS hL => lv_tableOut E.1 E.2.1 hd hx ht (k r μ' h H locs ls hP hS hL)
theorem ll_ite {P : Prop} {i : Decidable P} (kt : P → LL p l e R s m args below meth c nL D cI cR ad shf N A0 KQ ta cl sl pc lo st μ) (kf : ¬ P → LL p l e R s m args below meth c nL D cI cR ad shf N A0 KQ tb cl sl pc lo st μ) : LL p l e R s m args below meth c nL D cI cR ad shf N A0 KQ (if P then ta else tb) cl sl pc lo st μ := by
  split
  · next h => exact kt h
  · next h => exact kf h
theorem ll_idiv (E : EV p s m args meth c cc nL own D cI cR ad shf N A0) {x y : Int32} {t9 : Int32 → Option (α × Mem)} (hd : decode cc pc = .ok (.idiv, 1)) (k : ∀ v, LL p l e R s m args below meth c nL D cI cR ad shf N A0 KQ (t9 v) cl sl (pc + 1) lo (.int v :: st) μ) : LL p l e R s m args below meth c nL D cI cR ad shf N A0 KQ ((dv x y).bind t9) cl sl pc lo (.int y :: .int x :: st) μ := by
  intro r μ' h H locs ls hP hS hL
  by_cases hy : y = 0
  · simp [dv, hy] at h
  · rw [dv, if_neg hy] at h
    exact lv_idiv E.1 E.2.1 hd hy (k _ r μ' h H locs ls hP hS hL)
theorem ll_irem (E : EV p s m args meth c cc nL own D cI cR ad shf N A0) {x y : Int32} {t9 : Int32 → Option (α × Mem)} (hd : decode cc pc = .ok (.irem, 1)) (k : ∀ v, LL p l e R s m args below meth c nL D cI cR ad shf N A0 KQ (t9 v) cl sl (pc + 1) lo (.int v :: st) μ) : LL p l e R s m args below meth c nL D cI cR ad shf N A0 KQ ((rmd x y).bind t9) cl sl pc lo (.int y :: .int x :: st) μ := by
  intro r μ' h H locs ls hP hS hL
  by_cases hy : y = 0
  · simp [rmd, hy] at h
  · rw [rmd, if_neg hy] at h
    exact lv_irem E.1 E.2.1 hd hy (k _ r μ' h H locs ls hP hS hL)
theorem ll_getfr (E : EV p s m args meth c cc nL own D cI cR ad shf N A0) {o9 idx ci k9 q : Nat} (hd : decode cc pc = .ok (.getfield idx, 3)) (hF : FLK own idx ci k9) (ho : o9 < N) (hs : fk (shf o9) ci k9 = some (some q)) (k : LL p l e R s m args below meth c nL D cI cR ad shf N A0 KQ t cl sl (pc + 3) lo (.ref (ad q) :: st) μ) : LL p l e R s m args below meth c nL D cI cR ad shf N A0 KQ t cl sl pc lo (.ref (ad o9) :: st) μ := by
  intro r μ' h H locs ls hP hS hL
  obtain ⟨C, T, n, ty0, hc, hk, hin, hlink, -, -⟩ := hF
  obtain ⟨s1, s2, s3⟩ := fk_eq hs
  have hg := wo_get (cI := cI) (cR := cR) (ad := ad) (shf := shf) (μ := μ) ho
  rw [cont_o s1] at hg
  exact va_get E.1 E.2.1 E.2.2.2.2.1 hin E.2.2.2.1 E.2.2.2.2.2.1 hP o9 hg hc k9 hk (E.2.2.2.2.1 _ hlink) (fun _ h9 => h9) (v := .ref (ad q)) (by simp [s2, cfv, s3]) hd (k r μ' h H locs ls hP hS hL)
theorem ll_getf (E : EV p s m args meth c cc nL own D cI cR ad shf N A0) {o9 idx ci k9 : Nat} (hd : decode cc pc = .ok (.getfield idx, 3)) (hF : FLK own idx ci k9) (ho : o9 < N) (hs : fk (shf o9) ci k9 = some none) (k : LL p l e R s m args below meth c nL D cI cR ad shf N A0 KQ t cl sl (pc + 3) lo (.int (μ o9 k9) :: st) μ) : LL p l e R s m args below meth c nL D cI cR ad shf N A0 KQ t cl sl pc lo (.ref (ad o9) :: st) μ := by
  intro r μ' h H locs ls hP hS hL
  obtain ⟨C, T, n, ty0, hc, hk, hin, hlink, -, -⟩ := hF
  obtain ⟨s1, s2, s3⟩ := fk_eq hs
  have hg := wo_get (cI := cI) (cR := cR) (ad := ad) (shf := shf) (μ := μ) ho
  rw [cont_o s1] at hg
  exact va_get E.1 E.2.1 E.2.2.2.2.1 hin E.2.2.2.1 E.2.2.2.2.2.1 hP o9 hg hc k9 hk (E.2.2.2.2.1 _ hlink) (fun _ h9 => h9) (v := .int (μ o9 k9)) (by simp [s2, cfv, s3]) hd (k r μ' h H locs ls hP hS hL)
theorem ll_put0 (E : EV p s m args meth c cc nL own D cI cR ad shf N A0) {o9 idx ci k9 : Nat} {v : Int32} {z : Bool} {t9 : Mem → Option (α × Mem)} (hd : decode cc pc = .ok (.putfield idx, 3)) (hF : FLW own idx ci k9 z) (ho : o9 < N) (hs : fk (shf o9) ci k9 = some none) (hz : narrow (zty z) (.int v) = .int v) (hf : fits (zty z) (.int v) = true) (k : ∀ μ1, LL p l e R s m args below meth c nL D cI cR ad shf N A0 KQ (t9 μ1) cl sl (pc + 3) lo st μ1) : LL p l e R s m args below meth c nL D cI cR ad shf N A0 KQ ((pt μ o9 k9 v).bind t9) cl sl pc lo (.int v :: .ref (ad o9) :: st) μ := by
  intro r μ' h H locs ls hP hS hL
  obtain ⟨⟨C, T, n, ty0, hc, hk, hin, hlink, hty, hnm⟩, C2, T2, n2, hc2, hfin, hdesc⟩ := hF
  cases hc.symm.trans hc2
  obtain ⟨s1, s2, s3⟩ := fk_eq hs
  have hg := wo_get (cI := cI) (cR := cR) (ad := ad) (shf := shf) (μ := μ) ho
  rw [cont_o s1] at hg
  refine va_put E.1 E.2.1 E.2.2.2.2.1 hin ty0 hty hnm E.2.2.2.1 E.2.2.2.2.2.1 hP (E.2.2.2.2.2.2.1 μ) hS o9 hg hc k9 hk (E.2.2.2.2.1 _ hlink) (fun _ h9 => h9) hfin hdesc hz hf (by simpa using s2) hd (fun H1 locs1 hP1 hD1 hS1 => ?_)
  rw [cfv_set s3, ← cont_o (cI := cI) (cR := cR) (ad := ad) s1 (upd (μ o9) k9 v), wo_set ho] at hP1
  exact k (mu μ o9 k9 v) r μ' h H1 locs1 ls hP1 hS1 hL
theorem ll_putf (E : EV p s m args meth c cc nL own D cI cR ad shf N A0) {o9 idx ci k9 : Nat} {v : Int32} {t9 : Mem → Option (α × Mem)} (hd : decode cc pc = .ok (.putfield idx, 3)) (hF : FLW own idx ci k9 false) (ho : o9 < N) (hs : fk (shf o9) ci k9 = some none) (k : ∀ μ1, LL p l e R s m args below meth c nL D cI cR ad shf N A0 KQ (t9 μ1) cl sl (pc + 3) lo st μ1) : LL p l e R s m args below meth c nL D cI cR ad shf N A0 KQ ((pt μ o9 k9 v).bind t9) cl sl pc lo (.int v :: .ref (ad o9) :: st) μ :=
  ll_put0 E hd hF ho hs rfl rfl k
theorem ll_iald (E : EV p s m args meth c cc nL own D cI cR ad shf N A0) {a n : Nat} {j : Int32} {t9 : Int32 → Option (α × Mem)} (hd : decode cc pc = .ok (.iaload, 1)) (ha : a < N) (hs : ak (shf a) = some n) (k : ∀ v, LL p l e R s m args below meth c nL D cI cR ad shf N A0 KQ (t9 v) cl sl (pc + 1) lo (.int v :: st) μ) : LL p l e R s m args below meth c nL D cI cR ad shf N A0 KQ ((ld n (μ a) j).bind t9) cl sl pc lo (.int j :: .ref (ad a) :: st) μ := by
  intro r μ' h H locs ls hP hS hL
  obtain ⟨s1, s2⟩ := ak_eq hs
  have hg := wo_get (cI := cI) (cR := cR) (ad := ad) (shf := shf) (μ := μ) ha
  rw [cont_i s1 s2] at hg
  by_cases hj : ibn j n = true
  · rw [ld, if_pos hj] at h
    exact va_iald E.1 E.2.1 E.2.2.2.2.2.1 hP a 0 hg rfl (ibn_in hj) hd (k _ r μ' h H locs ls hP hS hL)
  · rw [ld, if_neg hj] at h
    cases h
theorem ll_iast (E : EV p s m args meth c cc nL own D cI cR ad shf N A0) {a n : Nat} {j v : Int32} {t9 : Mem → Option (α × Mem)} (hd : decode cc pc = .ok (.iastore, 1)) (ha : a < N) (hs : ak (shf a) = some n) (k : ∀ μ1, LL p l e R s m args below meth c nL D cI cR ad shf N A0 KQ (t9 μ1) cl sl (pc + 1) lo st μ1) : LL p l e R s m args below meth c nL D cI cR ad shf N A0 KQ ((ast n μ a j v).bind t9) cl sl pc lo (.int v :: .int j :: .ref (ad a) :: st) μ := by
  intro r μ' h H locs ls hP hS hL
  obtain ⟨s1, s2⟩ := ak_eq hs
  have hg := wo_get (cI := cI) (cR := cR) (ad := ad) (shf := shf) (μ := μ) ha
  rw [cont_i s1 s2] at hg
  by_cases hj : ibn j n = true
  · rw [ast, if_pos hj] at h
    refine va_iast E.1 E.2.1 E.2.2.2.2.2.1 hP (E.2.2.2.2.2.2.1 μ) hS a 0 hg rfl (ibn_in hj) hd (fun H1 locs1 hP1 hD1 hS1 => ?_)
    rw [← cont_i (cI := cI) (cR := cR) (ad := ad) s1 s2, wo_set ha] at hP1
    exact k _ r μ' h H1 locs1 ls hP1 hS1 hL
  · rw [ast, if_neg hj] at h
    cases h
theorem ll_alen (E : EV p s m args meth c cc nL own D cI cR ad shf N A0) {a n : Nat} {v : Int32} (hd : decode cc pc = .ok (.arraylength, 1)) (ha : a < N) (hs : ak (shf a) = some n) (hv : Int32.ofNat n = v) (k : LL p l e R s m args below meth c nL D cI cR ad shf N A0 KQ t cl sl (pc + 1) lo (.int v :: st) μ) : LL p l e R s m args below meth c nL D cI cR ad shf N A0 KQ t cl sl pc lo (.ref (ad a) :: st) μ := by
  intro r μ' h H locs ls hP hS hL
  obtain ⟨s1, s2⟩ := ak_eq hs
  have hg := wo_get (cI := cI) (cR := cR) (ad := ad) (shf := shf) (μ := μ) ha
  rw [cont_i s1 s2] at hg
  exact va_alen E.1 E.2.1 E.2.2.2.2.2.1 hP a 0 hg rfl (v := v) hv hd (k r μ' h H locs ls hP hS hL)
theorem ll_aald (E : EV p s m args meth c cc nL own D cI cR ad shf N A0) {a n : Nat} {ok : Nat → Bool} {j : Int32} {t9 : Nat → Option (α × Mem)} (hd : decode cc pc = .ok (.aaload, 1)) (ha : a < N) (hs : rk (shf a) = some n) (k : ∀ q, ok q = true → LL p l e R s m args below meth c nL D cI cR ad shf N A0 KQ (t9 q) cl sl (pc + 1) lo (.ref (ad q) :: st) μ) : LL p l e R s m args below meth c nL D cI cR ad shf N A0 KQ ((ldr n ok (μ a) j).bind t9) cl sl pc lo (.int j :: .ref (ad a) :: st) μ := by
  intro r μ' h H locs ls hP hS hL
  obtain ⟨s1, s2⟩ := rk_eq hs
  have hg := wo_get (cI := cI) (cR := cR) (ad := ad) (shf := shf) (μ := μ) ha
  rw [cont_r s1 s2] at hg
  by_cases hj : ibn j n = true ∧ ok (μ a j.toNatClampNeg).toNatClampNeg = true
  · rw [ldr, if_pos hj] at h
    exact va_aldq E.1 E.2.1 E.2.2.2.2.2.1 hP a 1 hg rfl (ibn_in hj.1) hd (k _ hj.2 r μ' h H locs ls hP hS hL)
  · rw [ldr, if_neg hj] at h
    cases h
theorem ll_aast (E : EV p s m args meth c cc nL own D cI cR ad shf N A0) {a n q : Nat} {j : Int32} {t9 : Mem → Option (α × Mem)} (hd : decode cc pc = .ok (.aastore, 1)) (ha : a < N) (hs : rk (shf a) = some n) (hq : q < N) (hqs : (shf q).1 = 6 + 2) (k : ∀ μ1, LL p l e R s m args below meth c nL D cI cR ad shf N A0 KQ (t9 μ1) cl sl (pc + 1) lo st μ1) : LL p l e R s m args below meth c nL D cI cR ad shf N A0 KQ ((astr n μ a j q).bind t9) cl sl pc lo (.ref (ad q) :: .int j :: .ref (ad a) :: st) μ := by
  intro r μ' h H locs ls hP hS hL
  obtain ⟨s1, s2⟩ := rk_eq hs
  have hg := wo_get (cI := cI) (cR := cR) (ad := ad) (shf := shf) (μ := μ) ha
  rw [cont_r s1 s2] at hg
  have hg2 := wo_get (cI := cI) (cR := cR) (ad := ad) (shf := shf) (μ := μ) hq
  rw [cont_o hqs] at hg2
  by_cases hj : ibn j n = true ∧ q < 2147483648
  · rw [astr, if_pos hj] at h
    refine va_astq (ci := 6) E.1 E.2.1 E.2.2.2.2.2.1 hP (E.2.2.2.2.2.2.1 μ) hS a 1 q hg rfl hg2 rfl (ibn_in hj.1) hd (fun H1 locs1 hP1 hD1 hS1 => ?_)
    have he : (fun i => some (ad (upd (μ a) j.toNatClampNeg (nI q) i).toNatClampNeg)) = va_up (fun i => some (ad (μ a i).toNatClampNeg)) j.toNatClampNeg (some (ad q)) := by
      funext i
      by_cases hi : i = j.toNatClampNeg
      · simp [va_up, upd, hi, nI_clamp hj.2]
      · simp [va_up, upd, hi]
    rw [← he, ← cont_r (cI := cI) (cR := cR) (ad := ad) s1 s2 (upd (μ a) j.toNatClampNeg (nI q)), wo_set ha] at hP1
    exact k _ r μ' h H1 locs1 ls hP1 hS1 hL
  · rw [astr, if_neg hj] at h
    cases h
def QG (D : va_G) (cI cR : ClassId) (ad : Nat → Nat) (shf : Nat → Shp) (N : Nat) (A : Nat → Prop) (μ' : Mem) (v : Option Value) : Array Value → State → Outcome → State → Prop := fun _ st o t => o = .returned v ∧ va_P D vwCl (wo cI cR ad shf N μ') t.heap ∧ va_K D vwCl (tyC cI cR) t ∧ va_F A st t
/-- what a plain method owes at its end -/
abbrev KG (below : List Frame) (args : Array Value) (s : State) (D : va_G) (cI cR : ClassId) (ad : Nat → Nat) (shf : Nat → Shp) (N : Nat) (A0 : Nat → Prop) (v : Option Value) (μ' : Mem) : State → Prop := MQ below (QG D cI cR ad shf N A0 μ' v) args s 0 0 A0
theorem ll_ireturn (E : EV p s m args meth c cc nL own D cI cR ad shf N A0) {r : Int32} (hr : meth.sig.returnType = some .int) (hd : decode cc pc = .ok (.ireturn, 1)) : LL p l e R s m args below meth c nL D cI cR ad shf N A0 (fun (r : Int32) μ' => KG below args s D cI cR ad shf N A0 (some (.int r)) μ') (some (r, μ)) 0 0 pc lo [.int r] μ :=
  ll_some (fun H locs ls hP hS hL => W.iret E.1 E.2.1 hr (fun t ht hW => ⟨rfl, by rw [ht]; exact hP, va_K.moved hW.alike E.2.2.2.2.2.1, hS.F ht⟩) hS.2.2 hd E.2.2.2.2.2.2.2.2.1)
theorem ll_lreturn (E : EV p s m args meth c cc nL own D cI cR ad shf N A0) {r : Int64} (hr : meth.sig.returnType = some .long) (hd : decode cc pc = .ok (.lreturn, 1)) : LL p l e R s m args below meth c nL D cI cR ad shf N A0 (fun (r : Int64) μ' => KG below args s D cI cR ad shf N A0 (some (.long r)) μ') (some (r, μ)) 0 0 pc lo [.long r] μ :=
  ll_some (fun H locs ls hP hS hL => W.lret E.1 E.2.1 hr (fun t ht hW => ⟨rfl, by rw [ht]; exact hP, va_K.moved hW.alike E.2.2.2.2.2.1, hS.F ht⟩) hS.2.2 hd E.2.2.2.2.2.2.2.2.1)
theorem ll_dreturn (E : EV p s m args meth c cc nL own D cI cR ad shf N A0) {r : UInt64} (hr : meth.sig.returnType = some .double) (hd : decode cc pc = .ok (.dreturn, 1)) : LL p l e R s m args below meth c nL D cI cR ad shf N A0 (fun (r : UInt64) μ' => KG below args s D cI cR ad shf N A0 (some (.double r)) μ') (some (r, μ)) 0 0 pc lo [.double r] μ :=
  ll_some (fun H locs ls hP hS hL => W.dret E.1 E.2.1 hr (fun t ht hW => ⟨rfl, by rw [ht]; exact hP, va_K.moved hW.alike E.2.2.2.2.2.1, hS.F ht⟩) hS.2.2 hd E.2.2.2.2.2.2.2.2.1)
theorem ll_zreturn (E : EV p s m args meth c cc nL own D cI cR ad shf N A0) {r : Int32} (hr : meth.sig.returnType = some .boolean) (hz : narrow .boolean (.int r) = .int r) (hd : decode cc pc = .ok (.ireturn, 1)) : LL p l e R s m args below meth c nL D cI cR ad shf N A0 (fun (r : Int32) μ' => KG below args s D cI cR ad shf N A0 (some (.int r)) μ') (some (r, μ)) 0 0 pc lo [.int r] μ :=
  ll_some (fun H locs ls hP hS hL => W.zret E.1 E.2.1 hr hz (fun t ht hW => ⟨rfl, by rw [ht]; exact hP, va_K.moved hW.alike E.2.2.2.2.2.1, hS.F ht⟩) hS.2.2 hd E.2.2.2.2.2.2.2.2.1)
theorem ll_areturn (E : EV p s m args meth c cc nL own D cI cR ad shf N A0) {q : Nat} {C : String} (hr : meth.sig.returnType = some (.object C)) (hd : decode cc pc = .ok (.areturn, 1)) : LL p l e R s m args below meth c nL D cI cR ad shf N A0 (fun (r : Unit) μ' => KG below args s D cI cR ad shf N A0 (some (.ref (ad q))) μ') (some ((), μ)) 0 0 pc lo [.ref (ad q)] μ :=
  ll_some (fun H locs ls hP hS hL => W.aret E.1 E.2.1 hr (Or.inl ⟨C, rfl⟩) (Or.inr ⟨_, rfl⟩) (fun t ht hW => ⟨rfl, by rw [ht]; exact hP, va_K.moved hW.alike E.2.2.2.2.2.1, hS.F ht⟩) hS.2.2 hd E.2.2.2.2.2.2.2.2.1)
theorem ll_return (E : EV p s m args meth c cc nL own D cI cR ad shf N A0) (hr : meth.sig.returnType = none) (hd : decode cc pc = .ok (.return_, 1)) : LL p l e R s m args below meth c nL D cI cR ad shf N A0 (fun (r : Unit) μ' => KG below args s D cI cR ad shf N A0 none μ') (some ((), μ)) 0 0 pc lo [] μ :=
  ll_some (fun H locs ls hP hS hL => W.vret E.1 E.2.1 hr (fun t ht hW => ⟨rfl, by rw [ht]; exact hP, va_K.moved hW.alike E.2.2.2.2.2.1, hS.F ht⟩) hS.2.2 hd E.2.2.2.2.2.2.2.2.1)
def PCt (D : va_G) (cI cR : ClassId) (ad : Nat → Nat) (shf : Nat → Shp) (N : Nat) (av : List Value) (μ : Mem) (sz : Nat) : Array Value → State → Prop := va_Pc av (fun U => U.heap.size = sz ∧ va_P D vwCl (wo cI cR ad shf N μ) U.heap ∧ va_K D vwCl (tyC cI cR) U ∧ va_D (fun _ => True) (wo cI cR ad shf N μ) ∧ EXn U)
theorem PCt_blind {av : List Value} {sz : Nat} : FrameBlind (PCt D cI cR ad shf N av μ sz) := fun a U g mk q => by
  obtain ⟨q0, q1, qP, qK, qD, qE⟩ := q
  exact ⟨q0, q1, qP, va_K.moved (u := U) (U := U.calling g mk a) (Vm.Alike.refl U.vm) qK, qD, EXn.same (u := U) (U := U.calling g mk a) rfl qE⟩
/-- a plain method's contract: from av over μ it answers v and leaves μ' -/
def CT (l : Launch) (y : MethodName) (cy : ByteArray) (maxL : Nat) (ret : Option FieldType) (d : Nat) (D : va_G) (cI cR : ClassId) (ad : Nat → Nat) (shf : Nat → Shp) (N : Nat) (av : List Value) (μ : Mem) (v : Option Value) (μ' : Mem) : Prop :=
  ∀ sz, Met l y (.code y cy maxL ret :: Z_W) (RM d) (PCt D cI cR ad shf N av μ sz) (QG D cI cR ad shf N (aA ad N sz) μ' v) 0 0 (aA ad N sz)
theorem met_ofWF {y : MethodName} {ws ws' : List Cond} {rm : Room} {Pc : Array Value → State → Prop} {Qc : Array Value → State → Outcome → State → Prop} {mc ms : Nat} {free : Addr → Prop} {maxL : Nat} {ret : Option FieldType}
    (hy : plainFor y = true) (hw : ws = Cond.code y cc maxL ret :: ws')
    (body : ∀ p e s m args below meth c s₁, BodyLoose p l y (headSpec ws rm) cc maxL ret e s m args below meth c s₁ → c.maxLocals = maxL → Pc args s →
      W p l e (headSpec ws rm).room s m args below meth c s.heap [] 0 0 (MQ below Qc args s mc ms free) (entryFrame m args maxL)) : Met l y ws rm Pc Qc mc ms free := by
  refine MetFree.of_bodySF (code := cc) (maxLocals := maxL) (ret := ret) hy ?_ ?_
  · intro args s m h hn
    obtain ⟨meth, c, h1, h2, h3, h4, h5, h6, -, -⟩ := Cond.code_spec hn (atoms_spec (ws := ws) h _ (by rw [hw]; exact List.mem_cons_self))
    exact ⟨meth, c, h1, h2, h3, h4, h5, h6⟩
  · intro p e s m args below meth c s₁ B hml hP _
    have hh0 : s₁.heap = s.heap := by rw [B.state]; rfl
    obtain ⟨t, a1, o, b1, b2, b3⟩ := body p e s m args below meth c s₁ B hml hP s₁ hh0 (Stand.of_body B)
    exact ⟨t, o, a1, b1, b2, ⟨b3.1, b3.2⟩⟩
theorem ct_of {y : MethodName} {maxL d : Nat} {ret : Option FieldType} {av : List Value} {ov : α → Option Value} {f : Option (α × Mem)} (hy : plainFor y = true) (hown : y.cls = own) (hlen : (lg_sl av).length ≤ maxL)
    (body : ∀ (p : Program) (e : Env) (s : State) (m : MethodId) (below : List Frame) (meth : Method) (c : Code) (A0 : Nat → Prop), EV p s m av.toArray meth c cc maxL own D cI cR ad shf N A0 → meth.sig.returnType = ret →
      LL p l e (RM d) s m av.toArray below meth c maxL D cI cR ad shf N A0 (fun r μ' => KG below av.toArray s D cI cR ad shf N A0 (ov r) μ') f 0 0 0 (lo0 av maxL) [] μ)
    {r : α} {μ' : Mem} (hf : f = some (r, μ')) : CT l y cc maxL ret d D cI cR ad shf N av μ (ov r) μ' := by
  intro sz
  refine met_ofWF (cc := cc) (maxL := maxL) (ret := ret) hy rfl ?_
  intro p e s m args below meth c s₁ B hml hv
  obtain ⟨rfl, hsz, hP, hK, hD0, hE0⟩ := hv
  have hts := atoms_spec (ws := .code y cc maxL ret :: Z_W) B.pre
  have ho : s.vm.findClass own = some m.cls := hown ▸ findClass_of_methodNamed B.named
  subst hsz
  have hD : ∀ μ9, va_D (aA ad N s.heap.size) (wo cI cR ad shf N μ9) := fun μ9 => wo_D hD0 (fun k hk => Or.inl ⟨k, hk, rfl⟩)
  have hl := lv_entry av (n := maxL) hlen
  rw [lg_entry_eq]
  generalize (lg_sl av ++ List.replicate (maxL - (lg_sl av).length) Slot.unset).toArray = ls at hl ⊢
  exact body p e s m below meth c (aA ad N s.heap.size) ⟨B.exec, B.bytes, hml, ho, fun w hw => hts w (List.mem_cons_of_mem _ hw), hK, hD, fun q h => Or.inr h, B.notSynchronized, hE0⟩ B.returns r μ' hf s.heap [] ls hP va_S.rf
    ⟨hl.1, hl.2.1, fun i v h => hl.2.2 (i, v) (by have h2 := lo0_args av maxL 0 i v h; rwa [Nat.zero_add] at h2)⟩
/-- the words of a call -/
def MLV (own : String) (idx : Nat) (y : MethodName) (cy : ByteArray) (maxL : Nat) (ret : Option FieldType) (n : Nat) : Prop :=
  Cond.methodLink own idx y ∈ Z_W ∧ Cond.instanceMethod y ∈ Z_W ∧ Cond.selects y.cls y y ∈ Z_W ∧ Cond.initialized y.cls ∈ Z_W ∧ Cond.code y cy maxL ret ∈ Z_W ∧ (y.cls ≠ "java/lang/invoke/MethodHandle" ∧ y.cls ≠ "java/lang/invoke/VarHandle" ∧ (parseMethodDescriptor y.desc).map (fun d => d.parameters.length) = some n) ∧ maxL ≤ 19
def MLS (own : String) (idx : Nat) (y : MethodName) (cy : ByteArray) (maxL : Nat) (ret : Option FieldType) (n : Nat) : Prop :=
  Cond.methodLink own idx y ∈ Z_W ∧ Cond.static y ∈ Z_W ∧ Cond.initialized y.cls ∈ Z_W ∧ Cond.code y cy maxL ret ∈ Z_W ∧ (y.cls ≠ "java/lang/invoke/MethodHandle" ∧ y.cls ≠ "java/lang/invoke/VarHandle" ∧ (parseMethodDescriptor y.desc).map (fun d => d.parameters.length) = some n) ∧ maxL ≤ 19
theorem gi_code {y : MethodName} {cy : ByteArray} {maxL : Nat} {ret : Option FieldType} (h : Cond.code y cy maxL ret ∈ Z_W) : GoodIn Z_W (.code y cy maxL ret :: Z_W) := zw_goodc (fun w hw => (List.mem_cons.mp hw).elim (fun q => by rw [q]; exact h) (fun q => q))
theorem mlv_cw {idx : Nat} {y : MethodName} {cy : ByteArray} {maxL : Nat} {ret : Option FieldType} {n d : Nat} (h : MLV own idx y cy maxL ret n) (hts : ∀ w ∈ Z_W, w.before args s = true) (hR : d + 1 ≤ R.frames ∧ 38 * (d + 1) ≤ R.locals) :
    CallW R s args own y.cls idx y cy maxL ret (.code y cy maxL ret :: Z_W) (RM d) 0 0 n := by
  obtain ⟨h1, h2, h3, h4, h5, h6, h7⟩ := h
  refine ⟨callB_of n hts (gi_code h5) rfl rfl rfl (hts _ h4) (hts _ h1) h6 ⟨hR.1, ?_⟩, hts _ h2, hts _ h3⟩
  have h8 := hR.2
  show 8 + (maxL + 11) + 38 * d ≤ R.locals
  omega
theorem mls_cw {idx : Nat} {y : MethodName} {cy : ByteArray} {maxL : Nat} {ret : Option FieldType} {n d : Nat} (h : MLS own idx y cy maxL ret n) (hts : ∀ w ∈ Z_W, w.before args s = true) (hR : d + 1 ≤ R.frames ∧ 38 * (d + 1) ≤ R.locals) :
    CallB R s args own idx y cy maxL ret (.code y cy maxL ret :: Z_W) (RM d) 0 0 n ∧ (Cond.static y).before args s = true := by
  obtain ⟨h1, h2, h4, h5, h6, h7⟩ := h
  refine ⟨callB_of n hts (gi_code h5) rfl rfl rfl (hts _ h4) (hts _ h1) h6 ⟨hR.1, ?_⟩, hts _ h2⟩
  have h8 := hR.2
  show 8 + (maxL + 11) + 38 * d ≤ R.locals
  omega
/-- behind a plain call -/
theorem ll_back (E : EV p s m args meth c cc nL own D cI cR ad shf N A0) {H : Heap} {locs : List Loc} {ls : Array Slot} {v : Option Value} {μ1 : Mem} {st0 rest : List Value} {av : Array Value} {Q : State → Prop} (hc : cl ≤ R.cells) (hs : sl ≤ R.slots)
    (hr : va_Run p l e R s m args below meth c H locs cl sl 0 0 (F0 m pc ls st0) rest (QG D cI cR ad shf N (aA ad N H.size) μ1 v av) (aA ad N H.size)) (hS : va_S A0 s.heap H locs)
    (k : ∀ (H1 : Heap) (locs1 : List Loc), va_P D vwCl (wo cI cR ad shf N μ1) H1 → va_S A0 s.heap H1 locs1 → W p l e R s m args below meth c H1 locs1 cl sl Q (F0 m (pc + 3) ls (v.toList ++ rest))) : W p l e R s m args below meth c H locs cl sl Q (F0 m pc ls st0) := by
  intro T hT X
  obtain ⟨v', st₀, t, T', L, h0, X', hL, e1, e2, ⟨hv, hP1, hK1, hz, hk⟩, stp⟩ := hr T hT X
  cases hv
  rw [h0] at hz hk
  have hA : ∀ q, aA ad N H.size q → A0 q := by
    rintro q (⟨k9, h1, rfl⟩ | h1)
    · exact (E.2.2.2.2.2.2.1 μ1).2 k9 _ (wo_get h1)
    · exact E.2.2.2.2.2.2.2.1 q (Nat.le_trans hS.1 h1)
  obtain ⟨t2, a1, b1⟩ := k T'.heap (locs ++ L) (by rw [e1]; exact hP1)
    ⟨Nat.le_trans hS.1 (by rw [e1]; exact hz), fun q h1 h2 => by rw [e1, hk q (Nat.lt_of_lt_of_le h1 hS.1) (fun z => h2 (hA q z))]; exact hS.2.1 q h1 h2, fun q hq => by
      rcases List.mem_append.mp hq with h | h
      · exact hS.2.2 q h
      · exact hA _ (hL q h)⟩ T' rfl X'
  exact ⟨t2, stp t2 a1, b1⟩
theorem ll_pre (E : EV p s m args meth c cc nL own D cI cR ad shf N A0) {H : Heap} {locs : List Loc} {As : List Value} (hP : va_P D vwCl (wo cI cR ad shf N μ) H) : PreS s H (PCt D cI cR ad shf N As μ H.size) As :=
  ⟨PCt_blind, fun U hU hW => ⟨rfl, by rw [hU], by rw [hU]; exact hP, va_K.moved hW.alike E.2.2.2.2.2.1, (E.2.2.2.2.2.2.1 μ).weaken (fun _ _ _ _ => trivial), EXn.warm hW E.2.2.2.2.2.2.2.2.2⟩⟩
theorem ll_callS (E : EV p s m args meth c cc nL own D cI cR ad shf N A0) {y : MethodName} {cy : ByteArray} {maxL d idx n : Nat} {ret : Option FieldType} {ov : β → Option Value} {f : Option (β × Mem)} {t9 : β → Mem → Option (α × Mem)} (As rest : List Value) {st0 : List Value} (hd : decode cc pc = .ok (.invokestatic idx, 3)) (hM : MLS own idx y cy maxL ret n)
    (hC : ∀ {r : β} {μ1 : Mem}, f = some (r, μ1) → CT l y cy maxL ret d D cI cR ad shf N As μ (ov r) μ1) (hst : st0 = As.reverse ++ rest) (hn : As.length = n) (hcat : (rest.map fun v => v.category).sum ≤ 8) (hR : d + 1 ≤ R.frames ∧ 38 * (d + 1) ≤ R.locals) (hc : cl ≤ R.cells ∧ sl ≤ R.slots)
    (k : ∀ r μ1, LL p l e R s m args below meth c nL D cI cR ad shf N A0 KQ (t9 r μ1) cl sl (pc + 3) lo ((ov r).toList ++ rest) μ1) : LL p l e R s m args below meth c nL D cI cR ad shf N A0 KQ (bd f t9) cl sl pc lo st0 μ := by
  intro r μ' h H locs ls hP hS hL
  cases hf : f with
  | none => rw [hf] at h; cases h
  | some x =>
    obtain ⟨r1, μ1⟩ := x
    rw [hf] at h
    exact ll_back E hc.1 hc.2 (va_runS (Ts := Z_W) ⟨E.1, E.2.1, E.2.2.1, E.2.2.2.1, E.2.2.2.2.1⟩ (hC hf H.size) (mls_cw hM E.2.2.2.2.1 hR) (ll_pre E (locs := locs) hP) rfl hn hL.1 hst (lv_room hcat) hd ⟨hc.1, hc.2⟩) hS (fun H1 locs1 hP1 hS1 => k r1 μ1 r μ' h H1 locs1 ls hP1 hS1 hL)
theorem ll_callV (E : EV p s m args meth c cc nL own D cI cR ad shf N A0) {y : MethodName} {cy : ByteArray} {maxL d idx n ci o9 : Nat} {ret : Option FieldType} {ov : β → Option Value} {f : Option (β × Mem)} {t9 : β → Mem → Option (α × Mem)} (As rest : List Value) {st0 : List Value} (hd : decode cc pc = .ok (.invokevirtual idx, 3)) (hM : MLV own idx y cy maxL ret n)
    (hC : ∀ {r : β} {μ1 : Mem}, f = some (r, μ1) → CT l y cy maxL ret d D cI cR ad shf N (.ref (ad o9) :: As) μ (ov r) μ1) (ho : o9 < N) (hso : (shf o9).1 = ci + 2) (hci : (vwCl[ci]?).map (fun q => q.1) = some y.cls) (hst : st0 = As.reverse ++ .ref (ad o9) :: rest) (hn : As.length = n) (hcat : (rest.map fun v => v.category).sum ≤ 8) (hR : d + 1 ≤ R.frames ∧ 38 * (d + 1) ≤ R.locals) (hc : cl ≤ R.cells ∧ sl ≤ R.slots)
    (k : ∀ r μ1, LL p l e R s m args below meth c nL D cI cR ad shf N A0 KQ (t9 r μ1) cl sl (pc + 3) lo ((ov r).toList ++ rest) μ1) : LL p l e R s m args below meth c nL D cI cR ad shf N A0 KQ (bd f t9) cl sl pc lo st0 μ := by
  intro r μ' h H locs ls hP hS hL
  cases hf : f with
  | none => rw [hf] at h; cases h
  | some x =>
    obtain ⟨r1, μ1⟩ := x
    rw [hf] at h
    have hg := wo_get (cI := cI) (cR := cR) (ad := ad) (shf := shf) (μ := μ) ho
    rw [cont_o hso] at hg
    cases hcl : vwCl[ci]? with
    | none => rw [hcl] at hci; cases hci
    | some qc =>
      rw [hcl] at hci
      have hrec := va_recv E.2.2.2.2.2.1 hP hcl hg
      rw [show qc.1 = y.cls from Option.some.inj hci] at hrec
      have hpre := ll_pre E (locs := locs) (As := .ref (ad o9) :: As) hP
      exact ll_back E hc.1 hc.2 (va_runV (Ts := Z_W) (C := y.cls) ⟨E.1, E.2.1, E.2.2.1, E.2.2.2.1, E.2.2.2.2.1⟩ (hC hf H.size) (mlv_cw hM E.2.2.2.2.1 hR) ⟨hpre.1, hrec, hpre.2⟩ rfl hn hL.1 hst (lv_room hcat) hd ⟨hc.1, hc.2⟩) hS (fun H1 locs1 hP1 hS1 => k r1 μ1 r μ' h H1 locs1 ls hP1 hS1 hL)
/-- a static call of a nest mate's private method -/
def MLN (own : String) (idx : Nat) (y : MethodName) (host : String) (cy : ByteArray) (maxL : Nat) (ret : Option FieldType) (n : Nat) : Prop :=
  (∀ U, EXn U → va_Nw (.methodLinkNest own idx y host) U) ∧ Cond.static y ∈ Z_W ∧ Cond.initialized y.cls ∈ Z_W ∧ Cond.code y cy maxL ret ∈ Z_W ∧ (y.cls ≠ "java/lang/invoke/MethodHandle" ∧ y.cls ≠ "java/lang/invoke/VarHandle" ∧ (parseMethodDescriptor y.desc).map (fun d => d.parameters.length) = some n) ∧ maxL ≤ 19
theorem ll_callNj (E : EV p s m args meth c cc nL own D cI cR ad shf N A0) {y : MethodName} {host : String} {cy : ByteArray} {maxL d idx n : Nat} {ret : Option FieldType} {f : Option (Int64 × Mem)} {t9 : Int64 → Mem → Option (α × Mem)} (As rest : List Value) {st0 : List Value} (hd : decode cc pc = .ok (.invokestatic idx, 3)) (hM : MLN own idx y host cy maxL ret n)
    (hC : ∀ {r : Int64} {μ1 : Mem}, f = some (r, μ1) → CT l y cy maxL ret d D cI cR ad shf N As μ (some (.long r)) μ1) (hst : st0 = As.reverse ++ rest) (hn : As.length = n) (hcat : (rest.map fun v => v.category).sum ≤ 8) (hR : d + 1 ≤ R.frames ∧ 38 * (d + 1) ≤ R.locals) (hc : cl ≤ R.cells ∧ sl ≤ R.slots)
    (k : ∀ r μ1, LL p l e R s m args below meth c nL D cI cR ad shf N A0 KQ (t9 r μ1) cl sl (pc + 3) lo (.long r :: rest) μ1) : LL p l e R s m args below meth c nL D cI cR ad shf N A0 KQ (bd f t9) cl sl pc lo st0 μ := by
  intro r μ' h H locs ls hP hS hL
  cases hf : f with
  | none => rw [hf] at h; cases h
  | some x =>
    obtain ⟨r1, μ1⟩ := x
    rw [hf] at h
    obtain ⟨h1, h2, h4, h5, h6, h7⟩ := hM
    have hts := E.2.2.2.2.1
    have hcn : va_CN R s args own idx y host cy maxL ret (.code y cy maxL ret :: Z_W) (RM d) 0 0 n := va_cnB n hts (gi_code h5) rfl rfl rfl (h1 s E.2.2.2.2.2.2.2.2.2) (hts _ h4) h6 ⟨hR.1, by
      have h8 := hR.2
      show 8 + (maxL + 11) + 38 * d ≤ R.locals
      omega⟩
    exact ll_back E hc.1 hc.2 (va_runSN (Ts := Z_W) ⟨E.1, E.2.1, E.2.2.1, E.2.2.2.1, E.2.2.2.2.1⟩ (hC hf H.size) ⟨hcn, hts _ h2, trivial⟩ (ll_pre E (locs := locs) hP) rfl hn hL.1 hst (lv_room hcat) hd ⟨hc.1, hc.2⟩) hS (fun H1 locs1 hP1 hS1 => k r1 μ1 r μ' h H1 locs1 ls hP1 hS1 hL)
/-- Math.max -/
theorem ll_max (E : EV p s m args meth c cc nL own D cI cR ad shf N A0) {idx : Nat} {x y : Int32} (hd : decode cc pc = .ok (.invokestatic idx, 3)) (hw : Cond.methodLink own idx Lib.Math.max.name ∈ Z_W) (hw2 : Cond.static Lib.Math.max.name ∈ Z_W) (hw3 : Cond.initialized "java/lang/Math" ∈ Z_W) (hw4 : Cond.code Lib.Math.max.name Lib.Math.max.code 2 (some .int) ∈ Z_W) (hcat : (st.map fun v => v.category).sum ≤ 8) (hR : 1 ≤ R.frames ∧ 38 ≤ R.locals) (hc : cl ≤ R.cells ∧ sl ≤ R.slots)
    (k : LL p l e R s m args below meth c nL D cI cR ad shf N A0 KQ t cl sl (pc + 3) lo (.int (jmax x y) :: st) μ) : LL p l e R s m args below meth c nL D cI cR ad shf N A0 KQ t cl sl pc lo (.int y :: .int x :: st) μ :=
  fun r μ' h H locs ls hP hS hL => va_mmax E.1 E.2.1 (E.2.2.1.trans hL.1.symm) E.2.2.2.1 (E.2.2.2.2.1 _ hw) (E.2.2.2.2.1 _ hw2) (E.2.2.2.2.1 _ hw3) (E.2.2.2.2.1 _ hw4) hR.1 (by have := hR.2; omega) hc.1 hc.2 hd (k r μ' h H locs ls hP hS hL)
/-- Math.min, and a double's bits -/
theorem ll_min (E : EV p s m args meth c cc nL own D cI cR ad shf N A0) {idx : Nat} {x y : Int32} (hd : decode cc pc = .ok (.invokestatic idx, 3)) (hw : Cond.methodLink own idx Lib.Math.min.name ∈ Z_W) (hw2 : Cond.static Lib.Math.min.name ∈ Z_W) (hw3 : Cond.initialized "java/lang/Math" ∈ Z_W) (hw4 : Cond.code Lib.Math.min.name Lib.Math.min.code 2 (some .int) ∈ Z_W) (hcat : (st.map fun v => v.category).sum ≤ 8) (hR : 1 ≤ R.frames ∧ 38 ≤ R.locals) (hc : cl ≤ R.cells ∧ sl ≤ R.slots)
    (k : LL p l e R s m args below meth c nL D cI cR ad shf N A0 KQ t cl sl (pc + 3) lo (.int (jmin x y) :: st) μ) : LL p l e R s m args below meth c nL D cI cR ad shf N A0 KQ t cl sl pc lo (.int y :: .int x :: st) μ :=
  fun r μ' h H locs ls hP hS hL => va_mmin E.1 E.2.1 (E.2.2.1.trans hL.1.symm) E.2.2.2.1 (E.2.2.2.2.1 _ hw) (E.2.2.2.2.1 _ hw2) (E.2.2.2.2.1 _ hw3) (E.2.2.2.2.1 _ hw4) hR.1 (by have := hR.2; omega) hc.1 hc.2 hd (k r μ' h H locs ls hP hS hL)
theorem ll_raw (E : EV p s m args meth c cc nL own D cI cR ad shf N A0) {idx : Nat} {x : UInt64} (hd : decode cc pc = .ok (.invokestatic idx, 3)) (hw : Cond.methodLink own idx ⟨"java/lang/Double", "doubleToRawLongBits", "(D)J"⟩ ∈ Z_W) (hw1 : Cond.native ⟨"java/lang/Double", "doubleToRawLongBits", "(D)J"⟩ ∈ Z_W) (hw2 : Cond.static ⟨"java/lang/Double", "doubleToRawLongBits", "(D)J"⟩ ∈ Z_W) (hw3 : Cond.initialized "java/lang/Double" ∈ Z_W) (hcat : (st.map fun v => v.category).sum ≤ 8) (hR : 1 ≤ R.frames ∧ 38 ≤ R.locals)
    (k : LL p l e R s m args below meth c nL D cI cR ad shf N A0 KQ t cl sl (pc + 3) lo (.long x.toInt64 :: st) μ) : LL p l e R s m args below meth c nL D cI cR ad shf N A0 KQ t cl sl pc lo (.double x :: st) μ :=
  fun r μ' h H locs ls hP hS hL => vn_d2l E.1 E.2.1 (E.2.2.1.trans hL.1.symm) E.2.2.2.1 (E.2.2.2.2.1 _ hw) (E.2.2.2.2.1 _ hw1) (E.2.2.2.2.1 _ hw2) (E.2.2.2.2.1 _ hw3) hR.1 (by have := hR.2; omega) hd (k r μ' h H locs ls hP hS hL)
/-- System.arraycopy, between two rows of ints -/
theorem ll_acopy (E : EV p s m args meth c cc nL own D cI cR ad shf N A0) {idx a0 a1 n0 n1 : Nat} {sp dp n : Int32} {t9 : Mem → Option (α × Mem)} (hd : decode cc pc = .ok (.invokestatic idx, 3)) (hw : Cond.methodLink own idx arraycopyName ∈ Z_W) (hw1 : Cond.native arraycopyName ∈ Z_W) (hw2 : Cond.static arraycopyName ∈ Z_W) (hw3 : Cond.initialized "java/lang/System" ∈ Z_W) (h0 : a0 < N) (h1 : a1 < N) (hs0 : ak (shf a0) = some n0) (hs1 : ak (shf a1) = some n1) (hcat : (st.map fun v => v.category).sum ≤ 8) (hR : 1 ≤ R.frames ∧ 38 ≤ R.locals)
    (k : ∀ μ1, LL p l e R s m args below meth c nL D cI cR ad shf N A0 KQ (t9 μ1) cl sl (pc + 3) lo st μ1) : LL p l e R s m args below meth c nL D cI cR ad shf N A0 KQ ((acp n0 n1 μ a0 sp a1 dp n).bind t9) cl sl pc lo (.int n :: .int dp :: .ref (ad a1) :: .int sp :: .ref (ad a0) :: st) μ := by
  intro r μ' h H locs ls hP hS hL
  obtain ⟨u1, u2⟩ := ak_eq hs0
  obtain ⟨v1, v2⟩ := ak_eq hs1
  have hg0 := wo_get (cI := cI) (cR := cR) (ad := ad) (shf := shf) (μ := μ) h0
  have hg1 := wo_get (cI := cI) (cR := cR) (ad := ad) (shf := shf) (μ := μ) h1
  rw [cont_i u1 u2] at hg0
  rw [cont_i v1 v2] at hg1
  by_cases hj : 0 ≤ sp ∧ 0 ≤ dp ∧ 0 ≤ n ∧ sp.toNatClampNeg + n.toNatClampNeg ≤ n0 ∧ dp.toNatClampNeg + n.toNatClampNeg ≤ n1
  · rw [acp, if_pos hj] at h
    obtain ⟨j1, j2, j3, j4, j5⟩ := hj
    refine va_copyi E.1 E.2.1 (E.2.2.1.trans hL.1.symm) E.2.2.2.1 (E.2.2.2.2.1 _ hw) (E.2.2.2.2.1 _ hw1) (E.2.2.2.2.1 _ hw2) (E.2.2.2.2.1 _ hw3) E.2.2.2.2.2.1 hP (E.2.2.2.2.2.2.1 μ) hS a0 a1 0 0 hg0 hg1 rfl rfl rfl (Int32.not_lt.mpr j1) (Int32.not_lt.mpr j2) (Int32.not_lt.mpr j3) j4 j5 (fun _ _ => rfl) hR.1 ?_ hd (fun H1 locs1 hP1 hD1 hS1 => ?_)
    · have h9 := hR.2
      have h8 : nativeFrameWords "java/lang/System" "arraycopy" 5 ≤ 19 := by decide +kernel
      omega
    · rw [← cont_i (cI := cI) (cR := cR) (ad := ad) v1 v2, wo_set h1] at hP1
      exact k _ r μ' h H1 locs1 ls hP1 hS1 hL
  · rw [acp, if_neg hj] at h
    cases h

theorem ll_callSi (E : EV p s m args meth c cc nL own D cI cR ad shf N A0) {y : MethodName} {cy : ByteArray} {maxL d idx n : Nat} {ret : Option FieldType} {f : Option (Int32 × Mem)} {t9 : Int32 → Mem → Option (α × Mem)} (As rest : List Value) {st0 : List Value} (hd : decode cc pc = .ok (.invokestatic idx, 3)) (hM : MLS own idx y cy maxL ret n)
    (hC : ∀ {r : Int32} {μ1 : Mem}, f = some (r, μ1) → CT l y cy maxL ret d D cI cR ad shf N As μ (some (.int r)) μ1) (hst : st0 = As.reverse ++ rest) (hn : As.length = n) (hcat : (rest.map fun v => v.category).sum ≤ 8) (hR : d + 1 ≤ R.frames ∧ 38 * (d + 1) ≤ R.locals) (hc : cl ≤ R.cells ∧ sl ≤ R.slots)
    (k : ∀ r μ1, LL p l e R s m args below meth c nL D cI cR ad shf N A0 KQ (t9 r μ1) cl sl (pc + 3) lo (.int r :: rest) μ1) : LL p l e R s m args below meth c nL D cI cR ad shf N A0 KQ (bd f t9) cl sl pc lo st0 μ := ll_callS E (ov := fun r => some (.int r)) As rest hd hM hC hst hn hcat hR hc k
theorem ll_callVi (E : EV p s m args meth c cc nL own D cI cR ad shf N A0) {y : MethodName} {cy : ByteArray} {maxL d idx n ci o9 : Nat} {ret : Option FieldType} {f : Option (Int32 × Mem)} {t9 : Int32 → Mem → Option (α × Mem)} (As rest : List Value) {st0 : List Value} (hd : decode cc pc = .ok (.invokevirtual idx, 3)) (hM : MLV own idx y cy maxL ret n)
    (hC : ∀ {r : Int32} {μ1 : Mem}, f = some (r, μ1) → CT l y cy maxL ret d D cI cR ad shf N (.ref (ad o9) :: As) μ (some (.int r)) μ1) (ho : o9 < N) (hso : (shf o9).1 = ci + 2) (hci : (vwCl[ci]?).map (fun q => q.1) = some y.cls) (hst : st0 = As.reverse ++ .ref (ad o9) :: rest) (hn : As.length = n) (hcat : (rest.map fun v => v.category).sum ≤ 8) (hR : d + 1 ≤ R.frames ∧ 38 * (d + 1) ≤ R.locals) (hc : cl ≤ R.cells ∧ sl ≤ R.slots)
    (k : ∀ r μ1, LL p l e R s m args below meth c nL D cI cR ad shf N A0 KQ (t9 r μ1) cl sl (pc + 3) lo (.int r :: rest) μ1) : LL p l e R s m args below meth c nL D cI cR ad shf N A0 KQ (bd f t9) cl sl pc lo st0 μ := ll_callV E (ov := fun r => some (.int r)) As rest hd hM hC ho hso hci hst hn hcat hR hc k
theorem ll_callSj (E : EV p s m args meth c cc nL own D cI cR ad shf N A0) {y : MethodName} {cy : ByteArray} {maxL d idx n : Nat} {ret : Option FieldType} {f : Option (Int64 × Mem)} {t9 : Int64 → Mem → Option (α × Mem)} (As rest : List Value) {st0 : List Value} (hd : decode cc pc = .ok (.invokestatic idx, 3)) (hM : MLS own idx y cy maxL ret n)
    (hC : ∀ {r : Int64} {μ1 : Mem}, f = some (r, μ1) → CT l y cy maxL ret d D cI cR ad shf N As μ (some (.long r)) μ1) (hst : st0 = As.reverse ++ rest) (hn : As.length = n) (hcat : (rest.map fun v => v.category).sum ≤ 8) (hR : d + 1 ≤ R.frames ∧ 38 * (d + 1) ≤ R.locals) (hc : cl ≤ R.cells ∧ sl ≤ R.slots)
    (k : ∀ r μ1, LL p l e R s m args below meth c nL D cI cR ad shf N A0 KQ (t9 r μ1) cl sl (pc + 3) lo (.long r :: rest) μ1) : LL p l e R s m args below meth c nL D cI cR ad shf N A0 KQ (bd f t9) cl sl pc lo st0 μ := ll_callS E (ov := fun r => some (.long r)) As rest hd hM hC hst hn hcat hR hc k
theorem ll_callVj (E : EV p s m args meth c cc nL own D cI cR ad shf N A0) {y : MethodName} {cy : ByteArray} {maxL d idx n ci o9 : Nat} {ret : Option FieldType} {f : Option (Int64 × Mem)} {t9 : Int64 → Mem → Option (α × Mem)} (As rest : List Value) {st0 : List Value} (hd : decode cc pc = .ok (.invokevirtual idx, 3)) (hM : MLV own idx y cy maxL ret n)
    (hC : ∀ {r : Int64} {μ1 : Mem}, f = some (r, μ1) → CT l y cy maxL ret d D cI cR ad shf N (.ref (ad o9) :: As) μ (some (.long r)) μ1) (ho : o9 < N) (hso : (shf o9).1 = ci + 2) (hci : (vwCl[ci]?).map (fun q => q.1) = some y.cls) (hst : st0 = As.reverse ++ .ref (ad o9) :: rest) (hn : As.length = n) (hcat : (rest.map fun v => v.category).sum ≤ 8) (hR : d + 1 ≤ R.frames ∧ 38 * (d + 1) ≤ R.locals) (hc : cl ≤ R.cells ∧ sl ≤ R.slots)
    (k : ∀ r μ1, LL p l e R s m args below meth c nL D cI cR ad shf N A0 KQ (t9 r μ1) cl sl (pc + 3) lo (.long r :: rest) μ1) : LL p l e R s m args below meth c nL D cI cR ad shf N A0 KQ (bd f t9) cl sl pc lo st0 μ := ll_callV E (ov := fun r => some (.long r)) As rest hd hM hC ho hso hci hst hn hcat hR hc k
theorem ll_callSd (E : EV p s m args meth c cc nL own D cI cR ad shf N A0) {y : MethodName} {cy : ByteArray} {maxL d idx n : Nat} {ret : Option FieldType} {f : Option (UInt64 × Mem)} {t9 : UInt64 → Mem → Option (α × Mem)} (As rest : List Value) {st0 : List Value} (hd : decode cc pc = .ok (.invokestatic idx, 3)) (hM : MLS own idx y cy maxL ret n)
    (hC : ∀ {r : UInt64} {μ1 : Mem}, f = some (r, μ1) → CT l y cy maxL ret d D cI cR ad shf N As μ (some (.double r)) μ1) (hst : st0 = As.reverse ++ rest) (hn : As.length = n) (hcat : (rest.map fun v => v.category).sum ≤ 8) (hR : d + 1 ≤ R.frames ∧ 38 * (d + 1) ≤ R.locals) (hc : cl ≤ R.cells ∧ sl ≤ R.slots)
    (k : ∀ r μ1, LL p l e R s m args below meth c nL D cI cR ad shf N A0 KQ (t9 r μ1) cl sl (pc + 3) lo (.double r :: rest) μ1) : LL p l e R s m args below meth c nL D cI cR ad shf N A0 KQ (bd f t9) cl sl pc lo st0 μ := ll_callS E (ov := fun r => some (.double r)) As rest hd hM hC hst hn hcat hR hc k
theorem ll_callVd (E : EV p s m args meth c cc nL own D cI cR ad shf N A0) {y : MethodName} {cy : ByteArray} {maxL d idx n ci o9 : Nat} {ret : Option FieldType} {f : Option (UInt64 × Mem)} {t9 : UInt64 → Mem → Option (α × Mem)} (As rest : List Value) {st0 : List Value} (hd : decode cc pc = .ok (.invokevirtual idx, 3)) (hM : MLV own idx y cy maxL ret n)
    (hC : ∀ {r : UInt64} {μ1 : Mem}, f = some (r, μ1) → CT l y cy maxL ret d D cI cR ad shf N (.ref (ad o9) :: As) μ (some (.double r)) μ1) (ho : o9 < N) (hso : (shf o9).1 = ci + 2) (hci : (vwCl[ci]?).map (fun q => q.1) = some y.cls) (hst : st0 = As.reverse ++ .ref (ad o9) :: rest) (hn : As.length = n) (hcat : (rest.map fun v => v.category).sum ≤ 8) (hR : d + 1 ≤ R.frames ∧ 38 * (d + 1) ≤ R.locals) (hc : cl ≤ R.cells ∧ sl ≤ R.slots)
    (k : ∀ r μ1, LL p l e R s m args below meth c nL D cI cR ad shf N A0 KQ (t9 r μ1) cl sl (pc + 3) lo (.double r :: rest) μ1) : LL p l e R s m args below meth c nL D cI cR ad shf N A0 KQ (bd f t9) cl sl pc lo st0 μ := ll_callV E (ov := fun r => some (.double r)) As rest hd hM hC ho hso hci hst hn hcat hR hc k
theorem ll_callSv (E : EV p s m args meth c cc nL own D cI cR ad shf N A0) {y : MethodName} {cy : ByteArray} {maxL d idx n : Nat} {ret : Option FieldType} {f : Option (Unit × Mem)} {t9 : Unit → Mem → Option (α × Mem)} (As rest : List Value) {st0 : List Value} (hd : decode cc pc = .ok (.invokestatic idx, 3)) (hM : MLS own idx y cy maxL ret n)
    (hC : ∀ {r : Unit} {μ1 : Mem}, f = some (r, μ1) → CT l y cy maxL ret d D cI cR ad shf N As μ (none) μ1) (hst : st0 = As.reverse ++ rest) (hn : As.length = n) (hcat : (rest.map fun v => v.category).sum ≤ 8) (hR : d + 1 ≤ R.frames ∧ 38 * (d + 1) ≤ R.locals) (hc : cl ≤ R.cells ∧ sl ≤ R.slots)
    (k : ∀ r μ1, LL p l e R s m args below meth c nL D cI cR ad shf N A0 KQ (t9 r μ1) cl sl (pc + 3) lo ( rest) μ1) : LL p l e R s m args below meth c nL D cI cR ad shf N A0 KQ (bd f t9) cl sl pc lo st0 μ := ll_callS E (ov := fun _ => none) As rest hd hM hC hst hn hcat hR hc k
theorem ll_callVv (E : EV p s m args meth c cc nL own D cI cR ad shf N A0) {y : MethodName} {cy : ByteArray} {maxL d idx n ci o9 : Nat} {ret : Option FieldType} {f : Option (Unit × Mem)} {t9 : Unit → Mem → Option (α × Mem)} (As rest : List Value) {st0 : List Value} (hd : decode cc pc = .ok (.invokevirtual idx, 3)) (hM : MLV own idx y cy maxL ret n)
    (hC : ∀ {r : Unit} {μ1 : Mem}, f = some (r, μ1) → CT l y cy maxL ret d D cI cR ad shf N (.ref (ad o9) :: As) μ (none) μ1) (ho : o9 < N) (hso : (shf o9).1 = ci + 2) (hci : (vwCl[ci]?).map (fun q => q.1) = some y.cls) (hst : st0 = As.reverse ++ .ref (ad o9) :: rest) (hn : As.length = n) (hcat : (rest.map fun v => v.category).sum ≤ 8) (hR : d + 1 ≤ R.frames ∧ 38 * (d + 1) ≤ R.locals) (hc : cl ≤ R.cells ∧ sl ≤ R.slots)
    (k : ∀ r μ1, LL p l e R s m args below meth c nL D cI cR ad shf N A0 KQ (t9 r μ1) cl sl (pc + 3) lo ( rest) μ1) : LL p l e R s m args below meth c nL D cI cR ad shf N A0 KQ (bd f t9) cl sl pc lo st0 μ := ll_callV E (ov := fun _ => none) As rest hd hM hC ho hso hci hst hn hcat hR hc k
theorem ll_callSr (E : EV p s m args meth c cc nL own D cI cR ad shf N A0) {q : Nat} {y : MethodName} {cy : ByteArray} {maxL d idx n : Nat} {ret : Option FieldType} {f : Option (Unit × Mem)} {t9 : Unit → Mem → Option (α × Mem)} (As rest : List Value) {st0 : List Value} (hd : decode cc pc = .ok (.invokestatic idx, 3)) (hM : MLS own idx y cy maxL ret n)
    (hC : ∀ {r : Unit} {μ1 : Mem}, f = some (r, μ1) → CT l y cy maxL ret d D cI cR ad shf N As μ (some (.ref (ad q))) μ1) (hst : st0 = As.reverse ++ rest) (hn : As.length = n) (hcat : (rest.map fun v => v.category).sum ≤ 8) (hR : d + 1 ≤ R.frames ∧ 38 * (d + 1) ≤ R.locals) (hc : cl ≤ R.cells ∧ sl ≤ R.slots)
    (k : ∀ r μ1, LL p l e R s m args below meth c nL D cI cR ad shf N A0 KQ (t9 r μ1) cl sl (pc + 3) lo (.ref (ad q) :: rest) μ1) : LL p l e R s m args below meth c nL D cI cR ad shf N A0 KQ (bd f t9) cl sl pc lo st0 μ := ll_callS E (ov := fun _ => some (.ref (ad q))) As rest hd hM hC hst hn hcat hR hc k
theorem ll_callVr (E : EV p s m args meth c cc nL own D cI cR ad shf N A0) {q : Nat} {y : MethodName} {cy : ByteArray} {maxL d idx n ci o9 : Nat} {ret : Option FieldType} {f : Option (Unit × Mem)} {t9 : Unit → Mem → Option (α × Mem)} (As rest : List Value) {st0 : List Value} (hd : decode cc pc = .ok (.invokevirtual idx, 3)) (hM : MLV own idx y cy maxL ret n)
    (hC : ∀ {r : Unit} {μ1 : Mem}, f = some (r, μ1) → CT l y cy maxL ret d D cI cR ad shf N (.ref (ad o9) :: As) μ (some (.ref (ad q))) μ1) (ho : o9 < N) (hso : (shf o9).1 = ci + 2) (hci : (vwCl[ci]?).map (fun q => q.1) = some y.cls) (hst : st0 = As.reverse ++ .ref (ad o9) :: rest) (hn : As.length = n) (hcat : (rest.map fun v => v.category).sum ≤ 8) (hR : d + 1 ≤ R.frames ∧ 38 * (d + 1) ≤ R.locals) (hc : cl ≤ R.cells ∧ sl ≤ R.slots)
    (k : ∀ r μ1, LL p l e R s m args below meth c nL D cI cR ad shf N A0 KQ (t9 r μ1) cl sl (pc + 3) lo (.ref (ad q) :: rest) μ1) : LL p l e R s m args below meth c nL D cI cR ad shf N A0 KQ (bd f t9) cl sl pc lo st0 μ := ll_callV E (ov := fun _ => some (.ref (ad q))) As rest hd hM hC ho hso hci hst hn hcat hR hc k
def zret (r : Int32) (μ : Mem) : Option (Int32 × Mem) := if r = 0 ∨ r = 1 then some (r, μ) else none
theorem ll_zret (E : EV p s m args meth c cc nL own D cI cR ad shf N A0) {r : Int32} (hr : meth.sig.returnType = some .boolean) (hd : decode cc pc = .ok (.ireturn, 1)) : LL p l e R s m args below meth c nL D cI cR ad shf N A0 (fun (r : Int32) μ' => KG below args s D cI cR ad shf N A0 (some (.int r)) μ') (zret r μ) 0 0 pc lo [.int r] μ := by
  unfold zret
  split
  · next h => rcases h with rfl | rfl <;> exact ll_zreturn E hr rfl hd
  · exact ll_none
/-- what a double's operation answers, where that is a number -/
def dop (r : UInt64) : Option UInt64 := if r &&& 0x7fffffffffffffff ≤ 0x7ff0000000000000 then some r else none
theorem ll_ddiv (E : EV p s m args meth c cc nL own D cI cR ad shf N A0) {x y : UInt64} {t9 : UInt64 → Option (α × Mem)} (hd : decode cc pc = .ok (.ddiv, 1)) (k : ∀ v, LL p l e R s m args below meth c nL D cI cR ad shf N A0 KQ (t9 v) cl sl (pc + 1) lo (.double v :: st) μ) : LL p l e R s m args below meth c nL D cI cR ad shf N A0 KQ ((dop (FP.ddiv x y)).bind t9) cl sl pc lo (.double y :: .double x :: st) μ := by
  intro r μ' h H locs ls hP hS hL
  by_cases hy : FP.ddiv x y &&& 0x7fffffffffffffff ≤ 0x7ff0000000000000
  · rw [dop, if_pos hy] at h
    exact lv_ddiv E.1 E.2.1 hd hy (k _ r μ' h H locs ls hP hS hL)
  · rw [dop, if_neg hy] at h
    cases h
theorem ll_dmul (E : EV p s m args meth c cc nL own D cI cR ad shf N A0) {x y : UInt64} {t9 : UInt64 → Option (α × Mem)} (hd : decode cc pc = .ok (.dmul, 1)) (k : ∀ v, LL p l e R s m args below meth c nL D cI cR ad shf N A0 KQ (t9 v) cl sl (pc + 1) lo (.double v :: st) μ) : LL p l e R s m args below meth c nL D cI cR ad shf N A0 KQ ((dop (FP.dmul x y)).bind t9) cl sl pc lo (.double y :: .double x :: st) μ := by
  intro r μ' h H locs ls hP hS hL
  by_cases hy : FP.dmul x y &&& 0x7fffffffffffffff ≤ 0x7ff0000000000000
  · rw [dop, if_pos hy] at h
    exact lv_dmul E.1 E.2.1 hd hy (k _ r μ' h H locs ls hP hS hL)
  · rw [dop, if_neg hy] at h
    cases h
theorem ll_dadd (E : EV p s m args meth c cc nL own D cI cR ad shf N A0) {x y : UInt64} {t9 : UInt64 → Option (α × Mem)} (hd : decode cc pc = .ok (.dadd, 1)) (k : ∀ v, LL p l e R s m args below meth c nL D cI cR ad shf N A0 KQ (t9 v) cl sl (pc + 1) lo (.double v :: st) μ) : LL p l e R s m args below meth c nL D cI cR ad shf N A0 KQ ((dop (FP.dadd x y)).bind t9) cl sl pc lo (.double y :: .double x :: st) μ := by
  intro r μ' h H locs ls hP hS hL
  by_cases hy : FP.dadd x y &&& 0x7fffffffffffffff ≤ 0x7ff0000000000000
  · rw [dop, if_pos hy] at h
    exact lv_dadd E.1 E.2.1 hd hy (k _ r μ' h H locs ls hP hS hL)
  · rw [dop, if_neg hy] at h
    cases h
theorem ll_dsub (E : EV p s m args meth c cc nL own D cI cR ad shf N A0) {x y : UInt64} {t9 : UInt64 → Option (α × Mem)} (hd : decode cc pc = .ok (.dsub, 1)) (k : ∀ v, LL p l e R s m args below meth c nL D cI cR ad shf N A0 KQ (t9 v) cl sl (pc + 1) lo (.double v :: st) μ) : LL p l e R s m args below meth c nL D cI cR ad shf N A0 KQ ((dop (FP.dsub x y)).bind t9) cl sl pc lo (.double y :: .double x :: st) μ := by
  intro r μ' h H locs ls hP hS hL
  by_cases hy : FP.dsub x y &&& 0x7fffffffffffffff ≤ 0x7ff0000000000000
  · rw [dop, if_pos hy] at h
    exact lv_dsub E.1 E.2.1 hd hy (k _ r μ' h H locs ls hP hS hL)
  · rw [dop, if_neg hy] at h
    cases h
theorem ll_lrem (E : EV p s m args meth c cc nL own D cI cR ad shf N A0) {x y : Int64} {t9 : Int64 → Option (α × Mem)} (hd : decode cc pc = .ok (.lrem, 1)) (k : ∀ v, LL p l e R s m args below meth c nL D cI cR ad shf N A0 KQ (t9 v) cl sl (pc + 1) lo (.long v :: st) μ) : LL p l e R s m args below meth c nL D cI cR ad shf N A0 KQ ((lrmd x y).bind t9) cl sl pc lo (.long y :: .long x :: st) μ := by
  intro r μ' h H locs ls hP hS hL
  by_cases hy : y = 0
  · simp [lrmd, hy] at h
  · rw [lrmd, if_neg hy] at h
    exact lv_lrem E.1 E.2.1 hd hy (k _ r μ' h H locs ls hP hS hL)
end LLROWS
