/-! THE LAW: the two sides' worlds beside each other, the row of one long, and what a caller's rows are -/
abbrev tyL (cI cR cL : ClassId) : List (ClassId × FieldType) := [(cI, .int), (cR, .object RX6), (cL, .long)]
def NCn (U : State) : Prop := ∀ i j, 1 ≤ i → i ≤ 3 → 1 ≤ j → j ≤ 3 → i ≠ j → va_Nc (xnm i) (xnm j) U
theorem NCn.moved {u U : State} (h : u.vm.Alike U.vm) (q : NCn u) : NCn U := fun i j a b c d e => (q i j a b c d e).moved h
abbrev ou (cL : ClassId) (q : Nat) (o : Nat → Int64) : Nat × va_E := (q, .inl (cL, 1, .inr (.inl o)))
section WMID
variable {D : va_G} {cl : List vw_C} {A : Nat → Prop} {w1 w w' w2 : va_W} {H H1 : Heap}
theorem mid_get {k : Nat} {x : Nat × va_E} (h : w[k]? = some x) : (w1 ++ (w ++ w2))[w1.length + k]? = some x := by
  have hk : k < w.length := (List.getElem?_eq_some_iff.mp h).1
  rw [List.getElem?_append_right (by omega), show w1.length + k - w1.length = k by omega, List.getElem?_append_left hk, h]
theorem vaP_mid (h : va_P D cl (w1 ++ (w ++ w2)) H) : va_P D cl w H := fun k x hk => h _ x (mid_get hk)
theorem vaD_mid (h : va_D A (w1 ++ (w ++ w2))) : va_D A w := ⟨fun i j p q hi hj hpq => by
  have := h.1 _ _ p q (mid_get (w1 := w1) (w2 := w2) hi) (mid_get (w1 := w1) (w2 := w2) hj) hpq
  omega, fun k x hk => h.2 _ x (mid_get hk)⟩
/-- the same addresses -/
def sad (w w' : va_W) : Prop := w'.length = w.length ∧ ∀ k : Nat, (w'[k]?).map (fun x => x.1) = (w[k]?).map (fun x => x.1)
theorem sad_get (h : sad w w') {k : Nat} {x : Nat × va_E} (hk : w'[k]? = some x) : ∃ e, w[k]? = some (x.1, e) := by
  have h1 := h.2 k
  rw [hk] at h1
  cases hw : w[k]? with
  | none => rw [hw] at h1; cases h1
  | some y =>
    rw [hw] at h1
    obtain ⟨y1, y2⟩ := y
    have h2 : x.1 = y1 := Option.some.inj h1
    exact ⟨y2, by rw [h2]⟩
theorem app_r {α : Type} {u v : List α} {k : Nat} (h : u.length ≤ k) : (u ++ v)[k]? = v[k - u.length]? := List.getElem?_append_right h
theorem app_l {α : Type} {u v : List α} {k : Nat} (h : k < u.length) : (u ++ v)[k]? = u[k]? := List.getElem?_append_left h
theorem sad_mid (h : sad w w') : sad (w1 ++ (w ++ w2)) (w1 ++ (w' ++ w2)) := by
  refine ⟨by simp [h.1], fun k => ?_⟩
  by_cases h1 : k < w1.length
  · rw [app_l h1, app_l h1]
  · rw [app_r (u := w1) (v := w' ++ w2) (by omega), app_r (u := w1) (v := w ++ w2) (by omega)]
    by_cases h2 : k - w1.length < w.length
    · rw [app_l (u := w') (v := w2) (by rw [h.1]; exact h2), app_l (u := w) (v := w2) h2]
      exact h.2 _
    · rw [app_r (u := w') (v := w2) (by rw [h.1]; omega), app_r (u := w) (v := w2) (by omega), h.1]
theorem sad_D (h : sad w w') (hD : va_D A w) : va_D A w' := by
  refine ⟨fun i j p q hi hj hpq => ?_, fun k x hk => ?_⟩
  · obtain ⟨e1, h1⟩ := sad_get h hi
    obtain ⟨e2, h2⟩ := sad_get h hj
    exact hD.1 i j _ _ h1 h2 hpq
  · obtain ⟨e1, h1⟩ := sad_get h hk
    exact hD.2 k (x.1, e1) h1
/-- what a call over w changed, put back beside what it left -/
theorem mid_join (hP : va_P D cl (w1 ++ (w ++ w2)) H) (hD : va_D A (w1 ++ (w ++ w2))) (hk : ∀ q : Nat, q < H.size → ¬ va_A w H.size q → H1[q]? = H[q]?) (hs : sad w w') (hP1 : va_P D cl w' H1) : va_P D cl (w1 ++ (w' ++ w2)) H1 ∧ va_D A (w1 ++ (w' ++ w2)) := by
  refine ⟨fun k x hx => ?_, sad_D (sad_mid hs) hD⟩
  have key : ∀ (k9 : Nat) (x9 : Nat × va_E), (w1 ++ (w ++ w2))[k9]? = some x9 → (k9 < w1.length ∨ w1.length + w.length ≤ k9) → va_at D cl x9 H1 := by
    intro k9 x9 h9 h8
    have h7 := hP k9 x9 h9
    refine h7.kept (hk x9.1 h7.lt ?_)
    rintro (⟨j, e, hj⟩ | h6)
    · have hj2 : j < w.length := (List.getElem?_eq_some_iff.mp hj).1
      have := hD.1 k9 _ x9 _ h9 (mid_get (w1 := w1) (w2 := w2) hj) rfl
      omega
    · have := h7.lt
      omega
  by_cases h1 : k < w1.length
  · rw [List.getElem?_append_left h1] at hx
    exact key k x (by rw [List.getElem?_append_left h1]; exact hx) (Or.inl h1)
  · rw [List.getElem?_append_right (by omega)] at hx
    by_cases h2 : k - w1.length < w'.length
    · rw [List.getElem?_append_left h2] at hx
      exact hP1 _ x hx
    · rw [List.getElem?_append_right (by omega), hs.1] at hx
      refine key k x ?_ (Or.inr (by rw [hs.1] at h2; omega))
      rw [List.getElem?_append_right (by omega), List.getElem?_append_right (by rw [hs.1] at h2; omega)]
      exact hx
theorem sad_wo {cI cR : ClassId} {ad : Nat → Nat} {shf : Nat → Shp} {N : Nat} {μ μ' : Mem} : sad (wo cI cR ad shf N μ) (wo cI cR ad shf N μ') := by
  refine ⟨by rw [wo_len, wo_len], fun k => ?_⟩
  by_cases h : k < N
  · rw [wo_get h, wo_get h]
    rfl
  · rw [List.getElem?_eq_none (by rw [wo_len]; omega), List.getElem?_eq_none (by rw [wo_len]; omega)]
theorem sad_app {u u' v v' : va_W} (h1 : sad u u') (h2 : sad v v') : sad (u ++ v) (u' ++ v') := by
  refine ⟨by simp [h1.1, h2.1], fun k => ?_⟩
  by_cases h : k < u.length
  · rw [app_l (u := u) (v := v) h, app_l (u := u') (v := v') (by rw [h1.1]; exact h)]
    exact h1.2 k
  · rw [app_r (u := u) (v := v) (by omega), app_r (u := u') (v := v') (by rw [h1.1]; omega), h1.1]
    exact h2.2 _
theorem sad_ou {cL : ClassId} {q : Nat} {o o' : Nat → Int64} : sad [ou cL q o] [ou cL q o'] := by
  refine ⟨rfl, fun k => ?_⟩
  match k with
  | 0 => rfl
  | k + 1 => rfl
end WMID
abbrev EL (p : Program) (s : State) (m : MethodId) (args : Array Value) (meth : Method) (c : Code) (cc : ByteArray) (nL : Nat) (own : String) (D : va_G) (cI cR cL : ClassId) (A0 : Nat → Prop) : Prop :=
  EC p s m args meth c cc nL own D cI cR A0 ∧ va_K D vwCl (tyL cI cR cL) s ∧ NCn s ∧ STT A0 s s.heap
section LAWROWS
variable {p : Program} {l : Launch} {e : Env} {R : Room} {s : State} {m : MethodId} {args : Array Value} {below : List Frame} {meth : Method} {c : Code} {cc : ByteArray} {nL : Nat} {own : String} {D : va_G} {cI cR cL : ClassId} {A0 : Nat → Prop} {Q : State → Prop}
variable {cl sl pc : Nat} {lo lo' : List (Option Value)} {st : List Value} {ws ws' : va_W}
theorem lc_lo (hs : lsub lo' lo) (k : LC p l e R s m args below meth c nL D A0 Q ws cl sl pc lo' st) : LC p l e R s m args below meth c nL D A0 Q ws cl sl pc lo st := fun H locs ls hP hD hS hL => k H locs ls hP hD hS ⟨hL.1, hL.2.1, fun i v hi => hL.2.2 i v (lo_sub hs i v hi)⟩
theorem lc_widen {cl' sl' : Nat} (h1 : cl ≤ cl') (h2 : sl ≤ sl') (k : LC p l e R s m args below meth c nL D A0 Q ws cl' sl' pc lo st) : LC p l e R s m args below meth c nL D A0 Q ws cl sl pc lo st := fun H locs ls hP hD hS hL => W.widen h1 h2 (k H locs ls hP hD hS hL)
theorem lc_iload (E : EC p s m args meth c cc nL own D cI cR A0) {i : Nat} {x : Int32} (hd : decode cc pc = .ok (.iload i, 2)) (hl : lg lo i = some (.int x)) (k : LC p l e R s m args below meth c nL D A0 Q ws cl sl (pc + 2) lo (.int x :: st)) : LC p l e R s m args below meth c nL D A0 Q ws cl sl pc lo st :=
  fun H locs ls hP hD hS hL => lv_iload E.1 E.2.1 hd (hL.2.2 _ _ hl) (k H locs ls hP hD hS hL)
theorem lc_aload (E : EC p s m args meth c cc nL own D cI cR A0) {i : Nat} {x : Nat} (hd : decode cc pc = .ok (.aload i, 2)) (hl : lg lo i = some (.ref x)) (k : LC p l e R s m args below meth c nL D A0 Q ws cl sl (pc + 2) lo (.ref x :: st)) : LC p l e R s m args below meth c nL D A0 Q ws cl sl pc lo st :=
  fun H locs ls hP hD hS hL => lv_aload E.1 E.2.1 hd (hL.2.2 _ _ hl) (k H locs ls hP hD hS hL)
theorem lc_dload (E : EC p s m args meth c cc nL own D cI cR A0) {i : Nat} {x : UInt64} (hd : decode cc pc = .ok (.dload i, 2)) (hl : lg lo i = some (.double x)) (k : LC p l e R s m args below meth c nL D A0 Q ws cl sl (pc + 2) lo (.double x :: st)) : LC p l e R s m args below meth c nL D A0 Q ws cl sl pc lo st :=
  fun H locs ls hP hD hS hL => lv_dload E.1 E.2.1 hd (hL.2.2 _ _ hl) (k H locs ls hP hD hS hL)
theorem lc_dstore (E : EC p s m args meth c cc nL own D cI cR A0) {i : Nat} {x : UInt64} (hd : decode cc pc = .ok (.dstore i, 2)) (hn : i + 1 < nL) (hk : lk1 lo i = true) (hl : lst (lst lo i (some (.double x))) (i + 1) none = lo') (k : LC p l e R s m args below meth c nL D A0 Q ws cl sl (pc + 2) lo' st) : LC p l e R s m args below meth c nL D A0 Q ws cl sl pc lo (.double x :: st) :=
  fun H locs ls hP hD hS hL => lv_dstore E.1 E.2.1 hd (lo_lv hL) hn rfl (fun ls' h9 => k H locs ls' hP hD hS (hl ▸ lo_of_lv2 hL hk h9))
theorem lc_i2l (E : EC p s m args meth c cc nL own D cI cR A0) {x : Int32} (hd : decode cc pc = .ok (.i2l, 1)) (k : LC p l e R s m args below meth c nL D A0 Q ws cl sl (pc + 1) lo (.long x.toInt64 :: st)) : LC p l e R s m args below meth c nL D A0 Q ws cl sl pc lo (.int x :: st) :=
  fun H locs ls hP hD hS hL => lv_i2l E.1 E.2.1 hd rfl (k H locs ls hP hD hS hL)
theorem lc_lcmp (E : EC p s m args meth c cc nL own D cI cR A0) {x y : Int64} (hd : decode cc pc = .ok (.lcmp, 1)) (k : LC p l e R s m args below meth c nL D A0 Q ws cl sl (pc + 1) lo (.int (lg_cmp x y) :: st)) : LC p l e R s m args below meth c nL D A0 Q ws cl sl pc lo (.long y :: .long x :: st) :=
  fun H locs ls hP hD hS hL => W.lcmp E.1 E.2.1 hd (k H locs ls hP hD hS hL)
theorem lc_dcmp (E : EC p s m args meth c cc nL own D cI cR A0) {x y : UInt64} {op : CmpOp} (hd : decode cc pc = .ok (.dcmp op, 1)) (k : LC p l e R s m args below meth c nL D A0 Q ws cl sl (pc + 1) lo (.int (Op.cmpValue (FP.dcmp x y) op) :: st)) : LC p l e R s m args below meth c nL D A0 Q ws cl sl pc lo (.double y :: .double x :: st) :=
  fun H locs ls hP hD hS hL => lv_dcmp E.1 E.2.1 hd (k H locs ls hP hD hS hL)
theorem lc_iadd (E : EC p s m args meth c cc nL own D cI cR A0) {x y : Int32} (hd : decode cc pc = .ok (.iadd, 1)) (k : LC p l e R s m args below meth c nL D A0 Q ws cl sl (pc + 1) lo (.int (x + y) :: st)) : LC p l e R s m args below meth c nL D A0 Q ws cl sl pc lo (.int y :: .int x :: st) :=
  fun H locs ls hP hD hS hL => lv_iadd E.1 E.2.1 hd (k H locs ls hP hD hS hL)
theorem lc_isub (E : EC p s m args meth c cc nL own D cI cR A0) {x y : Int32} (hd : decode cc pc = .ok (.isub, 1)) (k : LC p l e R s m args below meth c nL D A0 Q ws cl sl (pc + 1) lo (.int (x - y) :: st)) : LC p l e R s m args below meth c nL D A0 Q ws cl sl pc lo (.int y :: .int x :: st) :=
  fun H locs ls hP hD hS hL => lv_isub E.1 E.2.1 hd (k H locs ls hP hD hS hL)
theorem lc_iand (E : EC p s m args meth c cc nL own D cI cR A0) {x y : Int32} (hd : decode cc pc = .ok (.iand, 1)) (k : LC p l e R s m args below meth c nL D A0 Q ws cl sl (pc + 1) lo (.int (x &&& y) :: st)) : LC p l e R s m args below meth c nL D A0 Q ws cl sl pc lo (.int y :: .int x :: st) :=
  fun H locs ls hP hD hS hL => lv_iand E.1 E.2.1 hd (k H locs ls hP hD hS hL)
theorem lc_eqY (E : EC p s m args meth c cc nL own D cI cR A0) {x : Int32} {off : Int} {tgt : Nat} (hd : decode cc pc = .ok (.if_icmp .eq off, 3)) (ht : (pc : Int) + off = (tgt : Int)) (k : LC p l e R s m args below meth c nL D A0 Q ws cl sl tgt lo st) : LC p l e R s m args below meth c nL D A0 Q ws cl sl pc lo (.int x :: .int x :: st) :=
  fun H locs ls hP hD hS hL => lv_icmp_eq E.1 E.2.1 hd ht (fun _ => k H locs ls hP hD hS hL) (fun h => absurd rfl h)
theorem lc_gtY (E : EC p s m args meth c cc nL own D cI cR A0) {x y : Int32} {off : Int} {tgt : Nat} (hd : decode cc pc = .ok (.if_icmp .gt off, 3)) (ht : (pc : Int) + off = (tgt : Int)) (hx : y < x) (k : LC p l e R s m args below meth c nL D A0 Q ws cl sl tgt lo st) : LC p l e R s m args below meth c nL D A0 Q ws cl sl pc lo (.int y :: .int x :: st) :=
  fun H locs ls hP hD hS hL => lv_icmp_gt E.1 E.2.1 hd ht (fun _ => k H locs ls hP hD hS hL) (fun h => absurd hx h)
theorem lc_gtN (E : EC p s m args meth c cc nL own D cI cR A0) {x y : Int32} {off : Int} {tgt : Nat} (hd : decode cc pc = .ok (.if_icmp .gt off, 3)) (ht : (pc : Int) + off = (tgt : Int)) (hx : ¬ y < x) (k : LC p l e R s m args below meth c nL D A0 Q ws cl sl (pc + 3) lo st) : LC p l e R s m args below meth c nL D A0 Q ws cl sl pc lo (.int y :: .int x :: st) :=
  fun H locs ls hP hD hS hL => lv_icmp_gt E.1 E.2.1 hd ht (fun h => absurd h hx) (fun _ => k H locs ls hP hD hS hL)
theorem lc_if0 (E : EC p s m args meth c cc nL own D cI cR A0) {x : Int32} {off : Int} {tgt : Nat} (hd : decode cc pc = .ok (.ifCond .eq off, 3)) (ht : (pc : Int) + off = (tgt : Int)) (hx : x = 0) (k : LC p l e R s m args below meth c nL D A0 Q ws cl sl tgt lo st) : LC p l e R s m args below meth c nL D A0 Q ws cl sl pc lo (.int x :: st) :=
  fun H locs ls hP hD hS hL => lv_if_eq E.1 E.2.1 hd ht (fun _ => k H locs ls hP hD hS hL) (fun h => absurd hx h)
theorem lc_ifn (E : EC p s m args meth c cc nL own D cI cR A0) {x : Int32} {off : Int} {tgt : Nat} (hd : decode cc pc = .ok (.ifCond .ne off, 3)) (ht : (pc : Int) + off = (tgt : Int)) (k1 : ¬ x = 0 → LC p l e R s m args below meth c nL D A0 Q ws cl sl tgt lo st) (k2 : x = 0 → LC p l e R s m args below meth c nL D A0 Q ws cl sl (pc + 3) lo st) : LC p l e R s m args below meth c nL D A0 Q ws cl sl pc lo (.int x :: st) :=
  fun H locs ls hP hD hS hL => lv_if_ne E.1 E.2.1 hd ht (fun h => k1 h H locs ls hP hD hS hL) (fun h => k2 h H locs ls hP hD hS hL)
theorem lc_tabIn (E : EC p s m args meth c cc nL own D cI cR A0) {dflt lo9 hi : Int} {offs : Array Int} {len : Nat} {x : Int32} {off : Int} {tgt : Nat} (hd : decode cc pc = .ok (.tableswitch dflt lo9 hi offs, len)) (i : Int) (hx : x.toInt = i) (h1 : ¬ i < lo9) (h2 : ¬ hi < i) (ho : offs[(i - lo9).toNat]? = some off) (ht : (pc : Int) + off = (tgt : Int)) (k : LC p l e R s m args below meth c nL D A0 Q ws cl sl tgt lo st) : LC p l e R s m args below meth c nL D A0 Q ws cl sl pc lo (.int x :: st) :=
  fun H locs ls hP hD hS hL => lv_tableIn E.1 E.2.1 hd (by rw [hx]; exact h1) (by rw [hx]; exact h2) (by rw [hx]; exact ho) ht (k H locs ls hP hD hS hL)
theorem lc_tabOut (E : EC p s m args meth c cc nL own D cI cR A0) {dflt lo9 hi : Int} {offs : Array Int} {len : Nat} {x : Int32} {tgt : Nat} (hd : decode cc pc = .ok (.tableswitch dflt lo9 hi offs, len)) (hx : x.toInt < lo9 ∨ hi < x.toInt) (ht : (pc : Int) + dflt = (tgt : Int)) (k : LC p l e R s m args below meth c nL D A0 Q ws cl sl tgt lo st) : LC p l e R s m args below meth c nL D A0 Q ws cl sl pc lo (.int x :: st) :=
  fun H locs ls hP hD hS hL => lv_tableOut E.1 E.2.1 hd hx ht (k H locs ls hP hD hS hL)
/-- the script, read -/
theorem lc_sld (E : EC p s m args meth c cc nL own D cI cR A0) {b L : Nat} {xs : Nat → Int32} (hX : va_X b L xs s s.heap) (hbl : b < s.heap.size) (hbA : ¬ A0 b) {i : Int32} (hin : vp_in i L) (hd : decode cc pc = .ok (.iaload, 1)) (k : LC p l e R s m args below meth c nL D A0 Q ws cl sl (pc + 1) lo (.int (xs i.toNatClampNeg) :: st)) : LC p l e R s m args below meth c nL D A0 Q ws cl sl pc lo (.int i :: .ref b :: st) :=
  fun H locs ls hP hD hS hL => va_sld E.1 E.2.1 hX hbl hbA hS hin hd (k H locs ls hP hD hS hL)
theorem lc_slen (E : EC p s m args meth c cc nL own D cI cR A0) {b L : Nat} {xs : Nat → Int32} (hX : va_X b L xs s s.heap) (hbl : b < s.heap.size) (hbA : ¬ A0 b) (hd : decode cc pc = .ok (.arraylength, 1)) (k : LC p l e R s m args below meth c nL D A0 Q ws cl sl (pc + 1) lo (.int (Int32.ofNat L) :: st)) : LC p l e R s m args below meth c nL D A0 Q ws cl sl pc lo (.ref b :: st) :=
  fun H locs ls hP hD hS hL => va_slen E.1 E.2.1 hX hbl hbA hS hd (k H locs ls hP hD hS hL)
theorem lc_lald (E : EL p s m args meth c cc nL own D cI cR cL A0) {a : Nat} {o : Nat → Int64} (q0 : Nat) (hq : ws[q0]? = some (ou cL a o)) (hd : decode cc pc = .ok (.laload, 1)) (k : LC p l e R s m args below meth c nL D A0 Q ws cl sl (pc + 1) lo (.long (o 0) :: st)) : LC p l e R s m args below meth c nL D A0 Q ws cl sl pc lo (.int 0 :: .ref a :: st) :=
  fun H locs ls hP hD hS hL => va_lald E.1.1 E.1.2.1 E.2.1 hP q0 2 hq rfl (i := 0) (ibn_in (by decide +kernel)) hd (k H locs ls hP hD hS hL)
theorem lc_last (E : EL p s m args meth c cc nL own D cI cR cL A0) {a : Nat} {o : Nat → Int64} {x : Int64} (q0 : Nat) (hq : ws[q0]? = some (ou cL a o)) (hs : ws.set q0 (ou cL a (vp_updL o 0 x)) = ws') (hd : decode cc pc = .ok (.lastore, 1)) (k : LC p l e R s m args below meth c nL D A0 Q ws' cl sl (pc + 1) lo st) : LC p l e R s m args below meth c nL D A0 Q ws cl sl pc lo (.long x :: .int 0 :: .ref a :: st) := by
  intro H locs ls hP hD hS hL
  refine va_last E.1.1 E.1.2.1 E.2.1 hP hD hS q0 2 hq rfl (i := 0) (ibn_in (by decide +kernel)) hd (fun H1 locs1 hP1 hD1 hS1 => ?_)
  have hP2 : va_P D vwCl (ws.set q0 (ou cL a (vp_updL o 0 x))) H1 := hP1
  have hD2 : va_D A0 (ws.set q0 (ou cL a (vp_updL o 0 x))) := hD1
  rw [hs] at hP2 hD2
  exact k H1 locs1 ls hP2 hD2 hS1 hL
theorem aA_va {ad : Nat → Nat} {shf : Nat → Shp} {N : Nat} {μ : Mem} (sz : Nat) : va_A (wo cI cR ad shf N μ) sz = aA ad N sz := wo_A sz
/-- a plain call over one of the worlds -/
theorem lc_cT (E : EL p s m args meth c cc nL own D cI cR cL A0) {ad : Nat → Nat} {shf : Nat → Shp} {N : Nat} {μ μ1 : Mem} {w1 w2 : va_W} {y : MethodName} {cy : ByteArray} {maxL d idx n ci : Nat} {ret : Option FieldType} {v : Option Value} (As rest : List Value) {st0 : List Value} (hd : decode cc pc = .ok (.invokevirtual idx, 3)) (hM : MLV own idx y cy maxL ret n)
    (hC : CT l y cy maxL ret d D cI cR ad shf N (.ref (ad 0) :: As) μ v μ1) (ho : 0 < N) (hso : (shf 0).1 = ci + 2) (hci : (vwCl[ci]?).map (fun q => q.1) = some y.cls) (hst : st0 = As.reverse ++ .ref (ad 0) :: rest) (hn : As.length = n) (hcat : (rest.map fun v => v.category).sum ≤ 8) (hR : d + 1 ≤ R.frames ∧ 38 * (d + 1) ≤ R.locals) (hc : cl ≤ R.cells ∧ sl ≤ R.slots)
    (k : LC p l e R s m args below meth c nL D A0 Q (w1 ++ (wo cI cR ad shf N μ1 ++ w2)) cl sl (pc + 3) lo (v.toList ++ rest)) : LC p l e R s m args below meth c nL D A0 Q (w1 ++ (wo cI cR ad shf N μ ++ w2)) cl sl pc lo st0 := by
  intro H locs ls hP hD hS hL
  have hPm := vaP_mid hP
  have hDm := vaD_mid hD
  have hg := wo_get (cI := cI) (cR := cR) (ad := ad) (shf := shf) (μ := μ) ho
  rw [cont_o hso] at hg
  cases hcl : vwCl[ci]? with
  | none => rw [hcl] at hci; cases hci
  | some qc =>
    rw [hcl] at hci
    have hrec := va_recv E.2.1 hPm hcl hg
    rw [show qc.1 = y.cls from Option.some.inj hci] at hrec
    have hpre : PreS s H (PCt D cI cR ad shf N (.ref (ad 0) :: As) μ H.size) (.ref (ad 0) :: As) := ⟨PCt_blind, fun U hU hW => ⟨rfl, by rw [hU], by rw [hU]; exact hPm, va_K.moved hW.alike E.1.2.2.2.2.2.1, hDm.weaken (fun _ _ _ _ => trivial), EXn.warm hW E.1.2.2.2.2.2.2.2.2⟩⟩
    have hrun : va_Run p l e R s m args below meth c H locs cl sl 0 0 (F0 m pc ls st0) rest (QG D cI cR ad shf N (aA ad N H.size) μ1 v (Value.ref (ad 0) :: As).toArray) (aA ad N H.size) := va_runV (locs := locs) (Ts := Z_W) (C := y.cls) ⟨E.1.1, E.1.2.1, E.1.2.2.1, E.1.2.2.2.1, E.1.2.2.2.2.1⟩ (hC H.size) (mlv_cw hM E.1.2.2.2.2.1 hR) ⟨hpre.1, hrec, hpre.2⟩ (g := F0 m pc ls st0) rfl hn hL.1 hst (lv_room hcat) hd ⟨hc.1, hc.2⟩
    intro T hT X
    obtain ⟨v', st₀, t, T', L, h0, X', hLc, e1, e2, ⟨hv, hP1, hK1, hz, hk⟩, stp⟩ := hrun T hT X
    cases hv
    rw [h0] at hz hk
    have hA : ∀ q, aA ad N H.size q → A0 q := by
      rintro q (⟨k9, h1, rfl⟩ | h1)
      · exact hDm.2 k9 _ (wo_get h1)
      · exact E.1.2.2.2.2.2.2.1 q (Nat.le_trans hS.1 h1)
    obtain ⟨hP2, hD2⟩ := mid_join (w' := wo cI cR ad shf N μ1) hP hD (H1 := T'.heap) (fun q h1 h2 => by
      rw [e1]
      exact hk q h1 (by rw [aA_va] at h2; exact h2)) sad_wo (by rw [e1]; exact hP1)
    obtain ⟨t2, a1, b1⟩ := k T'.heap (locs ++ L) ls hP2 hD2
      ⟨Nat.le_trans hS.1 (by rw [e1]; exact hz), fun q h1 h2 => by rw [e1, hk q (Nat.lt_of_lt_of_le h1 hS.1) (fun z => h2 (hA q z))]; exact hS.2.1 q h1 h2, fun q hq => by
        rcases List.mem_append.mp hq with h | h
        · exact hS.2.2 q h
        · exact hA _ (hLc q h)⟩ hL T' rfl X'
    exact ⟨t2, stp t2 a1, b1⟩
end LAWROWS
