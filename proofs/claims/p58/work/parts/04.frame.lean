/-! ONE MEMORY AND A JUDGEMENT OVER SHALLOW TERMS. A side (the class's object with all that it holds; the reference's) is a row of cells, numbered; an int of the cell a at the place k is μ a k; references are fixed by the shape, but in a row of references, where the number itself stands. -/
abbrev Mem : Type := Nat → Nat → Int32
abbrev Shp : Type := Nat × Nat × (Nat → Option Nat)
def ms (μ : Mem) (a : Nat) (f : Nat → Int32) : Mem := fun b => if b = a then f else μ b
def mu (μ : Mem) (a j : Nat) (v : Int32) : Mem := ms μ a (upd (μ a) j v)
def cfv (ad : Nat → Nat) (r : Nat → Option Nat) (f : Nat → Int32) (k : Nat) : Value := match r k with
  | some q => .ref (ad q)
  | none => .int (f k)
def cont (cI cR : ClassId) (ad : Nat → Nat) (sh : Shp) (f : Nat → Int32) : va_E := match sh.1 with
  | 0 => .inl (cI, sh.2.1, .inl f)
  | 1 => .inl (cR, sh.2.1, .inr (.inr (.inr (.inr (fun j => some (ad (f j).toNatClampNeg))))))
  | c + 2 => .inr (c, (List.range sh.2.1).map (cfv ad sh.2.2 f))
def wo (cI cR : ClassId) (ad : Nat → Nat) (shf : Nat → Shp) (N : Nat) (μ : Mem) : va_W := (List.range N).map (fun k => (ad k, cont cI cR ad (shf k) (μ k)))
abbrev tyC (cI cR : ClassId) : List (ClassId × FieldType) := [(cI, .int), (cR, .object RX6)]
def aA (ad : Nat → Nat) (N sz : Nat) : Nat → Prop := fun q => (∃ k, k < N ∧ q = ad k) ∨ sz ≤ q
section WORLD
variable {cI cR : ClassId} {ad : Nat → Nat} {shf : Nat → Shp} {N : Nat} {μ μ' : Mem} {D : va_G}
theorem wo_len : (wo cI cR ad shf N μ).length = N := by simp [wo]
theorem wo_get {k : Nat} (h : k < N) : (wo cI cR ad shf N μ)[k]? = some (ad k, cont cI cR ad (shf k) (μ k)) := by
  simp [wo, h]
theorem wo_mem {k : Nat} {q : Nat × va_E} (h : (wo cI cR ad shf N μ)[k]? = some q) : k < N ∧ q = (ad k, cont cI cR ad (shf k) (μ k)) := by
  have hk : k < (wo cI cR ad shf N μ).length := (List.getElem?_eq_some_iff.mp h).1
  rw [wo_len] at hk
  rw [wo_get hk] at h
  cases h
  exact ⟨hk, rfl⟩
theorem wo_set {k : Nat} (h : k < N) (f : Nat → Int32) : (wo cI cR ad shf N μ).set k (ad k, cont cI cR ad (shf k) f) = wo cI cR ad shf N (ms μ k f) := by
  apply List.ext_getElem?
  intro i
  by_cases hi : i = k
  · subst hi
    rw [List.getElem?_set_self (by rw [wo_len]; exact h), wo_get h]
    simp [ms]
  · rw [List.getElem?_set_ne (Ne.symm hi)]
    by_cases hN : i < N
    · rw [wo_get hN, wo_get hN]
      simp [ms, hi]
    · rw [List.getElem?_eq_none (by rw [wo_len]; omega), List.getElem?_eq_none (by rw [wo_len]; omega)]
theorem wo_D {A B : Nat → Prop} (h : va_D A (wo cI cR ad shf N μ)) (hB : ∀ k, k < N → B (ad k)) : va_D B (wo cI cR ad shf N μ') := by
  refine ⟨fun i j p q hi hj hpq => ?_, fun k q hk => ?_⟩
  · obtain ⟨h1, rfl⟩ := wo_mem hi
    obtain ⟨h2, rfl⟩ := wo_mem hj
    exact h.1 i j _ _ (wo_get h1) (wo_get h2) hpq
  · obtain ⟨h1, rfl⟩ := wo_mem hk
    exact hB k h1
theorem wo_A (sz : Nat) : va_A (wo cI cR ad shf N μ) sz = aA ad N sz := by
  funext q
  refine propext ⟨fun h => ?_, fun h => ?_⟩
  · rcases h with ⟨k, e, h⟩ | h
    · obtain ⟨h1, h2⟩ := wo_mem h
      cases h2
      exact Or.inl ⟨k, h1, rfl⟩
    · exact Or.inr h
  · rcases h with ⟨k, h, rfl⟩ | h
    · exact Or.inl ⟨k, _, wo_get h⟩
    · exact Or.inr h
theorem cont_i {sh : Shp} {n : Nat} (h : sh.1 = 0) (hn : sh.2.1 = n) (f : Nat → Int32) : cont cI cR ad sh f = .inl (cI, n, .inl f) := by
  subst hn
  unfold cont
  rw [h]
theorem cont_r {sh : Shp} {n : Nat} (h : sh.1 = 1) (hn : sh.2.1 = n) (f : Nat → Int32) : cont cI cR ad sh f = .inl (cR, n, .inr (.inr (.inr (.inr (fun j => some (ad (f j).toNatClampNeg)))))) := by
  subst hn
  unfold cont
  rw [h]
theorem cont_o {sh : Shp} {ci : Nat} (h : sh.1 = ci + 2) (f : Nat → Int32) : cont cI cR ad sh f = .inr (ci, (List.range sh.2.1).map (cfv ad sh.2.2 f)) := by
  unfold cont
  rw [h]
theorem cfv_set {r : Nat → Option Nat} {f : Nat → Int32} {n k : Nat} {v : Int32} (hr : r k = none) : ((List.range n).map (cfv ad r f)).set k (.int v) = (List.range n).map (cfv ad r (upd f k v)) := by
  apply List.ext_getElem?
  intro i
  by_cases hi : i = k
  · subst hi
    by_cases h : i < n
    · rw [List.getElem?_set_self (by simpa using h)]
      simp [h, cfv, hr, upd]
    · rw [List.getElem?_eq_none (by simpa using h), List.getElem?_eq_none (by simpa using h)]
  · rw [List.getElem?_set_ne (Ne.symm hi)]
    by_cases h : i < n
    · simp [h, cfv, upd, hi]
    · rw [List.getElem?_eq_none (by simpa using h), List.getElem?_eq_none (by simpa using h)]
end WORLD
/-! locals by places -/
def lg : List (Option Value) → Nat → Option Value
  | [], _ => none
  | a :: _, 0 => a
  | _ :: t, n + 1 => lg t n
def lst : List (Option Value) → Nat → Option Value → List (Option Value)
  | [], _, _ => []
  | _ :: t, 0, v => v :: t
  | a :: t, n + 1, v => a :: lst t n v
def lp : Nat → List (Option Value) → List (Nat × Value)
  | _, [] => []
  | i, none :: t => lp (i + 1) t
  | i, some v :: t => (i, v) :: lp (i + 1) t
/-- the slot ahead of i holds no value of two slots -/
def lk1 : List (Option Value) → Nat → Bool
  | _, 0 => true
  | lo, i + 1 => match lg lo i with
    | some v => v.category == 1
    | none => true
def lo_has (ls : Array Slot) (nL : Nat) (lo : List (Option Value)) : Prop := ls.size = nL ∧ lv_wf ls ∧ ∀ i v, lg lo i = some v → ls[i]? = some (.val v)
def lo0 : List Value → Nat → List (Option Value)
  | [], n => List.replicate n none
  | v :: vs, n => match v.category == 2 with
    | true => some v :: none :: lo0 vs (n - 2)
    | false => some v :: lo0 vs (n - 1)
def lsub : List (Option Value) → List (Option Value) → Prop
  | [], _ => True
  | none :: t, _ :: u => lsub t u
  | none :: t, [] => lsub t []
  | some v :: t, w :: u => w = some v ∧ lsub t u
  | some _ :: _, [] => False
theorem lp_mem : ∀ (lo : List (Option Value)) (i j : Nat) (v : Value), (j, v) ∈ lp i lo ↔ ∃ k, j = i + k ∧ lg lo k = some v
  | [], i, j, v => ⟨fun h => by simp [lp] at h, fun ⟨k, _, h⟩ => by simp [lg] at h⟩
  | none :: t, i, j, v => by
    rw [lp, lp_mem t (i + 1) j v]
    refine ⟨fun ⟨k, h1, h2⟩ => ⟨k + 1, by omega, h2⟩, fun ⟨k, h1, h2⟩ => ?_⟩
    cases k with
    | zero => simp [lg] at h2
    | succ k => exact ⟨k, by omega, h2⟩
  | some w :: t, i, j, v => by
    rw [lp, List.mem_cons, lp_mem t (i + 1) j v]
    refine ⟨fun h => ?_, fun ⟨k, h1, h2⟩ => ?_⟩
    · rcases h with h | ⟨k, h1, h2⟩
      · cases h
        exact ⟨0, rfl, rfl⟩
      · exact ⟨k + 1, by omega, h2⟩
    · cases k with
      | zero =>
        refine Or.inl ?_
        simp [lg] at h2
        rw [h1, h2]
        rfl
      | succ k => exact Or.inr ⟨k, by omega, h2⟩
theorem lo_lv {ls : Array Slot} {nL : Nat} {lo : List (Option Value)} (h : lo_has ls nL lo) : lv_has ls nL (lp 0 lo) := by
  refine ⟨h.1, h.2.1, fun q hq => ?_⟩
  obtain ⟨k, h1, h2⟩ := (lp_mem lo 0 q.1 q.2).mp hq
  rw [Nat.zero_add] at h1
  rw [h1]
  exact h.2.2 k q.2 h2
theorem lg_lst : ∀ (lo : List (Option Value)) (i : Nat) (v : Option Value) (j : Nat), lg (lst lo i v) j = if j = i ∧ i < lo.length then v else lg lo j
  | [], i, v, j => by simp [lst, lg]
  | a :: t, 0, v, j => by
    cases j with
    | zero => simp [lst, lg]
    | succ j => simp [lst, lg]
  | a :: t, i + 1, v, j => by
    cases j with
    | zero => simp [lst, lg]
    | succ j => simp [lst, lg, lg_lst t i v j]
theorem lo_of_lv1 {ls ls' : Array Slot} {nL i : Nat} {lo : List (Option Value)} {v : Value} (h : lo_has ls nL lo) (hk : lk1 lo i = true)
    (h' : lv_has ls' nL ((i, v) :: (lp 0 lo).filter (fun q => !(q.1 == i) && !(q.1 + 1 == i && q.2.category == 2)))) : lo_has ls' nL (lst lo i (some v)) := by
  refine ⟨h'.1, h'.2.1, fun j w hj => ?_⟩
  rw [lg_lst] at hj
  split at hj
  · next hc =>
    cases hj
    rw [hc.1]
    exact h'.2.2 _ List.mem_cons_self
  · next hc =>
    have hm : (j, w) ∈ lp 0 lo := (lp_mem lo 0 j w).mpr ⟨j, (Nat.zero_add j).symm, hj⟩
    by_cases hji : j = i
    · subst hji
      exfalso
      refine hc ⟨rfl, ?_⟩
      have key : ∀ (lo : List (Option Value)) (j : Nat), lg lo j = some w → j < lo.length := by
        intro lo
        induction lo with
        | nil => intro j h; simp [lg] at h
        | cons a t ih =>
          intro j h
          cases j with
          | zero => simp
          | succ j => simpa using ih j h
      exact key lo j hj
    · refine h'.2.2 (j, w) (List.mem_cons_of_mem _ (List.mem_filter.mpr ⟨hm, ?_⟩))
      simp only [Bool.and_eq_true, Bool.not_eq_true', beq_eq_false_iff_ne, ne_eq, Bool.and_eq_false_iff]
      refine ⟨hji, ?_⟩
      by_cases hs : j + 1 = i
      · subst hs
        right
        simp only [lk1, hj] at hk
        intro h2
        rw [h2] at hk
        simp at hk
      · exact Or.inl hs
theorem lo_of_lv2 {ls ls' : Array Slot} {nL i : Nat} {lo : List (Option Value)} {v : Value} (h : lo_has ls nL lo) (hk : lk1 lo i = true)
    (h' : lv_has ls' nL ((i, v) :: (lp 0 lo).filter (fun q => !(q.1 == i) && (!(q.1 == i + 1) && !(q.1 + 1 == i && q.2.category == 2))))) : lo_has ls' nL (lst (lst lo i (some v)) (i + 1) none) := by
  refine ⟨h'.1, h'.2.1, fun j w hj => ?_⟩
  rw [lg_lst] at hj
  split at hj
  · cases hj
  · next hc1 =>
    rw [lg_lst] at hj
    split at hj
    · next hc =>
      cases hj
      rw [hc.1]
      exact h'.2.2 _ List.mem_cons_self
    · next hc =>
      have key : ∀ (lo : List (Option Value)) (j : Nat), lg lo j = some w → j < lo.length := by
        intro lo
        induction lo with
        | nil => intro j h; simp [lg] at h
        | cons a t ih =>
          intro j h
          cases j with
          | zero => simp
          | succ j => simpa using ih j h
      have hlen : ∀ (lo : List (Option Value)) (i : Nat) (v : Option Value), (lst lo i v).length = lo.length := by
        intro lo
        induction lo with
        | nil => intro i v; rfl
        | cons a t ih =>
          intro i v
          cases i with
          | zero => rfl
          | succ i => simp [lst, ih]
      have hm : (j, w) ∈ lp 0 lo := (lp_mem lo 0 j w).mpr ⟨j, (Nat.zero_add j).symm, hj⟩
      have hjl := key lo j hj
      have hji : ¬ j = i := fun z => hc ⟨z, z ▸ hjl⟩
      have hji1 : ¬ j = i + 1 := fun z => hc1 ⟨z, by rw [hlen]; omega⟩
      refine h'.2.2 (j, w) (List.mem_cons_of_mem _ (List.mem_filter.mpr ⟨hm, ?_⟩))
      simp only [Bool.and_eq_true, Bool.not_eq_true', beq_eq_false_iff_ne, ne_eq, Bool.and_eq_false_iff]
      refine ⟨hji, hji1, ?_⟩
      by_cases hs : j + 1 = i
      · subst hs
        right
        simp only [lk1, hj] at hk
        intro h2
        rw [h2] at hk
        simp at hk
      · exact Or.inl hs
theorem lo_sub : ∀ {lo' lo : List (Option Value)}, lsub lo' lo → ∀ i v, lg lo' i = some v → lg lo i = some v
  | [], _, _, i, v, h => by simp [lg] at h
  | none :: t, _ :: u, hs, i, v, h => by
    cases i with
    | zero => simp [lg] at h
    | succ i => exact lo_sub (lo' := t) (lo := u) hs i v h
  | none :: t, [], hs, i, v, h => by
    cases i with
    | zero => simp [lg] at h
    | succ i =>
      have := lo_sub (lo' := t) (lo := []) hs i v h
      simp [lg] at this
  | some w :: t, x :: u, hs, i, v, h => by
    cases i with
    | zero =>
      have h1 : w = v := by simpa [lg] using h
      subst h1
      exact hs.1
    | succ i => exact lo_sub (lo' := t) (lo := u) hs.2 i v h
  | some _ :: _, [], hs, _, _, _ => hs.elim
theorem lo0_args : ∀ (av : List Value) (n i : Nat) (j : Nat) (v : Value), lg (lo0 av n) j = some v → (i + j, v) ∈ lv_args i av
  | [], n, i, j, v, h => by
    exfalso
    have key : ∀ (n j : Nat), lg (List.replicate n none) j = none := by
      intro n
      induction n with
      | zero => intro j; rfl
      | succ n ih =>
        intro j
        cases j with
        | zero => rfl
        | succ j => exact ih j
    rw [lo0, key] at h
    cases h
  | w :: vs, n, i, j, v, h => by
    rw [lo0] at h
    rw [lv_args]
    split at h
    · next hc =>
      have hc' : w.category = 2 := by simpa using hc
      cases j with
      | zero => simp [lg] at h; simp [h]
      | succ j =>
        cases j with
        | zero => simp [lg] at h
        | succ j =>
          have h1 := lo0_args vs (n - 2) (i + 2) j v h
          rw [if_pos hc', show i + (j + 1 + 1) = i + 2 + j by omega]
          exact List.mem_cons_of_mem _ h1
    · next hc =>
      have hc' : ¬ w.category = 2 := by simpa using hc
      cases j with
      | zero => simp [lg] at h; simp [h]
      | succ j =>
        have h1 := lo0_args vs (n - 1) (i + 1) j v h
        rw [if_neg hc', show i + (j + 1) = i + 1 + j by omega]
        exact List.mem_cons_of_mem _ h1
/-! the words: the good ones of the tables' -/
def Z_W : List Cond := lw_tbl.filter goodWord
theorem zw {w : Cond} (i : Nat) (h : tables_1[i]? = some w) (g : goodWord w = true) : w ∈ Z_W := List.mem_filter.mpr ⟨List.mem_append_right _ (List.mem_of_getElem? h), g⟩
theorem zs {w : Cond} (i : Nat) (h : (k2_sels lw_privs)[i]? = some w) (g : goodWord w = true) : w ∈ Z_W := List.mem_filter.mpr ⟨List.mem_append_left _ (List.mem_of_getElem? h), g⟩
theorem zw_good : GoodIn Z_W Z_W := fun w hw => ⟨hw, good_of_word (List.mem_filter.mp hw).2⟩
theorem zw_goodc {ws : List Cond} (h : ∀ w ∈ ws, w ∈ Z_W) : GoodIn Z_W ws := fun w hw => zw_good w (h w hw)
abbrev RM (d : Nat) : Room := { frames := d, cells := 0, slots := 0, locals := 38 * d }
