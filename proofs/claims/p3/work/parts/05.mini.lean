/-! the small machine: values with cells by number, a world of three functions, instructions as functions -/
/-- the locals by their places; none: not known -/
abbrev Lo : Type := List (Option Value)
abbrev MW : Type := (Nat → Nat → Int32) × (Nat → Nat → Int64) × (Nat → Nat → Option Nat)
abbrev Out : Type := Option ((Nat × Lo × List Value × MW) ⊕ ((Nat × List Value × List Value) ⊕ Option Value))
abbrev Op : Type := Lo → List Value → MW → Out
/-- where things are: classes, slots, array classes, the cells, the texts, their bytes, the tables -/
abbrev EV : Type := (Nat → ClassId) × (Nat → Nat → Nat) × (ClassId × ClassId × ClassId × ClassId) × (Nat → Nat) × (Nat → Nat)
abbrev EV.dC (E : EV) : Nat → ClassId := E.1
abbrev EV.dI (E : EV) : Nat → Nat → Nat := E.2.1
abbrev EV.cI (E : EV) : ClassId := E.2.2.1.1
abbrev EV.cB (E : EV) : ClassId := E.2.2.1.2.1
abbrev EV.cZ (E : EV) : ClassId := E.2.2.1.2.2.1
abbrev EV.cJ (E : EV) : ClassId := E.2.2.1.2.2.2
abbrev EV.ad (E : EV) : Nat → Nat := E.2.2.2.1
abbrev EV.av (E : EV) : Nat → Nat := E.2.2.2.2
def rv (ad : Nat → Nat) : Value → Value
  | .ref k => .ref (ad k)
  | v => v
theorem rv_cat (ad : Nat → Nat) (v : Value) : (rv ad v).category = v.category := by cases v <;> rfl
/-- the known locals, as a list of places and values -/
def asc (ad : Nat → Nat) : Nat → Lo → List (Nat × Value)
  | _, [] => []
  | n, none :: t => asc ad (n + 1) t
  | n, some v :: t => (n, rv ad v) :: asc ad (n + 1) t
theorem asc_mem {ad : Nat → Nat} : ∀ {L : Lo} {n : Nat} {q : Nat × Value}, q ∈ asc ad n L ↔ ∃ j v, q = (n + j, rv ad v) ∧ L[j]? = some (some v) := by
  intro L
  induction L with
  | nil => intro n q; simp [asc]
  | cons x t ih =>
    intro n q
    cases x with
    | none =>
      show q ∈ asc ad (n + 1) t ↔ _
      rw [ih]
      constructor
      · rintro ⟨j, v, h1, h2⟩
        exact ⟨j + 1, v, by rw [h1]; congr 1; omega, by simpa using h2⟩
      · rintro ⟨j, v, h1, h2⟩
        cases j with
        | zero => simp at h2
        | succ j => exact ⟨j, v, by rw [h1]; congr 1; omega, by simpa using h2⟩
    | some u =>
      show q ∈ (n, rv ad u) :: asc ad (n + 1) t ↔ _
      rw [List.mem_cons, ih]
      constructor
      · rintro (h | ⟨j, v, h1, h2⟩)
        · exact ⟨0, u, h, rfl⟩
        · exact ⟨j + 1, v, by rw [h1]; congr 1; omega, by simpa using h2⟩
      · rintro ⟨j, v, h1, h2⟩
        cases j with
        | zero =>
          simp at h2
          subst h2
          exact Or.inl h1
        | succ j => exact Or.inr ⟨j, v, by rw [h1]; congr 1; omega, by simpa using h2⟩
theorem lv_mono {ls : Array Slot} {n : Nat} {l l' : List (Nat × Value)} (h : lv_has ls n l) (hs : ∀ q ∈ l', q ∈ l) : lv_has ls n l' := ⟨h.1, h.2.1, fun q hq => h.2.2 q (hs q hq)⟩
/-- a long whose second half is written over is known no more -/
def ksl : Option Value → Option Value
  | some (.long _) => none
  | some (.double _) => none
  | y => y
def mdf (f : Option Value → Option Value) : Nat → Lo → Lo
  | _, [] => []
  | 0, x :: t => f x :: t
  | n + 1, x :: t => x :: mdf f n t
theorem mdf_get (f : Option Value → Option Value) : ∀ (n : Nat) (L : Lo) (j : Nat), (mdf f n L)[j]? = if j = n then (L[j]?).map f else L[j]? := by
  intro n
  induction n with
  | zero =>
    intro L j
    cases L with
    | nil => simp [mdf]
    | cons x t => cases j with
      | zero => simp [mdf]
      | succ j => simp [mdf]
  | succ n ih =>
    intro L j
    cases L with
    | nil => simp [mdf]
    | cons x t => cases j with
      | zero => simp [mdf]
      | succ j => simp [mdf, ih]
def pre1 : Nat → Lo → Lo
  | 0, L => L
  | j + 1, L => mdf ksl j L
/-- a value of one slot, of two slots is stored -/
def st1 (i : Nat) (v : Value) (L : Lo) : Lo := (pre1 i L).set i (some v)
def st2 (i : Nat) (v : Value) (L : Lo) : Lo := ((pre1 i L).set i (some v)).set (i + 1) none
theorem pre1_get {i j : Nat} {L : Lo} {u : Value} (h : (pre1 i L)[j]? = some (some u)) : L[j]? = some (some u) ∧ (j + 1 = i → ¬ u.category = 2) := by
  cases i with
  | zero => exact ⟨h, fun z => by omega⟩
  | succ i =>
    rw [pre1, mdf_get] at h
    by_cases hj : j = i
    · rw [if_pos hj] at h
      cases hL : L[j]? with
      | none => rw [hL] at h; cases h
      | some x =>
        rw [hL] at h
        cases x with
        | none => simp [ksl] at h
        | some y => cases y <;> simp [ksl] at h <;> (subst h; exact ⟨rfl, fun _ => by simp [Value.category]⟩)
    · rw [if_neg hj] at h
      exact ⟨h, fun z => absurd (by omega) hj⟩
theorem asc_st1 {ad : Nat → Nat} {i : Nat} {v : Value} {L : Lo} : ∀ q ∈ asc ad 0 (st1 i v L), q ∈ (i, rv ad v) :: (asc ad 0 L).filter (fun q => !(q.1 == i) && !(q.1 + 1 == i && q.2.category == 2)) := by
  intro q hq
  obtain ⟨j, u, rfl, h⟩ := asc_mem.mp hq
  by_cases hj : j = i
  · subst hj
    have hlt : j < (pre1 j L).length := by
      have := (List.getElem?_eq_some_iff.mp h).1
      simpa [st1] using this
    rw [st1, List.getElem?_set_self hlt] at h
    simp at h
    subst h
    simp
  · rw [st1, List.getElem?_set_ne (Ne.symm hj)] at h
    obtain ⟨h1, h2⟩ := pre1_get h
    refine List.mem_cons_of_mem _ (List.mem_filter.mpr ⟨asc_mem.mpr ⟨j, u, rfl, h1⟩, ?_⟩)
    simp only [Nat.zero_add, rv_cat, Bool.and_eq_true, Bool.not_eq_true', beq_eq_false_iff_ne, ne_eq, Bool.and_eq_false_iff]
    refine ⟨hj, ?_⟩
    by_cases hk : j + 1 = i
    · exact Or.inr (h2 hk)
    · exact Or.inl hk
theorem asc_st2 {ad : Nat → Nat} {i : Nat} {v : Value} {L : Lo} : ∀ q ∈ asc ad 0 (st2 i v L), q ∈ (i, rv ad v) :: (asc ad 0 L).filter (fun q => !(q.1 == i) && (!(q.1 == i + 1) && !(q.1 + 1 == i && q.2.category == 2))) := by
  intro q hq
  obtain ⟨j, u, rfl, h⟩ := asc_mem.mp hq
  have hne : ¬ j = i + 1 := by
    intro z
    subst z
    rw [st2] at h
    by_cases hlt : i + 1 < ((pre1 i L).set i (some v)).length
    · rw [List.getElem?_set_self hlt] at h; simp at h
    · rw [List.getElem?_eq_none (by simp at hlt ⊢; omega)] at h; cases h
  rw [st2, List.getElem?_set_ne (Ne.symm hne)] at h
  by_cases hj : j = i
  · subst hj
    have hlt : j < (pre1 j L).length := by
      have := (List.getElem?_eq_some_iff.mp h).1
      simpa using this
    rw [List.getElem?_set_self hlt] at h
    simp at h
    subst h
    simp
  · rw [List.getElem?_set_ne (Ne.symm hj)] at h
    obtain ⟨h1, h2⟩ := pre1_get h
    refine List.mem_cons_of_mem _ (List.mem_filter.mpr ⟨asc_mem.mpr ⟨j, u, rfl, h1⟩, ?_⟩)
    simp only [Nat.zero_add, rv_cat, Bool.and_eq_true, Bool.not_eq_true', beq_eq_false_iff_ne, ne_eq, Bool.and_eq_false_iff]
    refine ⟨hj, hne, ?_⟩
    by_cases hk : j + 1 = i
    · exact Or.inr (h2 hk)
    · exact Or.inl hk
theorem lk_at {ad : Nat → Nat} {ls : Array Slot} {n : Nat} {L : Lo} {i : Nat} {v : Value} (hl : lv_has ls n (asc ad 0 L)) (h : L[i]? = some (some v)) : ls[i]? = some (.val (rv ad v)) :=
  hl.2.2 (i, rv ad v) (asc_mem.mpr ⟨i, v, by simp, h⟩)
/-- the locals at a method's start -/
def mkS : List Value → Lo
  | [] => []
  | v :: t => if v.category = 2 then some v :: none :: mkS t else some v :: mkS t
def mkL (n : Nat) (as : List Value) : Lo := mkS as ++ List.replicate (n - (lg_sl as).length) none
theorem mkS_mem {ad : Nat → Nat} : ∀ (as : List Value) (n : Nat), ∀ q ∈ asc ad n (mkS as), q ∈ lv_args n (as.map (rv ad)) := by
  intro as
  induction as with
  | nil => intro n q hq; cases hq
  | cons v t ih =>
    intro n q hq
    show q ∈ (n, rv ad v) :: lv_args (if (rv ad v).category = 2 then n + 2 else n + 1) (t.map (rv ad))
    rw [rv_cat]
    unfold mkS at hq
    by_cases hc : v.category = 2
    · rw [if_pos hc] at hq ⊢
      rcases List.mem_cons.mp hq with h | h
      · rw [h]; exact List.mem_cons_self
      · exact List.mem_cons_of_mem _ (ih (n + 2) q h)
    · rw [if_neg hc] at hq ⊢
      rcases List.mem_cons.mp hq with h | h
      · rw [h]; exact List.mem_cons_self
      · exact List.mem_cons_of_mem _ (ih (n + 1) q h)
theorem mkL_mem {ad : Nat → Nat} {n : Nat} {as : List Value} : ∀ q ∈ asc ad 0 (mkL n as), q ∈ lv_args 0 (as.map (rv ad)) := by
  intro q hq
  obtain ⟨j, u, rfl, h⟩ := asc_mem.mp hq
  apply mkS_mem as 0
  refine asc_mem.mpr ⟨j, u, rfl, ?_⟩
  rw [mkL] at h
  by_cases hj : j < (mkS as).length
  · rwa [List.getElem?_append_left hj] at h
  · rw [List.getElem?_append_right (by omega), List.getElem?_replicate] at h
    split at h <;> simp at h
theorem sl_len (ad : Nat → Nat) (as : List Value) : (lg_sl (as.map (rv ad))).length = (lg_sl as).length := by
  induction as with
  | nil => rfl
  | cons v t ih =>
    have h1 : ∀ (v : Value) (t : List Value), (lg_sl (v :: t)).length = (if v.category = 2 then 2 else 1) + (lg_sl t).length := by
      intro v t
      show ((if v.category = 2 then [Slot.val v, .second] else [Slot.val v]) ++ lg_sl t).length = _
      rw [List.length_append]
      split <;> rfl
    rw [List.map_cons, h1, h1, ih, rv_cat]
theorem cat_sum (ad : Nat → Nat) (as : List Value) : ((as.map (rv ad)).map fun v => v.category) = as.map fun v => v.category := by
  rw [List.map_map]
  exact List.map_congr_left (fun v _ => rv_cat ad v)
/-! shapes and worlds -/
/-- (0, class, fields): an object; (1 .. 4, length, []): an array of ints, bytes, booleans, longs. A field: 0 an int, 1 a long, 2 a reference that changes, c + 3 the cell c -/
abbrev Shp : Type := Nat × Nat × List Nat
def fvm (w : MW) (k j : Nat) : Nat → Value
  | 0 => .int (w.1 k j)
  | 1 => .long (w.2.1 k j)
  | 2 => match w.2.2 k j with
    | none => .null
    | some c => .ref c
  | c + 3 => .ref c
def cE (E : EV) (w : MW) (k : Nat) : Shp → va_E
  | (0, ci, fds) => .inr (ci, fds.mapIdx fun j t => rv E.ad (fvm w k j t))
  | (1, n, _) => .inl (E.cI, n, .inl (w.1 k))
  | (2, n, _) => .inl (E.cB, n, .inl (w.1 k))
  | (3, n, _) => .inl (E.cZ, n, .inl (w.1 k))
  | (_, n, _) => .inl (E.cJ, n, .inr (.inl (w.2.1 k)))
def sI (w : MW) (k j : Nat) (v : Int32) : MW := (fun a => if a = k then upd (w.1 a) j v else w.1 a, w.2)
def sJ (w : MW) (k j : Nat) (v : Int64) : MW := (w.1, fun a => if a = k then vp_updL (w.2.1 a) j v else w.2.1 a, w.2.2)
def sR (w : MW) (k j : Nat) (v : Option Nat) : MW := (w.1, w.2.1, fun a b => if a = k ∧ b = j then v else w.2.2 a b)
theorem sI_at (w : MW) (k j : Nat) (v : Int32) (a b : Nat) : (sI w k j v).1 a b = if a = k ∧ b = j then v else w.1 a b := by
  show (if a = k then upd (w.1 a) j v else w.1 a) b = _
  by_cases h : a = k
  · simp [h, upd]
  · simp [h]
theorem sJ_at (w : MW) (k j : Nat) (v : Int64) (a b : Nat) : (sJ w k j v).2.1 a b = if a = k ∧ b = j then v else w.2.1 a b := by
  show (if a = k then vp_updL (w.2.1 a) j v else w.2.1 a) b = _
  by_cases h : a = k
  · simp [h, vp_updL]
  · simp [h]
theorem fvm_I {w : MW} {k j : Nat} {v : Int32} {a b t : Nat} (h : ¬ (a = k ∧ b = j)) : fvm (sI w k j v) a b t = fvm w a b t := by
  match t with
  | 0 => show Value.int ((sI w k j v).1 a b) = .int (w.1 a b); rw [sI_at, if_neg h]
  | 1 => rfl
  | 2 => rfl
  | _ + 3 => rfl
theorem fvm_J {w : MW} {k j : Nat} {v : Int64} {a b t : Nat} (h : ¬ (a = k ∧ b = j)) : fvm (sJ w k j v) a b t = fvm w a b t := by
  match t with
  | 0 => rfl
  | 1 => show Value.long ((sJ w k j v).2.1 a b) = .long (w.2.1 a b); rw [sJ_at, if_neg h]
  | 2 => rfl
  | _ + 3 => rfl
theorem fvm_R {w : MW} {k j : Nat} {v : Option Nat} {a b t : Nat} (h : ¬ (a = k ∧ b = j)) : fvm (sR w k j v) a b t = fvm w a b t := by
  match t with
  | 0 => rfl
  | 1 => rfl
  | 2 => show (match (if a = k ∧ b = j then v else w.2.2 a b) with | none => Value.null | some c => .ref c) = _; rw [if_neg h]; rfl
  | _ + 3 => rfl
theorem cE_other {E : EV} {w w' : MW} {a : Nat} (h1 : w'.1 a = w.1 a) (h2 : w'.2.1 a = w.2.1 a) (h3 : ∀ b t, fvm w' a b t = fvm w a b t) (s : Shp) : cE E w' a s = cE E w a s := by
  obtain ⟨n, m, l⟩ := s
  match n with
  | 0 => simp only [cE, h3]
  | 1 => simp only [cE, h1]
  | 2 => simp only [cE, h1]
  | 3 => simp only [cE, h1]
  | _ + 4 => simp only [cE, h2]
def wO (sh : List Shp) (E : EV) (w : MW) : va_W := sh.mapIdx fun k s => (E.ad k, cE E w k s)
theorem wO_get {sh : List Shp} {E : EV} {w : MW} {k : Nat} {s : Shp} (h : sh[k]? = some s) : (wO sh E w)[k]? = some (E.ad k, cE E w k s) := by
  simp [wO, List.getElem?_mapIdx, h]
theorem wO_inv {sh : List Shp} {E : EV} {w : MW} {k : Nat} {q : Nat × va_E} (h : (wO sh E w)[k]? = some q) : ∃ s, sh[k]? = some s ∧ q = (E.ad k, cE E w k s) := by
  rw [wO, List.getElem?_mapIdx] at h
  cases hs : sh[k]? with
  | none => rw [hs] at h; cases h
  | some s => rw [hs] at h; exact ⟨s, rfl, (Option.some.inj h).symm⟩
theorem wO_set {sh : List Shp} {E : EV} {w w' : MW} {k : Nat} {s : Shp} {e : va_E} (h : sh[k]? = some s) (he : cE E w' k s = e) (ho : ∀ a, a ≠ k → ∀ s', cE E w' a s' = cE E w a s') : (wO sh E w).set k (E.ad k, e) = wO sh E w' := by
  apply List.ext_getElem?
  intro j
  by_cases hj : j = k
  · subst hj
    have hlt : j < (wO sh E w).length := by
      have := (List.getElem?_eq_some_iff.mp h).1
      simpa [wO] using this
    rw [List.getElem?_set_self hlt, wO_get h, he]
  · rw [List.getElem?_set_ne (Ne.symm hj)]
    simp only [wO, List.getElem?_mapIdx]
    cases sh[j]? with
    | none => rfl
    | some s' => simp [ho j hj s']
/-- the cells' addresses are apart -/
def AdI (sh : List Shp) (E : EV) : Prop := ∀ i j, i < sh.length → j < sh.length → E.ad i = E.ad j → i = j
def AM (sh : List Shp) (E : EV) (sz : Nat) : Nat → Prop := fun q => (∃ k, k < sh.length ∧ q = E.ad k) ∨ sz ≤ q
theorem wO_D {sh : List Shp} {E : EV} {w : MW} {A : Nat → Prop} (hi : AdI sh E) (hA : ∀ k, k < sh.length → A (E.ad k)) : va_D A (wO sh E w) := by
  have hl : ∀ {k q}, (wO sh E w)[k]? = some q → k < sh.length ∧ q.1 = E.ad k := by
    intro k q h
    obtain ⟨s, h1, h2⟩ := wO_inv h
    exact ⟨(List.getElem?_eq_some_iff.mp h1).1, by rw [h2]⟩
  refine ⟨fun i j p q h1 h2 h3 => ?_, fun k q h => ?_⟩
  · obtain ⟨a1, a2⟩ := hl h1
    obtain ⟨b1, b2⟩ := hl h2
    exact hi i j a1 b1 (by rw [← a2, ← b2, h3])
  · obtain ⟨a1, a2⟩ := hl h
    rw [a2]; exact hA k a1
