/-! the small machine: values with cells by number, a world of three functions, instructions as functions -/
abbrev Lo : Type := List (Nat × Value)
abbrev MW : Type := (Nat → Nat → Int32) × (Nat → Nat → Int64) × (Nat → Nat → Option Nat)
abbrev Out : Type := Option ((Nat × Lo × List Value × MW) ⊕ ((Nat × List Value × List Value) ⊕ Option Value))
abbrev Op : Type := Lo → List Value → MW → Out
/-- where things are: classes, slots, array classes, the cells, the texts, their bytes, the tables -/
abbrev EV : Type := (Nat → ClassId) × (Nat → Nat → Nat) × (ClassId × ClassId × ClassId × ClassId) × (Nat → Nat) × (Nat → Nat)
abbrev EV.dC (E : EV) : Nat → ClassId := E.1
abbrev EV.dI (E : EV) : Nat → Nat → Nat := E.2.1
abbrev EV.cI (E : EV) : ClassId := E.2.2.1.1
abbrev EV.cB (E : EV) : ClassId := E.2.2.1.2.1
abbrev EV.cZ (E : EV) : ClassId := E.2.2.1.2.2.1
abbrev EV.cJ (E : EV) : ClassId := E.2.2.1.2.2.2
abbrev EV.ad (E : EV) : Nat → Nat := E.2.2.2.1
abbrev EV.av (E : EV) : Nat → Nat := E.2.2.2.2
def rv (ad : Nat → Nat) : Value → Value
  | .ref k => .ref (ad k)
  | v => v
theorem rv_cat (ad : Nat → Nat) (v : Value) : (rv ad v).category = v.category := by cases v <;> rfl
def rl (ad : Nat → Nat) (L : Lo) : Lo := L.map (fun q => (q.1, rv ad q.2))
def f1 (i : Nat) (L : Lo) : Lo := L.filter (fun q => !(q.1 == i) && !(q.1 + 1 == i && q.2.category == 2))
def f2 (i : Nat) (L : Lo) : Lo := L.filter (fun q => !(q.1 == i) && (!(q.1 == i + 1) && !(q.1 + 1 == i && q.2.category == 2)))
theorem rl_f1 (ad : Nat → Nat) (i : Nat) (L : Lo) : f1 i (rl ad L) = rl ad (f1 i L) := by
  induction L with
  | nil => rfl
  | cons q L ih =>
    simp only [f1, rl, List.map_cons, List.filter_cons, rv_cat] at ih ⊢
    split
    · simp only [List.map_cons, ih]
    · exact ih
theorem rl_f2 (ad : Nat → Nat) (i : Nat) (L : Lo) : f2 i (rl ad L) = rl ad (f2 i L) := by
  induction L with
  | nil => rfl
  | cons q L ih =>
    simp only [f2, rl, List.map_cons, List.filter_cons, rv_cat] at ih ⊢
    split
    · simp only [List.map_cons, ih]
    · exact ih
theorem lk_mem {L : Lo} {i : Nat} {v : Value} (h : L.lookup i = some v) : (i, v) ∈ L := by
  induction L with
  | nil => cases h
  | cons q L ih =>
    rw [List.lookup_cons] at h
    by_cases e : i = q.1
    · subst e
      simp at h
      rw [← h]
      exact List.mem_cons_self
    · have e2 : (i == q.1) = false := by simpa using e
      rw [e2] at h
      exact List.mem_cons_of_mem _ (ih h)
theorem lk_at {ad : Nat → Nat} {ls : Array Slot} {n : Nat} {L : Lo} {i : Nat} {v : Value} (hl : lv_has ls n (rl ad L)) (h : L.lookup i = some v) : ls[i]? = some (.val (rv ad v)) :=
  hl.2.2 (i, rv ad v) (List.mem_map.mpr ⟨(i, v), lk_mem h, rfl⟩)
theorem rl_args (ad : Nat → Nat) (as : List Value) : ∀ i, lv_args i (as.map (rv ad)) = rl ad (lv_args i as) := by
  induction as with
  | nil => intro i; rfl
  | cons v t ih =>
    intro i
    show (i, rv ad v) :: lv_args (if (rv ad v).category = 2 then i + 2 else i + 1) (t.map (rv ad)) = _
    rw [ih, rv_cat]
    rfl
theorem sl_len (ad : Nat → Nat) (as : List Value) : (lg_sl (as.map (rv ad))).length = (lg_sl as).length := by
  induction as with
  | nil => rfl
  | cons v t ih =>
    have h1 : ∀ (v : Value) (t : List Value), (lg_sl (v :: t)).length = (if v.category = 2 then 2 else 1) + (lg_sl t).length := by
      intro v t
      show ((if v.category = 2 then [Slot.val v, .second] else [Slot.val v]) ++ lg_sl t).length = _
      rw [List.length_append]
      split <;> rfl
    rw [List.map_cons, h1, h1, ih, rv_cat]
theorem cat_sum (ad : Nat → Nat) (as : List Value) : ((as.map (rv ad)).map fun v => v.category) = as.map fun v => v.category := by
  rw [List.map_map]
  exact List.map_congr_left (fun v _ => rv_cat ad v)
/-! shapes and worlds -/
/-- (0, class, fields): an object; (1 .. 4, length, []): an array of ints, bytes, booleans, longs. A field: 0 an int, 1 a long, 2 a reference that changes, c + 3 the cell c -/
abbrev Shp : Type := Nat × Nat × List Nat
def fvm (w : MW) (k j : Nat) : Nat → Value
  | 0 => .int (w.1 k j)
  | 1 => .long (w.2.1 k j)
  | 2 => match w.2.2 k j with
    | none => .null
    | some c => .ref c
  | c + 3 => .ref c
def cE (E : EV) (w : MW) (k : Nat) : Shp → va_E
  | (0, ci, fds) => .inr (ci, fds.mapIdx fun j t => rv E.ad (fvm w k j t))
  | (1, n, _) => .inl (E.cI, n, .inl (w.1 k))
  | (2, n, _) => .inl (E.cB, n, .inl (w.1 k))
  | (3, n, _) => .inl (E.cZ, n, .inl (w.1 k))
  | (_, n, _) => .inl (E.cJ, n, .inr (.inl (w.2.1 k)))
def sI (w : MW) (k j : Nat) (v : Int32) : MW := (fun a => if a = k then upd (w.1 a) j v else w.1 a, w.2)
def sJ (w : MW) (k j : Nat) (v : Int64) : MW := (w.1, fun a => if a = k then vp_updL (w.2.1 a) j v else w.2.1 a, w.2.2)
def sR (w : MW) (k j : Nat) (v : Option Nat) : MW := (w.1, w.2.1, fun a b => if a = k ∧ b = j then v else w.2.2 a b)
theorem sI_at (w : MW) (k j : Nat) (v : Int32) (a b : Nat) : (sI w k j v).1 a b = if a = k ∧ b = j then v else w.1 a b := by
  show (if a = k then upd (w.1 a) j v else w.1 a) b = _
  by_cases h : a = k
  · simp [h, upd]
  · simp [h]
theorem sJ_at (w : MW) (k j : Nat) (v : Int64) (a b : Nat) : (sJ w k j v).2.1 a b = if a = k ∧ b = j then v else w.2.1 a b := by
  show (if a = k then vp_updL (w.2.1 a) j v else w.2.1 a) b = _
  by_cases h : a = k
  · simp [h, vp_updL]
  · simp [h]
theorem fvm_I {w : MW} {k j : Nat} {v : Int32} {a b t : Nat} (h : ¬ (a = k ∧ b = j)) : fvm (sI w k j v) a b t = fvm w a b t := by
  match t with
  | 0 => show Value.int ((sI w k j v).1 a b) = .int (w.1 a b); rw [sI_at, if_neg h]
  | 1 => rfl
  | 2 => rfl
  | _ + 3 => rfl
theorem fvm_J {w : MW} {k j : Nat} {v : Int64} {a b t : Nat} (h : ¬ (a = k ∧ b = j)) : fvm (sJ w k j v) a b t = fvm w a b t := by
  match t with
  | 0 => rfl
  | 1 => show Value.long ((sJ w k j v).2.1 a b) = .long (w.2.1 a b); rw [sJ_at, if_neg h]
  | 2 => rfl
  | _ + 3 => rfl
theorem fvm_R {w : MW} {k j : Nat} {v : Option Nat} {a b t : Nat} (h : ¬ (a = k ∧ b = j)) : fvm (sR w k j v) a b t = fvm w a b t := by
  match t with
  | 0 => rfl
  | 1 => rfl
  | 2 => show (match (if a = k ∧ b = j then v else w.2.2 a b) with | none => Value.null | some c => .ref c) = _; rw [if_neg h]; rfl
  | _ + 3 => rfl
theorem cE_other {E : EV} {w w' : MW} {a : Nat} (h1 : w'.1 a = w.1 a) (h2 : w'.2.1 a = w.2.1 a) (h3 : ∀ b t, fvm w' a b t = fvm w a b t) (s : Shp) : cE E w' a s = cE E w a s := by
  obtain ⟨n, m, l⟩ := s
  match n with
  | 0 => simp only [cE, h3]
  | 1 => simp only [cE, h1]
  | 2 => simp only [cE, h1]
  | 3 => simp only [cE, h1]
  | _ + 4 => simp only [cE, h2]
def wO (sh : List Shp) (E : EV) (w : MW) : va_W := sh.mapIdx fun k s => (E.ad k, cE E w k s)
theorem wO_get {sh : List Shp} {E : EV} {w : MW} {k : Nat} {s : Shp} (h : sh[k]? = some s) : (wO sh E w)[k]? = some (E.ad k, cE E w k s) := by
  simp [wO, List.getElem?_mapIdx, h]
theorem wO_inv {sh : List Shp} {E : EV} {w : MW} {k : Nat} {q : Nat × va_E} (h : (wO sh E w)[k]? = some q) : ∃ s, sh[k]? = some s ∧ q = (E.ad k, cE E w k s) := by
  rw [wO, List.getElem?_mapIdx] at h
  cases hs : sh[k]? with
  | none => rw [hs] at h; cases h
  | some s => rw [hs] at h; exact ⟨s, rfl, (Option.some.inj h).symm⟩
theorem wO_set {sh : List Shp} {E : EV} {w w' : MW} {k : Nat} {s : Shp} {e : va_E} (h : sh[k]? = some s) (he : cE E w' k s = e) (ho : ∀ a, a ≠ k → ∀ s', cE E w' a s' = cE E w a s') : (wO sh E w).set k (E.ad k, e) = wO sh E w' := by
  apply List.ext_getElem?
  intro j
  by_cases hj : j = k
  · subst hj
    have hlt : j < (wO sh E w).length := by
      have := (List.getElem?_eq_some_iff.mp h).1
      simpa [wO] using this
    rw [List.getElem?_set_self hlt, wO_get h, he]
  · rw [List.getElem?_set_ne (Ne.symm hj)]
    simp only [wO, List.getElem?_mapIdx]
    cases sh[j]? with
    | none => rfl
    | some s' => simp [ho j hj s']
/-- the cells' addresses are apart -/
def AdI (sh : List Shp) (E : EV) : Prop := ∀ i j, i < sh.length → j < sh.length → E.ad i = E.ad j → i = j
def AM (sh : List Shp) (E : EV) (sz : Nat) : Nat → Prop := fun q => (∃ k, k < sh.length ∧ q = E.ad k) ∨ sz ≤ q
theorem wO_D {sh : List Shp} {E : EV} {w : MW} {A : Nat → Prop} (hi : AdI sh E) (hA : ∀ k, k < sh.length → A (E.ad k)) : va_D A (wO sh E w) := by
  have hl : ∀ {k q}, (wO sh E w)[k]? = some q → k < sh.length ∧ q.1 = E.ad k := by
    intro k q h
    obtain ⟨s, h1, h2⟩ := wO_inv h
    exact ⟨(List.getElem?_eq_some_iff.mp h1).1, by rw [h2]⟩
  refine ⟨fun i j p q h1 h2 h3 => ?_, fun k q h => ?_⟩
  · obtain ⟨a1, a2⟩ := hl h1
    obtain ⟨b1, b2⟩ := hl h2
    exact hi i j a1 b1 (by rw [← a2, ← b2, h3])
  · obtain ⟨a1, a2⟩ := hl h
    rw [a2]; exact hA k a1
