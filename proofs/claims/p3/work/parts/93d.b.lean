/-! sums and tests of a program -/
/-- a node: kind, argument, number, children -/
abbrev Nod : Type := Int × Int × Int × List Nat
/-- what reading gives: whether it is good, where it is wrong, the unit, where the next word is read from, the nodes -/
abbrev XR : Type := Bool × Int × Int × Int × List Nod
def xer (e : Int) : XR := (false, e, 0, 0, [])
/-- a node more; the word from p on is next -/
def xnd (f : Int → Int) (n u p : Int) (ns : List Nod) (d : Nod) : XR := if ns.length = 300 then xer (wrd f n p).2.1 else (true, 0, u, p, ns ++ [d])
/-- the unit of two that are joined, -1 where they do not agree -/
def xun (c x y : Int) : Int := if c = 42 then (if x = 0 then y else if y = 0 then x else -1) else if c = 47 then (if y = 0 then x else if x = y then 0 else -1) else (if x = y then x else -1)
def lvo (c : Int) : Nat := if c = 60 ∨ c = 61 ∨ c = 62 then 0 else if c = 43 ∨ c = 45 then 1 else if c = 42 ∨ c = 47 then 2 else 3
/-- what the word behind a number does to it, and the unit that it is -/
def xmu (c : Int) : Int := if c = 6 then 60 else if c = 7 then 3600 else 1
def xut (c : Int) : Int := if c = 6 ∨ c = 7 then 3 else if 1 ≤ c ∧ c ≤ 5 then c else 0
abbrev XQ : Type := Nat → Nat → Int → Int → List Nod → XR → Prop
/-- behind the word at p: e where that next one is none, else as K says -/
def xgo (f : Int → Int) (n p : Int) (r : XR) (K : Prop) : Prop := if (wrd f n (wrd f n p).2.2.1).1 = 33 then r = xer (wrd f n (wrd f n p).2.2.1).2.1 else K
def xfn (f : Int → Int) (n p : Int) (ns : List Nod) (r : XR) : Prop := xgo f n p r (if 999999999999 < (wrd f n p).2.2.2.2.1 * xmu (wrd f n (wrd f n p).2.2.1).1 then r = xer (wrd f n (wrd f n p).2.2.1).2.1 else if 0 < xut (wrd f n (wrd f n p).2.2.1).1 then xgo f n (wrd f n p).2.2.1 r (r = xnd f n (xut (wrd f n (wrd f n p).2.2.1).1) (wrd f n (wrd f n p).2.2.1).2.2.1 ns (31, 0, (wrd f n p).2.2.2.2.1 * xmu (wrd f n (wrd f n p).2.2.1).1, [])) else r = xnd f n 0 (wrd f n p).2.2.1 ns (31, 0, (wrd f n p).2.2.2.2.1 * xmu (wrd f n (wrd f n p).2.2.1).1, []))
def xfo (f : Int → Int) (n : Int) (X : XQ) (op : Nat) (p : Int) (ns : List Nod) (r : XR) : Prop := if 20 ≤ op then r = xer (wrd f n p).2.1 else xgo f n p r (if (wrd f n p).1 = 45 then ∃ r1, X 3 (op + 1) 0 (wrd f n p).2.2.1 ns r1 ∧ (if r1.1 = true then r = xnd f n r1.2.2.1 r1.2.2.2.1 r1.2.2.2.2 (34, 0, 0, [r1.2.2.2.2.length - 1]) else r = r1) else ∃ r1, X 1 (op + 1) 0 (wrd f n p).2.2.1 ns r1 ∧ (if r1.1 = true then (if (wrd f n r1.2.2.2.1).1 = 41 then xgo f n r1.2.2.2.1 r (r = (true, 0, r1.2.2.1, (wrd f n r1.2.2.2.1).2.2.1, r1.2.2.2.2)) else r = xer (wrd f n r1.2.2.2.1).2.1) else r = r1))
def xfa (f : Int → Int) (n : Int) (lk : List Int → Int × Int × Int × Int) (X : XQ) (op : Nat) (p : Int) (ns : List Nod) (r : XR) : Prop := if (wrd f n p).1 = 31 then xfn f n p ns r else if (wrd f n p).1 = 40 ∨ (wrd f n p).1 = 45 then xfo f n X op p ns r else if (wrd f n p).1 = 30 ∧ 0 ≤ (lk (wrd f n p).2.2.2.1).1 ∧ ¬ (lk (wrd f n p).2.2.2.1).2.1 = 10 then xgo f n p r (r = xnd f n (lk (wrd f n p).2.2.2.1).2.2.1 (wrd f n p).2.2.1 ns (30, (lk (wrd f n p).2.2.2.1).1, 0, [])) else r = xer (wrd f n p).2.1
def xlv (X : XQ) (m op : Nat) (p : Int) (ns : List Nod) (r : XR) : Prop := ∃ r1, X (m + 1) op 0 p ns r1 ∧ (if r1.1 = true then X (m + 4) op r1.2.2.1 r1.2.2.2.1 r1.2.2.2.2 r else r = r1)
def xlo (f : Int → Int) (n : Int) (X : XQ) (m op : Nat) (u p : Int) (ns : List Nod) (r : XR) : Prop := if lvo (wrd f n p).1 = m then xgo f n p r (∃ r2, X (m + 1) op 0 (wrd f n p).2.2.1 ns r2 ∧ (if r2.1 = true then (if xun (wrd f n p).1 u r2.2.2.1 < 0 then r = xer (wrd f n p).2.1 else if r2.2.2.2.2.length = 300 then r = xer (wrd f n r2.2.2.2.1).2.1 else if m = 0 then r = (true, 0, xun (wrd f n p).1 u r2.2.2.1, r2.2.2.2.1, r2.2.2.2.2 ++ [((wrd f n p).1, 0, 0, [ns.length - 1, r2.2.2.2.2.length - 1])]) else X (m + 4) op (xun (wrd f n p).1 u r2.2.2.1) r2.2.2.2.1 (r2.2.2.2.2 ++ [((wrd f n p).1, 0, 0, [ns.length - 1, r2.2.2.2.2.length - 1])]) r) else r = r2)) else if m = 0 then r = xer (wrd f n p).2.1 else r = (true, 0, u, p, ns)
/-- what is read: 0 a test, 1 a sum, 2 a product, 3 a factor; 4, 5, 6 the rest of a test, sum, product whose first side has the unit u -/
def XP (f : Int → Int) (n : Int) (lk : List Int → Int × Int × Int × Int) : Nat → XQ
  | 0 => fun _ _ _ _ _ _ => False
  | k + 1 => fun m op u p ns r => if m = 3 then xfa f n lk (XP f n lk k) op p ns r else if m < 3 then xlv (XP f n lk k) m op p ns r else xlo f n (XP f n lk k) (m - 4) op u p ns r
theorem XP_u (f : Int → Int) (n : Int) (lk : List Int → Int × Int × Int × Int) (k m op : Nat) (u p : Int) (ns : List Nod) (r : XR) : XP f n lk (k + 1) m op u p ns r = (if m = 3 then xfa f n lk (XP f n lk k) op p ns r else if m < 3 then xlv (XP f n lk k) m op p ns r else xlo f n (XP f n lk k) (m - 4) op u p ns r) := rfl
theorem xgo_m {f : Int → Int} {n p : Int} {r : XR} {K K' : Prop} (h : xgo f n p r K) (hk : K → K') : xgo f n p r K' := by
  unfold xgo at h ⊢
  by_cases c : (wrd f n (wrd f n p).2.2.1).1 = 33
  · rw [if_pos c] at h ⊢
    exact h
  · rw [if_neg c] at h ⊢
    exact hk h
theorem xgo_d {f : Int → Int} {n p : Int} {r r' : XR} {K K' : Prop} (h : xgo f n p r K) (h' : xgo f n p r' K') (hk : K → K' → r = r') : r = r' := by
  unfold xgo at h h'
  by_cases c : (wrd f n (wrd f n p).2.2.1).1 = 33
  · rw [if_pos c] at h h'
    rw [h, h']
  · rw [if_neg c] at h h'
    exact hk h h'
def XLe (X Y : XQ) : Prop := ∀ m op u p ns r, X m op u p ns r → Y m op u p ns r
def XDt (X Y : XQ) : Prop := ∀ m op u p ns r r', X m op u p ns r → Y m op u p ns r' → r = r'
theorem xfo_m {f : Int → Int} {n : Int} {X Y : XQ} (hX : XLe X Y) {op : Nat} {p : Int} {ns : List Nod} {r : XR} (h : xfo f n X op p ns r) : xfo f n Y op p ns r := by
  unfold xfo at h ⊢
  by_cases c : 20 ≤ op
  · rw [if_pos c] at h ⊢
    exact h
  · rw [if_neg c] at h ⊢
    refine xgo_m h (fun h => ?_)
    by_cases d : (wrd f n p).1 = 45
    · rw [if_pos d] at h ⊢
      obtain ⟨r1, a, b⟩ := h
      exact ⟨r1, hX _ _ _ _ _ _ a, b⟩
    · rw [if_neg d] at h ⊢
      obtain ⟨r1, a, b⟩ := h
      exact ⟨r1, hX _ _ _ _ _ _ a, b⟩
theorem xfa_m {f : Int → Int} {n : Int} {lk : List Int → Int × Int × Int × Int} {X Y : XQ} (hX : XLe X Y) {op : Nat} {p : Int} {ns : List Nod} {r : XR} (h : xfa f n lk X op p ns r) : xfa f n lk Y op p ns r := by
  unfold xfa at h ⊢
  by_cases c : (wrd f n p).1 = 31
  · rw [if_pos c] at h ⊢
    exact h
  · rw [if_neg c] at h ⊢
    by_cases d : (wrd f n p).1 = 40 ∨ (wrd f n p).1 = 45
    · rw [if_pos d] at h ⊢
      exact xfo_m hX h
    · rw [if_neg d] at h ⊢
      exact h
theorem xlv_m {X Y : XQ} (hX : XLe X Y) {m op : Nat} {p : Int} {ns : List Nod} {r : XR} (h : xlv X m op p ns r) : xlv Y m op p ns r := by
  obtain ⟨r1, a, b⟩ := h
  refine ⟨r1, hX _ _ _ _ _ _ a, ?_⟩
  by_cases c : r1.1 = true
  · rw [if_pos c] at b ⊢
    exact hX _ _ _ _ _ _ b
  · rw [if_neg c] at b ⊢
    exact b
theorem xlo_m {f : Int → Int} {n : Int} {X Y : XQ} (hX : XLe X Y) {m op : Nat} {u p : Int} {ns : List Nod} {r : XR} (h : xlo f n X m op u p ns r) : xlo f n Y m op u p ns r := by
  unfold xlo at h ⊢
  by_cases c : lvo (wrd f n p).1 = m
  · rw [if_pos c] at h ⊢
    refine xgo_m h (fun h => ?_)
    obtain ⟨r2, a, b⟩ := h
    refine ⟨r2, hX _ _ _ _ _ _ a, ?_⟩
    by_cases d : r2.1 = true
    · rw [if_pos d] at b ⊢
      by_cases e : xun (wrd f n p).1 u r2.2.2.1 < 0
      · rw [if_pos e] at b ⊢
        exact b
      · rw [if_neg e] at b ⊢
        by_cases g : r2.2.2.2.2.length = 300
        · rw [if_pos g] at b ⊢
          exact b
        · rw [if_neg g] at b ⊢
          by_cases z : m = 0
          · rw [if_pos z] at b ⊢
            exact b
          · rw [if_neg z] at b ⊢
            exact hX _ _ _ _ _ _ b
    · rw [if_neg d] at b ⊢
      exact b
  · rw [if_neg c] at h ⊢
    exact h
theorem XP_s (f : Int → Int) (n : Int) (lk : List Int → Int × Int × Int × Int) : ∀ k, XLe (XP f n lk k) (XP f n lk (k + 1)) := by
  intro k
  induction k with
  | zero => exact fun _ _ _ _ _ _ h => False.elim h
  | succ k ih =>
    intro m op u p ns r h
    rw [XP_u] at h ⊢
    by_cases c : m = 3
    · rw [if_pos c] at h ⊢
      exact xfa_m ih h
    · rw [if_neg c] at h ⊢
      by_cases d : m < 3
      · rw [if_pos d] at h ⊢
        exact xlv_m ih h
      · rw [if_neg d] at h ⊢
        exact xlo_m ih h
theorem XP_le {f : Int → Int} {n : Int} {lk : List Int → Int × Int × Int × Int} {k k' : Nat} (h : k ≤ k') : XLe (XP f n lk k) (XP f n lk k') := by
  induction h with
  | refl => exact fun _ _ _ _ _ _ h => h
  | step _ ih => exact fun m op u p ns r h => XP_s f n lk _ m op u p ns r (ih m op u p ns r h)
theorem xfo_d {f : Int → Int} {n : Int} {X Y : XQ} (hX : XDt X Y) {op : Nat} {p : Int} {ns : List Nod} {r r' : XR} (h : xfo f n X op p ns r) (h' : xfo f n Y op p ns r') : r = r' := by
  unfold xfo at h h'
  by_cases c : 20 ≤ op
  · rw [if_pos c] at h h'
    rw [h, h']
  · rw [if_neg c] at h h'
    refine xgo_d h h' (fun h h' => ?_)
    by_cases d : (wrd f n p).1 = 45
    · rw [if_pos d] at h h'
      obtain ⟨r1, a, b⟩ := h
      obtain ⟨r2, a', b'⟩ := h'
      have e := hX _ _ _ _ _ _ _ a a'
      rw [← e] at b'
      by_cases g : r1.1 = true
      · rw [if_pos g] at b b'
        rw [b, b']
      · rw [if_neg g] at b b'
        rw [b, b']
    · rw [if_neg d] at h h'
      obtain ⟨r1, a, b⟩ := h
      obtain ⟨r2, a', b'⟩ := h'
      have e := hX _ _ _ _ _ _ _ a a'
      rw [← e] at b'
      by_cases g : r1.1 = true
      · rw [if_pos g] at b b'
        by_cases i : (wrd f n r1.2.2.2.1).1 = 41
        · rw [if_pos i] at b b'
          exact xgo_d b b' (fun b b' => by rw [b, b'])
        · rw [if_neg i] at b b'
          rw [b, b']
      · rw [if_neg g] at b b'
        rw [b, b']
theorem xfn_d {f : Int → Int} {n : Int} {p : Int} {ns : List Nod} {r r' : XR} (h : xfn f n p ns r) (h' : xfn f n p ns r') : r = r' := by
  unfold xfn at h h'
  refine xgo_d h h' (fun h h' => ?_)
  by_cases c : 999999999999 < (wrd f n p).2.2.2.2.1 * xmu (wrd f n (wrd f n p).2.2.1).1
  · rw [if_pos c] at h h'
    rw [h, h']
  · rw [if_neg c] at h h'
    by_cases d : 0 < xut (wrd f n (wrd f n p).2.2.1).1
    · rw [if_pos d] at h h'
      exact xgo_d h h' (fun b b' => by rw [b, b'])
    · rw [if_neg d] at h h'
      rw [h, h']
theorem xfa_d {f : Int → Int} {n : Int} {lk : List Int → Int × Int × Int × Int} {X Y : XQ} (hX : XDt X Y) {op : Nat} {p : Int} {ns : List Nod} {r r' : XR} (h : xfa f n lk X op p ns r) (h' : xfa f n lk Y op p ns r') : r = r' := by
  unfold xfa at h h'
  by_cases c : (wrd f n p).1 = 31
  · rw [if_pos c] at h h'
    exact xfn_d h h'
  · rw [if_neg c] at h h'
    by_cases d : (wrd f n p).1 = 40 ∨ (wrd f n p).1 = 45
    · rw [if_pos d] at h h'
      exact xfo_d hX h h'
    · rw [if_neg d] at h h'
      by_cases e : (wrd f n p).1 = 30 ∧ 0 ≤ (lk (wrd f n p).2.2.2.1).1 ∧ ¬ (lk (wrd f n p).2.2.2.1).2.1 = 10
      · rw [if_pos e] at h h'
        exact xgo_d h h' (fun b b' => by rw [b, b'])
      · rw [if_neg e] at h h'
        rw [h, h']
theorem xlv_d {X Y : XQ} (hX : XDt X Y) {m op : Nat} {p : Int} {ns : List Nod} {r r' : XR} (h : xlv X m op p ns r) (h' : xlv Y m op p ns r') : r = r' := by
  obtain ⟨r1, a, b⟩ := h
  obtain ⟨r2, a', b'⟩ := h'
  have e := hX _ _ _ _ _ _ _ a a'
  rw [← e] at b'
  by_cases c : r1.1 = true
  · rw [if_pos c] at b b'
    exact hX _ _ _ _ _ _ _ b b'
  · rw [if_neg c] at b b'
    rw [b, b']
theorem xlo_d {f : Int → Int} {n : Int} {X Y : XQ} (hX : XDt X Y) {m op : Nat} {u p : Int} {ns : List Nod} {r r' : XR} (h : xlo f n X m op u p ns r) (h' : xlo f n Y m op u p ns r') : r = r' := by
  unfold xlo at h h'
  by_cases c : lvo (wrd f n p).1 = m
  · rw [if_pos c] at h h'
    refine xgo_d h h' (fun h h' => ?_)
    obtain ⟨r2, a, b⟩ := h
    obtain ⟨r3, a', b'⟩ := h'
    have ee := hX _ _ _ _ _ _ _ a a'
    rw [← ee] at b'
    by_cases d : r2.1 = true
    · rw [if_pos d] at b b'
      by_cases e : xun (wrd f n p).1 u r2.2.2.1 < 0
      · rw [if_pos e] at b b'
        rw [b, b']
      · rw [if_neg e] at b b'
        by_cases g : r2.2.2.2.2.length = 300
        · rw [if_pos g] at b b'
          rw [b, b']
        · rw [if_neg g] at b b'
          by_cases z : m = 0
          · rw [if_pos z] at b b'
            rw [b, b']
          · rw [if_neg z] at b b'
            exact hX _ _ _ _ _ _ _ b b'
    · rw [if_neg d] at b b'
      rw [b, b']
  · rw [if_neg c] at h h'
    by_cases z : m = 0
    · rw [if_pos z] at h h'
      rw [h, h']
    · rw [if_neg z] at h h'
      rw [h, h']
theorem XP_det (f : Int → Int) (n : Int) (lk : List Int → Int × Int × Int × Int) : ∀ k k', XDt (XP f n lk k) (XP f n lk k') := by
  intro k
  induction k with
  | zero => exact fun k' _ _ _ _ _ _ _ h _ => False.elim h
  | succ k ih =>
    intro k'
    cases k' with
    | zero => exact fun _ _ _ _ _ _ _ _ h' => False.elim h'
    | succ k' =>
      intro m op u p ns r r' h h'
      rw [XP_u] at h h'
      by_cases c : m = 3
      · rw [if_pos c] at h h'
        exact xfa_d (ih k') h h'
      · rw [if_neg c] at h h'
        by_cases d : m < 3
        · rw [if_pos d] at h h'
          exact xlv_d (ih k') h h'
        · rw [if_neg d] at h h'
          exact xlo_d (ih k') h h'
/-! the class's names and nodes while it reads a program -/
/-- a name: letters, kind, unit, block -/
abbrev Nm : Type := List Int × Int × Int × Int
def lki (l : List Int) : List Nm → Int → Int × Int × Int × Int
  | [], _ => (-1, 0, 0, 0)
  | x :: xs, i => if x.1 = l then (i, x.2.1, x.2.2.1, x.2.2.2) else lki l xs (i + 1)
theorem lki_u (l : List Int) (x : Nm) (xs : List Nm) (i : Int) : lki l (x :: xs) i = if x.1 = l then (i, x.2.1, x.2.2.1, x.2.2.2) else lki l xs (i + 1) := rfl
/-- what a name is: its number, kind, unit, block; -1 where there is none (a step that is not told to its end is none) -/
def lkn (nm : List Nm) (l : List Int) : Int × Int × Int × Int := if (lki l nm 0).2.1 = 10 ∧ (lki l nm 0).2.2.2 < 0 then (-1, 0, 0, 0) else lki l nm 0
/-- the class's names -/
def NmC (w : MW) (nm : List Nm) : Prop := (w.1 108 10).toInt = (nm.length : Int) ∧ nm.length ≤ 40 ∧ ∀ (i : Nat) (x : Nm), nm[i]? = some x → (w.2.1 116 i).toInt = cod 0 x.1 ∧ (w.1 117 i).toInt = x.2.1 ∧ (w.1 118 i).toInt = x.2.2.1 ∧ (w.1 119 i).toInt = x.2.2.2 ∧ (∀ c ∈ x.1, ldc c) ∧ (x.2.1 = 10 → 0 ≤ x.2.2.2) ∧ 0 ≤ x.2.2.1
theorem lki_b (l : List Int) : ∀ (xs : List Nm) (i : Int), ((lki l xs i).1 = -1 ∧ lki l xs i = (-1, 0, 0, 0) ∧ ∀ x ∈ xs, ¬ x.1 = l) ∨ ∃ (j : Nat) (x : Nm), xs[j]? = some x ∧ x.1 = l ∧ lki l xs i = (i + (j : Int), x.2.1, x.2.2.1, x.2.2.2) := by
  intro xs
  induction xs with
  | nil => exact fun i => Or.inl ⟨rfl, rfl, fun x h => (by cases h)⟩
  | cons x xs ih =>
    intro i
    rw [lki_u]
    by_cases c : x.1 = l
    · rw [if_pos c]
      refine Or.inr ⟨0, x, rfl, c, ?_⟩
      rw [show i + ((0 : Nat) : Int) = i by omega]
    · rw [if_neg c]
      rcases ih (i + 1) with ⟨a, b, d⟩ | ⟨j, y, a, b, d⟩
      · refine Or.inl ⟨a, b, fun y hy => ?_⟩
        rcases List.mem_cons.mp hy with e | e
        · rw [e]
          exact c
        · exact d y e
      · refine Or.inr ⟨j + 1, y, a, b, ?_⟩
        rw [d, show i + 1 + (j : Int) = i + ((j + 1 : Nat) : Int) by omega]
theorem fd_2 {w : MW} {nm : List Nm} {l : List Int} {c : Int64} {E : MW → Prop} {Q : Int32 → MW → Prop} (h : NmC w nm) (hc : c.toInt = cod 0 l) (hl : ∀ d ∈ l, ldc d) (ln : l.length ≤ 12) (hE : (∀ x ∈ nm, ¬ x.1 = l) → E w) (hQ : ∀ (j : Nat) (x : Nm), nm[j]? = some x → x.1 = l → (∀ (i : Nat) (y : Nm), i < j → nm[i]? = some y → ¬ y.1 = l) → Q (nI j) w) (m : Nat) : ∀ j : Nat, j ≤ nm.length → (∀ (i : Nat) (y : Nm), i < j → nm[i]? = some y → ¬ y.1 = l) → nm.length - j < m → q_Pr_finds108_2 c E Q m (nI j) w := by
  induction m with
  | zero => intros; omega
  | succ m ih =>
    intro j hj hn hm
    have n4 := h.2.1
    have n0 := h.1
    have ti : (nI j).toInt = (j : Int) := nI_toInt (by omega)
    have tn : (nI j).toInt.toNat = j := by omega
    rw [q_Pr_finds108_2.eq_2, tn]
    refine ⟨fun z => hE (fun x hx => ?_), fun z => ?_⟩
    · obtain ⟨i, hi⟩ := List.mem_iff_getElem?.mp hx
      have : i < nm.length := (List.getElem?_eq_some_iff.mp hi).1
      exact hn i x (by omega) hi
    · have jl : j < nm.length := by omega
      obtain ⟨x, hx⟩ : ∃ x, nm[j]? = some x := ⟨_, List.getElem?_eq_getElem jl⟩
      have t := h.2.2 j x hx
      refine ⟨by omega, fun q => ?_, fun q => hQ j x hx ?_ hn⟩
      · rw [nI_1]
        refine ih (j + 1) jl (fun i y hi hy => ?_) (by omega)
        by_cases e : i = j
        · rw [e] at hy
          rw [Option.some.inj (hy.symm.trans hx)]
          intro z2
          rcases nb_cmp (w.2.1 116 j) c with a | a | a
          · have := a.2
            rw [t.1, hc, z2] at this
            omega
          · exact q a.1
          · have := a.2
            rw [t.1, hc, z2] at this
            omega
        · exact hn i y (by omega) hy
      · have q' := Classical.not_not.mp q
        have e : cod 0 l = cod 0 x.1 := by
          rcases nb_cmp (w.2.1 116 j) c with a | a | a
          · have := a.1
            omega
          · have := a.2
            rw [t.1, hc] at this
            exact this.symm
          · have := a.1
            omega
        exact (cod_i 12 l x.1 ln hl t.2.2.2.2.1 e).symm
/-- the class finds a name -/
theorem fd_x {w : MW} {nm : List Nm} {l : List Int} {c : Int64} {Q : Int32 → MW → Prop} (h : NmC w nm) (hc : c.toInt = cod 0 l) (hl : ∀ d ∈ l, ldc d) (ln : l.length ≤ 12) (h0 : (lkn nm l).1 = -1 → Q (-1) w) (h1 : ∀ (j : Nat) (x : Nm), nm[j]? = some x → lkn nm l = ((j : Int), x.2.1, x.2.2.1, x.2.2.2) → Q (nI j) w) : p_Pr_finds108 w c Q := by
  have n4 := h.2.1
  refine Eq.mpr (p_Pr_finds108.eq_1 _ _ _) (fd_2 (m := FU) h hc hl ln (fun no => h0 ?_) (fun j x hx e first => h1 j x hx ?_) 0 (Nat.zero_le _) (fun i y hi => absurd hi (Nat.not_lt_zero _)) (Nat.lt_of_le_of_lt (show _ ≤ 40 by omega) (fu_lt (by decide))))
  · rcases lki_b l nm 0 with ⟨_, b, _⟩ | ⟨j, x, a, b, _⟩
    · unfold lkn
      rw [b]
      rfl
    · exact absurd b (no x (List.mem_of_getElem? a))
  · rcases lki_b l nm 0 with ⟨_, _, d⟩ | ⟨i, y, a, b, d⟩
    · exact absurd e (d x (List.mem_of_getElem? hx))
    · have t := h.2.2 i y a
      have el : lkn nm l = lki l nm 0 := by
        unfold lkn
        rw [d]
        refine if_neg (fun z => ?_)
        have z1 : y.2.1 = 10 := z.1
        have z2 : y.2.2.2 < 0 := z.2
        have := t.2.2.2.2.2.1 z1
        omega
      have ij : i = j := by
        by_cases c1 : i < j
        · exact absurd b (first i y c1 a)
        · by_cases c2 : j < i
          · -- the first of them is found
            exfalso
            have g : ∀ (xs : List Nm) (k : Int) (i j : Nat) (x : Nm), xs[j]? = some x → x.1 = l → j < i → (lki l xs k).1 < k + (i : Int) := by
              intro xs
              induction xs with
              | nil => intro k i j x hx; cases hx
              | cons z zs ih =>
                intro k i j x hx e c
                rw [lki_u]
                by_cases q : z.1 = l
                · rw [if_pos q]
                  show k < k + (i : Int)
                  omega
                · rw [if_neg q]
                  cases j with
                  | zero =>
                    have ez : z = x := Option.some.inj hx
                    rw [ez] at q
                    exact absurd e q
                  | succ j =>
                    have := ih (k + 1) (i - 1) j x hx e (by omega)
                    omega
            have := g nm 0 i j x hx e c2
            rw [d] at this
            have t2 : 0 + (i : Int) < 0 + (i : Int) := this
            omega
          · omega
      rw [el, d, ij]
      rw [ij] at a
      rw [Option.some.inj (a.symm.trans hx), show 0 + (j : Int) = (j : Int) by omega]
/-- the nodes, as far as sums and tests go -/
def PNc (w : MW) (ns : List Nod) : Prop := (w.1 108 1).toInt = (ns.length : Int) ∧ ∀ (i : Nat) (d : Nod), ns[i]? = some d → (w.1 109 i).toInt = d.1 ∧ (w.1 110 i).toInt = d.2.1 ∧ (d.1 = 31 → (w.2.1 115 i).toInt = d.2.2.1)
def ndc (k : Nat) : Prop := k = 88 ∨ k = 89 ∨ k = 109 ∨ k = 110 ∨ k = 111 ∨ k = 112 ∨ k = 113 ∨ k = 114 ∨ k = 115
/-- the nodes below N stand -/
def KNd (N : Nat) (w w' : MW) : Prop := ∀ k j : Nat, ndc k → j < N → w'.1 k j = w.1 k j ∧ w'.2.1 k j = w.2.1 k j
theorem KNd.tr {N : Nat} {w w' w2 : MW} (h : KNd N w w') (h2 : KNd N w' w2) : KNd N w w2 := fun k j hk hj => ⟨(h2 k j hk hj).1.trans (h k j hk hj).1, (h2 k j hk hj).2.trans (h k j hk hj).2⟩
theorem KNd.mono {N M : Nat} {w w' : MW} (h : KNd N w w') (hm : M ≤ N) : KNd M w w' := fun k j hk hj => h k j hk (by omega)
theorem KNd.fr {l : Pl} {N : Nat} {w w' : MW} (hF : FR l w w') (ho : off l [(88, none), (89, none), (109, none), (110, none), (111, none), (112, none), (113, none), (114, none), (115, none)] = true) : KNd N w w' := fun k j hk _ => by
  rcases hk with rfl | rfl | rfl | rfl | rfl | rfl | rfl | rfl | rfl <;> exact ⟨(hF _ j (off_hit ho rfl)).1, (hF _ j (off_hit ho rfl)).2.1⟩
theorem pnc_k {w w' : MW} {ns : List Nod} (h : PNc w ns) (K : KNd ns.length w w') (e : w'.1 108 1 = w.1 108 1) : PNc w' ns := by
  refine ⟨by rw [e]; exact h.1, fun i d hd => ?_⟩
  have il : i < ns.length := (List.getElem?_eq_some_iff.mp hd).1
  rw [(K 109 i (by unfold ndc; omega) il).1, (K 110 i (by unfold ndc; omega) il).1, (K 115 i (by unfold ndc; omega) il).2]
  exact h.2 i d hd
def lmkn : Pl := [(87, some 9), (88, none), (89, none), (108, some 1), (109, none), (110, none), (111, none), (112, none), (113, none), (114, none)]
/-- the class makes a node -/
theorem mk_x {w : MW} {ns : List Nod} {a b : Int32} {Q : Int32 → MW → Prop} (hI : BND w) (hr : w.2.2 87 1 = some 108) (hN : (w.1 108 1).toInt = (ns.length : Int)) (n3 : ns.length ≤ 300) (hQ : ∀ w', BND w' → FR lmkn w w' → KNd ns.length w w' → (w'.1 109 ns.length) = a → (w'.1 110 ns.length) = b → (w'.1 111 ns.length).toInt = (ns.length : Int) → (w'.1 112 ns.length).toInt = (ns.length : Int) → (w'.1 113 ns.length).toInt = -1 → (w'.1 114 ns.length).toInt = -1 → (w'.1 88 ns.length).toInt = 1 → (w'.1 89 ns.length).toInt = 0 → (w'.1 108 1).toInt = (ns.length : Int) + 1 → (w'.1 87 9).toInt = (if ns.length = 300 ∧ ¬ 0 ≤ (w.1 87 9).toInt then (w.1 87 4).toInt else (w.1 87 9).toInt) → Q (nI ns.length) w') : p_Rd_makeNode w a b Q := by
  have tl : (nI ns.length).toInt = (ns.length : Int) := nI_toInt (by omega)
  have tn : (nI ns.length).toInt.toNat = ns.length := by omega
  have e1 : w.1 108 1 = nI ns.length := by
    have t := nI_tn (a := w.1 108 1) (by omega)
    rw [hN] at t
    exact t.symm
  have bi : 0 ≤ (nI ns.length).toInt ∧ (nI ns.length).toInt < 301 := by omega
  have em : (300 : Int32).toInt = 300 := by decide
  have sum := ti_add2 tl i_1 (by omega) (by omega)
  have main : ∀ r : Int32, r = nI ns.length → ((w.2.2 87 1 = some 108) ∧ ((0 ≤ r.toInt ∧ r.toInt < 301) ∧ ((w.2.2 87 1 = some 108) ∧ ((0 ≤ r.toInt ∧ r.toInt < 301) ∧ ((w.2.2 87 1 = some 108) ∧ ((0 ≤ r.toInt ∧ r.toInt < 301) ∧ ((w.2.2 87 1 = some 108) ∧ ((0 ≤ r.toInt ∧ r.toInt < 301) ∧ ((w.2.2 87 1 = some 108) ∧ ((0 ≤ r.toInt ∧ r.toInt < 301) ∧ ((w.2.2 87 1 = some 108) ∧ ((0 ≤ r.toInt ∧ r.toInt < 301) ∧ ((0 ≤ r.toInt ∧ r.toInt < 301) ∧ ((0 ≤ r.toInt ∧ r.toInt < 301) ∧ ((w.2.2 87 1 = some 108) ∧ ((¬ r.toInt = 300 → (Q r (sI (sI (sI (sI (sI (sI (sI (sI (sI w 109 r.toInt.toNat a) 110 r.toInt.toNat b) 111 r.toInt.toNat r) 112 r.toInt.toNat r) 113 r.toInt.toNat (-1)) 114 r.toInt.toNat (-1)) 88 r.toInt.toNat 1) 89 r.toInt.toNat 0) 108 1 (r + (1 : Int32))))) ∧ (¬ (¬ r.toInt = 300) → (p_Rd_fail (sI (sI (sI (sI (sI (sI (sI (sI (sI w 109 r.toInt.toNat a) 110 r.toInt.toNat b) 111 r.toInt.toNat r) 112 r.toInt.toNat r) 113 r.toInt.toNat (-1)) 114 r.toInt.toNat (-1)) 88 r.toInt.toNat 1) 89 r.toInt.toNat 0) 108 1 (r + (1 : Int32)))  (fun w19 => (Q r w19)))))))))))))))))))) := fun r er => by
    rw [er, tn]
    have B1 : BND (sI (sI (sI (sI (sI (sI (sI (sI (sI w 109 ns.length a) 110 ns.length b) 111 ns.length (nI ns.length)) 112 ns.length (nI ns.length)) 113 ns.length (-1)) 114 ns.length (-1)) 88 ns.length 1) 89 ns.length 0) 108 1 ((nI ns.length) + (1 : Int32))) := by
      exact wbd_108_1 (wbd_89 (wbd_88 (wbd_114 (wbd_113 (wbd_112 (wbd_111 (wbd_110 (wbd_109 hI _) _) _ (by omega) (by omega)) _ (by omega) (by omega)) _ (by decide) (by decide)) _ (by decide) (by decide)) _) _) (by omega) (by omega)
    have F1 : FR lmkn w (sI (sI (sI (sI (sI (sI (sI (sI (sI w 109 ns.length a) 110 ns.length b) 111 ns.length (nI ns.length)) 112 ns.length (nI ns.length)) 113 ns.length (-1)) 114 ns.length (-1)) 88 ns.length 1) 89 ns.length 0) 108 1 ((nI ns.length) + (1 : Int32))) := FR.I (FR.I (FR.I (FR.I (FR.I (FR.I (FR.I (FR.I (FR.I (FR.refl _ w) rfl) rfl) rfl) rfl) rfl) rfl) rfl) rfl) rfl
    have K1 : KNd ns.length w (sI (sI (sI (sI (sI (sI (sI (sI (sI w 109 ns.length a) 110 ns.length b) 111 ns.length (nI ns.length)) 112 ns.length (nI ns.length)) 113 ns.length (-1)) 114 ns.length (-1)) 88 ns.length 1) 89 ns.length 0) 108 1 ((nI ns.length) + (1 : Int32))) := fun k j hk hj => by
      have ne : ¬ k = 108 := by unfold ndc at hk; omega
      have nj : ∀ k', ¬ (k = k' ∧ j = ns.length) := fun k' z => by omega
      refine ⟨?_, rfl⟩
      rw [sI_at, if_neg (fun z => ne z.1), sI_at, if_neg (nj _), sI_at, if_neg (nj _), sI_at, if_neg (nj _), sI_at, if_neg (nj _), sI_at, if_neg (nj _), sI_at, if_neg (nj _), sI_at, if_neg (nj _), sI_at, if_neg (nj _)]
    have g : ∀ (k : Nat) (v : Int32) (u : MW), True → True := fun _ _ _ _ => trivial
    have v9 : (sI (sI (sI (sI (sI (sI (sI (sI (sI w 109 ns.length a) 110 ns.length b) 111 ns.length (nI ns.length)) 112 ns.length (nI ns.length)) 113 ns.length (-1)) 114 ns.length (-1)) 88 ns.length 1) 89 ns.length 0) 108 1 ((nI ns.length) + (1 : Int32))).1 109 ns.length = a := by
      rw [sI_oth _ _ _ _ _ _ (by decide), sI_oth _ _ _ _ _ _ (by decide), sI_oth _ _ _ _ _ _ (by decide), sI_oth _ _ _ _ _ _ (by decide), sI_oth _ _ _ _ _ _ (by decide), sI_oth _ _ _ _ _ _ (by decide), sI_oth _ _ _ _ _ _ (by decide), sI_oth _ _ _ _ _ _ (by decide), sI_same]
    have v10 : (sI (sI (sI (sI (sI (sI (sI (sI (sI w 109 ns.length a) 110 ns.length b) 111 ns.length (nI ns.length)) 112 ns.length (nI ns.length)) 113 ns.length (-1)) 114 ns.length (-1)) 88 ns.length 1) 89 ns.length 0) 108 1 ((nI ns.length) + (1 : Int32))).1 110 ns.length = b := by
      rw [sI_oth _ _ _ _ _ _ (by decide), sI_oth _ _ _ _ _ _ (by decide), sI_oth _ _ _ _ _ _ (by decide), sI_oth _ _ _ _ _ _ (by decide), sI_oth _ _ _ _ _ _ (by decide), sI_oth _ _ _ _ _ _ (by decide), sI_oth _ _ _ _ _ _ (by decide), sI_same]
    have v11 : ((sI (sI (sI (sI (sI (sI (sI (sI (sI w 109 ns.length a) 110 ns.length b) 111 ns.length (nI ns.length)) 112 ns.length (nI ns.length)) 113 ns.length (-1)) 114 ns.length (-1)) 88 ns.length 1) 89 ns.length 0) 108 1 ((nI ns.length) + (1 : Int32))).1 111 ns.length).toInt = (ns.length : Int) := by
      rw [sI_oth _ _ _ _ _ _ (by decide), sI_oth _ _ _ _ _ _ (by decide), sI_oth _ _ _ _ _ _ (by decide), sI_oth _ _ _ _ _ _ (by decide), sI_oth _ _ _ _ _ _ (by decide), sI_oth _ _ _ _ _ _ (by decide), sI_same]
      exact tl
    have v12 : ((sI (sI (sI (sI (sI (sI (sI (sI (sI w 109 ns.length a) 110 ns.length b) 111 ns.length (nI ns.length)) 112 ns.length (nI ns.length)) 113 ns.length (-1)) 114 ns.length (-1)) 88 ns.length 1) 89 ns.length 0) 108 1 ((nI ns.length) + (1 : Int32))).1 112 ns.length).toInt = (ns.length : Int) := by
      rw [sI_oth _ _ _ _ _ _ (by decide), sI_oth _ _ _ _ _ _ (by decide), sI_oth _ _ _ _ _ _ (by decide), sI_oth _ _ _ _ _ _ (by decide), sI_oth _ _ _ _ _ _ (by decide), sI_same]
      exact tl
    have v13 : ((sI (sI (sI (sI (sI (sI (sI (sI (sI w 109 ns.length a) 110 ns.length b) 111 ns.length (nI ns.length)) 112 ns.length (nI ns.length)) 113 ns.length (-1)) 114 ns.length (-1)) 88 ns.length 1) 89 ns.length 0) 108 1 ((nI ns.length) + (1 : Int32))).1 113 ns.length).toInt = -1 := by
      rw [sI_oth _ _ _ _ _ _ (by decide), sI_oth _ _ _ _ _ _ (by decide), sI_oth _ _ _ _ _ _ (by decide), sI_oth _ _ _ _ _ _ (by decide), sI_same]
      decide
    have v14 : ((sI (sI (sI (sI (sI (sI (sI (sI (sI w 109 ns.length a) 110 ns.length b) 111 ns.length (nI ns.length)) 112 ns.length (nI ns.length)) 113 ns.length (-1)) 114 ns.length (-1)) 88 ns.length 1) 89 ns.length 0) 108 1 ((nI ns.length) + (1 : Int32))).1 114 ns.length).toInt = -1 := by
      rw [sI_oth _ _ _ _ _ _ (by decide), sI_oth _ _ _ _ _ _ (by decide), sI_oth _ _ _ _ _ _ (by decide), sI_same]
      decide
    have v88 : ((sI (sI (sI (sI (sI (sI (sI (sI (sI w 109 ns.length a) 110 ns.length b) 111 ns.length (nI ns.length)) 112 ns.length (nI ns.length)) 113 ns.length (-1)) 114 ns.length (-1)) 88 ns.length 1) 89 ns.length 0) 108 1 ((nI ns.length) + (1 : Int32))).1 88 ns.length).toInt = 1 := by
      rw [sI_oth _ _ _ _ _ _ (by decide), sI_oth _ _ _ _ _ _ (by decide), sI_same]
      exact i_1
    have v89 : ((sI (sI (sI (sI (sI (sI (sI (sI (sI w 109 ns.length a) 110 ns.length b) 111 ns.length (nI ns.length)) 112 ns.length (nI ns.length)) 113 ns.length (-1)) 114 ns.length (-1)) 88 ns.length 1) 89 ns.length 0) 108 1 ((nI ns.length) + (1 : Int32))).1 89 ns.length).toInt = 0 := by
      rw [sI_oth _ _ _ _ _ _ (by decide), sI_same]
      exact i_0
    have e9 : (sI (sI (sI (sI (sI (sI (sI (sI (sI w 109 ns.length a) 110 ns.length b) 111 ns.length (nI ns.length)) 112 ns.length (nI ns.length)) 113 ns.length (-1)) 114 ns.length (-1)) 88 ns.length 1) 89 ns.length 0) 108 1 ((nI ns.length) + (1 : Int32))).1 87 9 = w.1 87 9 := rfl
    have v108 : ((sI (sI (sI (sI (sI (sI (sI (sI (sI w 109 ns.length a) 110 ns.length b) 111 ns.length (nI ns.length)) 112 ns.length (nI ns.length)) 113 ns.length (-1)) 114 ns.length (-1)) 88 ns.length 1) 89 ns.length 0) 108 1 ((nI ns.length) + (1 : Int32))).1 108 1).toInt = (ns.length : Int) + 1 := by
      rw [sI_same]
      exact sum
    clear g
    generalize (sI (sI (sI (sI (sI (sI (sI (sI (sI w 109 ns.length a) 110 ns.length b) 111 ns.length (nI ns.length)) 112 ns.length (nI ns.length)) 113 ns.length (-1)) 114 ns.length (-1)) 88 ns.length 1) 89 ns.length 0) 108 1 ((nI ns.length) + (1 : Int32))) = w1 at *
    have e4 : w1.1 87 4 = w.1 87 4 := (F1 87 4 rfl).1
    refine ⟨hr, bi, hr, bi, hr, bi, hr, bi, hr, bi, hr, bi, bi, bi, hr, fun z => hQ w1 B1 F1 K1 v9 v10 v11 v12 v13 v14 v88 v89 v108 ?_, fun z => Eq.mpr (p_Rd_fail.eq_1 _ _) ⟨fun c => hQ w1 B1 F1 K1 v9 v10 v11 v12 v13 v14 v88 v89 v108 ?_, fun c => ?_⟩⟩
    · rw [if_neg (fun y => by have := y.1; omega), e9]
    · rw [e9] at c ⊢
      rw [if_neg (fun y => y.2 c)]
    · have F2 : FR [(87, some 9)] w1 (sI w1 87 9 (w1.1 87 4)) := FR.I (FR.refl _ w1) rfl
      refine hQ _ (wbd_87_9 B1) (FR.tr F1 F2 rfl) (K1.tr (KNd.fr F2 rfl)) ?_ ?_ ?_ ?_ ?_ ?_ ?_ ?_ ?_ ?_
      · rw [(F2 109 _ rfl).1]; exact v9
      · rw [(F2 110 _ rfl).1]; exact v10
      · rw [(F2 111 _ rfl).1]; exact v11
      · rw [(F2 112 _ rfl).1]; exact v12
      · rw [(F2 113 _ rfl).1]; exact v13
      · rw [(F2 114 _ rfl).1]; exact v14
      · rw [(F2 88 _ rfl).1]; exact v88
      · rw [(F2 89 _ rfl).1]; exact v89
      · rw [(F2 108 1 rfl).1]; exact v108
      · rw [sI_same, e4]
        rw [e9] at c
        rw [if_pos ⟨by have := Classical.not_not.mp z; omega, c⟩]
  refine Eq.mpr (p_Rd_makeNode.eq_1 _ _ _ _) ⟨hr, Eq.mpr (p_Ma_min.eq_1 _ _ _ _) ⟨fun z => ?_, fun z => ?_⟩⟩
  · rw [em, hN] at z
    omega
  · exact main _ e1
/-! the class's states while it reads sums: steps -/
theorem cf_o (w : MW) (p : Int) (h : ¬ (0 ≤ p ∧ p < (w.1 1 2).toInt)) : cf w p = -1 := if_neg h
theorem dgl_n {f : Int → Int} {n : Int} (hf : ∀ p : Int, ¬ (0 ≤ p ∧ p < n) → f p = -1) : ∀ (k : Nat) (p : Int), 0 ≤ p → p ≤ n → p + ((dgl f k p).length : Int) ≤ n := by
  intro k
  induction k with
  | zero => intro p _ h; show p + ((0 : Nat) : Int) ≤ n; omega
  | succ k ih =>
    intro p p0 pn
    rw [dgl_u]
    by_cases q : dg1 (f p) = true
    · rw [if_pos q, List.length_cons]
      have t := dg1_t.mp q
      have lt : p < n := by
        by_cases u : 0 ≤ p ∧ p < n
        · exact u.2
        · have := hf p u
          omega
      have := ih (p + 1) (by omega) (by omega)
      omega
    · rw [if_neg q]
      show p + ((0 : Nat) : Int) ≤ n
      omega
theorem dgn_n {f : Int → Int} {n q : Int} (hf : ∀ p : Int, ¬ (0 ≤ p ∧ p < n) → f p = -1) (q0 : 0 ≤ q) (qn : q ≤ n) : q ≤ dgn f q ∧ dgn f q ≤ n := by
  have a := dgl_n hf 9 q q0 qn
  have e : dge f q = q + ((dgl f 9 q).length : Int) := rfl
  unfold dgn
  by_cases c : dgp f q = true
  · rw [if_pos c]
    have d := (of_decide_eq_true c).1
    have lt : dge f q < n := by
      by_cases u : 0 ≤ dge f q ∧ dge f q < n
      · exact u.2
      · have := hf _ u
        omega
    have b := dgl_n hf 3 (dge f q + 1) (by omega) (by omega)
    omega
  · rw [if_neg c]
    omega
theorem wrq_n {f : Int → Int} {n q : Int} (hf : ∀ p : Int, ¬ (0 ≤ p ∧ p < n) → f p = -1) (q0 : 0 ≤ q) (qn : q ≤ n) : q ≤ (wrq f n q).2.2.1 ∧ (wrq f n q).2.2.1 ≤ n ∧ 0 ≤ (wrq f n q).2.1 ∧ (wrq f n q).2.1 ≤ n := by
  unfold wrq
  by_cases c : n ≤ q
  · rw [if_pos c]
    exact ⟨Int.le_refl _, qn, q0, qn⟩
  · rw [if_neg c]
    by_cases d : lt1 (f q) = true
    · rw [if_pos d]
      have a := lts_n hf 12 q q0 qn
      unfold wrL
      by_cases b : bd1 (f (q + ((lts f 12 q).length : Int))) = true
      · rw [if_pos b]
        refine ⟨?_, a, ?_, a⟩
        · show q ≤ q + ((lts f 12 q).length : Int)
          omega
        · show 0 ≤ q + ((lts f 12 q).length : Int)
          omega
      · rw [if_neg b]
        refine ⟨?_, a, q0, qn⟩
        show q ≤ q + ((lts f 12 q).length : Int)
        omega
    · rw [if_neg d]
      by_cases e : dg1 (f q) = true
      · rw [if_pos e]
        have a := dgn_n hf q0 qn
        unfold wrN
        by_cases b : bd1 (f (dgn f q)) = true
        · rw [if_pos b]
          refine ⟨a.1, a.2, ?_, a.2⟩
          show 0 ≤ dgn f q
          omega
        · rw [if_neg b]
          exact ⟨a.1, a.2, q0, qn⟩
      · rw [if_neg e]
        have lt : q + 1 ≤ n := by omega
        by_cases g : mk1 (f q) = true
        · rw [if_pos g]
          refine ⟨?_, lt, q0, qn⟩
          show q ≤ q + 1
          omega
        · rw [if_neg g]
          refine ⟨?_, lt, q0, qn⟩
          show q ≤ q + 1
          omega
theorem wrd_n {f : Int → Int} {n p : Int} (hf : ∀ p : Int, ¬ (0 ≤ p ∧ p < n) → f p = -1) (p0 : 0 ≤ p) (pn : p ≤ n) : p ≤ (wrd f n p).2.2.1 ∧ (wrd f n p).2.2.1 ≤ n ∧ 0 ≤ (wrd f n p).2.1 ∧ (wrd f n p).2.1 ≤ n := by
  have kb := skp_b f n 4001 p
  have t := wrq_n (q := skp f n 4001 p) hf (by omega) (kb.2 pn)
  have e : wrd f n p = wrq f n (skp f n 4001 p) := rfl
  rw [e]
  exact ⟨by omega, t.2.1, t.2.2.1, t.2.2.2⟩
/-- letters of a word of kind 30 at most -/
theorem wrd_l {f : Int → Int} {n p : Int} (h : (wrd f n p).1 ≤ 30) : (∀ c ∈ (wrd f n p).2.2.2.1, ldc c) ∧ (wrd f n p).2.2.2.1.length ≤ 12 := by
  have e : wrd f n p = wrq f n (skp f n 4001 p) := rfl
  rw [e] at h ⊢
  generalize skp f n 4001 p = q at *
  have a := lts_m f 12 q
  have nil : (∀ c ∈ ([] : List Int), ldc c) ∧ ([] : List Int).length ≤ 12 := ⟨fun c h => (by cases h), by decide⟩
  unfold wrq at h ⊢
  by_cases c : n ≤ q
  · rw [if_pos c]
    exact nil
  · rw [if_neg c] at h ⊢
    by_cases d : lt1 (f q) = true
    · rw [if_pos d]
      unfold wrL
      by_cases b : bd1 (f (q + ((lts f 12 q).length : Int))) = true
      · rw [if_pos b]
        exact ⟨a.2, a.1⟩
      · rw [if_neg b]
        exact ⟨a.2, a.1⟩
    · rw [if_neg d]
      by_cases e : dg1 (f q) = true
      · rw [if_pos e]
        unfold wrN
        by_cases b : bd1 (f (dgn f q)) = true
        · rw [if_pos b]
          exact nil
        · rw [if_neg b]
          exact nil
      · rw [if_neg e]
        by_cases g : mk1 (f q) = true
        · rw [if_pos g]
          exact nil
        · rw [if_neg g]
          exact nil
/-- what holds of the reader in all its states -/
def XB (w : MW) (f : Int → Int) (n : Int) (nm : List Nm) (op : Nat) : Prop := BND w ∧ w.2.2 87 0 = some 1 ∧ w.2.2 87 1 = some 108 ∧ KWc w ∧ cf w = f ∧ (w.1 1 2).toInt = n ∧ NmC w nm ∧ (w.1 87 8).toInt = (op : Int) ∧ (w.1 87 2).toInt ≤ n
/-- nothing is wrong yet: the word from p on is next -/
def XS (w : MW) (f : Int → Int) (n : Int) (nm : List Nm) (op : Nat) (p : Int) (ns : List Nod) : Prop := XB w f n nm op ∧ TkC w (wrd f n p) ∧ ¬ (wrd f n p).1 = 33 ∧ (w.1 87 9).toInt = -1 ∧ PNc w ns ∧ ns.length ≤ 300 ∧ 0 ≤ p ∧ p ≤ n
/-- it is wrong at e; at least N nodes were made -/
def XW (w : MW) (f : Int → Int) (n : Int) (nm : List Nm) (op : Nat) (e : Int) (N : Nat) : Prop := XB w f n nm op ∧ (w.1 87 9).toInt = e ∧ 0 ≤ e ∧ (N : Int) ≤ (w.1 108 1).toInt ∧ N ≤ 300
def lexp : Pl := [(87, some 2), (87, some 3), (87, some 4), (87, some 5), (87, some 6), (87, some 7), (87, some 8), (87, some 9), (88, none), (89, none), (108, some 1), (109, none), (110, none), (111, none), (112, none), (113, none), (114, none), (115, none)]
theorem nmc_fr {l : Pl} {w w' : MW} {nm : List Nm} (h : NmC w nm) (hF : FR l w w') (ho : off l [(108, some 10), (116, none), (117, none), (118, none), (119, none)] = true) : NmC w' nm := by
  refine ⟨by rw [(hF 108 10 (off_hit ho rfl)).1]; exact h.1, h.2.1, fun i x hx => ?_⟩
  have t := h.2.2 i x hx
  rw [(hF 116 i (off_hit ho rfl)).2.1, (hF 117 i (off_hit ho rfl)).1, (hF 118 i (off_hit ho rfl)).1, (hF 119 i (off_hit ho rfl)).1]
  exact t
/-- XB over a step that leaves tape, words, names and open alone -/
theorem xb_fr {l : Pl} {w w' : MW} {f : Int → Int} {n : Int} {nm : List Nm} {op : Nat} (h : XB w f n nm op) (hF : FR l w w') (hB : BND w') (h2 : (w'.1 87 2).toInt ≤ n) (ho : off l [(1, some 2), (2, none), (87, some 0), (87, some 1), (87, some 8), (90, none), (108, some 10), (116, none), (117, none), (118, none), (119, none)] = true) : XB w' f n nm op :=
  ⟨hB, ((hF 87 0 (off_hit ho rfl)).2.2).trans h.2.1, ((hF 87 1 (off_hit ho rfl)).2.2).trans h.2.2.1, fun i k hk => by rw [(hF 90 i (off_hit ho rfl)).2.1]; exact h.2.2.2.1 i k hk, (cf_fr hF (off_mono ho (by decide))).trans h.2.2.2.2.1, by rw [(hF 1 2 (off_hit ho rfl)).1]; exact h.2.2.2.2.2.1, nmc_fr h.2.2.2.2.2.2.1 hF (off_mono ho (by decide)), by rw [(hF 87 8 (off_hit ho rfl)).1]; exact h.2.2.2.2.2.2.2.1, h2⟩
theorem xb_f {w : MW} {f : Int → Int} {n : Int} {nm : List Nm} {op : Nat} (h : XB w f n nm op) : ∀ p : Int, ¬ (0 ≤ p ∧ p < n) → f p = -1 := fun p hp => by
  rw [← h.2.2.2.2.1]
  exact cf_o w p (by rw [h.2.2.2.2.2.1]; exact hp)
/-- the next word, nothing being wrong -/
theorem nx_g {w : MW} {f : Int → Int} {n : Int} {nm : List Nm} {op : Nat} {p : Int} {ns : List Nod} {Q : MW → Prop} (hB : XB w f n nm op) (hw : (w.1 87 9).toInt = -1) (hp : (w.1 87 2).toInt = p) (hN : PNc w ns) (n3 : ns.length ≤ 300) (h1 : ¬ (wrd f n p).1 = 33 → ∀ w', FR lpw w w' → XS w' f n nm op p ns → Q w') (h0 : (wrd f n p).1 = 33 → ∀ w', FR lpw w w' → XW w' f n nm op (wrd f n p).2.1 ns.length → Q w') : p_Rd_nextWord w Q := by
  have b2 := bd_87_2 hB.1
  have pn : p ≤ n := by have := hB.2.2.2.2.2.2.2.2; omega
  have hf := xb_f hB
  have wn := wrd_n (f := f) (n := n) (p := p) hf (by omega) pn
  refine pnw_x hB.1 hB.2.1 hB.2.2.2.1 hp (by rw [hB.2.2.2.2.2.1]; exact pn) (fun w' B' F' T' W' => ?_)
  rw [hB.2.2.2.2.1, hB.2.2.2.2.2.1] at T' W'
  have X' : XB w' f n nm op := xb_fr hB F' B' (by rw [T'.2.2.1]; exact wn.2.1) rfl
  unfold WrC at W'
  by_cases c : (wrd f n p).1 = 33
  · rw [if_pos ⟨c, by omega⟩] at W'
    exact h0 c w' F' ⟨X', W', wn.2.2.1, by rw [(F' 108 1 rfl).1, hN.1]; exact Int.le_refl _, n3⟩
  · rw [if_neg (fun z => c z.1)] at W'
    exact h1 c w' F' ⟨X', T', c, by rw [W']; exact hw, pnc_k hN (KNd.fr F' rfl) (F' 108 1 rfl).1, n3, by omega, pn⟩
/-- the next word where something is wrong -/
theorem nx_w {w : MW} {f : Int → Int} {n : Int} {nm : List Nm} {op N : Nat} {e : Int} {Q : MW → Prop} (h : XW w f n nm op e N) (hQ : ∀ w', FR lpw w w' → XW w' f n nm op e N → Q w') : p_Rd_nextWord w Q := by
  have hB := h.1
  have b2 := bd_87_2 hB.1
  have hf := xb_f hB
  have wn := wrd_n (f := f) (n := n) (p := (w.1 87 2).toInt) hf b2.1 hB.2.2.2.2.2.2.2.2
  refine pnw_x hB.1 hB.2.1 hB.2.2.2.1 rfl (by rw [hB.2.2.2.2.2.1]; exact hB.2.2.2.2.2.2.2.2) (fun w' B' F' T' W' => ?_)
  rw [hB.2.2.2.2.1, hB.2.2.2.2.2.1] at T' W'
  have X' : XB w' f n nm op := xb_fr hB F' B' (by rw [T'.2.2.1]; exact wn.2.1) rfl
  have e0 := h.2.2.1
  have ew := h.2.1
  unfold WrC at W'
  rw [if_neg (fun z => z.2 (by omega))] at W'
  exact hQ w' F' ⟨X', by rw [W']; exact ew, e0, by rw [(F' 108 1 rfl).1]; exact h.2.2.2.1, h.2.2.2.2⟩
theorem fl_w {w : MW} {f : Int → Int} {n : Int} {nm : List Nm} {op N : Nat} {e : Int} {Q : MW → Prop} (h : XW w f n nm op e N) (hQ : Q w) : p_Rd_fail w Q := by
  have e0 := h.2.2.1
  have ew := h.2.1
  exact Eq.mpr (p_Rd_fail.eq_1 _ _) ⟨fun _ => hQ, fun c => absurd (show 0 ≤ (w.1 87 9).toInt by omega) c⟩
/-- it is wrong at the word that is next -/
theorem fl_g {w : MW} {f : Int → Int} {n : Int} {nm : List Nm} {op : Nat} {p : Int} {ns : List Nod} {Q : MW → Prop} (h : XS w f n nm op p ns) (hQ : ∀ w', FR [(87, some 9)] w w' → XW w' f n nm op (wrd f n p).2.1 ns.length → Q w') : p_Rd_fail w Q := by
  have hw := h.2.2.2.1
  have F1 : FR [(87, some 9)] w (sI w 87 9 (w.1 87 4)) := FR.I (FR.refl _ w) rfl
  have wn := wrd_n (f := f) (n := n) (p := p) (xb_f h.1) h.2.2.2.2.2.2.1 h.2.2.2.2.2.2.2
  refine Eq.mpr (p_Rd_fail.eq_1 _ _) ⟨fun c => by omega, fun c => hQ _ F1 ⟨xb_fr h.1 F1 (wbd_87_9 h.1.1) (by rw [(F1 87 2 rfl).1]; exact h.1.2.2.2.2.2.2.2.2) rfl, by rw [sI_same]; exact h.2.1.2.1, wn.2.2.1, by rw [(F1 108 1 rfl).1, h.2.2.2.2.1.1]; exact Int.le_refl _, h.2.2.2.2.2.1⟩⟩
/-! the class makes nodes of sums -/
theorem pnc_s {w w' : MW} {ns : List Nod} {d : Nod} (h : PNc w ns) (K : KNd ns.length w w') (e : (w'.1 108 1).toInt = (ns.length : Int) + 1) (e1 : (w'.1 109 ns.length).toInt = d.1) (e2 : (w'.1 110 ns.length).toInt = d.2.1) (e3 : d.1 = 31 → (w'.2.1 115 ns.length).toInt = d.2.2.1) : PNc w' (ns ++ [d]) := by
  refine ⟨by rw [e, List.length_append, List.length_singleton]; omega, fun i x hx => ?_⟩
  by_cases c : i < ns.length
  · rw [List.getElem?_append_left c] at hx
    rw [(K 109 i (by unfold ndc; omega) c).1, (K 110 i (by unfold ndc; omega) c).1, (K 115 i (by unfold ndc; omega) c).2]
    exact h.2 i x hx
  · have il : i < (ns ++ [d]).length := (List.getElem?_eq_some_iff.mp hx).1
    rw [List.length_append, List.length_singleton] at il
    have ei : i = ns.length := by omega
    rw [ei, List.getElem?_append_right (Nat.le_refl _), Nat.sub_self] at hx
    have ex : d = x := Option.some.inj hx
    rw [← ex, ei]
    exact ⟨e1, e2, e3⟩
theorem tkc_fr {l : Pl} {w w' : MW} {t : Tk} (h : TkC w t) (hF : FR l w w') (ho : off l [(87, some 2), (87, some 3), (87, some 4), (87, some 5), (87, some 6), (87, some 7)] = true) : TkC w' t := by
  unfold TkC at h ⊢
  rw [(hF 87 2 (off_hit ho rfl)).1, (hF 87 3 (off_hit ho rfl)).1, (hF 87 4 (off_hit ho rfl)).1, (hF 87 5 (off_hit ho rfl)).2.1, (hF 87 6 (off_hit ho rfl)).2.1, (hF 87 7 (off_hit ho rfl)).1]
  exact h
/-- a node that is no number; nothing is wrong -/
theorem mk_g {w : MW} {f : Int → Int} {n : Int} {nm : List Nm} {op : Nat} {p : Int} {ns : List Nod} {a b : Int32} {d : Nod} {Q : Int32 → MW → Prop} (h : XS w f n nm op p ns) (ha : a.toInt = d.1) (hb : b.toInt = d.2.1) (hd : ¬ d.1 = 31) (h1 : ¬ ns.length = 300 → ∀ w', FR lmkn w w' → KNd ns.length w w' → XS w' f n nm op p (ns ++ [d]) → (w'.1 111 ns.length).toInt = (ns.length : Int) → (w'.1 112 ns.length).toInt = (ns.length : Int) → (w'.1 113 ns.length).toInt = -1 → (w'.1 114 ns.length).toInt = -1 → (w'.1 88 ns.length).toInt = 1 → (w'.1 89 ns.length).toInt = 0 → Q (nI ns.length) w') (h0 : ns.length = 300 → ∀ w', FR lmkn w w' → KNd ns.length w w' → XW w' f n nm op (wrd f n p).2.1 ns.length → Q (nI ns.length) w') : p_Rd_makeNode w a b Q := by
  have hw := h.2.2.2.1
  have n3 := h.2.2.2.2.2.1
  refine mk_x h.1.1 h.1.2.2.1 h.2.2.2.2.1.1 n3 (fun w' B' F' K' v9 v10 v11 v12 v13 v14 v88 v89 v1 v => ?_)
  have X' : XB w' f n nm op := xb_fr h.1 F' B' (by rw [(F' 87 2 rfl).1]; exact h.1.2.2.2.2.2.2.2.2) rfl
  by_cases c : ns.length = 300
  · rw [if_pos ⟨c, by omega⟩] at v
    have wn := wrd_n (f := f) (n := n) (p := p) (xb_f h.1) h.2.2.2.2.2.2.1 h.2.2.2.2.2.2.2
    exact h0 c w' F' K' ⟨X', by rw [v]; exact h.2.1.2.1, wn.2.2.1, by omega, n3⟩
  · rw [if_neg (fun z => c z.1)] at v
    exact h1 c w' F' K' ⟨X', tkc_fr h.2.1 F' rfl, h.2.2.1, by rw [v]; exact hw, pnc_s h.2.2.2.2.1 K' v1 (by rw [v9]; exact ha) (by rw [v10]; exact hb) (fun z => absurd z hd), by rw [List.length_append, List.length_singleton]; omega, h.2.2.2.2.2.2.1, h.2.2.2.2.2.2.2⟩ v11 v12 v13 v14 v88 v89
/-- a node where something is wrong -/
theorem mk_w {w : MW} {f : Int → Int} {n : Int} {nm : List Nm} {op N : Nat} {e : Int} {a b : Int32} {Q : Int32 → MW → Prop} (h : XW w f n nm op e N) (hQ : ∀ (r : Int32) (w' : MW), FR lmkn w w' → KNd N w w' → 0 ≤ r.toInt → r.toInt < 301 → (N : Int) ≤ r.toInt → XW w' f n nm op e N → Q r w') : p_Rd_makeNode w a b Q := by
  have b1 := bd_108_1 h.1.1
  have hN := h.2.2.2.1
  have n3 := h.2.2.2.2
  have ew := h.2.1
  have e0 := h.2.2.1
  have em : (300 : Int32).toInt = 300 := by decide
  have hr := h.1.2.2.1
  have main : ∀ r : Int32, (N : Int) ≤ r.toInt → r.toInt ≤ 300 → ((w.2.2 87 1 = some 108) ∧ ((0 ≤ r.toInt ∧ r.toInt < 301) ∧ ((w.2.2 87 1 = some 108) ∧ ((0 ≤ r.toInt ∧ r.toInt < 301) ∧ ((w.2.2 87 1 = some 108) ∧ ((0 ≤ r.toInt ∧ r.toInt < 301) ∧ ((w.2.2 87 1 = some 108) ∧ ((0 ≤ r.toInt ∧ r.toInt < 301) ∧ ((w.2.2 87 1 = some 108) ∧ ((0 ≤ r.toInt ∧ r.toInt < 301) ∧ ((w.2.2 87 1 = some 108) ∧ ((0 ≤ r.toInt ∧ r.toInt < 301) ∧ ((0 ≤ r.toInt ∧ r.toInt < 301) ∧ ((0 ≤ r.toInt ∧ r.toInt < 301) ∧ ((w.2.2 87 1 = some 108) ∧ ((¬ r.toInt = 300 → (Q r (sI (sI (sI (sI (sI (sI (sI (sI (sI w 109 r.toInt.toNat a) 110 r.toInt.toNat b) 111 r.toInt.toNat r) 112 r.toInt.toNat r) 113 r.toInt.toNat (-1)) 114 r.toInt.toNat (-1)) 88 r.toInt.toNat 1) 89 r.toInt.toNat 0) 108 1 (r + (1 : Int32))))) ∧ (¬ (¬ r.toInt = 300) → (p_Rd_fail (sI (sI (sI (sI (sI (sI (sI (sI (sI w 109 r.toInt.toNat a) 110 r.toInt.toNat b) 111 r.toInt.toNat r) 112 r.toInt.toNat r) 113 r.toInt.toNat (-1)) 114 r.toInt.toNat (-1)) 88 r.toInt.toNat 1) 89 r.toInt.toNat 0) 108 1 (r + (1 : Int32)))  (fun w19 => (Q r w19)))))))))))))))))))) := fun r r0 r3 => by
    have bi : 0 ≤ r.toInt ∧ r.toInt < 301 := by omega
    have sum := ti_add2 (Eq.refl r.toInt) i_1 (by omega) (by omega)
    obtain ⟨j, hj⟩ : ∃ j : Nat, r.toInt.toNat = j := ⟨_, rfl⟩
    have jr : (j : Int) = r.toInt := by omega
    rw [hj]
    have B1 : BND (sI (sI (sI (sI (sI (sI (sI (sI (sI w 109 j a) 110 j b) 111 j r) 112 j r) 113 j (-1)) 114 j (-1)) 88 j 1) 89 j 0) 108 1 (r + (1 : Int32))) := by
      exact wbd_108_1 (wbd_89 (wbd_88 (wbd_114 (wbd_113 (wbd_112 (wbd_111 (wbd_110 (wbd_109 h.1.1 _) _) _ (by omega) (by omega)) _ (by omega) (by omega)) _ (by decide) (by decide)) _ (by decide) (by decide)) _) _) (by omega) (by omega)
    have F1 : FR lmkn w (sI (sI (sI (sI (sI (sI (sI (sI (sI w 109 j a) 110 j b) 111 j r) 112 j r) 113 j (-1)) 114 j (-1)) 88 j 1) 89 j 0) 108 1 (r + (1 : Int32))) := FR.I (FR.I (FR.I (FR.I (FR.I (FR.I (FR.I (FR.I (FR.I (FR.refl _ w) rfl) rfl) rfl) rfl) rfl) rfl) rfl) rfl) rfl
    have K1 : KNd N w (sI (sI (sI (sI (sI (sI (sI (sI (sI w 109 j a) 110 j b) 111 j r) 112 j r) 113 j (-1)) 114 j (-1)) 88 j 1) 89 j 0) 108 1 (r + (1 : Int32))) := fun k i hk hi => by
      have ne : ¬ k = 108 := by unfold ndc at hk; omega
      have nj : ∀ k', ¬ (k = k' ∧ i = j) := fun k' z => by omega
      refine ⟨?_, rfl⟩
      rw [sI_at, if_neg (fun z => ne z.1), sI_at, if_neg (nj _), sI_at, if_neg (nj _), sI_at, if_neg (nj _), sI_at, if_neg (nj _), sI_at, if_neg (nj _), sI_at, if_neg (nj _), sI_at, if_neg (nj _), sI_at, if_neg (nj _)]
    have v1 : ((sI (sI (sI (sI (sI (sI (sI (sI (sI w 109 j a) 110 j b) 111 j r) 112 j r) 113 j (-1)) 114 j (-1)) 88 j 1) 89 j 0) 108 1 (r + (1 : Int32))).1 108 1).toInt = r.toInt + 1 := by
      rw [sI_same]
      exact sum
    have e9 : (sI (sI (sI (sI (sI (sI (sI (sI (sI w 109 j a) 110 j b) 111 j r) 112 j r) 113 j (-1)) 114 j (-1)) 88 j 1) 89 j 0) 108 1 (r + (1 : Int32))).1 87 9 = w.1 87 9 := rfl
    generalize (sI (sI (sI (sI (sI (sI (sI (sI (sI w 109 j a) 110 j b) 111 j r) 112 j r) 113 j (-1)) 114 j (-1)) 88 j 1) 89 j 0) 108 1 (r + (1 : Int32))) = w1 at *
    have X1 : XW w1 f n nm op e N := ⟨xb_fr h.1 F1 B1 (by rw [(F1 87 2 rfl).1]; exact h.1.2.2.2.2.2.2.2.2) rfl, by rw [e9]; exact ew, e0, by omega, n3⟩
    exact ⟨hr, bi, hr, bi, hr, bi, hr, bi, hr, bi, hr, bi, bi, bi, hr, fun z => hQ r w1 F1 K1 bi.1 bi.2 r0 X1, fun z => fl_w X1 (hQ r w1 F1 K1 bi.1 bi.2 r0 X1)⟩
  refine Eq.mpr (p_Rd_makeNode.eq_1 _ _ _ _) ⟨hr, Eq.mpr (p_Ma_min.eq_1 _ _ _ _) ⟨fun z => main _ ?_ ?_, fun z => main _ ?_ ?_⟩⟩
  · rw [em]
    omega
  · rw [em]
    omega
  · exact hN
  · rw [em] at z
    omega
/-! the class's readers of sums where something is wrong already -/
theorem xb_op {w : MW} {f : Int → Int} {n : Int} {nm : List Nm} {op op' : Nat} {v : Int32} (h : XB w f n nm op) (hv : v.toInt = (op' : Int)) (o2 : op' ≤ 20) : XB (sI w 87 8 v) f n nm op' := by
  have F : FR [(87, some 8)] w (sI w 87 8 v) := FR.I (FR.refl _ w) rfl
  have B : BND (sI w 87 8 v) := bnd_set h.1 (by show (0 : Int) ≤ _; omega) (by show _ ≤ (20 : Int); omega)
  refine ⟨B, h.2.1, h.2.2.1, h.2.2.2.1, (cf_fr F rfl).trans h.2.2.2.2.1, by rw [(F 1 2 rfl).1]; exact h.2.2.2.2.2.1, nmc_fr h.2.2.2.2.2.2.1 F rfl, by rw [sI_same]; exact hv, by rw [(F 87 2 rfl).1]; exact h.2.2.2.2.2.2.2.2⟩
theorem xs_op {w : MW} {f : Int → Int} {n : Int} {nm : List Nm} {op op' : Nat} {p : Int} {ns : List Nod} {v : Int32} (h : XS w f n nm op p ns) (hv : v.toInt = (op' : Int)) (o2 : op' ≤ 20) : XS (sI w 87 8 v) f n nm op' p ns := by
  have F : FR [(87, some 8)] w (sI w 87 8 v) := FR.I (FR.refl _ w) rfl
  exact ⟨xb_op h.1 hv o2, tkc_fr h.2.1 F rfl, h.2.2.1, by rw [(F 87 9 rfl).1]; exact h.2.2.2.1, pnc_k h.2.2.2.2.1 (KNd.fr F rfl) (F 108 1 rfl).1, h.2.2.2.2.2.1, h.2.2.2.2.2.2.1, h.2.2.2.2.2.2.2⟩
theorem xw_op {w : MW} {f : Int → Int} {n : Int} {nm : List Nm} {op op' N : Nat} {e : Int} {v : Int32} (h : XW w f n nm op e N) (hv : v.toInt = (op' : Int)) (o2 : op' ≤ 20) : XW (sI w 87 8 v) f n nm op' e N := by
  have F : FR [(87, some 8)] w (sI w 87 8 v) := FR.I (FR.refl _ w) rfl
  exact ⟨xb_op h.1 hv o2, by rw [(F 87 9 rfl).1]; exact h.2.1, h.2.2.1, by rw [(F 108 1 rfl).1]; exact h.2.2.2.1, h.2.2.2.2⟩
theorem w_53 {rF : MW → (Int32 → MW → Prop) → Prop} {rL : MW → Int32 → (Int32 → MW → Prop) → Prop} {w : MW} {f : Int → Int} {n : Int} {nm : List Nm} {op N : Nat} {e : Int} {x y z : Int32} {Q : Int32 → MW → Prop} (h : XW w f n nm op e N) (hQ : Q 0 w) : q_Rd_readFactor_53 rF rL x y z w Q := by
  have e0 := h.2.2.1
  have ew := h.2.1
  exact Eq.mpr (q_Rd_readFactor_53.eq_1 _ _ _ _ _ _ _) ⟨fun _ => fl_w h hQ, fun c => absurd (show 0 ≤ (w.1 87 9).toInt by omega) c⟩
theorem w_26 {rF : MW → (Int32 → MW → Prop) → Prop} {rL : MW → Int32 → (Int32 → MW → Prop) → Prop} {w : MW} {f : Int → Int} {n : Int} {nm : List Nm} {op N : Nat} {e : Int} {x y : Int32} {Q : Int32 → MW → Prop} (h : XW w f n nm op e N) (hQ : Q 0 w) : q_Rd_readFactor_26 rF rL x y w Q :=
  Eq.mpr (q_Rd_readFactor_26.eq_1 _ _ _ _ _ _) ⟨fun _ => ⟨fun _ => w_53 h hQ, fun _ => w_53 h hQ⟩, fun _ => ⟨fun _ => w_53 h hQ, fun _ => ⟨fun _ => w_53 h hQ, fun _ => w_53 h hQ⟩⟩⟩
theorem w_fac {d : Nat} {w : MW} {f : Int → Int} {n : Int} {nm : List Nm} {op N : Nat} {e : Int} {Q : Int32 → MW → Prop} (h : XW w f n nm op e N) (hQ : ∀ y : Int32, Q y w) : pn_Rd_readFactor (d + 1) w Q := by
  rw [pe_Rd_readFactor]
  refine Eq.mpr (pb_Rd_readFactor.eq_1 _ _ _ _) ⟨fun _ => w_26 h (hQ 0), fun _ => ⟨h.1.2.2.1, h_Pr_finds108 h.1.1 (fun r w' _ F' _ _ => ?_)⟩⟩
  obtain rfl := fr_nil F' rfl
  exact w_26 h (hQ 0)
theorem w_38 {rF : MW → (Int32 → MW → Prop) → Prop} {rL : MW → Int32 → (Int32 → MW → Prop) → Prop} {w : MW} {f : Int → Int} {n : Int} {nm : List Nm} {op N : Nat} {e : Int} {a b c u j : Int32} {E : Int32 → Int32 → MW → Prop} {Q : Int32 → MW → Prop} (h : XW w f n nm op e N) (hE : E u j w) (k : Nat) (hk : 0 < k) : q_Rd_readLevel_38 rF rL a b c E Q k u j w := by
  have e0 := h.2.2.1
  have ew := h.2.1
  cases k with
  | zero => omega
  | succ k =>
    rw [q_Rd_readLevel_38.eq_2]
    exact ⟨fun _ => hE, fun _ => ⟨fun _ => hE, fun z => absurd (show 0 ≤ (w.1 87 9).toInt by omega) z⟩⟩
theorem w_33 {rF : MW → (Int32 → MW → Prop) → Prop} {rL : MW → Int32 → (Int32 → MW → Prop) → Prop} {w : MW} {f : Int → Int} {n : Int} {nm : List Nm} {op N : Nat} {e : Int} {a b c u : Int32} {Q : Int32 → MW → Prop} (h : XW w f n nm op e N) (hQ : ∀ y : Int32, Q y w) : q_Rd_readLevel_33 rF rL a b u c w Q :=
  Eq.mpr (q_Rd_readLevel_33.eq_1 _ _ _ _ _ _ _ _) (w_38 h ⟨fun _ => hQ _, fun _ => ⟨fun _ => hQ _, fun _ => fl_w h (hQ _)⟩⟩ FU (fu_lt (by decide)))
theorem w_lev {w : MW} {f : Int → Int} {n : Int} {nm : List Nm} {op N : Nat} {e : Int} (h : XW w f n nm op e N) : ∀ (s m d : Nat) (Q : Int32 → MW → Prop), m + s = 2 → (∀ y : Int32, Q y w) → pn_Rd_readLevel (d + s + 2) w (nI m) Q := by
  intro s
  induction s with
  | zero =>
    intro m d Q hm hQ
    have tm : (nI m + (1 : Int32)).toInt = (m : Int) + 1 := by
      rw [nI_1, nI_toInt (by omega)]
      omega
    rw [pe_Rd_readLevel]
    refine Eq.mpr (pb_Rd_readLevel.eq_1 _ _ _ _ _) ⟨fun _ => w_fac h (fun y => ⟨fun _ => w_33 h hQ, fun _ => w_33 h hQ⟩), fun z => ?_⟩
    rw [tm] at z
    omega
  | succ s ih =>
    intro m d Q hm hQ
    have tm : (nI m + (1 : Int32)).toInt = (m : Int) + 1 := by
      rw [nI_1, nI_toInt (by omega)]
      omega
    rw [show d + (s + 1) + 2 = (d + s + 2) + 1 by omega, pe_Rd_readLevel]
    refine Eq.mpr (pb_Rd_readLevel.eq_1 _ _ _ _ _) ⟨fun z => ?_, fun z => ?_⟩
    · rw [tm] at z
      omega
    · rw [nI_1]
      exact ih (m + 1) d _ (by omega) (fun y => ⟨fun _ => w_33 h hQ, fun _ => w_33 h hQ⟩)
theorem w_join {w : MW} {f : Int → Int} {n : Int} {nm : List Nm} {op N : Nat} {e : Int} {a b c d : Int32} {Q : Int32 → MW → Prop} (h : XW w f n nm op e N) (hQ : Q 0 w) : p_Rd_join w a b c d Q := by
  have e0 := h.2.2.1
  have ew := h.2.1
  exact Eq.mpr (p_Rd_join.eq_1 _ _ _ _ _ _) ⟨fun z => by omega, fun _ => hQ⟩
/-- two sides are joined -/
theorem jn_g {w : MW} {C U Y : Int} {a b c d : Int32} {Q : Int32 → MW → Prop} (hw : (w.1 87 9).toInt = -1) (ha : a.toInt = C) (hc : c.toInt = U) (hd : d.toInt = Y) (U0 : 0 ≤ U) (Y0 : 0 ≤ Y) (h0 : xun C U Y < 0 → Q 0 (sI w 87 9 b)) (h1 : ¬ xun C U Y < 0 → ∀ x : Int32, x.toInt = xun C U Y → p_Rd_makeNode w a 0 (fun r6 w6 => Q x w6)) : p_Rd_join w a b c d Q := by
  have j0 : xun C U Y < 0 → ∀ x : Int32, q_Rd_join_94 a b 0 x w Q := fun z x => Eq.mpr (q_Rd_join_94.eq_1 _ _ _ _ _ _) ⟨fun q => absurd i_0 q, fun _ => h0 z⟩
  have j1 : ∀ x : Int32, x.toInt = xun C U Y → 0 ≤ xun C U Y → q_Rd_join_94 a b 1 x w Q := fun x ex z => Eq.mpr (q_Rd_join_94.eq_1 _ _ _ _ _ _) ⟨fun _ => h1 (by omega) x ex, fun q => absurd i1n q⟩
  have k20 : ∀ s : Int32, ((s = 1 ∧ U = Y) ∨ (s = 0 ∧ ¬ U = Y)) → q_Rd_join_20 a b c d s w Q := fun s hs => by
    refine Eq.mpr (q_Rd_join_20.eq_1 _ _ _ _ _ _ _) ⟨fun n42 => ⟨fun n47 => ?_, fun q47 => ⟨fun eq => ⟨fun dn => ?_, fun dz => ?_⟩, fun ne => ⟨fun dn => ?_, fun dz => ?_⟩⟩⟩, fun q42 => ⟨fun cz => Eq.mpr (p_Ma_max.eq_1 _ _ _ _) ⟨fun g => ?_, fun g => ?_⟩, fun cn => ⟨fun dn => Eq.mpr (p_Ma_max.eq_1 _ _ _ _) ⟨fun g => ?_, fun g => ?_⟩, fun dz => Eq.mpr (p_Ma_max.eq_1 _ _ _ _) ⟨fun g => ?_, fun g => ?_⟩⟩⟩⟩
    · have ex : xun C U Y = if U = Y then U else -1 := by
        unfold xun
        rw [if_neg (by omega), if_neg (by omega)]
      rcases hs with ⟨es, eu⟩ | ⟨es, eu⟩
      · rw [if_pos eu] at ex
        rw [es]
        exact j1 c (by omega) (by omega)
      · rw [if_neg eu] at ex
        rw [es]
        exact j0 (by omega) c
    · have ex : xun C U Y = 0 := by
        unfold xun
        rw [if_neg (by omega), if_pos (by have := Classical.not_not.mp q47; omega), if_neg (by omega), if_pos (by omega)]
      exact j1 0 (by rw [ex]; exact i_0) (by omega)
    · have ex : xun C U Y = U := by
        unfold xun
        rw [if_neg (by omega), if_pos (by have := Classical.not_not.mp q47; omega), if_pos (by have := Classical.not_not.mp dz; omega)]
      exact j1 c (by rw [ex]; exact hc) (by omega)
    · have ex : xun C U Y = -1 := by
        unfold xun
        rw [if_neg (by omega), if_pos (by have := Classical.not_not.mp q47; omega), if_neg (by omega), if_neg (by omega)]
      exact j0 (by omega) 0
    · have ex : xun C U Y = U := by
        unfold xun
        rw [if_neg (by omega), if_pos (by have := Classical.not_not.mp q47; omega), if_pos (by have := Classical.not_not.mp dz; omega)]
      exact j1 c (by rw [ex]; exact hc) (by omega)
    all_goals have c42 := Classical.not_not.mp q42
    · have ex : xun C U Y = Y := by
        unfold xun
        rw [if_pos (by omega), if_pos (by omega)]
      exact j1 _ (by omega) (by omega)
    · have ex : xun C U Y = Y := by
        unfold xun
        rw [if_pos (by omega), if_pos (by omega)]
      exact j1 _ (by omega) (by omega)
    · have ex : xun C U Y = -1 := by
        unfold xun
        rw [if_pos (by omega), if_neg (by omega), if_neg (by omega)]
      exact j0 (by omega) _
    · have ex : xun C U Y = -1 := by
        unfold xun
        rw [if_pos (by omega), if_neg (by omega), if_neg (by omega)]
      exact j0 (by omega) _
    · have ex : xun C U Y = U := by
        unfold xun
        rw [if_pos (by omega), if_neg (by omega), if_pos (by have := Classical.not_not.mp dz; omega)]
      have := Classical.not_not.mp dz
      exact j1 _ (by omega) (by omega)
    · have ex : xun C U Y = U := by
        unfold xun
        rw [if_pos (by omega), if_neg (by omega), if_pos (by have := Classical.not_not.mp dz; omega)]
      have := Classical.not_not.mp dz
      exact j1 _ (by omega) (by omega)
  exact Eq.mpr (p_Rd_join.eq_1 _ _ _ _ _ _) ⟨fun _ => ⟨fun ne => k20 0 (Or.inr ⟨rfl, by omega⟩), fun eq => k20 1 (Or.inl ⟨rfl, by have := Classical.not_not.mp eq; omega⟩)⟩, fun z => by omega⟩
/-! the class reads tests, sums and products -/
theorem lv_x {w : MW} {a : Int32} {Q : Int32 → MW → Prop} (hQ : ∀ r : Int32, r.toInt = (lvo a.toInt : Int) → Q r w) : p_Rd_levelOf w a Q :=
  Eq.mpr (p_Rd_levelOf.eq_1 _ _ _) ⟨fun z => hQ 2 (by rw [z]; decide), fun z42 => ⟨fun z => hQ 1 (by rw [z]; decide), fun z43 => ⟨fun z => hQ 3 (by rw [z]; decide), fun z44 => ⟨fun z => hQ 1 (by rw [z]; decide), fun z45 => ⟨fun z => hQ 3 (by rw [z]; decide), fun z46 => ⟨fun z => hQ 2 (by rw [z]; decide), fun z47 => ⟨fun z => hQ 3 (by rw [z]; decide), fun z48 => ⟨fun z => hQ 3 (by rw [z]; decide), fun z49 => ⟨fun z => hQ 3 (by rw [z]; decide), fun z50 => ⟨fun z => hQ 3 (by rw [z]; decide), fun z51 => ⟨fun z => hQ 3 (by rw [z]; decide), fun z52 => ⟨fun z => hQ 3 (by rw [z]; decide), fun z53 => ⟨fun z => hQ 3 (by rw [z]; decide), fun z54 => ⟨fun z => hQ 3 (by rw [z]; decide), fun z55 => ⟨fun z => hQ 3 (by rw [z]; decide), fun z56 => ⟨fun z => hQ 3 (by rw [z]; decide), fun z57 => ⟨fun z => hQ 3 (by rw [z]; decide), fun z58 => ⟨fun z => hQ 3 (by rw [z]; decide), fun z59 => ⟨fun z => hQ 0 (by rw [z]; decide), fun z60 => ⟨fun z => hQ 0 (by rw [z]; decide), fun z61 => ⟨fun z => hQ 0 (by rw [z]; decide), fun z62 => hQ 3 (by unfold lvo; rw [if_neg (by omega), if_neg (by omega), if_neg (by omega)]; decide)⟩⟩⟩⟩⟩⟩⟩⟩⟩⟩⟩⟩⟩⟩⟩⟩⟩⟩⟩⟩⟩
theorem lvo_o {c : Int} {m : Nat} (h : lvo c = m) (hm : m < 3) : c = 60 ∨ c = 61 ∨ c = 62 ∨ c = 43 ∨ c = 45 ∨ c = 42 ∨ c = 47 := by
  unfold lvo at h
  by_cases a : c = 60 ∨ c = 61 ∨ c = 62
  · omega
  · rw [if_neg a] at h
    by_cases b : c = 43 ∨ c = 45
    · omega
    · rw [if_neg b] at h
      by_cases d : c = 42 ∨ c = 47
      · omega
      · rw [if_neg d] at h
        omega
/-- what reading a sum comes to; N nodes stood before, p is where it began -/
def XO (w w' : MW) (f : Int → Int) (n : Int) (nm : List Nm) (op N : Nat) (p : Int) (r : XR) (y : Int32) : Prop := KNd N w w' ∧ FR lexp w w' ∧ ((r.1 = true ∧ XS w' f n nm op r.2.2.2.1 r.2.2.2.2 ∧ y.toInt = r.2.2.1 ∧ 0 ≤ r.2.2.1 ∧ p ≤ r.2.2.2.1 ∧ N < r.2.2.2.2.length) ∨ (r.1 = false ∧ XW w' f n nm op r.2.1 N))
def CFa (f : Int → Int) (n : Int) (nm : List Nm) (d : Nat) : Prop := ∀ (op : Nat) (p : Int) (ns : List Nod) (w : MW) (Q : Int32 → MW → Prop), op ≤ 20 → 4 * (21 - op) ≤ d → XS w f n nm op p ns → (∀ (y : Int32) (w' : MW) (r : XR), (∃ k, XP f n (lkn nm) k 3 op 0 p ns r) → XO w w' f n nm op ns.length p r y → Q y w') → pn_Rd_readFactor d w Q
def CLv (f : Int → Int) (n : Int) (nm : List Nm) (d : Nat) : Prop := ∀ (m op : Nat) (p : Int) (ns : List Nod) (w : MW) (Q : Int32 → MW → Prop), m < 3 → op ≤ 20 → 4 * (21 - op) + (3 - m) ≤ d → XS w f n nm op p ns → (∀ (y : Int32) (w' : MW) (r : XR), (∃ k, XP f n (lkn nm) k m op 0 p ns r) → XO w w' f n nm op ns.length p r y → Q y w') → pn_Rd_readLevel d w (nI m) Q
theorem w_mono {w : MW} {f : Int → Int} {n : Int} {nm : List Nm} {op N M : Nat} {e : Int} (h : XW w f n nm op e N) (hm : M ≤ N) : XW w f n nm op e M := ⟨h.1, h.2.1, h.2.2.1, by have := h.2.2.2.1; omega, by have := h.2.2.2.2; omega⟩
/-- an operand: factor or level, in a good state or a wrong one -/
theorem opd {f : Int → Int} {n : Int} {nm : List Nm} {m op d : Nat} (hm : m < 3) (ho : op ≤ 20) (hF : CFa f n nm d) (hL : CLv f n nm d) (hd : 4 * (21 - op) + (2 - m) ≤ d) {p : Int} {ns : List Nod} {w : MW} {Q : Int32 → MW → Prop} (h : XS w f n nm op p ns) (hQ : ∀ (y : Int32) (w' : MW) (r : XR), (∃ k, XP f n (lkn nm) k (m + 1) op 0 p ns r) → XO w w' f n nm op ns.length p r y → Q y w') : (3 ≤ (nI (m + 1)).toInt → pn_Rd_readFactor d w Q) ∧ (¬ 3 ≤ (nI (m + 1)).toInt → pn_Rd_readLevel d w (nI (m + 1)) Q) := by
  have tm : (nI (m + 1)).toInt = ((m + 1 : Nat) : Int) := nI_toInt (by omega)
  refine ⟨fun z => hF op p ns w Q ho (by omega) h (fun y w' r hk hx => hQ y w' r (by rw [show m + 1 = 3 by omega]; exact hk) hx), fun z => hL (m + 1) op p ns w Q (by omega) ho (by omega) h hQ⟩
theorem opw {f : Int → Int} {n : Int} {nm : List Nm} {m op d N : Nat} {e : Int} (hm : m < 3) (hd : 4 ≤ d) {w : MW} {Q : Int32 → MW → Prop} (h : XW w f n nm op e N) (hQ : ∀ y : Int32, Q y w) : (3 ≤ (nI (m + 1)).toInt → pn_Rd_readFactor d w Q) ∧ (¬ 3 ≤ (nI (m + 1)).toInt → pn_Rd_readLevel d w (nI (m + 1)) Q) := by
  have tm : (nI (m + 1)).toInt = ((m + 1 : Nat) : Int) := nI_toInt (by omega)
  refine ⟨fun z => ?_, fun z => ?_⟩
  · rw [show d = (d - 1) + 1 by omega]
    exact w_fac h hQ
  · rw [show d = (d - (2 - (m + 1)) - 2) + (2 - (m + 1)) + 2 by omega]
    exact w_lev h (2 - (m + 1)) (m + 1) _ Q (by omega) hQ
theorem lo_38 {f : Int → Int} {n : Int} {nm : List Nm} {m op d N : Nat} {x4 : Int32} (hm : m < 3) (ho : op ≤ 20) (hF : CFa f n nm d) (hL : CLv f n nm d) (hd : 4 * (21 - op) + (2 - m) ≤ d) (hx : (m = 0 ∧ x4.toInt = 1) ∨ (¬ m = 0 ∧ x4.toInt = 4000)) (K : Nat) : ∀ (j : Nat) (p : Int) (ns : List Nod) (u : Int32) (w : MW) (Q : Int32 → MW → Prop), XS w f n nm op p ns → 0 ≤ u.toInt → (j : Int) ≤ p → (m = 0 → j = 0) → N < ns.length → (∀ (y : Int32) (w' : MW) (r : XR), (∃ k, XP f n (lkn nm) k (m + 4) op u.toInt p ns r) → XO w w' f n nm op N p r y → Q y w') → 4001 - j < K → q_Rd_readLevel_38 (pn_Rd_readFactor d) (pn_Rd_readLevel d) (nI m) (nI (m + 1)) x4 (fun (e38_3_14 : Int32) (e38_5_14 : Int32) (w14 : MW) => ((¬ (nI m).toInt = 0 → (Q e38_3_14 w14)) ∧ (¬ (¬ (nI m).toInt = 0) → ((¬ e38_5_14.toInt = 0 → (Q e38_3_14 w14)) ∧ (¬ (¬ e38_5_14.toInt = 0) → (p_Rd_fail w14  (fun w17 => (Q e38_3_14 w17)))))))) Q K u (nI j) w := by
  induction K with
  | zero => intros; omega
  | succ K ih =>
    intro j p ns u w Q h u0 hj hj0 hN hQ hK
    have tm : (nI m).toInt = (m : Int) := nI_toInt (by omega)
    have n4 := bd_1_2 h.1.1
    have en := h.1.2.2.2.2.2.1
    have pn := h.2.2.2.2.2.2.2
    have hf := xb_f h.1
    have wn := wrd_n (f := f) (n := n) (p := p) hf h.2.2.2.2.2.2.1 pn
    have hw := h.2.2.2.1
    have tj : (nI j).toInt = (j : Int) := nI_toInt (by omega)
    have K0 : KNd N w w := fun _ _ _ _ => ⟨rfl, rfl⟩
    have go : ∀ (r : XR), xlo f n (XP f n (lkn nm) 0) m op u.toInt p ns r → ∃ k, XP f n (lkn nm) k (m + 4) op u.toInt p ns r := fun r hr => ⟨1, by
      rw [XP_u, if_neg (by omega), if_neg (by omega), show m + 4 - 4 = m by omega]
      exact hr⟩
    have gk : ∀ (k : Nat) (r : XR), xlo f n (XP f n (lkn nm) k) m op u.toInt p ns r → ∃ k, XP f n (lkn nm) k (m + 4) op u.toInt p ns r := fun k r hr => ⟨k + 1, by
      rw [XP_u, if_neg (by omega), if_neg (by omega), show m + 4 - 4 = m by omega]
      exact hr⟩
    have stay : ¬ lvo (wrd f n p).1 = m → ¬ m = 0 → Q u w := fun ne m0 => by
      refine hQ u w (true, 0, u.toInt, p, ns) (go _ ?_) ⟨K0, FR.refl _ w, Or.inl ⟨rfl, h, rfl, u0, Int.le_refl _, hN⟩⟩
      unfold xlo
      rw [if_neg ne, if_neg m0]
    -- a wrong state ends the loop
    have wend : ∀ (e : Int) (w' : MW) (r : XR), r.1 = false → r.2.1 = e → (∃ k, XP f n (lkn nm) k (m + 4) op u.toInt p ns r) → KNd N w w' → FR lexp w w' → XW w' f n nm op e N → ∀ (y x : Int32), q_Rd_readLevel_38 (pn_Rd_readFactor d) (pn_Rd_readLevel d) (nI m) (nI (m + 1)) x4 (fun (e38_3_14 : Int32) (e38_5_14 : Int32) (w14 : MW) => ((¬ (nI m).toInt = 0 → (Q e38_3_14 w14)) ∧ (¬ (¬ (nI m).toInt = 0) → ((¬ e38_5_14.toInt = 0 → (Q e38_3_14 w14)) ∧ (¬ (¬ e38_5_14.toInt = 0) → (p_Rd_fail w14  (fun w17 => (Q e38_3_14 w17)))))))) Q K y x w' := fun e w' r r1 r2 hk kn fr xw y x => by
      have q : ∀ y : Int32, Q y w' := fun y => hQ y w' r hk ⟨kn, fr, Or.inr ⟨r1, by rw [r2]; exact xw⟩⟩
      exact w_38 xw ⟨fun _ => q _, fun _ => ⟨fun _ => q _, fun _ => fl_w xw (q _)⟩⟩ K (by omega)
    rw [q_Rd_readLevel_38.eq_2]
    refine ⟨fun z => ?_, fun z => ⟨fun q => by omega, fun _ => lv_x (fun r6 e6 => ⟨fun ne => ?_, fun eq => ?_⟩)⟩⟩
    · rcases hx with ⟨m0, ex⟩ | ⟨m0, ex⟩
      · have := hj0 m0
        omega
      · have p4 : n ≤ p := by omega
        have e32 : (wrd f n p).1 = 32 := by
          have e : wrd f n p = wrq f n (skp f n 4001 p) := rfl
          have kb := skp_b f n 4001 p
          rw [e]
          unfold wrq
          rw [if_pos (by omega)]
        refine ⟨fun _ => stay (by rw [e32]; show ¬ 3 = m; omega) m0, fun q => absurd (by omega) q⟩
    · rw [h.2.1.1] at e6
      have ne' : ¬ lvo (wrd f n p).1 = m := fun c => ne (by rw [e6, c, tm])
      refine ⟨fun q => stay ne' (by omega), fun q => ⟨fun q2 => ?_, fun q2 => fl_g h (fun w' F' X' => ?_)⟩⟩
      · have := hj0 (by omega)
        omega
      · refine hQ u w' (xer (wrd f n p).2.1) (go _ ?_) ⟨KNd.fr F' rfl, FR.tr (FR.refl _ w) F' rfl, Or.inr ⟨rfl, w_mono X' (by omega)⟩⟩
        unfold xlo
        rw [if_neg ne', if_pos (by omega)]
    · rw [h.2.1.1] at e6
      have lv : lvo (wrd f n p).1 = m := by
        have := Classical.not_not.mp eq
        rw [e6, tm] at this
        omega
      have opc := lvo_o lv hm
      have c3 : (w.1 87 3).toInt = (wrd f n p).1 := h.2.1.1
      have c4 : (w.1 87 4).toInt = (wrd f n p).2.1 := h.2.1.2.1
      refine nx_g h.1 hw h.2.1.2.2.1 h.2.2.2.2.1 h.2.2.2.2.2.1 (fun ok w8 F8 X8 => ?_) (fun bad w8 F8 X8 => ?_)
      · have G8 : FR lexp w w8 := FR.tr (FR.refl _ w) F8 rfl
        have K8 : KNd N w w8 := KNd.fr F8 rfl
        have fin : ∀ (y : Int32) (w10 : MW) (r : XR), (∃ k, XP f n (lkn nm) k (m + 1) op 0 (wrd f n p).2.2.1 ns r) → XO w8 w10 f n nm op ns.length (wrd f n p).2.2.1 r y → p_Rd_join w10 (w.1 87 3) (w.1 87 4) u y (fun r11 w11 => (q_Rd_readLevel_38 (pn_Rd_readFactor d) (pn_Rd_readLevel d) (nI m) (nI (m + 1)) x4 (fun (e38_3_14 : Int32) (e38_5_14 : Int32) (w14 : MW) => ((¬ (nI m).toInt = 0 → (Q e38_3_14 w14)) ∧ (¬ (¬ (nI m).toInt = 0) → ((¬ e38_5_14.toInt = 0 → (Q e38_3_14 w14)) ∧ (¬ (¬ e38_5_14.toInt = 0) → (p_Rd_fail w14  (fun w17 => (Q e38_3_14 w17)))))))) Q K r11 ((nI j) + (1 : Int32)) w11)) := fun y w10 r hk hx2 => by
          obtain ⟨k, hk⟩ := hk
          obtain ⟨kn, fr, st⟩ := hx2
          have kn0 : KNd N w w10 := K8.tr (kn.mono (by omega))
          have fr0 : FR lexp w w10 := G8.tr fr rfl
          rcases st with ⟨r1, X10, ey, y0, pp, nn⟩ | ⟨r1, X10⟩
          · have hw10 := X10.2.2.2.1
            refine jn_g hw10 c3 rfl ey u0 y0 (fun neg => ?_) (fun pos x ex => ?_)
            · have F1 : FR [(87, some 9)] w10 (sI w10 87 9 (w.1 87 4)) := FR.I (FR.refl _ w10) rfl
              have XW1 : XW (sI w10 87 9 (w.1 87 4)) f n nm op (wrd f n p).2.1 N := ⟨xb_fr X10.1 F1 (wbd_87_9 X10.1.1) (by rw [(F1 87 2 rfl).1]; exact X10.1.2.2.2.2.2.2.2.2) rfl, by rw [sI_same]; exact c4, wn.2.2.1, by rw [(F1 108 1 rfl).1, X10.2.2.2.2.1.1]; omega, by have := X10.2.2.2.2.2.1; omega⟩
              refine wend _ _ (xer (wrd f n p).2.1) rfl rfl (gk k _ ?_) (kn0.tr (KNd.fr F1 rfl)) (fr0.tr F1 rfl) XW1 _ _
              unfold xlo xgo
              rw [if_pos lv, if_neg ok]
              exact ⟨r, hk, by rw [if_pos r1, if_pos neg]⟩
            · refine mk_g (d := ((wrd f n p).1, 0, 0, [ns.length - 1, r.2.2.2.2.length - 1])) X10 c3 i_0 (by show ¬ (wrd f n p).1 = 31; omega) (fun n300 w11 F11 K11 X11 _ _ _ _ _ _ => ?_) (fun n300 w11 F11 K11 X11 => ?_)
              · have kn1 : KNd N w w11 := kn0.tr (K11.mono (by omega))
                have fr1 : FR lexp w w11 := fr0.tr F11 rfl
                rw [nI_1]
                by_cases m0 : m = 0
                · have j0 := hj0 m0
                  rcases hx with ⟨_, ex4⟩ | ⟨q, _⟩
                  · have t1 : (nI (j + 1)).toInt = 1 := by rw [j0]; decide
                    have res : Q x w11 := by
                      refine hQ x w11 (true, 0, xun (wrd f n p).1 u.toInt r.2.2.1, r.2.2.2.1, r.2.2.2.2 ++ [((wrd f n p).1, 0, 0, [ns.length - 1, r.2.2.2.2.length - 1])]) (gk k _ ?_) ⟨kn1, fr1, Or.inl ⟨rfl, X11, ex, ?_, ?_, ?_⟩⟩
                      · unfold xlo xgo
                        rw [if_pos lv, if_neg ok]
                        exact ⟨r, hk, by rw [if_pos r1, if_neg pos, if_neg n300, if_pos m0]⟩
                      · show 0 ≤ xun (wrd f n p).1 u.toInt r.2.2.1
                        omega
                      · show p ≤ r.2.2.2.1
                        omega
                      · show N < (r.2.2.2.2 ++ [((wrd f n p).1, 0, 0, [ns.length - 1, r.2.2.2.2.length - 1])]).length
                        rw [List.length_append]
                        omega
                    obtain ⟨K', eK⟩ : ∃ K', K = K' + 1 := ⟨K - 1, by omega⟩
                    rw [eK, q_Rd_readLevel_38.eq_2]
                    refine ⟨fun _ => ⟨fun _ => res, fun _ => ⟨fun _ => res, fun q => absurd (by rw [t1]; decide) q⟩⟩, fun q => absurd (by rw [ex4, t1]; decide) q⟩
                  · exact absurd m0 q
                · refine ih (j + 1) r.2.2.2.1 _ x w11 Q X11 (by omega) ?_ (fun z => absurd z m0) (by rw [List.length_append]; omega) (fun y2 w' r' hk' hx' => ?_) (by omega)
                  · have gt : p + 1 ≤ (wrd f n p).2.2.1 := by
                      have e : wrd f n p = wrq f n (skp f n 4001 p) := rfl
                      have kb := skp_b f n 4001 p
                      rw [e] at opc ⊢
                      generalize skp f n 4001 p = q at *
                      unfold wrq at opc ⊢
                      by_cases c1 : n ≤ q
                      · rw [if_pos c1] at opc
                        have o : (32 : Int) = 60 ∨ (32 : Int) = 61 ∨ (32 : Int) = 62 ∨ (32 : Int) = 43 ∨ (32 : Int) = 45 ∨ (32 : Int) = 42 ∨ (32 : Int) = 47 := opc
                        omega
                      · rw [if_neg c1] at opc ⊢
                        by_cases c2 : lt1 (f q) = true
                        · rw [if_pos c2] at opc
                          unfold wrL at opc
                          have kb2 := kwd_b (lts f 12 q)
                          by_cases c3 : bd1 (f (q + ((lts f 12 q).length : Int))) = true
                          · rw [if_pos c3] at opc
                            have o : (33 : Int) = 60 ∨ (33 : Int) = 61 ∨ (33 : Int) = 62 ∨ (33 : Int) = 43 ∨ (33 : Int) = 45 ∨ (33 : Int) = 42 ∨ (33 : Int) = 47 := opc
                            omega
                          · rw [if_neg c3] at opc
                            have o : kwd (lts f 12 q) = 60 ∨ kwd (lts f 12 q) = 61 ∨ kwd (lts f 12 q) = 62 ∨ kwd (lts f 12 q) = 43 ∨ kwd (lts f 12 q) = 45 ∨ kwd (lts f 12 q) = 42 ∨ kwd (lts f 12 q) = 47 := opc
                            omega
                        · rw [if_neg c2] at opc ⊢
                          by_cases c4' : dg1 (f q) = true
                          · rw [if_pos c4'] at opc
                            unfold wrN at opc
                            by_cases c5 : bd1 (f (dgn f q)) = true
                            · rw [if_pos c5] at opc
                              have o : (33 : Int) = 60 ∨ (33 : Int) = 61 ∨ (33 : Int) = 62 ∨ (33 : Int) = 43 ∨ (33 : Int) = 45 ∨ (33 : Int) = 42 ∨ (33 : Int) = 47 := opc
                              omega
                            · rw [if_neg c5] at opc
                              have o : (31 : Int) = 60 ∨ (31 : Int) = 61 ∨ (31 : Int) = 62 ∨ (31 : Int) = 43 ∨ (31 : Int) = 45 ∨ (31 : Int) = 42 ∨ (31 : Int) = 47 := opc
                              omega
                          · rw [if_neg c4']
                            by_cases c6 : mk1 (f q) = true
                            · rw [if_pos c6]
                              show p + 1 ≤ q + 1
                              omega
                            · rw [if_neg c6]
                              show p + 1 ≤ q + 1
                              omega
                    omega
                  · obtain ⟨k', hk'⟩ := hk'
                    obtain ⟨kn', fr', st'⟩ := hx'
                    rw [ex] at hk'
                    refine hQ y2 w' r' (gk (max k k') r' ?_) ⟨kn1.tr kn', fr1.tr fr' rfl, ?_⟩
                    · unfold xlo xgo
                      rw [if_pos lv, if_neg ok]
                      refine ⟨r, XP_le (Nat.le_max_left k k') _ _ _ _ _ _ hk, ?_⟩
                      rw [if_pos r1, if_neg pos, if_neg n300, if_neg m0]
                      exact XP_le (Nat.le_max_right k k') _ _ _ _ _ _ hk'
                    · rcases st' with ⟨a1, a2, a3, a4, a5, a6⟩ | a
                      · exact Or.inl ⟨a1, a2, a3, a4, by omega, a6⟩
                      · exact Or.inr a
              · refine wend _ w11 (xer (wrd f n r.2.2.2.1).2.1) rfl rfl (gk k _ ?_) (kn0.tr (K11.mono (by omega))) (fr0.tr F11 rfl) (w_mono X11 (by omega)) _ _
                unfold xlo xgo
                rw [if_pos lv, if_neg ok]
                exact ⟨r, hk, by rw [if_pos r1, if_neg pos, if_pos n300]⟩
          · refine w_join X10 (wend _ w10 r r1 rfl (gk k _ ?_) kn0 fr0 (w_mono X10 (by omega)) _ _)
            unfold xlo xgo
            rw [if_pos lv, if_neg ok]
            exact ⟨r, hk, by rw [if_neg (nt r1)]⟩
        have o := opd (Q := fun y w10 => p_Rd_join w10 (w.1 87 3) (w.1 87 4) u y (fun r11 w11 => (q_Rd_readLevel_38 (pn_Rd_readFactor d) (pn_Rd_readLevel d) (nI m) (nI (m + 1)) x4 (fun (e38_3_14 : Int32) (e38_5_14 : Int32) (w14 : MW) => ((¬ (nI m).toInt = 0 → (Q e38_3_14 w14)) ∧ (¬ (¬ (nI m).toInt = 0) → ((¬ e38_5_14.toInt = 0 → (Q e38_3_14 w14)) ∧ (¬ (¬ e38_5_14.toInt = 0) → (p_Rd_fail w14  (fun w17 => (Q e38_3_14 w17)))))))) Q K r11 ((nI j) + (1 : Int32)) w11))) hm ho hF hL hd X8 fin
        exact o
      · have G8 : FR lexp w w8 := FR.tr (FR.refl _ w) F8 rfl
        have XN := w_mono X8 (show N ≤ ns.length by omega)
        have hk : ∃ k, XP f n (lkn nm) k (m + 4) op u.toInt p ns (xer (wrd f n (wrd f n p).2.2.1).2.1) := go _ (by
          unfold xlo xgo
          rw [if_pos lv, if_pos bad])
        exact opw hm (by omega) XN (fun y => w_join XN (wend _ w8 _ rfl rfl hk (KNd.fr F8 rfl) G8 XN _ _))
/-! the class reads factors -/
theorem vlu_b : ∀ (l : List Int) (a : Int), 0 ≤ a → (∀ c ∈ l, 48 ≤ c ∧ c ≤ 57) → 0 ≤ vlu a l ∧ vlu a l < (a + 1) * 10 ^ l.length := by
  intro l
  induction l with
  | nil =>
    intro a a0 _
    refine ⟨a0, ?_⟩
    show a < (a + 1) * 10 ^ 0
    rw [Int.pow_zero]
    omega
  | cons c l ih =>
    intro a a0 h
    have b := h c List.mem_cons_self
    have t := ih (a * 10 + c - 48) (by omega) (fun d hd => h d (List.mem_cons_of_mem _ hd))
    refine ⟨t.1, ?_⟩
    have pp : (0 : Int) ≤ 10 ^ l.length := Int.pow_nonneg (by decide)
    have m := Int.mul_le_mul_of_nonneg_right (show a * 10 + c - 48 + 1 ≤ (a + 1) * 10 by omega) pp
    have e : (a + 1) * 10 ^ (c :: l).length = (a + 1) * 10 * 10 ^ l.length := by
      rw [List.length_cons, Int.pow_succ, Int.mul_assoc, Int.mul_comm (10 ^ l.length) 10]
    rw [e]
    exact Int.lt_of_lt_of_le t.2 m
theorem fra_b {a : Int} {l : List Int} (h : l.length ≤ 3) (hd : ∀ c ∈ l, 48 ≤ c ∧ c ≤ 57) : a ≤ fra 100 a l ∧ fra 100 a l ≤ a + 999 := by
  match l, h, hd with
  | [], _, _ =>
    show a ≤ a ∧ a ≤ a + 999
    omega
  | [c], _, hd =>
    have c1 := hd c List.mem_cons_self
    show a ≤ a + 100 * (c - 48) ∧ a + 100 * (c - 48) ≤ a + 999
    omega
  | [c, d], _, hd =>
    have c1 := hd c List.mem_cons_self
    have d1 := hd d (List.mem_cons_of_mem _ List.mem_cons_self)
    show a ≤ a + 100 * (c - 48) + (100 / 10) * (d - 48) ∧ a + 100 * (c - 48) + (100 / 10) * (d - 48) ≤ a + 999
    omega
  | [c, d, e], _, hd =>
    have c1 := hd c List.mem_cons_self
    have d1 := hd d (List.mem_cons_of_mem _ List.mem_cons_self)
    have e1 := hd e (List.mem_cons_of_mem _ (List.mem_cons_of_mem _ List.mem_cons_self))
    show a ≤ a + 100 * (c - 48) + (100 / 10) * (d - 48) + (100 / 10 / 10) * (e - 48) ∧ a + 100 * (c - 48) + (100 / 10) * (d - 48) + (100 / 10 / 10) * (e - 48) ≤ a + 999
    omega
  | _ :: _ :: _ :: _ :: _, h, _ => exact absurd h (by simp only [List.length_cons]; omega)
theorem dgz_b (f : Int → Int) (q : Int) : 0 ≤ dgz f q ∧ dgz f q ≤ 999999999999 := by
  have a := dgl_m f 9 q
  have v := vlu_b (dgl f 9 q) 0 (Int.le_refl _) a.2
  have p := p10q (dgl f 9 q).length (by omega)
  have v2 : vlu 0 (dgl f 9 q) < 1000000000 := by
    have e : ((0 : Int) + 1) * 10 ^ (dgl f 9 q).length = 10 ^ (dgl f 9 q).length := by rw [Int.zero_add, Int.one_mul]
    rw [e] at v
    omega
  have fl : (dgf f q).length ≤ 3 ∧ ∀ c ∈ dgf f q, 48 ≤ c ∧ c ≤ 57 := by
    unfold dgf
    by_cases c : dgp f q = true
    · rw [if_pos c]
      exact dgl_m f 3 _
    · rw [if_neg c]
      exact ⟨Nat.zero_le _, fun c h => (by cases h)⟩
  have t := fra_b (a := vlu 0 (dgl f 9 q) * 1000) fl.1 fl.2
  have e : dgz f q = fra 100 (vlu 0 (dgl f 9 q) * 1000) (dgf f q) := rfl
  have v0 := v.1
  omega
theorem wrd_v {f : Int → Int} {n p : Int} : 0 ≤ (wrd f n p).2.2.2.2.1 ∧ (wrd f n p).2.2.2.2.1 ≤ 999999999999 := by
  have e : wrd f n p = wrq f n (skp f n 4001 p) := rfl
  rw [e]
  generalize skp f n 4001 p = q
  have z : (0 : Int) ≤ 0 ∧ (0 : Int) ≤ 999999999999 := by decide
  unfold wrq
  by_cases c : n ≤ q
  · rw [if_pos c]
    exact z
  · rw [if_neg c]
    by_cases d : lt1 (f q) = true
    · rw [if_pos d]
      unfold wrL
      by_cases b : bd1 (f (q + ((lts f 12 q).length : Int))) = true
      · rw [if_pos b]
        exact z
      · rw [if_neg b]
        exact z
    · rw [if_neg d]
      by_cases e : dg1 (f q) = true
      · rw [if_pos e]
        unfold wrN
        by_cases b : bd1 (f (dgn f q)) = true
        · rw [if_pos b]
          exact dgz_b f q
        · rw [if_neg b]
          exact dgz_b f q
      · rw [if_neg e]
        by_cases g : mk1 (f q) = true
        · rw [if_pos g]
          exact z
        · rw [if_neg g]
          exact z
theorem lev_c {f : Int → Int} {n : Int} {nm : List Nm} {d : Nat} (hF : CFa f n nm d) (hL : CLv f n nm d) : CLv f n nm (d + 1) := by
  intro m op p ns w Q hm ho hd h hQ
  have tm : (nI m).toInt = (m : Int) := nI_toInt (by omega)
  rw [pe_Rd_readLevel]
  refine Eq.mpr (pb_Rd_readLevel.eq_1 _ _ _ _ _) ?_
  rw [nI_1]
  have mk : ∀ (k : Nat) (r : XR), xlv (XP f n (lkn nm) k) m op p ns r → ∃ k, XP f n (lkn nm) k m op 0 p ns r := fun k r hr => ⟨k + 1, by
    rw [XP_u, if_neg (by omega), if_pos hm]
    exact hr⟩
  have main : ∀ (y : Int32) (w' : MW) (r : XR), (∃ k, XP f n (lkn nm) k (m + 1) op 0 p ns r) → XO w w' f n nm op ns.length p r y → ∀ x4 : Int32, ((m = 0 ∧ x4.toInt = 1) ∨ (¬ m = 0 ∧ x4.toInt = 4000)) → q_Rd_readLevel_33 (pn_Rd_readFactor d) (pn_Rd_readLevel d) (nI m) (nI (m + 1)) y x4 w' Q := fun y w' r hk hx x4 hx4 => by
    obtain ⟨k, hk⟩ := hk
    obtain ⟨kn, fr, st⟩ := hx
    rcases st with ⟨r1, X', ey, y0, pp, nn⟩ | ⟨r1, X'⟩
    · refine Eq.mpr (q_Rd_readLevel_33.eq_1 _ _ _ _ _ _ _ _) (lo_38 (N := ns.length) hm ho hF hL (by omega) hx4 FU 0 r.2.2.2.1 r.2.2.2.2 y w' Q X' (by omega) (by have := X'.2.2.2.2.2.2.1; omega) (fun _ => rfl) nn (fun y2 w2 r2 hk2 hx2 => ?_) (fu_lt (by decide)))
      obtain ⟨k2, hk2⟩ := hk2
      obtain ⟨kn2, fr2, st2⟩ := hx2
      rw [ey] at hk2
      refine hQ y2 w2 r2 (mk (max k k2) r2 ⟨r, XP_le (Nat.le_max_left k k2) _ _ _ _ _ _ hk, by rw [if_pos r1]; exact XP_le (Nat.le_max_right k k2) _ _ _ _ _ _ hk2⟩) ⟨kn.tr kn2, fr.tr fr2 rfl, ?_⟩
      rcases st2 with ⟨a1, a2, a3, a4, a5, a6⟩ | a
      · exact Or.inl ⟨a1, a2, a3, a4, by omega, a6⟩
      · exact Or.inr a
    · exact w_33 X' (fun y2 => hQ y2 w' r (mk k r ⟨r, hk, by rw [if_neg (nt r1)]⟩) ⟨kn, fr, Or.inr ⟨r1, X'⟩⟩)
  exact opd (Q := fun r2 w2 => ((¬ (nI m).toInt = 0 → (q_Rd_readLevel_33 (pn_Rd_readFactor d) (pn_Rd_readLevel d) (nI m) (nI (m + 1)) r2 4000 w2 Q)) ∧ (¬ (¬ (nI m).toInt = 0) → (q_Rd_readLevel_33 (pn_Rd_readFactor d) (pn_Rd_readLevel d) (nI m) (nI (m + 1)) r2 1 w2 Q)))) hm ho hF hL (by omega) h (fun y w' r hk hx => ⟨fun z => main y w' r hk hx 4000 (Or.inr ⟨by omega, by decide⟩), fun z => main y w' r hk hx 1 (Or.inl ⟨by omega, by decide⟩)⟩)
/-- a number's node -/
theorem mk_n {w : MW} {f : Int → Int} {n : Int} {nm : List Nm} {op : Nat} {p V : Int} {ns : List Nod} {v : Int64} {Q : Int32 → MW → Prop} (h : XS w f n nm op p ns) (hv : v.toInt = V) (h1 : ¬ ns.length = 300 → ∀ w', FR lexp w w' → KNd ns.length w w' → XS w' f n nm op p (ns ++ [(31, 0, V, [])]) → Q (nI ns.length) w') (h0 : ns.length = 300 → ∀ w', FR lexp w w' → KNd ns.length w w' → XW w' f n nm op (wrd f n p).2.1 ns.length → Q (nI ns.length) w') : p_Rd_makeNode w 31 0 (fun r27 w27 => ((0 ≤ r27.toInt ∧ r27.toInt < 301) ∧ (Q r27 (sJ w27 115 r27.toInt.toNat v)))) := by
  have hw := h.2.2.2.1
  have n3 := h.2.2.2.2.2.1
  have tl : (nI ns.length).toInt = (ns.length : Int) := nI_toInt (by omega)
  have tn : (nI ns.length).toInt.toNat = ns.length := by omega
  refine mk_x h.1.1 h.1.2.2.1 h.2.2.2.2.1.1 n3 (fun w' B' F' K' v9 v10 v11 v12 v13 v14 v88 v89 v1 vv => ⟨by omega, ?_⟩)
  rw [tn]
  have F2 : FR [(115, none)] w' (sJ w' 115 ns.length v) := FR.J (FR.refl _ w') rfl
  have G2 : FR lexp w (sJ w' 115 ns.length v) := FR.J (FR.tr (FR.refl _ w) F' rfl) rfl
  have K2 : KNd ns.length w (sJ w' 115 ns.length v) := fun k j hk hj => ⟨(K' k j hk hj).1, by
    rw [sJ_at, if_neg (fun z => by omega)]
    exact (K' k j hk hj).2⟩
  have X' : XB (sJ w' 115 ns.length v) f n nm op := xb_fr (xb_fr h.1 F' B' (by rw [(F' 87 2 rfl).1]; exact h.1.2.2.2.2.2.2.2.2) rfl) F2 B' (by rw [(F2 87 2 rfl).1, (F' 87 2 rfl).1]; exact h.1.2.2.2.2.2.2.2.2) rfl
  by_cases c : ns.length = 300
  · rw [if_pos ⟨c, by omega⟩] at vv
    have wn := wrd_n (f := f) (n := n) (p := p) (xb_f h.1) h.2.2.2.2.2.2.1 h.2.2.2.2.2.2.2
    refine h0 c _ G2 K2 ⟨X', ?_, wn.2.2.1, ?_, n3⟩
    · show (w'.1 87 9).toInt = _
      rw [vv]
      exact h.2.1.2.1
    · show _ ≤ (w'.1 108 1).toInt
      omega
  · rw [if_neg (fun z => c z.1)] at vv
    refine h1 c _ G2 K2 ⟨X', tkc_fr (tkc_fr h.2.1 F' rfl) F2 rfl, h.2.2.1, ?_, pnc_s h.2.2.2.2.1 K2 v1 ?_ ?_ (fun _ => ?_), by rw [List.length_append, List.length_singleton]; omega, h.2.2.2.2.2.2.1, h.2.2.2.2.2.2.2⟩
    · show (w'.1 87 9).toInt = _
      rw [vv]
      exact hw
    · show (w'.1 109 ns.length).toInt = _
      rw [v9]
      show (31 : Int32).toInt = 31
      decide
    · show (w'.1 110 ns.length).toInt = _
      rw [v10]
      exact i_0
    · rw [sJ_same]
      exact hv
theorem mk_nw {w : MW} {f : Int → Int} {n : Int} {nm : List Nm} {op N : Nat} {e : Int} {v : Int64} {Q : Int32 → MW → Prop} (h : XW w f n nm op e N) (hQ : ∀ (r : Int32) (w' : MW), FR lexp w w' → KNd N w w' → XW w' f n nm op e N → Q r w') : p_Rd_makeNode w 31 0 (fun r27 w27 => ((0 ≤ r27.toInt ∧ r27.toInt < 301) ∧ (Q r27 (sJ w27 115 r27.toInt.toNat v)))) := by
  refine mk_w h (fun r w' F' K' r0 r3 rN X' => ⟨⟨r0, r3⟩, ?_⟩)
  have F2 : FR [(115, none)] w' (sJ w' 115 r.toInt.toNat v) := FR.J (FR.refl _ w') rfl
  refine hQ r _ (FR.J (FR.tr (FR.refl _ w) F' rfl) rfl) (fun k j hk hj => ⟨(K' k j hk hj).1, ?_⟩) ⟨xb_fr X'.1 F2 X'.1.1 (by rw [(F2 87 2 rfl).1]; exact X'.1.2.2.2.2.2.2.2.2) rfl, X'.2.1, X'.2.2.1, X'.2.2.2.1, X'.2.2.2.2⟩
  rw [sJ_at, if_neg (fun z => by omega)]
  exact (K' k j hk hj).2
/-! the class reads factors: the whole -/
/-- behind a bracket or a minus, something being wrong -/
theorem w_284 {rF : MW → (Int32 → MW → Prop) → Prop} {rL : MW → Int32 → (Int32 → MW → Prop) → Prop} {w : MW} {f : Int → Int} {n : Int} {nm : List Nm} {op N : Nat} {e : Int} {x y : Int32} {Q : Int32 → MW → Prop} (h : XW w f n nm (op + 1) e N) (ho : op ≤ 20) (hQ : ∀ w', FR lexp w w' → KNd N w w' → XW w' f n nm op e N → Q y w') : q_Rd_readFactor_284 rF rL x y w Q := by
  have fin : ∀ w1, FR lexp w w1 → KNd N w w1 → XW w1 f n nm (op + 1) e N → Q y (sI w1 87 8 ((w1.1 87 8) - (1 : Int32))) := fun w1 F1 K1 X1 => by
    have s := ti_sub2 X1.1.2.2.2.2.2.2.2.1 i_1 (by omega) (by omega)
    have F2 : FR [(87, some 8)] w1 (sI w1 87 8 ((w1.1 87 8) - (1 : Int32))) := FR.I (FR.refl _ w1) rfl
    exact hQ _ (F1.tr F2 rfl) (K1.tr (KNd.fr F2 rfl)) (xw_op X1 (by rw [s]; omega) ho)
  have K0 : KNd N w w := fun _ _ _ _ => ⟨rfl, rfl⟩
  exact Eq.mpr (q_Rd_readFactor_284.eq_1 _ _ _ _ _ _) ⟨fun _ => ⟨fun _ => fl_w h (fin w (FR.refl _ w) K0 h), fun _ => nx_w h (fun w' F' X' => fin w' (FR.tr (FR.refl _ w) F' rfl) (KNd.fr F' rfl) X')⟩, fun _ => mk_w h (fun r w' F' K' _ _ _ X' => fin w' (FR.tr (FR.refl _ w) F' rfl) K' X')⟩
theorem w_201 {rF : MW → (Int32 → MW → Prop) → Prop} {rL : MW → Int32 → (Int32 → MW → Prop) → Prop} {w : MW} {f : Int → Int} {n : Int} {nm : List Nm} {op N : Nat} {e : Int} {v : Int64} {u : Int32} {Q : Int32 → MW → Prop} (h : XW w f n nm op e N) (hQ : ∀ (y : Int32) (w' : MW), FR lexp w w' → KNd N w w' → XW w' f n nm op e N → Q y w') : q_Rd_readFactor_201 rF rL v u w Q :=
  Eq.mpr (q_Rd_readFactor_201.eq_1 _ _ _ _ _ _) ⟨fun _ => ⟨h.1.2.2.1, mk_nw (Q := fun _ w' => Q u w') h (fun _ w' F' K' X' => hQ u w' F' K' X')⟩, fun _ => nx_w h (fun w1 F1 X1 => ⟨X1.1.2.2.1, mk_nw (Q := fun _ w' => Q u w') X1 (fun _ w' F' K' X' => hQ u w' (FR.tr (FR.tr (FR.refl _ w) F1 rfl) F' rfl) ((KNd.fr F1 rfl : KNd N w w1).tr K') X')⟩)⟩
theorem w_137 {rF : MW → (Int32 → MW → Prop) → Prop} {rL : MW → Int32 → (Int32 → MW → Prop) → Prop} {w : MW} {f : Int → Int} {n : Int} {nm : List Nm} {op N : Nat} {e : Int} {v k : Int64} {Q : Int32 → MW → Prop} (h : XW w f n nm op e N) (hQ : ∀ (y : Int32) (w' : MW), FR lexp w w' → KNd N w w' → XW w' f n nm op e N → Q y w') : q_Rd_readFactor_137 rF rL k v w Q :=
  Eq.mpr (q_Rd_readFactor_137.eq_1 _ _ _ _ _ _) ⟨fun _ => ⟨fun _ => w_201 h hQ, fun _ => ⟨fun _ => ⟨fun _ => w_201 h hQ, fun _ => ⟨fun _ => w_201 h hQ, fun _ => w_201 h hQ⟩⟩, fun _ => w_201 h hQ⟩⟩, fun _ => fl_w h (hQ 0 w (FR.refl _ w) (fun _ _ _ _ => ⟨rfl, rfl⟩) h)⟩
theorem xmu_b (c : Int) : 1 ≤ xmu c ∧ xmu c ≤ 3600 := by
  unfold xmu
  by_cases a : c = 6
  · rw [if_pos a]
    decide
  · rw [if_neg a]
    by_cases b : c = 7
    · rw [if_pos b]
      decide
    · rw [if_neg b]
      decide
/-- a number -/
theorem fn_g {rF : MW → (Int32 → MW → Prop) → Prop} {rL : MW → Int32 → (Int32 → MW → Prop) → Prop} {w : MW} {f : Int → Int} {n : Int} {nm : List Nm} {op : Nat} {p : Int} {ns : List Nod} {z : Int32} {Q : Int32 → MW → Prop} (h : XS w f n nm op p ns) (k31 : (wrd f n p).1 = 31) (hQ : ∀ (y : Int32) (w' : MW) (r : XR), xfn f n p ns r → XO w w' f n nm op ns.length p r y → Q y w') : q_Rd_readFactor_88 rF rL (w.1 87 3) z w Q := by
  have c3 : (w.1 87 3).toInt = (wrd f n p).1 := h.2.1.1
  have ev : (w.2.1 87 6).toInt = (wrd f n p).2.2.2.2.1 := (h.2.1.2.2.2.2 k31).1
  have vb := wrd_v (f := f) (n := n) (p := p)
  have wn := wrd_n (f := f) (n := n) (p := p) (xb_f h.1) h.2.2.2.2.2.2.1 h.2.2.2.2.2.2.2
  refine Eq.mpr (q_Rd_readFactor_88.eq_1 _ _ _ _ _ _) (nx_g h.1 h.2.2.2.1 h.2.1.2.2.1 h.2.2.2.2.1 h.2.2.2.2.2.1 (fun ok w7 F7 X7 => ⟨fun q => absurd (c3.trans k31) q, fun _ => ?_⟩) (fun bad w7 F7 X7 => ⟨fun q => absurd (c3.trans k31) q, fun _ => ?_⟩))
  · have c7 : (w7.1 87 3).toInt = (wrd f n (wrd f n p).2.2.1).1 := X7.2.1.1
    have K7 : KNd ns.length w w7 := KNd.fr F7 rfl
    have G7 : FR lexp w w7 := FR.tr (FR.refl _ w) F7 rfl
    have mb := xmu_b (wrd f n (wrd f n p).2.2.1).1
    have p0 := h.2.2.2.2.2.2.1
    have wn2 := wrd_n (f := f) (n := n) (p := (wrd f n p).2.2.1) (xb_f h.1) (by omega) wn.2.1
    have num : ∀ k0 : Int64, k0.toInt = xmu (wrd f n (wrd f n p).2.2.1).1 → q_Rd_readFactor_137 rF rL k0 (w.2.1 87 6) w7 Q := fun k0 ek => by
      have m0 : 0 ≤ (wrd f n p).2.2.2.2.1 * xmu (wrd f n (wrd f n p).2.2.1).1 := Int.mul_nonneg vb.1 (by omega)
      have m1 : (wrd f n p).2.2.2.2.1 * xmu (wrd f n (wrd f n p).2.2.1).1 ≤ 999999999999 * 3600 := Int.mul_le_mul vb.2 mb.2 (by omega) (by decide)
      have em := li_mul ev ek (by omega) (by omega)
      have cm := nb_cmp ((w.2.1 87 6) * k0) (999999999999 : Int64)
      have eg : (999999999999 : Int64).toInt = 999999999999 := by decide
      rw [em, eg] at cm
      have q201 : ¬ 999999999999 < (wrd f n p).2.2.2.2.1 * xmu (wrd f n (wrd f n p).2.2.1).1 → ∀ U : Int32, U.toInt = xut (wrd f n (wrd f n p).2.2.1).1 → q_Rd_readFactor_201 rF rL ((w.2.1 87 6) * k0) U w7 Q := fun small U eU => by
        refine Eq.mpr (q_Rd_readFactor_201.eq_1 _ _ _ _ _ _) ⟨fun u0 => ⟨X7.1.2.2.1, mk_n (Q := fun _ w' => Q U w') X7 em (fun n3 w' F' K' X' => ?_) (fun n3 w' F' K' X' => ?_)⟩, fun u1 => ?_⟩
        · have e0 : xut (wrd f n (wrd f n p).2.2.1).1 = 0 := by
            have : 0 ≤ xut (wrd f n (wrd f n p).2.2.1).1 := by
              unfold xut
              by_cases a : (wrd f n (wrd f n p).2.2.1).1 = 6 ∨ (wrd f n (wrd f n p).2.2.1).1 = 7
              · rw [if_pos a]
                decide
              · rw [if_neg a]
                by_cases b : 1 ≤ (wrd f n (wrd f n p).2.2.1).1 ∧ (wrd f n (wrd f n p).2.2.1).1 ≤ 5
                · rw [if_pos b]
                  omega
                · rw [if_neg b]
                  decide
            omega
          refine hQ U w' (true, 0, 0, (wrd f n p).2.2.1, ns ++ [(31, 0, (wrd f n p).2.2.2.2.1 * xmu (wrd f n (wrd f n p).2.2.1).1, [])]) ?_ ⟨K7.tr K', G7.tr F' rfl, Or.inl ⟨rfl, X', by rw [eU, e0], Int.le_refl _, wn.1, ?_⟩⟩
          · unfold xfn xgo
            rw [if_neg ok, if_neg small, if_neg (by omega)]
            unfold xnd
            rw [if_neg n3]
          · show ns.length < (ns ++ [(31, 0, (wrd f n p).2.2.2.2.1 * xmu (wrd f n (wrd f n p).2.2.1).1, [])]).length
            rw [List.length_append, List.length_singleton]
            omega
        · refine hQ U w' (xer (wrd f n (wrd f n p).2.2.1).2.1) ?_ ⟨K7.tr K', G7.tr F' rfl, Or.inr ⟨rfl, X'⟩⟩
          unfold xfn xgo
          rw [if_neg ok, if_neg small, if_neg (by omega)]
          unfold xnd
          rw [if_pos n3]
        · refine nx_g X7.1 X7.2.2.2.1 X7.2.1.2.2.1 X7.2.2.2.2.1 X7.2.2.2.2.2.1 (fun ok2 w8 F8 X8 => ⟨X8.1.2.2.1, mk_n (Q := fun _ w' => Q U w') X8 em (fun n3 w' F' K' X' => ?_) (fun n3 w' F' K' X' => ?_)⟩) (fun bad2 w8 F8 X8 => ⟨X8.1.2.2.1, mk_nw (Q := fun _ w' => Q U w') X8 (fun _ w' F' K' X' => ?_)⟩)
          · have K8 : KNd ns.length w w8 := K7.tr (KNd.fr F8 rfl)
            refine hQ U w' (true, 0, xut (wrd f n (wrd f n p).2.2.1).1, (wrd f n (wrd f n p).2.2.1).2.2.1, ns ++ [(31, 0, (wrd f n p).2.2.2.2.1 * xmu (wrd f n (wrd f n p).2.2.1).1, [])]) ?_ ⟨K8.tr K', (G7.tr F8 rfl).tr F' rfl, Or.inl ⟨rfl, X', eU, ?_, ?_, ?_⟩⟩
            · unfold xfn xgo
              rw [if_neg ok, if_neg small, if_pos (by omega), if_neg ok2]
              unfold xnd
              rw [if_neg n3]
            · show 0 ≤ xut (wrd f n (wrd f n p).2.2.1).1
              omega
            · show p ≤ (wrd f n (wrd f n p).2.2.1).2.2.1
              omega
            · show ns.length < (ns ++ [(31, 0, (wrd f n p).2.2.2.2.1 * xmu (wrd f n (wrd f n p).2.2.1).1, [])]).length
              rw [List.length_append, List.length_singleton]
              omega
          · have K8 : KNd ns.length w w8 := K7.tr (KNd.fr F8 rfl)
            refine hQ U w' (xer (wrd f n (wrd f n (wrd f n p).2.2.1).2.2.1).2.1) ?_ ⟨K8.tr K', (G7.tr F8 rfl).tr F' rfl, Or.inr ⟨rfl, X'⟩⟩
            unfold xfn xgo
            rw [if_neg ok, if_neg small, if_pos (by omega), if_neg ok2]
            unfold xnd
            rw [if_pos n3]
          · have K8 : KNd ns.length w w8 := K7.tr (KNd.fr F8 rfl)
            refine hQ U w' (xer (wrd f n (wrd f n (wrd f n p).2.2.1).2.2.1).2.1) ?_ ⟨K8.tr K', (G7.tr F8 rfl).tr F' rfl, Or.inr ⟨rfl, X'⟩⟩
            unfold xfn xgo
            rw [if_neg ok, if_neg small, if_pos (by omega), if_pos bad2]
      refine Eq.mpr (q_Rd_readFactor_137.eq_1 _ _ _ _ _ _) ⟨fun c => ?_, fun c => fl_g X7 (fun w' F' X' => ?_)⟩
      · have small : ¬ 999999999999 < (wrd f n p).2.2.2.2.1 * xmu (wrd f n (wrd f n p).2.2.1).1 := by omega
        rw [c7]
        refine ⟨fun y6 => q201 small 3 ?_, fun n6 => ⟨fun n7 => ⟨fun l1 => q201 small 0 ?_, fun g1 => ⟨fun g5 => q201 small 0 ?_, fun l5 => q201 small _ ?_⟩⟩, fun y7 => q201 small 3 ?_⟩⟩
        · unfold xut
          rw [if_pos (Or.inl y6)]
          decide
        · unfold xut
          rw [if_neg (by omega), if_neg (by omega)]
          decide
        · unfold xut
          rw [if_neg (by omega), if_neg (by omega)]
          decide
        · unfold xut
          rw [if_neg (by omega), if_pos (by omega)]
          exact c7
        · unfold xut
          rw [if_pos (Or.inr (Classical.not_not.mp y7))]
          decide
      · refine hQ 0 w' (xer (wrd f n (wrd f n p).2.2.1).2.1) ?_ ⟨K7.tr (KNd.fr F' rfl), G7.tr F' rfl, Or.inr ⟨rfl, X'⟩⟩
        unfold xfn xgo
        rw [if_neg ok, if_pos (by omega)]
    rw [c7]
    refine ⟨fun n6 => ⟨fun n7 => num 1 ?_, fun y7 => num 3600 ?_⟩, fun y6 => num 60 ?_⟩
    · unfold xmu
      rw [if_neg n6, if_neg n7]
      decide
    · unfold xmu
      rw [if_neg n6, if_pos (Classical.not_not.mp y7)]
      decide
    · unfold xmu
      rw [if_pos (Classical.not_not.mp y6)]
      decide
  · have ww : ∀ k0 : Int64, q_Rd_readFactor_137 rF rL k0 (w.2.1 87 6) w7 Q := fun k0 => w_137 X7 (fun y w' F' K' X' => hQ y w' (xer (wrd f n (wrd f n p).2.2.1).2.1) (by
      unfold xfn xgo
      rw [if_pos bad]) ⟨(KNd.fr F7 rfl : KNd ns.length w w7).tr K', FR.tr (FR.tr (FR.refl _ w) F7 rfl) F' rfl, Or.inr ⟨rfl, X'⟩⟩)
    exact ⟨fun _ => ⟨fun _ => ww _, fun _ => ww _⟩, fun _ => ww _⟩
/-- a bracket or a minus -/
theorem fo_g {w : MW} {f : Int → Int} {n : Int} {nm : List Nm} {op d : Nat} {p : Int} {ns : List Nod} {z : Int32} {Q : Int32 → MW → Prop} (hF : CFa f n nm d) (hL : CLv f n nm d) (hd : 4 * (21 - op) ≤ d + 1) (ho : op < 20) (h : XS w f n nm op p ns) (kc : (wrd f n p).1 = 40 ∨ (wrd f n p).1 = 45) (hQ : ∀ (y : Int32) (w' : MW) (r : XR), (∃ k, xfo f n (XP f n (lkn nm) k) op p ns r) → XO w w' f n nm op ns.length p r y → Q y w') : q_Rd_readFactor_88 (pn_Rd_readFactor d) (pn_Rd_readLevel d) (w.1 87 3) z w Q := by
  have c3 : (w.1 87 3).toInt = (wrd f n p).1 := h.2.1.1
  have wn := wrd_n (f := f) (n := n) (p := p) (xb_f h.1) h.2.2.2.2.2.2.1 h.2.2.2.2.2.2.2
  have no20 : ¬ 20 ≤ op := by omega
  refine Eq.mpr (q_Rd_readFactor_88.eq_1 _ _ _ _ _ _) (nx_g h.1 h.2.2.2.1 h.2.1.2.2.1 h.2.2.2.2.1 h.2.2.2.2.2.1 (fun ok w7 F7 X7 => ?_) (fun bad w7 F7 X7 => ?_))
  · have s := ti_add2 X7.1.2.2.2.2.2.2.2.1 i_1 (by omega) (by omega)
    have F8 : FR [(87, some 8)] w7 (sI w7 87 8 ((w7.1 87 8) + (1 : Int32))) := FR.I (FR.refl _ w7) rfl
    have X8 : XS (sI w7 87 8 ((w7.1 87 8) + (1 : Int32))) f n nm (op + 1) (wrd f n p).2.2.1 ns := xs_op X7 (by rw [s]; omega) (by omega)
    have G8 : FR lexp w (sI w7 87 8 ((w7.1 87 8) + (1 : Int32))) := FR.tr (FR.tr (FR.refl _ w) F7 rfl) F8 rfl
    have K8 : KNd ns.length w (sI w7 87 8 ((w7.1 87 8) + (1 : Int32))) := (KNd.fr F7 rfl : KNd ns.length w w7).tr (KNd.fr F8 rfl)
    generalize (sI w7 87 8 ((w7.1 87 8) + (1 : Int32))) = w8 at *
    -- open is one less again
    have fg : ∀ (y : Int32) (w1 : MW) (r : XR) (p' : Int) (ns' : List Nod), (∃ k, xfo f n (XP f n (lkn nm) k) op p ns r) → r = (true, 0, y.toInt, p', ns') → FR lexp w w1 → KNd ns.length w w1 → XS w1 f n nm (op + 1) p' ns' → 0 ≤ y.toInt → p ≤ p' → ns.length < ns'.length → Q y (sI w1 87 8 ((w1.1 87 8) - (1 : Int32))) := fun y w1 r p' ns' hk er F1 K1 X1 y0 pp nn => by
      have s1 := ti_sub2 X1.1.2.2.2.2.2.2.2.1 i_1 (by omega) (by omega)
      have F2 : FR [(87, some 8)] w1 (sI w1 87 8 ((w1.1 87 8) - (1 : Int32))) := FR.I (FR.refl _ w1) rfl
      rw [er] at hk
      exact hQ y _ _ hk ⟨K1.tr (KNd.fr F2 rfl), F1.tr F2 rfl, Or.inl ⟨rfl, xs_op X1 (by rw [s1]; omega) (by omega), rfl, y0, pp, nn⟩⟩
    have fw : ∀ (y : Int32) (w1 : MW) (r : XR) (e : Int), (∃ k, xfo f n (XP f n (lkn nm) k) op p ns r) → r.1 = false → r.2.1 = e → FR lexp w w1 → KNd ns.length w w1 → XW w1 f n nm (op + 1) e ns.length → Q y (sI w1 87 8 ((w1.1 87 8) - (1 : Int32))) := fun y w1 r e hk r1 er F1 K1 X1 => by
      have s1 := ti_sub2 X1.1.2.2.2.2.2.2.2.1 i_1 (by omega) (by omega)
      have F2 : FR [(87, some 8)] w1 (sI w1 87 8 ((w1.1 87 8) - (1 : Int32))) := FR.I (FR.refl _ w1) rfl
      exact hQ y _ r hk ⟨K1.tr (KNd.fr F2 rfl), F1.tr F2 rfl, Or.inr ⟨r1, by rw [er]; exact xw_op X1 (by rw [s1]; omega) (by omega)⟩⟩
    refine ⟨fun _ => ⟨fun _ => ⟨fun n45 => hL 1 (op + 1) _ ns w8 _ (by decide) (by omega) (by omega) X8 (fun y w1 r1 hk hx => ?_), fun y45 => hF (op + 1) _ ns w8 _ (by omega) (by omega) X8 (fun y w1 r1 hk hx => ?_)⟩, fun q => ?_⟩, fun q => ?_⟩
    · rw [c3] at n45
      have e40 : (wrd f n p).1 = 40 := by omega
      obtain ⟨k, hk⟩ := hk
      obtain ⟨kn, fr, st⟩ := hx
      have kn0 := K8.tr kn
      have fr0 := G8.tr fr rfl
      rcases st with ⟨g1, X1, ey, y0, pp, nn⟩ | ⟨g1, X1⟩
      · have c1 : (w1.1 87 3).toInt = (wrd f n r1.2.2.2.1).1 := X1.2.1.1
        have wn1 := wrd_n (f := f) (n := n) (p := r1.2.2.2.1) (xb_f h.1) X1.2.2.2.2.2.2.1 X1.2.2.2.2.2.2.2
        refine Eq.mpr (q_Rd_readFactor_284.eq_1 _ _ _ _ _ _) ⟨fun _ => ⟨fun n41 => fl_g X1 (fun w2 F2 X2 => ?_), fun y41 => nx_g X1.1 X1.2.2.2.1 X1.2.1.2.2.1 X1.2.2.2.2.1 X1.2.2.2.2.2.1 (fun ok2 w2 F2 X2 => ?_) (fun bad2 w2 F2 X2 => ?_)⟩, fun q => absurd (fun z => n45 (c3.symm.trans z)) q⟩
        · refine fw y w2 (xer (wrd f n r1.2.2.2.1).2.1) _ ⟨k, ?_⟩ rfl rfl (fr0.tr F2 rfl) (kn0.tr (KNd.fr F2 rfl)) (w_mono X2 (by omega))
          unfold xfo xgo
          rw [if_neg no20, if_neg ok, if_neg n45]
          exact ⟨r1, hk, by rw [if_pos g1, if_neg (by omega)]⟩
        · refine fg y w2 (true, 0, r1.2.2.1, (wrd f n r1.2.2.2.1).2.2.1, r1.2.2.2.2) _ _ ⟨k, ?_⟩ (by rw [ey]) (fr0.tr F2 rfl) (kn0.tr (KNd.fr F2 rfl)) X2 (by omega) (by omega) nn
          unfold xfo xgo
          rw [if_neg no20, if_neg ok, if_neg n45]
          exact ⟨r1, hk, by rw [if_pos g1, if_pos (by omega), if_neg ok2]⟩
        · refine fw y w2 (xer (wrd f n (wrd f n r1.2.2.2.1).2.2.1).2.1) _ ⟨k, ?_⟩ rfl rfl (fr0.tr F2 rfl) (kn0.tr (KNd.fr F2 rfl)) (w_mono X2 (by omega))
          unfold xfo xgo
          rw [if_neg no20, if_neg ok, if_neg n45]
          exact ⟨r1, hk, by rw [if_pos g1, if_pos (by omega), if_pos bad2]⟩
      · have hk0 : ∃ k, xfo f n (XP f n (lkn nm) k) op p ns r1 := ⟨k, by
          unfold xfo xgo
          rw [if_neg no20, if_neg ok, if_neg n45]
          exact ⟨r1, hk, by rw [if_neg (nt g1)]⟩⟩
        exact w_284 X1 (by omega) (fun w2 F2 K2 X2 => hQ y w2 r1 hk0 ⟨kn0.tr K2, fr0.tr F2 rfl, Or.inr ⟨g1, X2⟩⟩)
    · have e45 : (wrd f n p).1 = 45 := by
        have := Classical.not_not.mp y45
        omega
      obtain ⟨k, hk⟩ := hk
      obtain ⟨kn, fr, st⟩ := hx
      have kn0 := K8.tr kn
      have fr0 := G8.tr fr rfl
      rcases st with ⟨g1, X1, ey, y0, pp, nn⟩ | ⟨g1, X1⟩
      · refine Eq.mpr (q_Rd_readFactor_284.eq_1 _ _ _ _ _ _) ⟨fun q => absurd (c3.trans e45) q, fun _ => mk_g (d := (34, 0, 0, [r1.2.2.2.2.length - 1])) X1 (show (34 : Int32).toInt = 34 by decide) i_0 (by show ¬ (34 : Int) = 31; decide) (fun n3 w2 F2 K2 X2 _ _ _ _ _ _ => ?_) (fun n3 w2 F2 K2 X2 => ?_)⟩
        · refine fg y w2 (true, 0, r1.2.2.1, r1.2.2.2.1, r1.2.2.2.2 ++ [(34, 0, 0, [r1.2.2.2.2.length - 1])]) _ _ ⟨k, ?_⟩ (by rw [ey]) (fr0.tr F2 rfl) (kn0.tr (K2.mono (by omega))) X2 (by omega) (by omega) (by rw [List.length_append]; omega)
          unfold xfo xgo
          rw [if_neg no20, if_neg ok, if_pos e45]
          refine ⟨r1, hk, ?_⟩
          rw [if_pos g1]
          unfold xnd
          rw [if_neg n3]
        · refine fw y w2 (xer (wrd f n r1.2.2.2.1).2.1) _ ⟨k, ?_⟩ rfl rfl (fr0.tr F2 rfl) (kn0.tr (K2.mono (by omega))) (w_mono X2 (by omega))
          unfold xfo xgo
          rw [if_neg no20, if_neg ok, if_pos e45]
          refine ⟨r1, hk, ?_⟩
          rw [if_pos g1]
          unfold xnd
          rw [if_pos n3]
      · have hk0 : ∃ k, xfo f n (XP f n (lkn nm) k) op p ns r1 := ⟨k, by
          unfold xfo xgo
          rw [if_neg no20, if_neg ok, if_pos e45]
          exact ⟨r1, hk, by rw [if_neg (nt g1)]⟩⟩
        exact w_284 X1 (by omega) (fun w2 F2 K2 X2 => hQ y w2 r1 hk0 ⟨kn0.tr K2, fr0.tr F2 rfl, Or.inr ⟨g1, X2⟩⟩)
    · have := Classical.not_not.mp q
      omega
    · have := Classical.not_not.mp q
      omega
  · have s := ti_add2 X7.1.2.2.2.2.2.2.2.1 i_1 (by omega) (by omega)
    have F8 : FR [(87, some 8)] w7 (sI w7 87 8 ((w7.1 87 8) + (1 : Int32))) := FR.I (FR.refl _ w7) rfl
    have X8 : XW (sI w7 87 8 ((w7.1 87 8) + (1 : Int32))) f n nm (op + 1) (wrd f n (wrd f n p).2.2.1).2.1 ns.length := xw_op X7 (by rw [s]; omega) (by omega)
    have G8 : FR lexp w (sI w7 87 8 ((w7.1 87 8) + (1 : Int32))) := FR.tr (FR.tr (FR.refl _ w) F7 rfl) F8 rfl
    have K8 : KNd ns.length w (sI w7 87 8 ((w7.1 87 8) + (1 : Int32))) := (KNd.fr F7 rfl : KNd ns.length w w7).tr (KNd.fr F8 rfl)
    have hk0 : ∃ k, xfo f n (XP f n (lkn nm) k) op p ns (xer (wrd f n (wrd f n p).2.2.1).2.1) := ⟨0, by
      unfold xfo xgo
      rw [if_neg no20, if_pos bad]⟩
    have fin : ∀ y : Int32, q_Rd_readFactor_284 (pn_Rd_readFactor d) (pn_Rd_readLevel d) (w.1 87 3) y (sI w7 87 8 ((w7.1 87 8) + (1 : Int32))) Q := fun y => w_284 X8 (by omega) (fun w2 F2 K2 X2 => hQ y w2 _ hk0 ⟨K8.tr K2, G8.tr F2 rfl, Or.inr ⟨rfl, X2⟩⟩)
    refine ⟨fun _ => ⟨fun _ => ⟨fun n45 => ?_, fun y45 => ?_⟩, fun q => ?_⟩, fun q => ?_⟩
    · rw [show d = (d - 3) + 1 + 2 by omega]
      rw [show d = (d - 3) + 1 + 2 by omega] at fin
      exact w_lev X8 1 1 (d - 3) _ (by decide) fin
    · rw [show d = (d - 1) + 1 by omega]
      rw [show d = (d - 1) + 1 by omega] at fin
      exact w_fac X8 fin
    · have := Classical.not_not.mp q
      omega
    · have := Classical.not_not.mp q
      omega
theorem fac_c {f : Int → Int} {n : Int} {nm : List Nm} {d : Nat} (hF : CFa f n nm d) (hL : CLv f n nm d) : CFa f n nm (d + 1) := by
  intro op p ns w Q ho hd h hQ
  have hw := h.2.2.2.1
  have c3 : (w.1 87 3).toInt = (wrd f n p).1 := h.2.1.1
  have hop : (w.1 87 8).toInt = (op : Int) := h.1.2.2.2.2.2.2.2.1
  have wn := wrd_n (f := f) (n := n) (p := p) (xb_f h.1) h.2.2.2.2.2.2.1 h.2.2.2.2.2.2.2
  have mkr : ∀ (k : Nat) (r : XR), xfa f n (lkn nm) (XP f n (lkn nm) k) op p ns r → ∃ k, XP f n (lkn nm) k 3 op 0 p ns r := fun k r hr => ⟨k + 1, by
    rw [XP_u, if_pos rfl]
    exact hr⟩
  have bad : xfa f n (lkn nm) (XP f n (lkn nm) 0) op p ns (xer (wrd f n p).2.1) → p_Rd_fail w (fun w5 => Q 0 w5) := fun hx => fl_g h (fun w' F' X' => hQ 0 w' _ (mkr 0 _ hx) ⟨KNd.fr F' rfl, FR.tr (FR.refl _ w) F' rfl, Or.inr ⟨rfl, X'⟩⟩)
  have no : ∀ Q' : Int32 → MW → Prop, Q' 0 w → p_Pr_hasValues108 w (-1) Q' := fun Q' q => Eq.mpr (p_Pr_hasValues108.eq_1 _ _ _) ⟨fun _ => q, fun z => absurd (by decide) z⟩
  have nw : ¬ 0 ≤ (w.1 87 9).toInt := by omega
  rw [pe_Rd_readFactor]
  refine Eq.mpr (pb_Rd_readFactor.eq_1 _ _ _ _) ⟨fun n30 => ?_, fun y30 => ⟨h.1.2.2.1, ?_⟩⟩
  · rw [c3] at n30
    have k53 : ∀ x : Int32, (¬ x.toInt = 0 → ((wrd f n p).1 = 40 ∨ (wrd f n p).1 = 45) ∧ op < 20) → (x.toInt = 0 → (((wrd f n p).1 = 40 ∨ (wrd f n p).1 = 45) → 20 ≤ op)) → q_Rd_readFactor_53 (pn_Rd_readFactor d) (pn_Rd_readLevel d) (w.1 87 3) (-1) x w Q := fun x h1 h0 => by
      refine Eq.mpr (q_Rd_readFactor_53.eq_1 _ _ _ _ _ _ _) ⟨fun q => absurd q nw, fun _ => ⟨fun y31 => ?_, fun n31 => ⟨fun xn => ?_, fun xz => ⟨h.1.2.2.1, no _ ⟨fun q => absurd i_0 q, fun _ => bad ?_⟩⟩⟩⟩⟩
      · have k31 := c3.symm.trans y31
        refine fn_g h k31 (fun y w' r hk hx => hQ y w' r (mkr 0 r ?_) hx)
        unfold xfa
        rw [if_pos k31]
        exact hk
      · have kc := h1 xn
        rw [c3] at n31
        refine fo_g hF hL hd kc.2 h kc.1 (fun y w' r hk hx => ?_)
        obtain ⟨k, hk⟩ := hk
        refine hQ y w' r (mkr k r ?_) hx
        unfold xfa
        rw [if_neg n31, if_pos kc.1]
        exact hk
      · rw [c3] at n31
        have kz := h0 (Classical.not_not.mp xz)
        unfold xfa
        rw [if_neg n31]
        by_cases kc : (wrd f n p).1 = 40 ∨ (wrd f n p).1 = 45
        · rw [if_pos kc]
          unfold xfo
          rw [if_pos (kz kc)]
        · rw [if_neg kc, if_neg (fun z => n30 z.1)]
    refine Eq.mpr (q_Rd_readFactor_26.eq_1 _ _ _ _ _ _) ⟨fun y40 => ⟨fun o => k53 0 (fun q => absurd i_0 q) (fun _ _ => by omega), fun o => k53 1 (fun _ => ⟨Or.inl (by omega), by omega⟩) (fun q => absurd q i1n)⟩, fun n40 => ⟨fun n45 => k53 0 (fun q => absurd i_0 q) (fun _ kc => by omega), fun y45 => ⟨fun o => k53 0 (fun q => absurd i_0 q) (fun _ _ => by omega), fun o => k53 1 (fun _ => ⟨Or.inr (by have := Classical.not_not.mp y45; omega), by omega⟩) (fun q => absurd q i1n)⟩⟩⟩
  · have k30 : (wrd f n p).1 = 30 := by
      have := Classical.not_not.mp y30
      omega
    have wl := wrd_l (f := f) (n := n) (p := p) (by omega)
    have NM := h.1.2.2.2.2.2.2.1
    have i26 : ∀ x : Int32, q_Rd_readFactor_53 (pn_Rd_readFactor d) (pn_Rd_readLevel d) (w.1 87 3) x 0 w Q → q_Rd_readFactor_26 (pn_Rd_readFactor d) (pn_Rd_readLevel d) (w.1 87 3) x w Q := fun x k => Eq.mpr (q_Rd_readFactor_26.eq_1 _ _ _ _ _ _) ⟨fun z => by omega, fun _ => ⟨fun _ => k, fun z => by have := Classical.not_not.mp z; omega⟩⟩
    have fl : (¬ ((wrd f n p).1 = 30 ∧ 0 ≤ (lkn nm (wrd f n p).2.2.2.1).1 ∧ ¬ (lkn nm (wrd f n p).2.2.2.1).2.1 = 10)) → p_Rd_fail w (fun w5 => Q 0 w5) := fun z => bad (by
      unfold xfa
      rw [if_neg (by omega), if_neg (by omega), if_neg z])
    refine fd_x NM (h.2.1.2.2.2.1 (by omega)) wl.1 wl.2 (fun z => i26 _ ?_) (fun j x hx el => i26 _ ?_)
    · exact Eq.mpr (q_Rd_readFactor_53.eq_1 _ _ _ _ _ _ _) ⟨fun q => absurd q nw, fun _ => ⟨fun q => by omega, fun _ => ⟨fun q => absurd i_0 q, fun _ => ⟨h.1.2.2.1, no _ ⟨fun q => absurd i_0 q, fun _ => fl (fun q => by have := q.2.1; omega)⟩⟩⟩⟩⟩
    · have n4 := NM.2.1
      have jl : j < nm.length := (List.getElem?_eq_some_iff.mp hx).1
      have tj : (nI j).toInt = (j : Int) := nI_toInt (by omega)
      have tn : (nI j).toInt.toNat = j := by omega
      have t := NM.2.2 j x hx
      refine Eq.mpr (q_Rd_readFactor_53.eq_1 _ _ _ _ _ _ _) ⟨fun q => absurd q nw, fun _ => ⟨fun q => by omega, fun _ => ⟨fun q => absurd i_0 q, fun _ => ⟨h.1.2.2.1, Eq.mpr (p_Pr_hasValues108.eq_1 _ _ _) ⟨fun q => by omega, fun _ => ⟨fun q => by have := NM.1; omega, fun _ => ⟨by omega, ?_⟩⟩⟩⟩⟩⟩⟩
      rw [tn]
      refine ⟨fun st => ⟨fun q => absurd i_0 q, fun _ => fl (fun q => ?_)⟩, fun ns10 => ⟨fun _ => ?_, fun q => absurd i1n q⟩⟩
      · have q2 := q.2.2
        rw [el] at q2
        exact q2 (t.2.1.symm.trans st)
      · have good : (wrd f n p).1 = 30 ∧ 0 ≤ (lkn nm (wrd f n p).2.2.2.1).1 ∧ ¬ (lkn nm (wrd f n p).2.2.2.1).2.1 = 10 := ⟨k30, by rw [el]; show 0 ≤ (j : Int); omega, by rw [el]; exact fun z => ns10 (t.2.1.trans z)⟩
        have eu : (lkn nm (wrd f n p).2.2.2.1).2.2.1 = x.2.2.1 := by rw [el]
        have ei : (lkn nm (wrd f n p).2.2.2.1).1 = (j : Int) := by rw [el]
        refine Eq.mpr (q_Rd_readFactor_88.eq_1 _ _ _ _ _ _) (nx_g h.1 hw h.2.1.2.2.1 h.2.2.2.2.1 h.2.2.2.2.2.1 (fun ok w7 F7 X7 => ⟨fun _ => ⟨fun q => by omega, fun _ => ?_⟩, fun q => by have := Classical.not_not.mp q; omega⟩) (fun bd w7 F7 X7 => ⟨fun _ => ⟨fun q => by omega, fun _ => ?_⟩, fun q => by have := Classical.not_not.mp q; omega⟩))
        · refine mk_g (d := (30, (j : Int), 0, [])) X7 (show (30 : Int32).toInt = 30 by decide) tj (by show ¬ (30 : Int) = 31; decide) (fun n3 w2 F2 K2 X2 _ _ _ _ _ _ => ⟨X2.1.2.2.1, by omega, ?_⟩) (fun n3 w2 F2 K2 X2 => ⟨X2.1.2.2.1, by omega, ?_⟩)
          · rw [tn]
            have t2 := X2.1.2.2.2.2.2.2.1.2.2 j x hx
            refine hQ _ w2 (true, 0, x.2.2.1, (wrd f n p).2.2.1, ns ++ [(30, (j : Int), 0, [])]) (mkr 0 _ ?_) ⟨(KNd.fr F7 rfl : KNd ns.length w w7).tr K2, FR.tr (FR.tr (FR.refl _ w) F7 rfl) F2 rfl, Or.inl ⟨rfl, X2, t2.2.2.1, t2.2.2.2.2.2.2, wn.1, ?_⟩⟩
            · unfold xfa xgo
              rw [if_neg (by omega), if_neg (by omega), if_pos good, if_neg ok]
              unfold xnd
              rw [if_neg n3, eu, ei]
            · show ns.length < (ns ++ [(30, (j : Int), 0, [])]).length
              rw [List.length_append, List.length_singleton]
              omega
          · refine hQ _ w2 (xer (wrd f n (wrd f n p).2.2.1).2.1) (mkr 0 _ ?_) ⟨(KNd.fr F7 rfl : KNd ns.length w w7).tr K2, FR.tr (FR.tr (FR.refl _ w) F7 rfl) F2 rfl, Or.inr ⟨rfl, X2⟩⟩
            unfold xfa xgo
            rw [if_neg (by omega), if_neg (by omega), if_pos good, if_neg ok]
            unfold xnd
            rw [if_pos n3]
        · refine mk_w X7 (fun r w2 F2 K2 _ _ _ X2 => ⟨X2.1.2.2.1, by omega, ?_⟩)
          refine hQ _ w2 (xer (wrd f n (wrd f n p).2.2.1).2.1) (mkr 0 _ ?_) ⟨(KNd.fr F7 rfl : KNd ns.length w w7).tr K2, FR.tr (FR.tr (FR.refl _ w) F7 rfl) F2 rfl, Or.inr ⟨rfl, X2⟩⟩
          unfold xfa xgo
          rw [if_neg (by omega), if_neg (by omega), if_pos good, if_pos bd]
theorem exp_c (f : Int → Int) (n : Int) (nm : List Nm) : ∀ d, CFa f n nm d ∧ CLv f n nm d := by
  intro d
  induction d with
  | zero => exact ⟨fun op p ns w Q ho hd _ _ => by omega, fun m op p ns w Q hm ho hd _ _ => by omega⟩
  | succ d ih => exact ⟨fac_c ih.1 ih.2, lev_c ih.1 ih.2⟩
