/-! sums and tests of a program -/
/-- a node: kind, argument, number, children -/
abbrev Nod : Type := Int × Int × Int × List Nat
/-- what reading gives: whether it is good, where it is wrong, the unit, where the next word is read from, the nodes -/
abbrev XR : Type := Bool × Int × Int × Int × List Nod
def xer (e : Int) : XR := (false, e, 0, 0, [])
/-- a node more; the word from p on is next -/
def xnd (f : Int → Int) (n u p : Int) (ns : List Nod) (d : Nod) : XR := if ns.length = 300 then xer (wrd f n p).2.1 else (true, 0, u, p, ns ++ [d])
/-- the unit of two that are joined, -1 where they do not agree -/
def xun (c x y : Int) : Int := if c = 42 then (if x = 0 then y else if y = 0 then x else -1) else if c = 47 then (if y = 0 then x else if x = y then 0 else -1) else (if x = y then x else -1)
def lvo (c : Int) : Nat := if c = 60 ∨ c = 61 ∨ c = 62 then 0 else if c = 43 ∨ c = 45 then 1 else if c = 42 ∨ c = 47 then 2 else 3
/-- what the word behind a number does to it, and the unit that it is -/
def xmu (c : Int) : Int := if c = 6 then 60 else if c = 7 then 3600 else 1
def xut (c : Int) : Int := if c = 6 ∨ c = 7 then 3 else if 1 ≤ c ∧ c ≤ 5 then c else 0
abbrev XQ : Type := Nat → Nat → Int → Int → List Nod → XR → Prop
/-- behind the word at p: e where that next one is none, else as K says -/
def xgo (f : Int → Int) (n p : Int) (r : XR) (K : Prop) : Prop := if (wrd f n (wrd f n p).2.2.1).1 = 33 then r = xer (wrd f n (wrd f n p).2.2.1).2.1 else K
def xfn (f : Int → Int) (n p : Int) (ns : List Nod) (r : XR) : Prop := xgo f n p r (if 999999999999 < (wrd f n p).2.2.2.2.1 * xmu (wrd f n (wrd f n p).2.2.1).1 then r = xer (wrd f n (wrd f n p).2.2.1).2.1 else if 0 < xut (wrd f n (wrd f n p).2.2.1).1 then xgo f n (wrd f n p).2.2.1 r (r = xnd f n (xut (wrd f n (wrd f n p).2.2.1).1) (wrd f n (wrd f n p).2.2.1).2.2.1 ns (31, 0, (wrd f n p).2.2.2.2.1 * xmu (wrd f n (wrd f n p).2.2.1).1, [])) else r = xnd f n 0 (wrd f n p).2.2.1 ns (31, 0, (wrd f n p).2.2.2.2.1 * xmu (wrd f n (wrd f n p).2.2.1).1, []))
def xfo (f : Int → Int) (n : Int) (X : XQ) (op : Nat) (p : Int) (ns : List Nod) (r : XR) : Prop := if 20 ≤ op then r = xer (wrd f n p).2.1 else xgo f n p r (if (wrd f n p).1 = 45 then ∃ r1, X 3 (op + 1) 0 (wrd f n p).2.2.1 ns r1 ∧ (if r1.1 = true then r = xnd f n r1.2.2.1 r1.2.2.2.1 r1.2.2.2.2 (34, 0, 0, [r1.2.2.2.2.length - 1]) else r = r1) else ∃ r1, X 1 (op + 1) 0 (wrd f n p).2.2.1 ns r1 ∧ (if r1.1 = true then (if (wrd f n r1.2.2.2.1).1 = 41 then xgo f n r1.2.2.2.1 r (r = (true, 0, r1.2.2.1, (wrd f n r1.2.2.2.1).2.2.1, r1.2.2.2.2)) else r = xer (wrd f n r1.2.2.2.1).2.1) else r = r1))
def xfa (f : Int → Int) (n : Int) (lk : List Int → Int × Int × Int × Int) (X : XQ) (op : Nat) (p : Int) (ns : List Nod) (r : XR) : Prop := if (wrd f n p).1 = 31 then xfn f n p ns r else if (wrd f n p).1 = 40 ∨ (wrd f n p).1 = 45 then xfo f n X op p ns r else if (wrd f n p).1 = 30 ∧ 0 ≤ (lk (wrd f n p).2.2.2.1).1 ∧ ¬ (lk (wrd f n p).2.2.2.1).2.1 = 10 then xgo f n p r (r = xnd f n (lk (wrd f n p).2.2.2.1).2.2.1 (wrd f n p).2.2.1 ns (30, (lk (wrd f n p).2.2.2.1).1, 0, [])) else r = xer (wrd f n p).2.1
def xlv (X : XQ) (m op : Nat) (p : Int) (ns : List Nod) (r : XR) : Prop := ∃ r1, X (m + 1) op 0 p ns r1 ∧ (if r1.1 = true then X (m + 4) op r1.2.2.1 r1.2.2.2.1 r1.2.2.2.2 r else r = r1)
def xlo (f : Int → Int) (n : Int) (X : XQ) (m op : Nat) (u p : Int) (ns : List Nod) (r : XR) : Prop := if lvo (wrd f n p).1 = m then xgo f n p r (∃ r2, X (m + 1) op 0 (wrd f n p).2.2.1 ns r2 ∧ (if r2.1 = true then (if xun (wrd f n p).1 u r2.2.2.1 < 0 then r = xer (wrd f n p).2.1 else if r2.2.2.2.2.length = 300 then r = xer (wrd f n r2.2.2.2.1).2.1 else if m = 0 then r = (true, 0, xun (wrd f n p).1 u r2.2.2.1, r2.2.2.2.1, r2.2.2.2.2 ++ [((wrd f n p).1, 0, 0, [ns.length - 1, r2.2.2.2.2.length - 1])]) else X (m + 4) op (xun (wrd f n p).1 u r2.2.2.1) r2.2.2.2.1 (r2.2.2.2.2 ++ [((wrd f n p).1, 0, 0, [ns.length - 1, r2.2.2.2.2.length - 1])]) r) else r = r2)) else if m = 0 then r = xer (wrd f n p).2.1 else r = (true, 0, u, p, ns)
/-- what is read: 0 a test, 1 a sum, 2 a product, 3 a factor; 4, 5, 6 the rest of a test, sum, product whose first side has the unit u -/
def XP (f : Int → Int) (n : Int) (lk : List Int → Int × Int × Int × Int) : Nat → XQ
  | 0 => fun _ _ _ _ _ _ => False
  | k + 1 => fun m op u p ns r => if m = 3 then xfa f n lk (XP f n lk k) op p ns r else if m < 3 then xlv (XP f n lk k) m op p ns r else xlo f n (XP f n lk k) (m - 4) op u p ns r
theorem XP_u (f : Int → Int) (n : Int) (lk : List Int → Int × Int × Int × Int) (k m op : Nat) (u p : Int) (ns : List Nod) (r : XR) : XP f n lk (k + 1) m op u p ns r = (if m = 3 then xfa f n lk (XP f n lk k) op p ns r else if m < 3 then xlv (XP f n lk k) m op p ns r else xlo f n (XP f n lk k) (m - 4) op u p ns r) := rfl
theorem xgo_m {f : Int → Int} {n p : Int} {r : XR} {K K' : Prop} (h : xgo f n p r K) (hk : K → K') : xgo f n p r K' := by
  unfold xgo at h ⊢
  by_cases c : (wrd f n (wrd f n p).2.2.1).1 = 33
  · rw [if_pos c] at h ⊢
    exact h
  · rw [if_neg c] at h ⊢
    exact hk h
theorem xgo_d {f : Int → Int} {n p : Int} {r r' : XR} {K K' : Prop} (h : xgo f n p r K) (h' : xgo f n p r' K') (hk : K → K' → r = r') : r = r' := by
  unfold xgo at h h'
  by_cases c : (wrd f n (wrd f n p).2.2.1).1 = 33
  · rw [if_pos c] at h h'
    rw [h, h']
  · rw [if_neg c] at h h'
    exact hk h h'
def XLe (X Y : XQ) : Prop := ∀ m op u p ns r, X m op u p ns r → Y m op u p ns r
def XDt (X Y : XQ) : Prop := ∀ m op u p ns r r', X m op u p ns r → Y m op u p ns r' → r = r'
theorem xfo_m {f : Int → Int} {n : Int} {X Y : XQ} (hX : XLe X Y) {op : Nat} {p : Int} {ns : List Nod} {r : XR} (h : xfo f n X op p ns r) : xfo f n Y op p ns r := by
  unfold xfo at h ⊢
  by_cases c : 20 ≤ op
  · rw [if_pos c] at h ⊢
    exact h
  · rw [if_neg c] at h ⊢
    refine xgo_m h (fun h => ?_)
    by_cases d : (wrd f n p).1 = 45
    · rw [if_pos d] at h ⊢
      obtain ⟨r1, a, b⟩ := h
      exact ⟨r1, hX _ _ _ _ _ _ a, b⟩
    · rw [if_neg d] at h ⊢
      obtain ⟨r1, a, b⟩ := h
      exact ⟨r1, hX _ _ _ _ _ _ a, b⟩
theorem xfa_m {f : Int → Int} {n : Int} {lk : List Int → Int × Int × Int × Int} {X Y : XQ} (hX : XLe X Y) {op : Nat} {p : Int} {ns : List Nod} {r : XR} (h : xfa f n lk X op p ns r) : xfa f n lk Y op p ns r := by
  unfold xfa at h ⊢
  by_cases c : (wrd f n p).1 = 31
  · rw [if_pos c] at h ⊢
    exact h
  · rw [if_neg c] at h ⊢
    by_cases d : (wrd f n p).1 = 40 ∨ (wrd f n p).1 = 45
    · rw [if_pos d] at h ⊢
      exact xfo_m hX h
    · rw [if_neg d] at h ⊢
      exact h
theorem xlv_m {X Y : XQ} (hX : XLe X Y) {m op : Nat} {p : Int} {ns : List Nod} {r : XR} (h : xlv X m op p ns r) : xlv Y m op p ns r := by
  obtain ⟨r1, a, b⟩ := h
  refine ⟨r1, hX _ _ _ _ _ _ a, ?_⟩
  by_cases c : r1.1 = true
  · rw [if_pos c] at b ⊢
    exact hX _ _ _ _ _ _ b
  · rw [if_neg c] at b ⊢
    exact b
theorem xlo_m {f : Int → Int} {n : Int} {X Y : XQ} (hX : XLe X Y) {m op : Nat} {u p : Int} {ns : List Nod} {r : XR} (h : xlo f n X m op u p ns r) : xlo f n Y m op u p ns r := by
  unfold xlo at h ⊢
  by_cases c : lvo (wrd f n p).1 = m
  · rw [if_pos c] at h ⊢
    refine xgo_m h (fun h => ?_)
    obtain ⟨r2, a, b⟩ := h
    refine ⟨r2, hX _ _ _ _ _ _ a, ?_⟩
    by_cases d : r2.1 = true
    · rw [if_pos d] at b ⊢
      by_cases e : xun (wrd f n p).1 u r2.2.2.1 < 0
      · rw [if_pos e] at b ⊢
        exact b
      · rw [if_neg e] at b ⊢
        by_cases g : r2.2.2.2.2.length = 300
        · rw [if_pos g] at b ⊢
          exact b
        · rw [if_neg g] at b ⊢
          by_cases z : m = 0
          · rw [if_pos z] at b ⊢
            exact b
          · rw [if_neg z] at b ⊢
            exact hX _ _ _ _ _ _ b
    · rw [if_neg d] at b ⊢
      exact b
  · rw [if_neg c] at h ⊢
    exact h
theorem XP_s (f : Int → Int) (n : Int) (lk : List Int → Int × Int × Int × Int) : ∀ k, XLe (XP f n lk k) (XP f n lk (k + 1)) := by
  intro k
  induction k with
  | zero => exact fun _ _ _ _ _ _ h => False.elim h
  | succ k ih =>
    intro m op u p ns r h
    rw [XP_u] at h ⊢
    by_cases c : m = 3
    · rw [if_pos c] at h ⊢
      exact xfa_m ih h
    · rw [if_neg c] at h ⊢
      by_cases d : m < 3
      · rw [if_pos d] at h ⊢
        exact xlv_m ih h
      · rw [if_neg d] at h ⊢
        exact xlo_m ih h
theorem XP_le {f : Int → Int} {n : Int} {lk : List Int → Int × Int × Int × Int} {k k' : Nat} (h : k ≤ k') : XLe (XP f n lk k) (XP f n lk k') := by
  induction h with
  | refl => exact fun _ _ _ _ _ _ h => h
  | step _ ih => exact fun m op u p ns r h => XP_s f n lk _ m op u p ns r (ih m op u p ns r h)
theorem xfo_d {f : Int → Int} {n : Int} {X Y : XQ} (hX : XDt X Y) {op : Nat} {p : Int} {ns : List Nod} {r r' : XR} (h : xfo f n X op p ns r) (h' : xfo f n Y op p ns r') : r = r' := by
  unfold xfo at h h'
  by_cases c : 20 ≤ op
  · rw [if_pos c] at h h'
    rw [h, h']
  · rw [if_neg c] at h h'
    refine xgo_d h h' (fun h h' => ?_)
    by_cases d : (wrd f n p).1 = 45
    · rw [if_pos d] at h h'
      obtain ⟨r1, a, b⟩ := h
      obtain ⟨r2, a', b'⟩ := h'
      have e := hX _ _ _ _ _ _ _ a a'
      rw [← e] at b'
      by_cases g : r1.1 = true
      · rw [if_pos g] at b b'
        rw [b, b']
      · rw [if_neg g] at b b'
        rw [b, b']
    · rw [if_neg d] at h h'
      obtain ⟨r1, a, b⟩ := h
      obtain ⟨r2, a', b'⟩ := h'
      have e := hX _ _ _ _ _ _ _ a a'
      rw [← e] at b'
      by_cases g : r1.1 = true
      · rw [if_pos g] at b b'
        by_cases i : (wrd f n r1.2.2.2.1).1 = 41
        · rw [if_pos i] at b b'
          exact xgo_d b b' (fun b b' => by rw [b, b'])
        · rw [if_neg i] at b b'
          rw [b, b']
      · rw [if_neg g] at b b'
        rw [b, b']
theorem xfn_d {f : Int → Int} {n : Int} {p : Int} {ns : List Nod} {r r' : XR} (h : xfn f n p ns r) (h' : xfn f n p ns r') : r = r' := by
  unfold xfn at h h'
  refine xgo_d h h' (fun h h' => ?_)
  by_cases c : 999999999999 < (wrd f n p).2.2.2.2.1 * xmu (wrd f n (wrd f n p).2.2.1).1
  · rw [if_pos c] at h h'
    rw [h, h']
  · rw [if_neg c] at h h'
    by_cases d : 0 < xut (wrd f n (wrd f n p).2.2.1).1
    · rw [if_pos d] at h h'
      exact xgo_d h h' (fun b b' => by rw [b, b'])
    · rw [if_neg d] at h h'
      rw [h, h']
theorem xfa_d {f : Int → Int} {n : Int} {lk : List Int → Int × Int × Int × Int} {X Y : XQ} (hX : XDt X Y) {op : Nat} {p : Int} {ns : List Nod} {r r' : XR} (h : xfa f n lk X op p ns r) (h' : xfa f n lk Y op p ns r') : r = r' := by
  unfold xfa at h h'
  by_cases c : (wrd f n p).1 = 31
  · rw [if_pos c] at h h'
    exact xfn_d h h'
  · rw [if_neg c] at h h'
    by_cases d : (wrd f n p).1 = 40 ∨ (wrd f n p).1 = 45
    · rw [if_pos d] at h h'
      exact xfo_d hX h h'
    · rw [if_neg d] at h h'
      by_cases e : (wrd f n p).1 = 30 ∧ 0 ≤ (lk (wrd f n p).2.2.2.1).1 ∧ ¬ (lk (wrd f n p).2.2.2.1).2.1 = 10
      · rw [if_pos e] at h h'
        exact xgo_d h h' (fun b b' => by rw [b, b'])
      · rw [if_neg e] at h h'
        rw [h, h']
theorem xlv_d {X Y : XQ} (hX : XDt X Y) {m op : Nat} {p : Int} {ns : List Nod} {r r' : XR} (h : xlv X m op p ns r) (h' : xlv Y m op p ns r') : r = r' := by
  obtain ⟨r1, a, b⟩ := h
  obtain ⟨r2, a', b'⟩ := h'
  have e := hX _ _ _ _ _ _ _ a a'
  rw [← e] at b'
  by_cases c : r1.1 = true
  · rw [if_pos c] at b b'
    exact hX _ _ _ _ _ _ _ b b'
  · rw [if_neg c] at b b'
    rw [b, b']
theorem xlo_d {f : Int → Int} {n : Int} {X Y : XQ} (hX : XDt X Y) {m op : Nat} {u p : Int} {ns : List Nod} {r r' : XR} (h : xlo f n X m op u p ns r) (h' : xlo f n Y m op u p ns r') : r = r' := by
  unfold xlo at h h'
  by_cases c : lvo (wrd f n p).1 = m
  · rw [if_pos c] at h h'
    refine xgo_d h h' (fun h h' => ?_)
    obtain ⟨r2, a, b⟩ := h
    obtain ⟨r3, a', b'⟩ := h'
    have ee := hX _ _ _ _ _ _ _ a a'
    rw [← ee] at b'
    by_cases d : r2.1 = true
    · rw [if_pos d] at b b'
      by_cases e : xun (wrd f n p).1 u r2.2.2.1 < 0
      · rw [if_pos e] at b b'
        rw [b, b']
      · rw [if_neg e] at b b'
        by_cases g : r2.2.2.2.2.length = 300
        · rw [if_pos g] at b b'
          rw [b, b']
        · rw [if_neg g] at b b'
          by_cases z : m = 0
          · rw [if_pos z] at b b'
            rw [b, b']
          · rw [if_neg z] at b b'
            exact hX _ _ _ _ _ _ _ b b'
    · rw [if_neg d] at b b'
      rw [b, b']
  · rw [if_neg c] at h h'
    by_cases z : m = 0
    · rw [if_pos z] at h h'
      rw [h, h']
    · rw [if_neg z] at h h'
      rw [h, h']
theorem XP_det (f : Int → Int) (n : Int) (lk : List Int → Int × Int × Int × Int) : ∀ k k', XDt (XP f n lk k) (XP f n lk k') := by
  intro k
  induction k with
  | zero => exact fun k' _ _ _ _ _ _ _ h _ => False.elim h
  | succ k ih =>
    intro k'
    cases k' with
    | zero => exact fun _ _ _ _ _ _ _ _ h' => False.elim h'
    | succ k' =>
      intro m op u p ns r r' h h'
      rw [XP_u] at h h'
      by_cases c : m = 3
      · rw [if_pos c] at h h'
        exact xfa_d (ih k') h h'
      · rw [if_neg c] at h h'
        by_cases d : m < 3
        · rw [if_pos d] at h h'
          exact xlv_d (ih k') h h'
        · rw [if_neg d] at h h'
          exact xlo_d (ih k') h h'
