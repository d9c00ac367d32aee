/-! a program: what is told of names, then statements; how much it makes -/
/-- the state between two declarations: where the next word is, nodes, statements read, names -/
abbrev DS : Type := Int × List Nod × Int × List Nm
abbrev DQ : Type := Bool × Int × DS
def der (e : Int) : DQ := (false, e, 0, [], 0, [])
def dok (s : DS) : DQ := (true, 0, s)
def dbl (s : DS) : ZS := (s.1, s.2.1, s.2.2.1, [], 0, 0, 0)
/-- the end of the declaration of a step l whose block is read as r -/
def dst (f : Int → Int) (n : Int) (s : DS) (l : List Int) (z : ZS) : DQ := if z.2.1.length = 300 then der (wrd f n z.1).2.1 else dok (z.1, z.2.1 ++ [(10, 0, 0, [z.2.1.length - 1])], z.2.2.1, s.2.2.2 ++ [(l, 10, 0, (z.2.1.length : Int) - 1)])
/-- a unit may stand at p; then a semicolon -/
def dun (f : Int → Int) (n : Int) (s : DS) (c u p : Int) (l : List Int) : DQ := if (wrd f n p).1 = 59 then (if (wrd f n (wrd f n p).2.2.1).1 = 33 then der (wrd f n (wrd f n p).2.2.1).2.1 else dok ((wrd f n p).2.2.1, s.2.1, s.2.2.1, s.2.2.2 ++ [(l, c, u, -1)])) else der (wrd f n p).2.1
def dsg (f : Int → Int) (n : Int) (s : DS) (c p : Int) (l : List Int) : DQ := if 1 ≤ (wrd f n p).1 ∧ (wrd f n p).1 ≤ 5 then (if (wrd f n (wrd f n p).2.2.1).1 = 33 then der (wrd f n (wrd f n p).2.2.1).2.1 else dun f n s c (wrd f n p).1 (wrd f n p).2.2.1 l) else dun f n s c 0 p l
/-- a declaration whose word c is next -/
def dcl (f : Int → Int) (n : Int) (s : DS) (r : DQ) : Prop :=
  if (wrd f n (wrd f n s.1).2.2.1).1 = 33 then r = der (wrd f n (wrd f n s.1).2.2.1).2.1
  else if ¬ ((wrd f n (wrd f n s.1).2.2.1).1 = 30 ∧ (lki (wrd f n (wrd f n s.1).2.2.1).2.2.2.1 s.2.2.2 0).1 < 0 ∧ s.2.2.2.length < 40) then r = der (wrd f n (wrd f n s.1).2.2.1).2.1
  else if (wrd f n (wrd f n (wrd f n s.1).2.2.1).2.2.1).1 = 33 then r = der (wrd f n (wrd f n (wrd f n s.1).2.2.1).2.2.1).2.1
  else if (wrd f n s.1).1 = 10 then ∃ r1, ZI f n (lkn s.2.2.2) 0 4 0 (dbl ((wrd f n (wrd f n s.1).2.2.1).2.2.1, s.2)) r1 ∧ (if r1.1 = true then r = dst f n s (wrd f n (wrd f n s.1).2.2.1).2.2.2.1 r1.2.2 else r = der r1.2.1)
  else r = dsg f n s (wrd f n s.1).1 (wrd f n (wrd f n s.1).2.2.1).2.2.1 (wrd f n (wrd f n s.1).2.2.1).2.2.2.1
theorem ZI_det {f : Int → Int} {n : Int} {lk : List Int → Int × Int × Int × Int} {op : Nat} {c a : Int} {s : ZS} {r r' : ZR} (h : ZI f n lk op c a s r) (h' : ZI f n lk op c a s r') : r = r' := by
  obtain ⟨k, h⟩ := h
  obtain ⟨k', h'⟩ := h'
  exact zit_d (ZZ_det f n lk k k') h h'
theorem dcl_det {f : Int → Int} {n : Int} {s : DS} {r r' : DQ} (h : dcl f n s r) (h' : dcl f n s r') : r = r' := by
  have ee : ∀ {z : DQ}, r = z → r' = z → r = r' := fun a b => a.trans b.symm
  unfold dcl at h h'
  refine ite_2 h h' ee (fun h h' => ite_2 h h' ee (fun h h' => ite_2 h h' ee (fun h h' => ite_2 h h' (fun h h' => ?_) ee)))
  obtain ⟨r1, a, b⟩ := h
  obtain ⟨r2, a', b'⟩ := h'
  have e := ZI_det a a'
  rw [← e] at b'
  exact ite_2 b b' ee ee
/-- all declarations -/
def DP (f : Int → Int) (n : Int) : Nat → DS → DQ → Prop
  | 0, _, _ => False
  | k + 1, s, r => if (wrd f n s.1).1 = 8 ∨ (wrd f n s.1).1 = 9 ∨ (wrd f n s.1).1 = 10 then ∃ r1, dcl f n s r1 ∧ (if r1.1 = true then DP f n k r1.2.2 r else r = r1) else r = dok s
theorem DP_u (f : Int → Int) (n : Int) (k : Nat) (s : DS) (r : DQ) : DP f n (k + 1) s r = (if (wrd f n s.1).1 = 8 ∨ (wrd f n s.1).1 = 9 ∨ (wrd f n s.1).1 = 10 then ∃ r1, dcl f n s r1 ∧ (if r1.1 = true then DP f n k r1.2.2 r else r = r1) else r = dok s) := rfl
theorem DP_det (f : Int → Int) (n : Int) : ∀ (k k' : Nat) (s : DS) (r r' : DQ), DP f n k s r → DP f n k' s r' → r = r' := by
  intro k
  induction k with
  | zero => exact fun _ _ _ _ h _ => False.elim h
  | succ k ih =>
    intro k' s r r' h h'
    cases k' with
    | zero => exact False.elim h'
    | succ k' =>
      rw [DP_u] at h h'
      refine ite_2 h h' (fun h h' => ?_) (fun a b => a.trans b.symm)
      obtain ⟨r1, a, b⟩ := h
      obtain ⟨r2, a', b'⟩ := h'
      have e := dcl_det a a'
      rw [← e] at b'
      exact ite_2 b b' (fun b b' => ih k' _ _ _ b b') (fun a b => a.trans b.symm)
/-- costs and depths of the nodes so far -/
def gC (acc : List (Int × Int)) (i : Nat) : Int := (acc.getD i (0, 0)).1
def gD (acc : List (Int × Int)) (i : Nat) : Int := (acc.getD i (0, 0)).2
def smC (acc : List (Int × Int)) (a : Int) : List Nat → Int
  | [] => a
  | k :: l => smC acc (a + gC acc k) l
def mxD (acc : List (Int × Int)) (a : Int) : List Nat → Int
  | [] => a
  | k :: l => mxD acc (if gD acc k ≤ a then a else gD acc k) l
def cap (a : Int) : Int := if a ≤ 500 then a else 501
/-- a node's own share -/
def own (k : Int) : Int := if isS k = true ∨ k = 35 then 1 else 0
def cs1 (acc : List (Int × Int)) (d : Nod) : Int × Int := if d.1 = 23 then (cap (1 + gC acc d.2.2.1.toNat), gD acc d.2.2.1.toNat) else (cap (smC acc (own d.1) d.2.2.2), mxD acc 0 d.2.2.2 + (if d.1 = 35 then 1 else 0))
def csl : List Nod → List (Int × Int) → List (Int × Int)
  | [], acc => acc
  | d :: ns, acc => csl ns (acc ++ [cs1 acc d])
theorem csl_a : ∀ (ns ms : List Nod) (acc : List (Int × Int)), csl (ns ++ ms) acc = csl ms (csl ns acc) := by
  intro ns
  induction ns with
  | nil => exact fun _ _ => rfl
  | cons d ns ih => exact fun ms acc => ih ms (acc ++ [cs1 acc d])
theorem csl_s (ns : List Nod) (d : Nod) : csl (ns ++ [d]) [] = csl ns [] ++ [cs1 (csl ns []) d] := by
  rw [csl_a]
  rfl
theorem csl_l : ∀ (ns : List Nod) (acc : List (Int × Int)), (csl ns acc).length = acc.length + ns.length := by
  intro ns
  induction ns with
  | nil => exact fun acc => rfl
  | cons d ns ih =>
    intro acc
    show (csl ns (acc ++ [cs1 acc d])).length = _
    rw [ih, List.length_append, List.length_singleton, List.length_cons]
    omega
/-- whether the statements t make too much: 0 well, else too much -/
def tooM (ns : List Nod) (t : List Nat) : Prop := 500 < smC (csl ns []) 0 t ∨ ∃ k ∈ t, 40 < gD (csl ns []) k
/-- A PROGRAM: wrong at a place, or its statements read, its nodes, names, and what stands outside of steps -/
def PGM (f : Int → Int) (n : Int) (r : Bool × Int × Int × List Nod × List Nm × List Nat) : Prop :=
  if (wrd f n 0).1 = 33 then r = (false, (wrd f n 0).2.1, 0, [], [], []) else
  ∃ (k : Nat) (d : DQ), DP f n k (0, [], 0, []) d ∧ (if d.1 = true then
    ∃ z, ZI f n (lkn d.2.2.2.2.2) 0 10 0 (dbl d.2.2) z ∧ (if z.1 = true then
      (tooM z.2.2.2.1 z.2.2.2.2.2.1 ∧ r = (false, n, 0, [], [], [])) ∨ (¬ tooM z.2.2.2.1 z.2.2.2.2.2.1 ∧ r = (true, 0, z.2.2.2.2.1, z.2.2.2.1, d.2.2.2.2.2, z.2.2.2.2.2.1))
      else r = (false, z.2.1, 0, [], [], []))
    else r = (false, d.2.1, 0, [], [], []))
theorem PGM_det {f : Int → Int} {n : Int} {r r' : Bool × Int × Int × List Nod × List Nm × List Nat} (h : PGM f n r) (h' : PGM f n r') : r = r' := by
  have ee : ∀ {z : Bool × Int × Int × List Nod × List Nm × List Nat}, r = z → r' = z → r = r' := fun a b => a.trans b.symm
  unfold PGM at h h'
  refine ite_2 h h' ee (fun h h' => ?_)
  obtain ⟨k, d, a, b⟩ := h
  obtain ⟨k', d', a', b'⟩ := h'
  have e := DP_det f n k k' _ _ _ a a'
  rw [← e] at b'
  refine ite_2 b b' (fun b b' => ?_) ee
  obtain ⟨z, c, g⟩ := b
  obtain ⟨z', c', g'⟩ := b'
  have e2 := ZI_det c c'
  rw [← e2] at g'
  refine ite_2 g g' (fun g g' => ?_) ee
  rcases g with ⟨t, g⟩ | ⟨t, g⟩
  · rcases g' with ⟨t', g'⟩ | ⟨t', g'⟩
    · exact ee g g'
    · exact absurd t t'
  · rcases g' with ⟨t', g'⟩ | ⟨t', g'⟩
    · exact absurd t' t
    · exact ee g g'
theorem lkn_app (nm : List Nm) (l : List Int) : lkn (nm ++ [(l, 10, 0, -1)]) = lkn nm := by
  have g : ∀ (xs : List Nm) (m : List Int) (i : Int), (lki m xs i = (-1, 0, 0, 0) ∧ (lki m (xs ++ [(l, 10, 0, -1)]) i = (-1, 0, 0, 0) ∨ ∃ j, lki m (xs ++ [(l, 10, 0, -1)]) i = (j, 10, 0, -1))) ∨ lki m (xs ++ [(l, 10, 0, -1)]) i = lki m xs i := by
    intro xs
    induction xs with
    | nil =>
      intro m i
      left
      refine ⟨rfl, ?_⟩
      show lki m ((l, 10, 0, -1) :: []) i = _ ∨ ∃ j, lki m ((l, 10, 0, -1) :: []) i = _
      rw [lki_u]
      by_cases c : l = m
      · right
        exact ⟨i, if_pos c⟩
      · left
        exact if_neg c
    | cons x xs ih =>
      intro m i
      show (lki m (x :: xs) i = _ ∧ (lki m (x :: (xs ++ _)) i = _ ∨ ∃ j, lki m (x :: (xs ++ _)) i = _)) ∨ lki m (x :: (xs ++ _)) i = _
      rw [lki_u, lki_u]
      by_cases c : x.1 = m
      · rw [if_pos c, if_pos c]
        exact Or.inr rfl
      · rw [if_neg c, if_neg c]
        exact ih m (i + 1)
  funext m
  unfold lkn
  rcases g nm m 0 with ⟨a, b | ⟨j, b⟩⟩ | b
  · rw [a, b]
  · rw [a, b]
    show (if (10 : Int) = 10 ∧ (-1 : Int) < 0 then ((-1, 0, 0, 0) : Int × Int × Int × Int) else _) = if (0 : Int) = 10 ∧ (0 : Int) < 0 then _ else _
    rw [if_pos (by decide), if_neg (by decide)]
  · rw [b]
/-- the kid that a block is -/
theorem zi_kid {f : Int → Int} {n : Int} {lk : List Int → Int × Int × Int × Int} {op : Nat} {a : Int} {s s9 : ZS} (hk : s.2.2.2.1 = []) (h : ZI f n lk op 4 a s (zok s9)) : s9.2.2.2.1 = [s9.2.1.length - 1] := by
  obtain ⟨k, h⟩ := h
  have h' : zbl f n (ZZ f n lk k) op s (zok s9) := h
  unfold zbl at h'
  by_cases c : (wrd f n s.1).1 = 123 ∧ op < 20
  · rw [if_pos c] at h'
    obtain ⟨r1, _, b⟩ := h'
    by_cases g : r1.1 = true
    · rw [if_pos g] at b
      unfold znd at b
      by_cases q : r1.2.2.2.1.length = 300
      · rw [if_pos q] at b
        exact absurd (show true = false from congrArg Prod.fst b) (by decide)
      · rw [if_neg q] at b
        have e : s9 = (r1.2.2.1, r1.2.2.2.1 ++ [(35, 0, 0, r1.2.2.2.2.2.1)], r1.2.2.2.2.1 + 0, s.2.2.2.1 ++ [r1.2.2.2.1.length], s.2.2.2.2) := congrArg (fun r : ZR => r.2.2) b
        rw [e, hk]
        show [] ++ [r1.2.2.2.1.length] = [(r1.2.2.2.1 ++ [(35, 0, 0, r1.2.2.2.2.2.1)]).length - 1]
        rw [List.length_append, List.length_singleton, Nat.add_sub_cancel, List.nil_append]
    · rw [if_neg g] at b
      exact absurd (show r1.1 = true from (congrArg Prod.fst b).symm) g
  · rw [if_neg c] at h'
    exact absurd (show true = false from congrArg Prod.fst h') (by decide)
