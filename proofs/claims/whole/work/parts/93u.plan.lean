/-! a plant as the list of its lines -/
/-- a line: what (0 tank, 1 pump, 2 valve, 3 pipe) and its numbers -/
abbrev Ln : Type := Int × Int × Int × Int
def isT (x : Ln) : Bool := !(x.1 == 3)
def thg (ls : List Ln) : List Ln := ls.filter isT
def pip (ls : List Ln) : List Ln := ls.filter (fun x => x.1 == 3)
/-- how often a thing is told as a pipe's end -/
def prt (ls : List Ln) (t : Int) : Int := (((pip ls).filter (fun x => x.2.1 == t)).length : Int) + (((pip ls).filter (fun x => x.2.2.1 == t)).length : Int)
/-- the class's number of a kind -/
def ckd (x : Ln) : Int := if x.1 = 0 then 9 else if x.1 = 1 then 8 else x.2.1
/-- may the line be added? -/
def okL (ls : List Ln) (x : Ln) : Prop :=
  (x.1 = 0 ∧ 1 ≤ x.2.1 ∧ x.2.1 ≤ 100000 ∧ (thg ls).length < 20) ∨ (x.1 = 1 ∧ (thg ls).length < 20) ∨ (x.1 = 2 ∧ 0 ≤ x.2.1 ∧ x.2.1 ≤ 7 ∧ (thg ls).length < 20) ∨
  (x.1 = 3 ∧ (pip ls).length < 24 ∧ 1 ≤ x.2.2.2 ∧ x.2.2.2 ≤ 200 ∧ (x.2.1 = -1 ∨ (0 ≤ x.2.1 ∧ x.2.1 < (thg ls).length ∧ ∀ y, (thg ls)[x.2.1.toNat]? = some y → prt ls x.2.1 < pcn (ckd y))) ∧ (x.2.2.1 = -1 ∨ (0 ≤ x.2.2.1 ∧ x.2.2.1 < (thg ls).length ∧ ∀ y, (thg ls)[x.2.2.1.toNat]? = some y → prt ls x.2.2.1 + (if x.2.1 = x.2.2.1 then 1 else 0) < pcn (ckd y))))
theorem thg_t (ls : List Ln) (x : Ln) (h : ¬ x.1 = 3) : thg (ls ++ [x]) = thg ls ++ [x] := by
  unfold thg
  have e : isT x = true := by
    unfold isT
    rw [beq_false_of_ne h]
    rfl
  rw [List.filter_append, List.filter_cons, if_pos e, List.filter_nil]
theorem thg_p (ls : List Ln) (x : Ln) (h : x.1 = 3) : thg (ls ++ [x]) = thg ls := by
  unfold thg
  have e : ¬ isT x = true := by
    unfold isT
    rw [h]
    decide
  rw [List.filter_append, List.filter_cons, if_neg e, List.filter_nil, List.append_nil]
theorem pip_t (ls : List Ln) (x : Ln) (h : ¬ x.1 = 3) : pip (ls ++ [x]) = pip ls := by
  unfold pip
  have e : ¬ ((x.1 == 3) = true) := by
    rw [beq_false_of_ne h]
    decide
  rw [List.filter_append, List.filter_cons, if_neg e, List.filter_nil, List.append_nil]
theorem pip_p (ls : List Ln) (x : Ln) (h : x.1 = 3) : pip (ls ++ [x]) = pip ls ++ [x] := by
  unfold pip
  have e : (x.1 == 3) = true := by
    rw [h]
    decide
  rw [List.filter_append, List.filter_cons, if_pos e, List.filter_nil]
theorem prt_t (ls : List Ln) (x : Ln) (h : ¬ x.1 = 3) (t : Int) : prt (ls ++ [x]) t = prt ls t := by
  unfold prt
  rw [pip_t ls x h]
theorem prt_p (ls : List Ln) (x : Ln) (h : x.1 = 3) (t : Int) : prt (ls ++ [x]) t = prt ls t + (if x.2.1 = t then 1 else 0) + (if x.2.2.1 = t then 1 else 0) := by
  unfold prt
  rw [pip_p ls x h, List.filter_append, List.filter_append, List.length_append, List.length_append]
  have e1 : ((([x] : List Ln).filter (fun x => x.2.1 == t)).length : Int) = if x.2.1 = t then 1 else 0 := by
    by_cases c : x.2.1 = t
    · rw [if_pos c, List.filter_cons, if_pos (beq_iff_eq.mpr c)]
      rfl
    · rw [if_neg c, List.filter_cons, if_neg (fun y => c (beq_iff_eq.mp y))]
      rfl
  have e2 : ((([x] : List Ln).filter (fun x => x.2.2.1 == t)).length : Int) = if x.2.2.1 = t then 1 else 0 := by
    by_cases c : x.2.2.1 = t
    · rw [if_pos c, List.filter_cons, if_pos (beq_iff_eq.mpr c)]
      rfl
    · rw [if_neg c, List.filter_cons, if_neg (fun y => c (beq_iff_eq.mp y))]
      rfl
  omega
