/-! a line as the reference reads it is the line as the class reads it: all kinds -/
theorem tks_t (f : Int → Int) : ∀ (l : List Int) (p q : Int), tks f l p = (true, q) → q = p + l.length := by
  intro l
  induction l with
  | nil =>
    intro p q h
    have : p = q := congrArg Prod.snd h
    show q = p + ((0 : Nat) : Int)
    omega
  | cons c l ih =>
    intro p q h
    have e : tks f (c :: l) p = if f p = c then tks f l (p + 1) else (false, p) := rfl
    rw [e] at h
    have hl : ((c :: l).length : Int) = (l.length : Int) + 1 := by rw [List.length_cons]; rfl
    by_cases k : f p = c
    · rw [if_pos k] at h
      have := ih (p + 1) q h
      omega
    · rw [if_neg k] at h
      exact absurd (show false = true from congrArg Prod.fst h) (by decide)
/-- a pipe's three words -/
def lnW3 (f : Int → Int) (a b p : Int) : Int × Int × Int × Int × Int := if (nmS f false p).1 = -2 then (-1, 0, 0, 0, (nmS f false p).2) else if f (nmS f false p).2 = 10 then (3, a, b, (nmS f false p).1, (nmS f false p).2) else (-1, 0, 0, 0, (nmS f false p).2)
def lnW2 (f : Int → Int) (a p : Int) : Int × Int × Int × Int × Int := if (nmS f true p).1 = -2 then (-1, 0, 0, 0, (nmS f true p).2) else lnW3 f a (nmS f true p).1 (nmS f true p).2
def lnW1 (f : Int → Int) (p : Int) : Int × Int × Int × Int × Int := if (nmS f true p).1 = -2 then (-1, 0, 0, 0, (nmS f true p).2) else lnW2 f (nmS f true p).1 (nmS f true p).2
theorem nm_pes (f : Int → Int) (p : Int) : nmS f true p = if (tks f [32] p).1 = true then (if (pes f (tks f [32] p).2).1 = true then ((pes f (tks f [32] p).2).2.1, (pes f (tks f [32] p).2).2.2) else (-2, (pes f (tks f [32] p).2).2.2)) else (-2, (tks f [32] p).2) := by
  unfold nmS pes
  by_cases c1 : (tks f [32] p).1 = true
  · rw [if_pos c1, if_pos c1]
    by_cases c2 : f (tks f [32] p).2 = 45
    · rw [if_pos ⟨rfl, c2⟩, if_pos c2, if_pos rfl]
    · rw [if_neg (fun y => c2 y.2), if_neg c2]
      by_cases c3 : (dgs f 7 0 0 (tks f [32] p).2).1 = 0
      · rw [if_pos c3, if_neg (by show ¬ decide (¬ (dgs f 7 0 0 (tks f [32] p).2).1 = 0) = true; rw [decide_eq_false (fun y => y c3)]; decide)]
      · rw [if_neg c3, if_pos (show decide (¬ (dgs f 7 0 0 (tks f [32] p).2).1 = 0) = true from decide_eq_true c3)]
  · rw [if_neg c1, if_neg c1]
theorem pes_v (f : Int → Int) (p : Int) : -1 ≤ (pes f p).2.1 := by
  unfold pes
  by_cases c : f p = 45
  · rw [if_pos c]
    show (-1 : Int) ≤ -1
    omega
  · rw [if_neg c]
    have := dgs_v f 7 0 0 p (Int.le_refl _)
    show -1 ≤ (dgs f 7 0 0 p).2.1
    omega
theorem lw3 (f : Int → Int) (a b p : Int) : lnP4 f a b p = lnW3 f a b p := by
  unfold lnP4 lnW3 lnP5 nmS
  rw [ltr_5]
  by_cases c1 : (tks f [32] p).1 = true
  · rw [if_pos c1, if_pos c1]
    rw [if_neg (fun y : false = true ∧ _ => absurd y.1 (by decide))]
    by_cases c2 : (dgs f 7 0 0 (tks f [32] p).2).1 = 0
    · rw [if_pos c2, if_pos c2, if_pos rfl]
    · have vn := dgs_v f 7 0 0 (tks f [32] p).2 (Int.le_refl _)
      rw [if_neg c2, if_neg c2, if_neg (show ¬ (dgs f 7 0 0 (tks f [32] p).2).2.1 = -2 by omega)]
  · rw [if_neg c1, if_neg c1, if_pos rfl]
theorem lw2 (f : Int → Int) (a p : Int) : lnP2 f a p = lnW2 f a p := by
  unfold lnP2 lnW2 lnP3
  rw [nm_pes, ltr_5]
  by_cases c1 : (tks f [32] p).1 = true
  · rw [if_pos c1, if_pos c1]
    by_cases c2 : (pes f (tks f [32] p).2).1 = true
    · have vn := pes_v f (tks f [32] p).2
      rw [if_pos c2, if_pos c2, if_neg (show ¬ (pes f (tks f [32] p).2).2.1 = -2 by omega), lw3]
    · rw [if_neg c2, if_neg c2, if_pos rfl]
  · rw [if_neg c1, if_neg c1, if_pos rfl]
theorem lw1 (f : Int → Int) (ls : List Int) (p p1 : Int) (h : tks f ls p = (true, p1)) (e : ltr 4 5 = ls ++ [32]) : lnP f p = lnW1 f p1 := by
  have hp := tks_t f ls p p1 h
  have st := tks_st f ls [32] p (by rw [h])
  rw [← hp] at st
  unfold lnP lnW1 lnP1
  rw [nm_pes, e, st]
  by_cases c1 : (tks f [32] p1).1 = true
  · rw [if_pos c1, if_pos c1]
    by_cases c2 : (pes f (tks f [32] p1).2).1 = true
    · have vn := pes_v f (tks f [32] p1).2
      rw [if_pos c2, if_pos c2, if_neg (show ¬ (pes f (tks f [32] p1).2).2.1 = -2 by omega), lw2]
    · rw [if_neg c2, if_neg c2, if_pos rfl]
  · rw [if_neg c1, if_neg c1, if_pos rfl]
