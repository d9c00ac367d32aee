/-! a line as the reference reads it is the line as the class reads it -/
/-- the reference's answer of a line, with its words, tells what L tells -/
def LnE (r q : Int32) (a : Nat → Int32) (L : Int × Int × Int × Int × Int) : Prop := L.2.2.2.2 = q.toInt ∧ ((r.toInt = -1 ∧ L.1 = -1) ∨ (r.toInt = 0 ∧ L.1 = 0 ∧ L.2.1 = (a 0).toInt) ∨ (r.toInt = 1 ∧ L.1 = 1) ∨ (r.toInt = 2 ∧ L.1 = 2 ∧ L.2.1 = (a 0).toInt) ∨ (r.toInt = 3 ∧ L.1 = 3 ∧ L.2.1 = (a 0).toInt ∧ L.2.2.1 = (a 1).toInt ∧ L.2.2.2.1 = (a 2).toInt))
theorem wr_0 {t : MW} {k p q f : Int32} {a : Nat → Int32} {m : Nat} (h : WRn m k 0 0 t p f q a) : f = 1 ∧ q = p := by
  cases m with
  | zero => exact absurd h (fun y => y)
  | succ m =>
    rcases h with ⟨_, e1, e2⟩ | ⟨c, _⟩
    · exact ⟨e1, e2⟩
    · exact absurd (Int.le_refl _) c
theorem wr_1 {t : MW} {k p q f cnt i : Int32} {a : Nat → Int32} {m : Nat} (h : WRn m k cnt i t p f q a) (c : ¬ cnt.toInt ≤ i.toInt) : ∃ p1 : Int32, NM (aN k i) t p (a i.toInt.toNat) p1 ∧ (((a i.toInt.toNat).toInt = -2 ∧ f = 0 ∧ q = p1) ∨ (¬ (a i.toInt.toNat).toInt = -2 ∧ ∃ m, WRn m k cnt (i + (1 : Int32)) t p1 f q a)) := by
  cases m with
  | zero => exact absurd h (fun y => y)
  | succ m =>
    rcases h with ⟨c2, _⟩ | ⟨_, p1, h1, h2⟩
    · exact absurd c2 c
    · refine ⟨p1, h1, ?_⟩
      rcases h2 with h2 | h2
      · exact Or.inl h2
      · exact Or.inr ⟨h2.1, m, h2.2⟩
theorem wr_e {t : MW} {k p q f cnt i : Int32} {a : Nat → Int32} {m : Nat} (h : WRn m k cnt i t p f q a) (c : cnt.toInt ≤ i.toInt) : f = 1 ∧ q = p := by
  cases m with
  | zero => exact absurd h (fun y => y)
  | succ m =>
    rcases h with ⟨_, e1, e2⟩ | ⟨c2, _⟩
    · exact ⟨e1, e2⟩
    · exact absurd c c2
theorem dgs_v (f : Int → Int) : ∀ (n d : Nat) (v p : Int), 0 ≤ v → 0 ≤ (dgs f n d v p).2.1 := by
  intro n
  induction n with
  | zero => intro d v p h; exact h
  | succ n ih =>
    intro d v p h
    have e : dgs f (n + 1) d v p = if (48 ≤ f p ∧ f p ≤ 57) ∧ (d = 0 ∨ 0 < v) then dgs f n (d + 1) (v * 10 + f p - 48) (p + 1) else (d, v, p) := rfl
    rw [e]
    by_cases q : (48 ≤ f p ∧ f p ≤ 57) ∧ (d = 0 ∨ 0 < v)
    · rw [if_pos q]
      exact ih _ _ _ (by omega)
    · rw [if_neg q]
      exact h
/-- one word behind letters: as the class has it -/
theorem ln_one {f : Int → Int} {ls : List Int} {k p p1 q v : Int} (h1 : tks f ls p = (true, p1)) (hp : p1 = p + ls.length) (h2 : nmS f false p1 = (v, q)) (hv : -2 ≤ v) : (v = -2 → lnN f k (ls ++ [32]) p = (-1, 0, 0, 0, q)) ∧ (¬ v = -2 → lnN f k (ls ++ [32]) p = if f q = 10 then (k, v, 0, 0, q) else (-1, 0, 0, 0, q)) := by
  have e := tks_st f ls [32] p (by rw [h1])
  rw [← hp] at e
  unfold lnN
  rw [e]
  unfold nmS at h2
  by_cases c1 : (tks f [32] p1).1 = true
  · rw [if_pos c1] at h2
    rw [if_neg (fun y => absurd y.1 (by decide))] at h2
    rw [if_pos c1]
    by_cases c2 : (dgs f 7 0 0 (tks f [32] p1).2).1 = 0
    · rw [if_pos c2] at h2
      rw [if_pos c2]
      have e1 : (-2 : Int) = v := congrArg Prod.fst h2
      have e2 : (dgs f 7 0 0 (tks f [32] p1).2).2.2 = q := congrArg Prod.snd h2
      exact ⟨fun _ => by rw [e2], fun y => absurd e1.symm y⟩
    · rw [if_neg c2] at h2
      rw [if_neg c2]
      have e1 : (dgs f 7 0 0 (tks f [32] p1).2).2.1 = v := congrArg Prod.fst h2
      have e2 : (dgs f 7 0 0 (tks f [32] p1).2).2.2 = q := congrArg Prod.snd h2
      have vn : 0 ≤ (dgs f 7 0 0 (tks f [32] p1).2).2.1 := dgs_v f 7 0 0 _ (Int.le_refl _)
      rw [e1, e2]
      rw [e1] at vn
      exact ⟨fun y => by omega, fun _ => rfl⟩
  · rw [if_neg c1] at h2
    rw [if_neg c1]
    have e1 : (-2 : Int) = v := congrArg Prod.fst h2
    have e2 : (tks f [32] p1).2 = q := congrArg Prod.snd h2
    exact ⟨fun _ => by rw [e2], fun y => absurd e1.symm y⟩
