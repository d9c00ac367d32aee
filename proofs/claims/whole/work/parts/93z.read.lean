/-! the class reads a plant: all of it -/
/-- the lines of a text from p on: r the place where it is wrong, or -1; ls' all its lines -/
def PlR (f : Int → Int) (n : Int) : Nat → Int → List Ln → Int → List Ln → Prop
  | 0, _, _, _, _ => False
  | m + 1, p, ls, r, ls' => (¬ p < n ∧ r = -1 ∧ ls' = ls) ∨ (p < n ∧ ((lnS f p).1 = -1 ∨ ¬ okL ls (lnX (lnS f p))) ∧ r = (lnS f p).2.2.2.2 ∧ ls' = ls) ∨ (p < n ∧ ¬ (lnS f p).1 = -1 ∧ okL ls (lnX (lnS f p)) ∧ PlR f n m ((lnS f p).2.2.2.2 + 1) (ls ++ [lnX (lnS f p)]) r ls')
theorem plr_det {f : Int → Int} {n : Int} : ∀ (m k : Nat) (p : Int) (ls : List Ln) (r1 r2 : Int) (l1 l2 : List Ln), PlR f n m p ls r1 l1 → PlR f n k p ls r2 l2 → r1 = r2 ∧ l1 = l2 := by
  intro m
  induction m with
  | zero => intro k p ls r1 r2 l1 l2 h; exact absurd h (fun y => y)
  | succ m ih =>
    intro k p ls r1 r2 l1 l2 h h2
    cases k with
    | zero => exact absurd h2 (fun y => y)
    | succ k =>
      rcases h with ⟨c, e1, e2⟩ | ⟨c, d, e1, e2⟩ | ⟨c, d, o, g⟩
      · rcases h2 with ⟨c', f1, f2⟩ | ⟨c', _⟩ | ⟨c', _⟩
        · exact ⟨e1.trans f1.symm, e2.trans f2.symm⟩
        · exact absurd c' c
        · exact absurd c' c
      · rcases h2 with ⟨c', _⟩ | ⟨c', d', f1, f2⟩ | ⟨c', d', o', _⟩
        · exact absurd c c'
        · exact ⟨e1.trans f1.symm, e2.trans f2.symm⟩
        · rcases d with d | d
          · exact absurd d d'
          · exact absurd o' d
      · rcases h2 with ⟨c', _⟩ | ⟨c', d', f1, f2⟩ | ⟨c', d', o', g'⟩
        · exact absurd c c'
        · rcases d' with d' | d'
          · exact absurd d' d
          · exact absurd o d'
        · exact ih k _ _ _ _ _ _ g g'
theorem dgs_le (f : Int → Int) : ∀ (n d : Nat) (v p : Int), p ≤ (dgs f n d v p).2.2 := by
  intro n
  induction n with
  | zero => intro d v p; exact Int.le_refl _
  | succ n ih =>
    intro d v p
    have e : dgs f (n + 1) d v p = if (48 ≤ f p ∧ f p ≤ 57) ∧ (d = 0 ∨ 0 < v) then dgs f n (d + 1) (v * 10 + f p - 48) (p + 1) else (d, v, p) := rfl
    rw [e]
    by_cases q : (48 ≤ f p ∧ f p ≤ 57) ∧ (d = 0 ∨ 0 < v)
    · rw [if_pos q]
      have := ih (d + 1) (v * 10 + f p - 48) (p + 1)
      omega
    · rw [if_neg q]
      exact Int.le_refl _
theorem pes_le (f : Int → Int) (p : Int) : p ≤ (pes f p).2.2 := by
  unfold pes
  by_cases c : f p = 45
  · rw [if_pos c]
    show p ≤ p + 1
    omega
  · rw [if_neg c]
    exact dgs_le f 7 0 0 p
theorem le_if {P : Prop} [Decidable P] {p : Int} {x y : Int × Int × Int × Int × Int} (hx : p ≤ x.2.2.2.2) (hy : p ≤ y.2.2.2.2) : p ≤ (if P then x else y).2.2.2.2 := by
  by_cases c : P
  · rw [if_pos c]
    exact hx
  · rw [if_neg c]
    exact hy
theorem lnN_le (f : Int → Int) (k : Int) (l : List Int) (p : Int) : p ≤ (lnN f k l p).2.2.2.2 := by
  have t := (tks_le f l p).1
  have d := dgs_le f 7 0 0 (tks f l p).2
  unfold lnN
  exact le_if (le_if (Int.le_trans t d) (le_if (Int.le_trans t d) (Int.le_trans t d))) t
theorem lnU_le (f : Int → Int) (p : Int) : p ≤ (lnU f p).2.2.2.2 := by
  have t := (tks_le f (ltr 3 4) p).1
  unfold lnU
  exact le_if (le_if t t) t
theorem lnP_le (f : Int → Int) (p : Int) : p ≤ (lnP f p).2.2.2.2 := by
  have a5 : ∀ a b q, q ≤ (lnP5 f a b q).2.2.2.2 := fun a b q => by
    have d := dgs_le f 7 0 0 q
    unfold lnP5
    exact le_if d (le_if d d)
  have a4 : ∀ a b q, q ≤ (lnP4 f a b q).2.2.2.2 := fun a b q => by
    have t := (tks_le f (ltr 5 1) q).1
    unfold lnP4
    exact le_if (Int.le_trans t (a5 _ _ _)) t
  have a3 : ∀ a q, q ≤ (lnP3 f a q).2.2.2.2 := fun a q => by
    have t := pes_le f q
    unfold lnP3
    exact le_if (Int.le_trans t (a4 _ _ _)) t
  have a2 : ∀ a q, q ≤ (lnP2 f a q).2.2.2.2 := fun a q => by
    have t := (tks_le f (ltr 5 1) q).1
    unfold lnP2
    exact le_if (Int.le_trans t (a3 _ _)) t
  have a1 : ∀ q, q ≤ (lnP1 f q).2.2.2.2 := fun q => by
    have t := pes_le f q
    unfold lnP1
    exact le_if (Int.le_trans t (a2 _ _)) t
  have t := (tks_le f (ltr 4 5) p).1
  unfold lnP
  exact le_if (Int.le_trans t (a1 _)) t
theorem lnS_le (f : Int → Int) (p : Int) : p ≤ (lnS f p).2.2.2.2 := by
  unfold lnS
  exact le_if (lnN_le f 0 _ p) (le_if (lnN_le f 2 _ p) (le_if (lnU_le f p) (lnP_le f p)))
