theorem lk_off (pc d : Int) (td : Nat) (hd : pc + d = (td : Int)) : ∀ (qs : List (Int × Int)) (ps : List (Int × Nat)), qs.map (fun q => (q.1, pc + q.2)) = ps.map (fun p : Int × Nat => (p.1, (p.2 : Int))) → ∀ x : Int, pc + Op.lookupswitch.offset qs d x = (((ps.lookup x).getD td : Nat) : Int) := by
  intro qs
  induction qs with
  | nil =>
    intro ps h x
    cases ps with
    | nil => exact hd
    | cons p ps => cases h
  | cons q qs ih =>
    intro ps h x
    cases ps with
    | nil => cases h
    | cons p ps =>
      obtain ⟨a, o⟩ := q
      obtain ⟨b, t⟩ := p
      simp only [List.map_cons, List.cons.injEq, Prod.mk.injEq] at h
      obtain ⟨⟨h1, h2⟩, h3⟩ := h
      subst h1
      rw [Op.lookupswitch.offset_cons, List.lookup_cons]
      by_cases hx : a = x
      · subst hx
        simp [h2]
      · have e : (x == a) = false := by simpa using fun z => hx z.symm
        rw [if_neg hx, e]
        exact ih ps h3 x
