/-! what was read before a condition stands ahead of its codes -/
def preR (a : List Int) (r : Bool × List Int × Nat × Nat) : Bool × List Int × Nat × Nat := if r.1 = true then (true, a ++ r.2.1, r.2.2.1, r.2.2.2) else r
theorem preR_t {a : List Int} {r : Bool × List Int × Nat × Nat} (h : r.1 = true) : preR a r = (true, a ++ r.2.1, r.2.2.1, r.2.2.2) := if_pos h
theorem preR_f {a : List Int} {r : Bool × List Int × Nat × Nat} (h : ¬ r.1 = true) : preR a r = r := if_neg h
theorem rsF_n (i : Nat) : ¬ (rsF i).1 = true := fun z => absurd (show false = true from z) (by decide)
theorem sp_pre {f : Int → Int} {n : Int} (a : List Int) : ∀ (k md o : Nat) (c : List Int) (t i : Nat) (r : Bool × List Int × Nat × Nat), SP f n k md o (a ++ c) t i r → ∃ r0, SP f n k md o c t i r0 ∧ r = preR a r0 := by
  intro k
  induction k with
  | zero => intro md o c t i r h; exact absurd h (by cases md <;> exact fun z => z)
  | succ k ih =>
    intro md o c t i r h
    match md with
    | 0 =>
      rw [SP0] at h
      by_cases c1 : wq f n i (ltr 8 3) = true
      · rw [if_pos c1] at h
        by_cases c2 : o = 20
        · rw [if_pos c2] at h
          refine ⟨rsF i, ?_, ?_⟩
          · rw [SP0, if_pos c1, if_pos c2]
          · rw [h]
            exact (preR_f (rsF_n _)).symm
        · rw [if_neg c2] at h
          obtain ⟨r1, h1, e⟩ := h
          obtain ⟨s, hs, es⟩ := ih _ _ _ _ _ _ h1
          refine ⟨if s.1 = true then (true, s.2.1 ++ [16], s.2.2.1, s.2.2.2) else s, ?_, ?_⟩
          · rw [SP0, if_pos c1, if_neg c2]
            exact ⟨s, hs, rfl⟩
          · rw [e, es]
            by_cases q : s.1 = true
            · rw [preR_t q, if_pos q, if_pos rfl, preR_t rfl, List.append_assoc]
            · rw [preR_f q, if_neg q, preR_f q]
      · rw [if_neg c1] at h
        by_cases c3 : wq f n i (ltr 9 1) = true
        · rw [if_pos c3] at h
          by_cases c2 : o = 20
          · rw [if_pos c2] at h
            refine ⟨rsF i, ?_, ?_⟩
            · rw [SP0, if_neg c1, if_pos c3, if_pos c2]
            · rw [h]
              exact (preR_f (rsF_n _)).symm
          · rw [if_neg c2] at h
            obtain ⟨r1, h1, e⟩ := h
            obtain ⟨s, hs, es⟩ := ih _ _ _ _ _ _ h1
            refine ⟨if s.1 = true then (if wq f n s.2.2.2 (ltr 10 1) = true then (true, s.2.1, s.2.2.1, s.2.2.2 + 1) else rsF s.2.2.2) else s, ?_, ?_⟩
            · rw [SP0, if_neg c1, if_pos c3, if_neg c2]
              exact ⟨s, hs, rfl⟩
            · rw [e, es]
              by_cases q : s.1 = true
              · rw [preR_t q, if_pos q, if_pos rfl]
                by_cases q2 : wq f n s.2.2.2 (ltr 10 1) = true
                · rw [if_pos q2, if_pos q2, preR_t rfl]
                · rw [if_neg q2, if_neg q2]
                  exact (preR_f (rsF_n _)).symm
              · rw [preR_f q, if_neg q, preR_f q]
        · rw [if_neg c3] at h
          refine ⟨if cnw f n i < 0 ∨ t = 32 then rsF i else (true, c ++ [cnw f n i], t + 1, i + 1), ?_, ?_⟩
          · rw [SP0, if_neg c1, if_neg c3]
          · rw [h]
            by_cases q : cnw f n i < 0 ∨ t = 32
            · rw [if_pos q, if_pos q]
              exact (preR_f (rsF_n _)).symm
            · rw [if_neg q, if_neg q, preR_t rfl, List.append_assoc]
    | 1 =>
      rw [SP1] at h
      obtain ⟨r1, h1, e⟩ := h
      obtain ⟨s, hs, es⟩ := ih _ _ _ _ _ _ h1
      by_cases q : s.1 = true
      · rw [es, preR_t q, if_pos rfl] at e
        obtain ⟨u, hu, eu⟩ := ih _ _ _ _ _ _ e
        refine ⟨u, ?_, eu⟩
        rw [SP1]
        refine ⟨s, hs, ?_⟩
        rw [if_pos q]
        exact hu
      · rw [es, preR_f q, if_neg q] at e
        refine ⟨s, ?_, by rw [e, preR_f q]⟩
        rw [SP1]
        refine ⟨s, hs, ?_⟩
        rw [if_neg q]
    | 2 =>
      rw [SP2] at h
      obtain ⟨r1, h1, e⟩ := h
      obtain ⟨s, hs, es⟩ := ih _ _ _ _ _ _ h1
      by_cases q : s.1 = true
      · rw [es, preR_t q, if_pos rfl] at e
        obtain ⟨u, hu, eu⟩ := ih _ _ _ _ _ _ e
        refine ⟨u, ?_, eu⟩
        rw [SP2]
        refine ⟨s, hs, ?_⟩
        rw [if_pos q]
        exact hu
      · rw [es, preR_f q, if_neg q] at e
        refine ⟨s, ?_, by rw [e, preR_f q]⟩
        rw [SP2]
        refine ⟨s, hs, ?_⟩
        rw [if_neg q]
    | 3 =>
      rw [SP3] at h
      by_cases c0 : wq f n i (ltr 11 3) = true
      · rw [if_pos c0] at h
        obtain ⟨r1, h1, e⟩ := h
        obtain ⟨s, hs, es⟩ := ih _ _ _ _ _ _ h1
        by_cases q : s.1 = true
        · rw [es, preR_t q, if_pos rfl, List.append_assoc] at e
          obtain ⟨u, hu, eu⟩ := ih _ _ _ _ _ _ e
          refine ⟨u, ?_, eu⟩
          rw [SP3, if_pos c0]
          refine ⟨s, hs, ?_⟩
          rw [if_pos q]
          exact hu
        · rw [es, preR_f q, if_neg q] at e
          refine ⟨s, ?_, by rw [e, preR_f q]⟩
          rw [SP3, if_pos c0]
          refine ⟨s, hs, ?_⟩
          rw [if_neg q]
      · rw [if_neg c0] at h
        refine ⟨(true, c, t, i), ?_, by rw [h, preR_t rfl]⟩
        rw [SP3, if_neg c0]
    | m + 4 =>
      rw [SP4] at h
      by_cases c0 : wq f n i (ltr 12 2) = true
      · rw [if_pos c0] at h
        obtain ⟨r1, h1, e⟩ := h
        obtain ⟨s, hs, es⟩ := ih _ _ _ _ _ _ h1
        by_cases q : s.1 = true
        · rw [es, preR_t q, if_pos rfl, List.append_assoc] at e
          obtain ⟨u, hu, eu⟩ := ih _ _ _ _ _ _ e
          refine ⟨u, ?_, eu⟩
          rw [SP4, if_pos c0]
          refine ⟨s, hs, ?_⟩
          rw [if_pos q]
          exact hu
        · rw [es, preR_f q, if_neg q] at e
          refine ⟨s, ?_, by rw [e, preR_f q]⟩
          rw [SP4, if_pos c0]
          refine ⟨s, hs, ?_⟩
          rw [if_neg q]
      · rw [if_neg c0] at h
        refine ⟨(true, c, t, i), ?_, by rw [h, preR_t rfl]⟩
        rw [SP4, if_neg c0]
