/-! a line is taken by the class just when its lines so far let it in -/
theorem ok_end {z : MW} {ls : List Ln} (h : PWc z ls) {b : Int32} {d v : Int} (eb : b.toInt = v) (b0 : -1 ≤ b.toInt) : (b.toInt = -1 ∨ (b.toInt < (z.1 91 0).toInt ∧ (z.1 94 b.toInt.toNat).toInt + d < pcn (z.1 92 b.toInt.toNat).toInt)) ↔ (v = -1 ∨ (0 ≤ v ∧ v < (thg ls).length ∧ ∀ y, (thg ls)[v.toNat]? = some y → prt ls v + d < pcn (ckd y))) := by
  rw [h.1, eb]
  rw [eb] at b0
  by_cases c : v = -1
  · exact ⟨fun _ => Or.inl c, fun _ => Or.inl c⟩
  · have v0 : 0 ≤ v := by omega
    have ev : ((v.toNat : Nat) : Int) = v := by omega
    constructor
    · intro q
      have q := q.resolve_left c
      refine Or.inr ⟨v0, q.1, fun y ey => ?_⟩
      have g := h.2.2.1 v.toNat y ey
      rw [ev] at g
      rw [← g.1, ← g.2.2]
      exact q.2
    · intro q
      have q := q.resolve_left c
      have lt : v.toNat < (thg ls).length := by omega
      have g := h.2.2.1 v.toNat _ (List.getElem?_eq_getElem lt)
      have k := q.2.2 _ (List.getElem?_eq_getElem lt)
      rw [ev] at g
      refine Or.inr ⟨q.2.1, ?_⟩
      rw [g.1, g.2.2]
      exact k
theorem ok_pipe {z : MW} {ls : List Ln} {x : Ln} {a b l : Int32} (h : PWc z ls) (hx : x.1 = 3) (ea : a.toInt = x.2.1) (eb : b.toInt = x.2.2.1) (el : l.toInt = x.2.2.2) (a0 : -1 ≤ a.toInt) (b0 : -1 ≤ b.toInt) : okP z a b l ↔ okL ls x := by
  have A := ok_end h (d := 0) ea a0
  have B := ok_end h (d := if x.2.1 = x.2.2.1 then 1 else 0) eb b0
  have n1 := h.2.1
  unfold okP okJ okL
  rw [← ea, ← eb] at *
  constructor
  · intro q
    refine Or.inr (Or.inr (Or.inr ⟨hx, ?_, ?_, ?_, ?_, B.mp q.2.2.2⟩))
    · have := q.1
      omega
    · rw [← el]
      exact q.2.1.1
    · rw [← el]
      exact q.2.1.2
    · have k := A.mp (by
        rcases q.2.2.1 with y | y
        · exact Or.inl y
        · refine Or.inr ⟨y.1, ?_⟩
          have := y.2
          omega)
      rcases k with k | k
      · exact Or.inl k
      · refine Or.inr ⟨k.1, k.2.1, fun y ey => ?_⟩
        have := k.2.2 y ey
        omega
  · intro q
    rcases q with q | q | q | q
    · have := q.1
      omega
    · have := q.1
      omega
    · have := q.1
      omega
    · refine ⟨?_, ⟨?_, ?_⟩, ?_, B.mpr q.2.2.2.2.2⟩
      · have := q.2.1
        omega
      · rw [el]
        exact q.2.2.1
      · rw [el]
        exact q.2.2.2.1
      · have k := A.mpr (by
          rcases q.2.2.2.2.1 with y | y
          · exact Or.inl y
          · refine Or.inr ⟨y.1, y.2.1, fun u eu => ?_⟩
            have := y.2.2 u eu
            omega)
        rcases k with k | k
        · exact Or.inl k
        · refine Or.inr ⟨k.1, ?_⟩
          have := k.2
          omega
