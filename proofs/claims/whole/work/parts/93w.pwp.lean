/-! the class's plant is the list of its lines: pipes -/
theorem pwc_p {z w' : MW} {ls : List Ln} {x : Ln} {a b l : Int32} (hI : BND z) (h : PWc z ls) (hx : x.1 = 3) (ea : a.toInt = x.2.1) (eb : b.toInt = x.2.2.1) (el : l.toInt = x.2.2.2) (a0 : -1 ≤ a.toInt) (b0 : -1 ≤ b.toInt) (ok : okP z a b l) (ad : AdP z w' a b l) : PWc w' (ls ++ [x]) := by
  obtain ⟨z1, z2, j1, G1, j2, G2, e⟩ := ad
  have p24 := ok.1
  have bp := bd_91_1 hI
  have n1 : (z.1 91 1).toInt.toNat = (pip ls).length := by have := h.2.1; omega
  have t1 : (tI (2 * (z.1 91 1).toInt)).toInt.toNat = 2 * (pip ls).length := by rw [tI_t (by omega) (by omega)]; omega
  have t2 : (tI (2 * (z.1 91 1).toInt + 1)).toInt.toNat = 2 * (pip ls).length + 1 := by rw [tI_t (by omega) (by omega)]; omega
  have f95 : ∀ j, w'.1 95 j = if j = (pip ls).length then l else z.1 95 j := fun j => by
    rw [e, sI_oth _ _ _ _ _ _ (by decide), (G2 95 j rfl).1, (G1 95 j rfl).1, sI_at, n1]
    by_cases q : j = (pip ls).length
    · rw [if_pos q, if_pos ⟨rfl, q⟩]
    · rw [if_neg q, if_neg (fun y => q y.2)]
  have f96 : ∀ j, w'.1 96 j = if j = 2 * (pip ls).length + 1 then b else if j = 2 * (pip ls).length then a else z.1 96 j := fun j => by
    rw [e, sI_oth _ _ _ _ _ _ (by decide), j2.1 j, t2, j1.1 j, t1, sI_oth _ _ _ _ _ _ (by decide)]
  have c1 : ∀ j, (z1.1 94 j).toInt = (z.1 94 j).toInt + (if a.toInt = (j : Int) then 1 else 0) := fun j => by
    have bj := bd_94 hI j
    rw [j1.2.2.1 j]
    have e94 : ∀ k, (sI z 95 (z.1 91 1).toInt.toNat l).1 94 k = z.1 94 k := fun k => rfl
    rw [e94, e94]
    by_cases q : a.toInt = (j : Int)
    · have ej : j = a.toInt.toNat := by omega
      rw [if_pos ⟨by omega, ej⟩, if_pos q, ← ej, ti_add2 (Eq.refl (z.1 94 j).toInt) i_1 (by omega) (by omega)]
    · rw [if_neg (fun y => q (by omega)), if_neg q]
      omega
  have c2 : ∀ j, (w'.1 94 j).toInt = (z.1 94 j).toInt + (if a.toInt = (j : Int) then 1 else 0) + (if b.toInt = (j : Int) then 1 else 0) := fun j => by
    have bj := bd_94 hI j
    have k1 := c1 j
    rw [e, sI_oth _ _ _ _ _ _ (by decide), j2.2.2.1 j]
    have k2 : (z1.1 94 j).toInt ≤ 49 ∧ 0 ≤ (z1.1 94 j).toInt := by
      rw [k1]
      by_cases q : a.toInt = (j : Int)
      · rw [if_pos q]
        omega
      · rw [if_neg q]
        omega
    by_cases q : b.toInt = (j : Int)
    · have ej : j = b.toInt.toNat := by omega
      rw [if_pos ⟨by omega, ej⟩, if_pos q, ← ej, ti_add2 (Eq.refl (z1.1 94 j).toInt) i_1 (by omega) (by omega), k1]
    · rw [if_neg (fun y => q (by omega)), if_neg q, k1]
      omega
  have oa := ok.2.2.1
  have ob := ok.2.2.2
  unfold okJ at oa
  have h0 := h.1
  refine ⟨?_, ?_, fun t y ey => ?_, fun p y ey => ?_, fun t ht => ?_⟩
  · rw [e, sI_ne _ _ _ _ _ (by decide), (G2 91 0 rfl).1, (G1 91 0 rfl).1, sI_oth _ _ _ _ _ _ (by decide), thg_p ls x hx]
    exact h.1
  · rw [e, sI_same, ti_add2 (Eq.refl (z.1 91 1).toInt) i_1 (by omega) (by omega), h.2.1, pip_p ls x hx, List.length_append]
    rfl
  · rw [thg_p ls x hx] at ey
    have g := h.2.2.1 t y ey
    rw [c2 t, prt_p ls x hx, ← ea, ← eb, g.2.2]
    have f92 : w'.1 92 t = z.1 92 t := by rw [e, sI_oth _ _ _ _ _ _ (by decide), (G2 92 t rfl).1, (G1 92 t rfl).1, sI_oth _ _ _ _ _ _ (by decide)]
    have f93 : w'.1 93 t = z.1 93 t := by rw [e, sI_oth _ _ _ _ _ _ (by decide), (G2 93 t rfl).1, (G1 93 t rfl).1, sI_oth _ _ _ _ _ _ (by decide)]
    rw [f92, f93]
    exact ⟨g.1, g.2.1, rfl⟩
  · rw [f95, f96, f96]
    rw [pip_p ls x hx] at ey
    by_cases q : p = (pip ls).length
    · rw [q, List.getElem?_append_right (Nat.le_refl _), Nat.sub_self] at ey
      have e2 : x = y := Option.some.inj ey
      rw [if_pos q, if_neg (by omega), if_pos (by omega), if_pos (by omega), ← e2]
      exact ⟨el, ea, eb⟩
    · have lt : p < (pip ls).length := by
        by_cases c : p < (pip ls).length
        · exact c
        · have l2 := (List.getElem?_eq_some_iff.mp ey).1
          rw [List.length_append] at l2
          have : ([x] : List Ln).length = 1 := rfl
          omega
      rw [List.getElem?_append_left lt] at ey
      rw [if_neg q, if_neg (by omega), if_neg (by omega), if_neg (by omega), if_neg (by omega)]
      exact h.2.2.2.1 p y ey
  · rw [thg_p ls x hx] at ht
    rw [prt_p ls x hx, h.2.2.2.2 t ht, ← ea, ← eb]
    have na : ¬ a.toInt = (t : Int) := fun y => by omega
    have nb : ¬ b.toInt = (t : Int) := fun y => by omega
    rw [if_neg na, if_neg nb]
    rfl
