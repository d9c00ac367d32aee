/-! the class's plant is the list of its lines -/
def PWc (w : MW) (ls : List Ln) : Prop := (w.1 91 0).toInt = ((thg ls).length : Int) ∧ (w.1 91 1).toInt = ((pip ls).length : Int) ∧ (∀ (t : Nat) (y : Ln), (thg ls)[t]? = some y → (w.1 92 t).toInt = ckd y ∧ (w.1 93 t).toInt = (if y.1 = 0 then y.2.1 else 0) ∧ (w.1 94 t).toInt = prt ls t) ∧ (∀ (p : Nat) (y : Ln), (pip ls)[p]? = some y → (w.1 95 p).toInt = y.2.2.2 ∧ (w.1 96 (2 * p)).toInt = y.2.1 ∧ (w.1 96 (2 * p + 1)).toInt = y.2.2.1) ∧ (∀ t : Nat, (thg ls).length ≤ t → prt ls t = 0)
theorem pwc_fr {l : Pl} {w w' : MW} {ls : List Ln} (h : PWc w ls) (hF : FR l w w') (ho : off l [(91, some 0), (91, some 1), (92, none), (93, none), (94, none), (95, none), (96, none)] = true) : PWc w' ls := by
  have q : ∀ k j, hit [(91, some 0), (91, some 1), (92, none), (93, none), (94, none), (95, none), (96, none)] k j = true → w'.1 k j = w.1 k j := fun k j hk => (hF k j (off_hit ho hk)).1
  refine ⟨by rw [q 91 0 rfl]; exact h.1, by rw [q 91 1 rfl]; exact h.2.1, fun t y e => ?_, fun p y e => ?_, h.2.2.2.2⟩
  · rw [q 92 t rfl, q 93 t rfl, q 94 t rfl]
    exact h.2.2.1 t y e
  · rw [q 95 p rfl, q 96 (2 * p) rfl, q 96 (2 * p + 1) rfl]
    exact h.2.2.2.1 p y e
/-- a thing's line -/
theorem pwc_t {z w' : MW} {ls : List Ln} {x : Ln} {a b : Int32} (h : PWc z ls) (hx : ¬ x.1 = 3) (ea : a.toInt = ckd x) (eb : b.toInt = if x.1 = 0 then x.2.1 else 0) (hF : FR lAT z w') (ad : AdT z w' a b) : PWc w' (ls ++ [x]) := by
  have n0 : (z.1 91 0).toInt.toNat = (thg ls).length := by have := h.1; omega
  refine ⟨?_, ?_, fun t y e => ?_, fun p y e => ?_, fun t ht => ?_⟩
  · rw [ad.1, h.1, thg_t ls x hx, List.length_append]
    rfl
  · rw [(hF 91 1 rfl).1, pip_t ls x hx]
    exact h.2.1
  · rw [ad.2.1, ad.2.2.1, ad.2.2.2.1, n0, prt_t ls x hx]
    rw [thg_t ls x hx] at e
    by_cases q : t = (thg ls).length
    · rw [if_pos q, if_pos q, if_pos q]
      rw [q, List.getElem?_append_right (Nat.le_refl _), Nat.sub_self] at e
      have ey : x = y := Option.some.inj e
      rw [← ey]
      refine ⟨ea, eb, ?_⟩
      rw [i_0, h.2.2.2.2 t (by omega)]
    · rw [if_neg q, if_neg q, if_neg q]
      have lt : t < (thg ls).length := by
        by_cases c : t < (thg ls).length
        · exact c
        · have l2 := (List.getElem?_eq_some_iff.mp e).1
          rw [List.length_append] at l2
          have : ([x] : List Ln).length = 1 := rfl
          omega
      rw [List.getElem?_append_left lt] at e
      exact h.2.2.1 t y e
  · rw [(hF 95 p rfl).1, (hF 96 (2 * p) rfl).1, (hF 96 (2 * p + 1) rfl).1]
    rw [pip_t ls x hx] at e
    exact h.2.2.2.1 p y e
  · rw [prt_t ls x hx]
    rw [thg_t ls x hx, List.length_append] at ht
    exact h.2.2.2.2 t (by have : ([x] : List Ln).length = 1 := rfl; omega)
