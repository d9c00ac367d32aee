def z1 (x : Int32) : Prop := x = 0 ∨ x = 1
theorem z1_0 : z1 0 := Or.inl rfl
theorem z1_1 : z1 1 := Or.inr rfl
theorem z1_ite {q : Prop} [Decidable q] {a b : Int32} (ha : z1 a) (hb : z1 b) : z1 (if q then a else b) := by
  by_cases h : q
  · rw [if_pos h]; exact ha
  · rw [if_neg h]; exact hb
theorem nz_01 {x : Int32} (h : z1 x) : narrow .boolean (.int x) = .int x := by
  rcases h with e | e <;> rw [e] <;> rfl
theorem sh_zero (y : Int32) : (0 : Int32) >>> y = 0 := by
  first | exact Int32.zero_shiftRight | simp
theorem ir_15 {x y : Int32} (h1 : ¬ x < 1) (h2 : ¬ 14 < x) (h3 : ¬ y < 1) (h4 : ¬ 14 < y) : vp_in (x * 15 + y) 225 := by
  have a1 : ¬ x < 0 := nv_lt h1 (by decide)
  have a2 : ¬ y < 0 := nv_lt h3 (by decide)
  obtain ⟨i, hi, rfl⟩ := nI_of2 (M := 14) (n := 14) (by decide) a1 (Int32.not_lt.mp h2)
  obtain ⟨j, hj, rfl⟩ := nI_of2 (M := 14) (n := 14) (by decide) a2 (Int32.not_lt.mp h4)
  have e : nI i * (15 : Int32) + nI j = nI (i * 15 + j) := by
    rw [show (15 : Int32) = nI 15 from rfl, pk_mul, nI_add]
  rw [e]
  exact vp_in_nI (by omega) (by omega)
