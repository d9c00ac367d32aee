/-! the start of both sides, with the words' numbers -/
theorem kwf_x : ∀ i, i < 26 → (kwF i).toInt = cod 0 (kwl.getD i []) := by decide +kernel
theorem w0_lkt (g0 : Nat → Int32) (g1 : Nat → Int64) (hg : ∀ k, -1 ≤ (g0 k).toInt ∧ (g0 k).toInt ≤ 9) (hk : g1 = kwF) : LKt (w0 g0 g1) := by
  refine ⟨w0_lkq g0 g1 hg, fun i k h => ?_, w0z (g0 := g0) (g1 := g1) (k := 129) rfl 1⟩
  have lt := (List.getElem?_eq_some_iff.mp h).1
  have l : kwl.length = 26 := rfl
  have t := kwf_x i (by omega)
  rw [List.getD_eq_getElem?_getD, h] at t
  rw [hk]
  exact t
