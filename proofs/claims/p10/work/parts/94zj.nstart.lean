/-! the start of both sides, with names -/
theorem w0_lkn (g0 : Nat → Int32) (g1 : Nat → Int64) (hg : ∀ k, -1 ≤ (g0 k).toInt ∧ (g0 k).toInt ≤ 9) (hk : g1 = kwF) : LKn (w0 g0 g1) := by
  have a : ((w0 g0 g1).1 62 10).toInt = 0 := by rw [w0r_62]; decide
  have b : ((w0 g0 g1).1 62 2).toInt = -1 := by rw [w0r_62]; decide
  have c : ((w0 g0 g1).1 129 32).toInt = 0 := w0z (g0 := g0) (g1 := g1) (k := 129) rfl 32
  have d : ((w0 g0 g1).1 129 31).toInt = 0 := w0z (g0 := g0) (g1 := g1) (k := 129) rfl 31
  refine ⟨w0_lkt g0 g1 hg hk, false, false, false, ci_w0 g1 hg, mdj_w0 g1 hg, [], [], [], ⟨a, Nat.zero_le _, fun i x h => (by cases h), fun _ => rfl, fun _ => ?_⟩, ⟨c, Nat.zero_le _, fun i x h => (by cases h)⟩, d, fun k e h => (by cases h), fun t h => (by cases h), fun t h => (by cases h)⟩
  show ((w0 g0 g1).1 62 2).toInt < 0
  omega
