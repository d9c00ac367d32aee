/-! the start of both sides, with the rows -/
theorem w0_q1 (g0 : Nat → Int32) (g1 : Nat → Int64) (hg : ∀ k, -1 ≤ (g0 k).toInt ∧ (g0 k).toInt ≤ 9) : LK (w0 g0 g1) := by
  refine ⟨⟨⟨false, false, false, ci_w0 g1 hg⟩, mdj_w0 g1 hg⟩, ti_inj ?_, ti_inj ?_, fun i j _ _ _ _ => ⟨fun _ => w0z rfl _, fun _ => ?_⟩⟩
  · exact (w0z (g0 := g0) (g1 := g1) (k := 1) rfl 1).trans (w0i (v := 0) w0r_127 (by decide)).symm
  · exact (w0z (g0 := g0) (g1 := g1) (k := 7) rfl 1).trans (w0i (v := 0) w0r_127 (by decide)).symm
  · have e : (w0 g0 g1).1 22 = fun _ => 0 := rfl
    rw [e]
    exact BitVec.getLsbD_zero
theorem w0_lkq (g0 : Nat → Int32) (g1 : Nat → Int64) (hg : ∀ k, -1 ≤ (g0 k).toInt ∧ (g0 k).toInt ≤ 9) : LKq (w0 g0 g1) := by
  refine ⟨⟨w0_q1 g0 g1 hg, tpy_0 (ti_inj (w0z (g0 := g0) (g1 := g1) (k := 1) rfl 1)), [], gl_nil, ⟨w0z (g0 := g0) (g1 := g1) (k := 0) rfl 12, fun j c h => (by cases h)⟩, w0i (v := 0) w0r_127 (by decide), w0i (v := 0) w0r_127 (by decide), fun t y h => (by cases h), fun p y h => (by cases h)⟩, false, false, false, ci_w0 g1 hg, mdj_w0 g1 hg, 0, [], ⟨w0z (g0 := g0) (g1 := g1) (k := 48) rfl 0, fun j y h => (by cases h), fun r x h => (by cases h)⟩, gr_nil, ⟨Nat.zero_le _, w0z (g0 := g0) (g1 := g1) (k := 147) rfl 12, w0z (g0 := g0) (g1 := g1) (k := 147) rfl 20, Nat.zero_le _, fun r x h => (by cases h)⟩, w0z (g0 := g0) (g1 := g1) (k := 147) rfl 1, fun r h => absurd h (Nat.not_lt_zero _)⟩
