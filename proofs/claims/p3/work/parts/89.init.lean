/-! both sides at the start -/
def In0 (p : Int × Int) : Prop := p.1 ≤ 0 ∧ 0 ≤ p.2
theorem cnd {b : Bool} {x y : Int × Int} (hx : In0 x) (hy : In0 y) : In0 (bif b then x else y) := by
  cases b
  · exact hy
  · exact hx
set_option maxRecDepth 20000 in
theorem bt0 (k j : Nat) : In0 (bt k j) := by
  unfold bt
  repeat' (first | apply cnd | exact ⟨by decide, by decide⟩)
theorem pv_b : ∀ j, j < 10 → -1 ≤ (pv j).toInt ∧ (pv j).toInt ≤ 9 := by decide +kernel
theorem ndJ_b (i : Nat) : ∀ j, j ≤ 10 → -1 ≤ (ndJ i j).toInt ∧ (ndJ i j).toInt ≤ 9 := by
  intro j
  induction j with
  | zero => intro _; exact (by decide : -1 ≤ ((-1 : Int32)).toInt ∧ ((-1 : Int32)).toInt ≤ 9)
  | succ j ih =>
    intro h
    by_cases c : ((psT ((((sh4 i) * 10) + (pv j)))) >>> (((nI i) &&& 15) &&& 31)) &&& 1 = 0
    · rw [ndJ_z c]
      exact ih (by omega)
    · rw [ndJ_s c]
      exact pv_b j (by omega)
theorem ndO_b (n k : Nat) : -1 ≤ (ndO n k).toInt ∧ (ndO n k).toInt ≤ 9 := by
  unfold ndO
  by_cases h : k < n
  · rw [if_pos h]
    exact ndJ_b k 10 (Nat.le_refl _)
  · rw [if_neg h]
    decide
theorem bq {k n : Nat} (h : ¬ k = n) : Nat.beq k n = false := by
  cases hb : Nat.beq k n with
  | false => rfl
  | true => exact absurd (Nat.eq_of_beq_eq_true hb) h
theorem w0_else (g0 : Nat → Int32) (g1 : Nat → Int64) {k : Nat} (h : ¬ (k = 23 ∨ k = 24 ∨ k = 25 ∨ k = 41 ∨ k = 60 ∨ k = 126 ∨ k = 176 ∨ k = 177 ∨ k = 197 ∨ k = 201 ∨ k = 203 ∨ k = 61 ∨ k = 62 ∨ k = 108 ∨ k = 127)) : (w0 g0 g1).1 k = fun _ => 0 := by
  unfold w0
  show (bif Nat.beq k 23 then _ else _) = _
  rw [bq (n := 23) (by omega), bq (n := 24) (by omega), bq (n := 25) (by omega), bq (n := 41) (by omega), bq (n := 60) (by omega), bq (n := 126) (by omega), bq (n := 176) (by omega), bq (n := 177) (by omega), bq (n := 197) (by omega), bq (n := 201) (by omega), bq (n := 203) (by omega), bq (n := 61) (by omega), bq (n := 62) (by omega), bq (n := 108) (by omega), bq (n := 127) (by omega)]
  rfl
theorem b_in {lo hi : Int} {k j : Nat} {v : Int32} (e : bt k j = (lo, hi)) (h : lo ≤ v.toInt ∧ v.toInt ≤ hi) : (bt k j).1 ≤ v.toInt ∧ v.toInt ≤ (bt k j).2 := by
  rw [e]
  exact h
theorem b_0 (k j : Nat) : (bt k j).1 ≤ ((0 : Int32)).toInt ∧ ((0 : Int32)).toInt ≤ (bt k j).2 := by
  rw [i_0]
  exact bt0 k j
theorem w0_bnd {g0 : Nat → Int32} (g1 : Nat → Int64) (hg : ∀ k, -1 ≤ (g0 k).toInt ∧ (g0 k).toInt ≤ 9) : BND (w0 g0 g1) := fun k j => by
  by_cases h : (k = 23 ∨ k = 24 ∨ k = 25 ∨ k = 41 ∨ k = 60 ∨ k = 126 ∨ k = 176 ∨ k = 177 ∨ k = 197 ∨ k = 201 ∨ k = 203 ∨ k = 61 ∨ k = 62 ∨ k = 108 ∨ k = 127)
  · rcases h with rfl | rfl | rfl | rfl | rfl | rfl | rfl | rfl | rfl | rfl | rfl | rfl | rfl | rfl | rfl
    · exact b_in (lo := -2147483648) (hi := 2147483647) (v := -1) rfl (by decide)
    · exact b_in (lo := 0) (hi := 5) (v := 5) rfl (by decide)
    · exact b_in (lo := 0) (hi := 1000000) (v := 86400) rfl (by decide)
    · exact b_in (lo := -1) (hi := 9) (v := g0 j) rfl (hg j)
    · exact b_in (lo := -1) (hi := 4) (v := -1) rfl (by decide)
    · exact b_in (lo := 0) (hi := 5) (v := 5) rfl (by decide)
    · exact b_in (lo := 0) (hi := 5) (v := 5) rfl (by decide)
    · exact b_in (lo := 0) (hi := 1000000) (v := 86400) rfl (by decide)
    · exact b_in (lo := -1) (hi := 4) (v := -1) rfl (by decide)
    · exact b_in (lo := -1) (hi := 5) (v := -1) rfl (by decide)
    · exact b_in (lo := -1) (hi := 5) (v := -1) rfl (by decide)
    · rw [w0r_61]
      show (bt 61 j).1 ≤ (bif Nat.beq j 4 then (4 : Int32) else 0).toInt ∧ (bif Nat.beq j 4 then (4 : Int32) else 0).toInt ≤ (bt 61 j).2
      by_cases e : j = 4
      · subst e
        exact b_in (lo := 0) (hi := 4) rfl (by decide)
      · rw [bq e]
        exact b_0 _ _
    · rw [w0r_62]
      show (bt 62 j).1 ≤ (bif Nat.beq j 2 then (-1 : Int32) else 0).toInt ∧ (bif Nat.beq j 2 then (-1 : Int32) else 0).toInt ≤ (bt 62 j).2
      by_cases e : j = 2
      · subst e
        exact b_in (lo := -1) (hi := 300) rfl (by decide)
      · rw [bq e]
        exact b_0 _ _
    · rw [w0r_108]
      show (bt 108 j).1 ≤ (bif Nat.beq j 2 then (-1 : Int32) else 0).toInt ∧ (bif Nat.beq j 2 then (-1 : Int32) else 0).toInt ≤ (bt 108 j).2
      by_cases e : j = 2
      · subst e
        exact b_in (lo := -1) (hi := 300) rfl (by decide)
      · rw [bq e]
        exact b_0 _ _
    · rw [w0r_127]
      show (bt 127 j).1 ≤ (bif Nat.beq j 59 then (4 : Int32) else bif Nat.beq j 76 then -1 else 0).toInt ∧ (bif Nat.beq j 59 then (4 : Int32) else bif Nat.beq j 76 then -1 else 0).toInt ≤ (bt 127 j).2
      by_cases e : j = 59
      · subst e
        exact b_in (lo := 0) (hi := 4) rfl (by decide)
      · rw [bq e]
        by_cases e2 : j = 76
        · subst e2
          exact b_in (lo := -2147483648) (hi := 2147483647) rfl (by decide)
        · rw [bq e2]
          exact b_0 _ _
  · rw [w0_else g0 g1 h]
    exact b_0 _ _
theorem w0z {g0 : Nat → Int32} {g1 : Nat → Int64} {k : Nat} (h : (w0 g0 g1).1 k = fun _ => 0) (j : Nat) : ((w0 g0 g1).1 k j).toInt = 0 := by
  rw [h]
  exact i_0
theorem w0m {g0 : Nat → Int32} {g1 : Nat → Int64} {k : Nat} (h : (w0 g0 g1).1 k = fun _ => -1) (j : Nat) : ((w0 g0 g1).1 k j).toInt = -1 := by
  rw [h]
  exact i_m1
theorem w0i {g0 : Nat → Int32} {g1 : Nat → Int64} {k j : Nat} {f : Nat → Int32} {v : Int} (h : (w0 g0 g1).1 k = f) (e : (f j).toInt = v) : ((w0 g0 g1).1 k j).toInt = v := by
  rw [h]
  exact e
theorem ci_w0 {g0 : Nat → Int32} (g1 : Nat → Int64) (hg : ∀ k, -1 ≤ (g0 k).toInt ∧ (g0 k).toInt ≤ 9) : CI (w0 g0 g1) := by
  have n1 : ((w0 g0 g1).1 62 1).toInt = 0 := w0i w0r_62 (by decide)
  have t0 : ((w0 g0 g1).1 8 0).toInt = 0 := w0z rfl 0
  have t1 : ((w0 g0 g1).1 8 1).toInt = 0 := w0z rfl 1
  have a6 : ∀ j, ((w0 g0 g1).1 60 j).toInt = -1 := fun j => w0m rfl j
  have c0 : ((w0 g0 g1).1 26 1).toInt = 0 := w0z rfl 1
  have k1 : ∀ j, ((w0 g0 g1).1 117 j).toInt = 0 := fun j => w0z rfl j
  have k2 : ∀ j, ((w0 g0 g1).1 71 j).toInt = 0 := fun j => w0z rfl j
  refine ⟨w0_bnd g1 hg, ⟨fun n a b => by omega, fun n a b => by omega, fun i => ⟨fun q => ?_, fun q => ?_⟩, fun i q => ?_, fun i a b => by omega, fun i a b => by omega, fun i a b => by omega, rfl, rfl, rfl⟩, wo_cnt (by omega), Or.inr ⟨?_, ?_⟩, fun i q => ?_, fun i q => ?_, rfl, rfl, rfl⟩
  · rw [a6] at q; exact absurd q (by decide)
  · rw [a6] at q; exact absurd q (by decide)
  · rw [a6] at q; exact absurd q (by decide)
  · have e : ((w0 g0 g1).1 62 2).toInt = -1 := w0i w0r_62 (by decide)
    omega
  · exact w0i w0r_61 (by decide)
  · rw [k1] at q; exact absurd q (by decide)
  · rw [k2] at q; exact absurd q (by decide)
theorem mdj_w0 {g0 : Nat → Int32} (g1 : Nat → Int64) (hg : ∀ k, -1 ≤ (g0 k).toInt ∧ (g0 k).toInt ≤ 9) : MdJ (w0 g0 g1) := by
  have hB := w0_bnd g1 hg
  have n30 : ((w0 g0 g1).1 129 30).toInt = 0 := w0z rfl 30
  have n31 : ((w0 g0 g1).1 129 31).toInt = 0 := w0z rfl 31
  have n20 : ((w0 g0 g1).1 147 20).toInt = 0 := w0z rfl 20
  have n26 : ((w0 g0 g1).1 127 26).toInt = 0 := w0i w0r_127 (by decide)
  have n11 : ((w0 g0 g1).1 127 11).toInt = 0 := w0i w0r_127 (by decide)
  have n59 : ((w0 g0 g1).1 127 59).toInt = 4 := w0i w0r_127 (by decide)
  have a6 : ∀ j, ((w0 g0 g1).1 197 j).toInt = -1 := fun j => w0m rfl j
  have e13 : (fl (w0 g0 g1)).1 129 13 = (w0 g0 g1).1 129 30 := rfl
  have e23 : (fl (w0 g0 g1)).1 129 23 = (w0 g0 g1).1 129 31 := rfl
  have hL : TLx (w0 g0 g1) := by
    refine ⟨fun n a b => ?_, fun t a b => ?_, fun _ => 0, fun _ => Int.le_refl _, fun m a b => ?_, ?_⟩
    · rw [e13] at b; omega
    · rw [e23] at b; omega
    · rw [e13] at b; omega
    · rw [e23, n31]
      exact (by decide : (0 : Int) ≤ 500)
  have X := tl_tex hB hL
  have p2 : P2 (w0 g0 g1) = 0 := by
    unfold P2
    rw [n11]
    decide
  refine ⟨⟨hB, X.1, X.2, ⟨fun k a b => by omega, fun k a b => by omega, ⟨fun k a b => by omega, fun k l a b => by omega⟩, fun i => ⟨fun q => ?_, fun q => ?_⟩, fun i q => ?_, ⟨fun e g a b => by omega, fun e a b => by omega⟩, fun p a b => by omega⟩, fun q => by omega⟩, hL, ?_⟩
  · rw [a6] at q; exact absurd q (by decide)
  · rw [a6] at q; exact absurd q (by decide)
  · rw [a6] at q; exact absurd q (by decide)
  · have e : (w0 g0 g1).2.1 129 = fun _ => 0 := rfl
    show 0 ≤ ((w0 g0 g1).2.1 129 8).toInt
    rw [e]
    decide
