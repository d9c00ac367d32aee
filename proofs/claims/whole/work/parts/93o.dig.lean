/-! the reference's numbers as functions of the bytes -/
def ivD (d : Nat) (v : Int) : Prop := (d = 0 ∧ v = 0) ∨ (d = 1 ∧ 0 ≤ v ∧ v ≤ 9) ∨ (2 ≤ d ∧ 0 < v)
theorem p10 {d : Nat} (h : d ≤ 6) : (10 : Int) ^ d ≤ 1000000 := by
  have : d = 0 ∨ d = 1 ∨ d = 2 ∨ d = 3 ∨ d = 4 ∨ d = 5 ∨ d = 6 := by omega
  rcases this with rfl | rfl | rfl | rfl | rfl | rfl | rfl <;> decide
theorem p10b {d : Nat} (h : d ≤ 7) : (10 : Int) ^ d ≤ 10000000 := by
  have : d = 0 ∨ d = 1 ∨ d = 2 ∨ d = 3 ∨ d = 4 ∨ d = 5 ∨ d = 6 ∨ d = 7 := by omega
  rcases this with rfl | rfl | rfl | rfl | rfl | rfl | rfl | rfl <;> decide
theorem dg_dgs {t : MW} {o : Int32} (hl : (t.1 127 22).toInt ≤ 4000) (o0 : 0 ≤ o.toInt) (n : Nat) : ∀ (p v v' q : Int32) (d : Nat), p.toInt = o.toInt + (d : Int) → d ≤ 7 → p.toInt ≤ 4000 → ivD d v.toInt → v.toInt < 10 ^ d → DGn n o v t p v' q → dgs (hf t) (7 - d) d v.toInt p.toInt = ((q.toInt - o.toInt).toNat, v'.toInt, q.toInt) ∧ o.toInt ≤ q.toInt ∧ q.toInt ≤ 4000 ∧ 0 ≤ v'.toInt ∧ v'.toInt ≤ 9999999 := by
  induction n with
  | zero => intro p v v' q d _ _ _ _ _ h; exact absurd h (fun y => y)
  | succ n ih =>
    intro p v v' q d hp hd p1 hiv hv1 h
    have v0 : 0 ≤ v.toInt := by
      unfold ivD at hiv
      omega
    have pb := p10b hd
    have hs := ti_sub2 (Eq.refl p.toInt) (Eq.refl o.toInt) (by omega) (by omega)
    have fin : (d = 7 ∨ ¬ ((48 ≤ hf t p.toInt ∧ hf t p.toInt ≤ 57) ∧ (d = 0 ∨ 0 < v.toInt))) → dgs (hf t) (7 - d) d v.toInt p.toInt = (d, v.toInt, p.toInt) := fun c => by
      by_cases c7 : d = 7
      · subst c7
        rfl
      · have cc := c.resolve_left c7
        obtain ⟨m, em⟩ : ∃ m, 7 - d = m + 1 := ⟨6 - d, by omega⟩
        rw [em]
        show (if _ then _ else _) = _
        rw [if_neg cc]
    rcases h with ⟨st, e1, e2⟩ | ⟨st, k⟩
    · rw [e1, e2]
      refine ⟨?_, by omega, p1, v0, by omega⟩
      have ed : (p.toInt - o.toInt).toNat = d := by omega
      rw [ed]
      refine fin ?_
      unfold stopD at st
      rw [hv_hf t (by omega), hs] at st
      unfold ivD at hiv
      omega
    · unfold stopD at st
      rw [hv_hf t (by omega), hs] at st
      have cp := hf_pos (w := t) (p := p.toInt) (by omega)
      obtain ⟨m, em⟩ : ∃ m, 7 - d = m + 1 := ⟨6 - d, by omega⟩
      have cond : (48 ≤ hf t p.toInt ∧ hf t p.toInt ≤ 57) ∧ (d = 0 ∨ 0 < v.toInt) := by
        unfold ivD at hiv
        omega
      have h6 := p10 (d := d) (by omega)
      have s1 := ti_mul2 (by decide : ((10 : Int32)).toInt = 10) (Eq.refl v.toInt) (by omega) (by omega)
      have hh : (hv t p).toInt = hf t p.toInt := hv_hf t (by omega)
      have s2 := ti_add2 s1 hh (by omega) (by omega)
      have s3 := ti_sub2 s2 (by decide : ((48 : Int32)).toInt = 48) (by omega) (by omega)
      have s4 := ti_add2 (Eq.refl p.toInt) i_1 (by omega) (by omega)
      have hpw : (10 : Int) ^ (d + 1) = 10 ^ d * 10 := Int.pow_succ 10 d
      have g := ih (p + (1 : Int32)) ((((10 : Int32) * v) + hv t p) - (48 : Int32)) v' q (d + 1) (by omega) (by omega) (by omega) (by
        rw [s3]
        unfold ivD at hiv ⊢
        omega) (by rw [s3]; omega) k
      have e7 : 7 - (d + 1) = m := by omega
      rw [s3, s4, e7] at g
      refine ⟨?_, g.2⟩
      rw [em]
      show (if _ then _ else _) = _
      rw [if_pos cond]
      have ev : v.toInt * 10 + hf t p.toInt - 48 = 10 * v.toInt + hf t p.toInt - 48 := by omega
      rw [ev]
      exact g.1
/-- a word of a line: -2 where it is wrong -/
def nmS (f : Int → Int) (b : Bool) (p : Int) : Int × Int := if (tks f [32] p).1 = true then (if b = true ∧ f (tks f [32] p).2 = 45 then (-1, (tks f [32] p).2 + 1) else if (dgs f 7 0 0 (tks f [32] p).2).1 = 0 then (-2, (dgs f 7 0 0 (tks f [32] p).2).2.2) else ((dgs f 7 0 0 (tks f [32] p).2).2.1, (dgs f 7 0 0 (tks f [32] p).2).2.2)) else (-2, (tks f [32] p).2)
theorem nm_nmS {t : MW} (hl : (t.1 127 22).toInt ≤ 4000) {a p r q : Int32} (p0 : 0 ≤ p.toInt) (p1 : p.toInt ≤ 4000) (h : NM a t p r q) : nmS (hf t) (decide (¬ a.toInt = 0)) p.toInt = (r.toInt, q.toInt) ∧ 0 ≤ q.toInt ∧ q.toInt ≤ 4000 ∧ -2 ≤ r.toInt ∧ r.toInt ≤ 9999999 := by
  obtain ⟨r1, q1, ho, h⟩ := h
  have k := ov_tks hl [32] 32 lt_sp p r1 q1 p0 p1 ho
  have m2 : ((-2 : Int32)).toInt = -2 := by decide
  unfold nmS
  rw [k.1]
  rcases h with ⟨c, e1, e2⟩ | ⟨c, ⟨c2, c3⟩, e1, e2⟩ | ⟨c, c2, n, v, hd, h⟩
  · rw [if_neg (by show ¬ decide (¬ r1.toInt = 0) = true; rw [decide_eq_false (fun y => y c)]; decide), e1, e2, m2]
    exact ⟨rfl, k.2.1, k.2.2, by omega, by omega⟩
  · rw [hv_hf t k.2.1] at c3
    have cp := hf_pos (w := t) (p := q1.toInt) (by omega)
    have s := ti_add2 (Eq.refl q1.toInt) i_1 (by omega) (by omega)
    rw [if_pos (show decide (¬ r1.toInt = 0) = true from decide_eq_true c), if_pos ⟨decide_eq_true c2, c3⟩, e1, e2, i_m1, s]
    exact ⟨rfl, by omega, by omega, by omega, by omega⟩
  · have g := dg_dgs hl k.2.1 n q1 0 v q 0 (by omega) (by omega) k.2.2 (Or.inl ⟨rfl, i_0⟩) (by rw [i_0]; decide) hd
    have e0 : ((0 : Int32)).toInt = 0 := i_0
    rw [e0] at g
    have n45 : ¬ (decide (¬ a.toInt = 0) = true ∧ hf t q1.toInt = 45) := fun y => c2 ⟨of_decide_eq_true y.1, by rw [hv_hf t k.2.1]; exact y.2⟩
    rw [if_pos (show decide (¬ r1.toInt = 0) = true from decide_eq_true c), if_neg n45]
    show (if (dgs (hf t) (7 - 0) 0 0 q1.toInt).1 = 0 then _ else _) = _ ∧ _
    rw [show dgs (hf t) 7 0 0 q1.toInt = dgs (hf t) (7 - 0) 0 0 q1.toInt from rfl, g.1]
    rcases h with ⟨z, e1⟩ | ⟨z, e1⟩
    · rw [if_neg (by show ¬ (q.toInt - q1.toInt).toNat = 0; omega), e1]
      exact ⟨rfl, by omega, g.2.2.1, by omega, g.2.2.2.2⟩
    · rw [if_pos (by show (q.toInt - q1.toInt).toNat = 0; omega), e1, m2]
      exact ⟨rfl, by omega, g.2.2.1, by omega, by omega⟩
