/-! a contract is a function: more calls -/
theorem dj_p_Bh_isLiquid {I : Type} {w : MW} {a0 : Int32} {Q1 : Int32 → MW → Prop} {Q3 : I → Int32 → MW → Prop}  (h : p_Bh_isLiquid w a0 Q1) (kQ : ∀ x0 x1, Q1 x0 x1 → ∃ i : I, Q3 i x0 x1) : ∃ i : I, p_Bh_isLiquid w a0 (Q3 i) := by
  have h := Eq.mp (p_Bh_isLiquid.eq_1 ..) h
  refine dj_eq (fun i => (p_Bh_isLiquid.eq_1 ..)) ?_
  exact (dj_if (fun h1 => (kQ _ _ (h.1 h1))) (fun h2 => (dj_if (fun h3 => (kQ _ _ ((h.2 h2).1 h3))) (fun h4 => (kQ _ _ ((h.2 h2).2 h4))))))
theorem ex_p_Bh_isLiquid {w : MW} {a0 : Int32} {Q : Int32 → MW → Prop} (h : p_Bh_isLiquid w a0 Q) : ∃ (r1 : Int32) (w1 : MW), Q r1 w1 ∧ p_Bh_isLiquid w a0 (fun r u => r = r1 ∧ u = w1) := by
  obtain ⟨i, hi⟩ := dj_p_Bh_isLiquid (I := {x : Int32 × MW // Q x.1 x.2}) (Q3 := fun i r u => r = i.1.1 ∧ u = i.1.2) h (fun r u q => ⟨⟨(r, u), q⟩, rfl, rfl⟩)
  exact ⟨i.1.1, i.1.2, i.2, hi⟩
theorem dj_p_Bh_fill {I : Type} {w : MW} {a0 : Int32} {b0 : Int32} {c0 : Int64} {Q1 : Int32 → MW → Prop} {Q3 : I → Int32 → MW → Prop}  (h : p_Bh_fill w a0 b0 c0 Q1) (kQ : ∀ x0 x1, Q1 x0 x1 → ∃ i : I, Q3 i x0 x1) : ∃ i : I, p_Bh_fill w a0 b0 c0 (Q3 i) := by
  have h := Eq.mp (p_Bh_fill.eq_1 ..) h
  refine dj_eq (fun i => (p_Bh_fill.eq_1 ..)) ?_
  exact (dj_p_St_isTank h (fun _ _ h1 => (dj_if (fun h2 => (kQ _ _ (h1.1 h2))) (fun h3 => (dj_p_Bh_isLiquid (h1.2 h3) (fun _ _ h4 => (dj_if (fun h5 => (kQ _ _ (h4.1 h5))) (fun h6 => (dj_if (fun h7 => (kQ _ _ ((h4.2 h6).1 h7))) (fun h8 => (dj_if (fun h9 => (dj_and (((h4.2 h6).2 h8).1 h9).1 (dj_and (((h4.2 h6).2 h8).1 h9).2.1 (dj_and (((h4.2 h6).2 h8).1 h9).2.2.1 (dj_if (fun h11 => (kQ _ _ ((((h4.2 h6).2 h8).1 h9).2.2.2.1 h11))) (fun h12 => (dj_p_St_mayCome ((((h4.2 h6).2 h8).1 h9).2.2.2.2 h12) (fun _ _ h13 => (dj_if (fun h14 => (dj_and (h13.1 h14).1 (dj_and (h13.1 h14).2.1 (dj_p_Sf_isSafe (h13.1 h14).2.2 (fun _ _ h16 => (dj_and h16.1 (dj_if (fun h17 => (kQ _ _ (h16.2.1 h17))) (fun h18 => (dj_p_St_arrive (h16.2.2 h18) (fun _ h19 => (kQ _ _ h19))))))))))) (fun h15 => (kQ _ _ (h13.2 h15)))))))))))) (fun h10 => (kQ _ _ (((h4.2 h6).2 h8).2 h10))))))))))))))
theorem ex_p_Bh_fill {w : MW} {a0 : Int32} {b0 : Int32} {c0 : Int64} {Q : Int32 → MW → Prop} (h : p_Bh_fill w a0 b0 c0 Q) : ∃ (r1 : Int32) (w1 : MW), Q r1 w1 ∧ p_Bh_fill w a0 b0 c0 (fun r u => r = r1 ∧ u = w1) := by
  obtain ⟨i, hi⟩ := dj_p_Bh_fill (I := {x : Int32 × MW // Q x.1 x.2}) (Q3 := fun i r u => r = i.1.1 ∧ u = i.1.2) h (fun r u q => ⟨⟨(r, u), q⟩, rfl, rfl⟩)
  exact ⟨i.1.1, i.1.2, i.2, hi⟩
theorem dj_p_Al_add {I : Type} {w : MW} {a0 : Int32} {b0 : Int32} {c0 : Int32} {Q1 : MW → Prop} {Q3 : I → MW → Prop}  (h : p_Al_add w a0 b0 c0 Q1) (kQ : ∀ x0, Q1 x0 → ∃ i : I, Q3 i x0) : ∃ i : I, p_Al_add w a0 b0 c0 (Q3 i) := by
  have h := Eq.mp (p_Al_add.eq_1 ..) h
  refine dj_eq (fun i => (p_Al_add.eq_1 ..)) ?_
  exact (dj_if (fun h1 => (kQ _ (h.1 h1))) (fun h2 => (dj_and (h.2 h2).1 (dj_and (h.2 h2).2.1 (dj_and (h.2 h2).2.2.1 (kQ _ (h.2 h2).2.2.2))))))
theorem ex_p_Al_add {w : MW} {a0 : Int32} {b0 : Int32} {c0 : Int32} {Q : MW → Prop} (h : p_Al_add w a0 b0 c0 Q) : ∃ w1 : MW, Q w1 ∧ p_Al_add w a0 b0 c0 (fun u => u = w1) := by
  obtain ⟨i, hi⟩ := dj_p_Al_add (I := {x : MW // Q x}) (Q3 := fun i u => u = i.1) h (fun u q => ⟨⟨u, q⟩, rfl⟩)
  exact ⟨i.1, i.2, hi⟩
theorem dj_p_Bh_act {I : Type} {w : MW} {a0 : Int32} {Q1 : Int32 → MW → Prop} {Q3 : I → Int32 → MW → Prop}  (h : p_Bh_act w a0 Q1) (kQ : ∀ x0 x1, Q1 x0 x1 → ∃ i : I, Q3 i x0 x1) : ∃ i : I, p_Bh_act w a0 (Q3 i) := by
  have h := Eq.mp (p_Bh_act.eq_1 ..) h
  refine dj_eq (fun i => (p_Bh_act.eq_1 ..)) ?_
  exact (dj_p_Ac_isAct h (fun _ _ h1 => (dj_if (fun h2 => (dj_p_Ac_perform (h1.1 h2) (fun _ _ h4 => (dj_if (fun h5 => (kQ _ _ (h4.1 h5))) (fun h6 => (dj_p_Al_add (h4.2 h6) (fun _ h7 => (kQ _ _ h7)))))))) (fun h3 => (kQ _ _ (h1.2 h3))))))
theorem ex_p_Bh_act {w : MW} {a0 : Int32} {Q : Int32 → MW → Prop} (h : p_Bh_act w a0 Q) : ∃ (r1 : Int32) (w1 : MW), Q r1 w1 ∧ p_Bh_act w a0 (fun r u => r = r1 ∧ u = w1) := by
  obtain ⟨i, hi⟩ := dj_p_Bh_act (I := {x : Int32 × MW // Q x.1 x.2}) (Q3 := fun i r u => r = i.1.1 ∧ u = i.1.2) h (fun r u q => ⟨⟨(r, u), q⟩, rfl, rfl⟩)
  exact ⟨i.1.1, i.1.2, i.2, hi⟩
theorem dj_q_Pr_clearValues_2 {I : Type}  {E1 : MW → Prop} {E3 : I → MW → Prop} {Q1 : MW → Prop} {Q3 : I → MW → Prop}  (kE : ∀ x0, E1 x0 → ∃ i : I, E3 i x0) (kQ : ∀ x0, Q1 x0 → ∃ i : I, Q3 i x0) : ∀ (m : Nat) (x2_1 : Int32) (w : MW), q_Pr_clearValues_2 E1 Q1 m x2_1 w → ∃ i : I, q_Pr_clearValues_2 (E3 i) (Q3 i) m x2_1 w := by
  intro m
  induction m with
  | zero => exact fun _ _ h => False.elim h
  | succ m ih =>
    intro x2_1 w h
    have h := Eq.mp (q_Pr_clearValues_2.eq_2 ..) h
    refine dj_eq (fun i => (q_Pr_clearValues_2.eq_2 ..)) ?_
    exact (dj_if (fun h1 => (kE _ (h.1 h1))) (fun h2 => (dj_p_Pr_isSensed (h.2 h2) (fun _ _ h3 => (dj_if (fun h4 => (ih _ _ (h3.1 h4))) (fun h5 => (dj_and (h3.2 h5).1 (ih _ _ (h3.2 h5).2))))))))
theorem dj_p_Pr_clearValues {I : Type} {w : MW} {Q1 : MW → Prop} {Q3 : I → MW → Prop}  (h : p_Pr_clearValues w Q1) (kQ : ∀ x0, Q1 x0 → ∃ i : I, Q3 i x0) : ∃ i : I, p_Pr_clearValues w (Q3 i) := by
  have h := Eq.mp (p_Pr_clearValues.eq_1 ..) h
  refine dj_eq (fun i => (p_Pr_clearValues.eq_1 ..)) ?_
  exact (dj_q_Pr_clearValues_2  (fun _ h1 => (kQ _ h1)) kQ _ _ _ h)
theorem ex_p_Pr_clearValues {w : MW} {Q : MW → Prop} (h : p_Pr_clearValues w Q) : ∃ w1 : MW, Q w1 ∧ p_Pr_clearValues w (fun u => u = w1) := by
  obtain ⟨i, hi⟩ := dj_p_Pr_clearValues (I := {x : MW // Q x}) (Q3 := fun i u => u = i.1) h (fun u q => ⟨⟨u, q⟩, rfl⟩)
  exact ⟨i.1, i.2, hi⟩
theorem dj_p_Ru_enter {I : Type} {w : MW} {a0 : Int32} {Q1 : MW → Prop} {Q3 : I → MW → Prop}  (h : p_Ru_enter w a0 Q1) (kQ : ∀ x0, Q1 x0 → ∃ i : I, Q3 i x0) : ∃ i : I, p_Ru_enter w a0 (Q3 i) := by
  have h := Eq.mp (p_Ru_enter.eq_1 ..) h
  refine dj_eq (fun i => (p_Ru_enter.eq_1 ..)) ?_
  exact (dj_and h.1 (dj_and h.2.1 (dj_and h.2.2.1 (dj_and h.2.2.2.1 (dj_if (fun h1 => (kQ _ (h.2.2.2.2.1 h1))) (fun h2 => (dj_and (h.2.2.2.2.2 h2).1 (dj_and (h.2.2.2.2.2 h2).2.1 (kQ _ (h.2.2.2.2.2 h2).2.2)))))))))
theorem ex_p_Ru_enter {w : MW} {a0 : Int32} {Q : MW → Prop} (h : p_Ru_enter w a0 Q) : ∃ w1 : MW, Q w1 ∧ p_Ru_enter w a0 (fun u => u = w1) := by
  obtain ⟨i, hi⟩ := dj_p_Ru_enter (I := {x : MW // Q x}) (Q3 := fun i u => u = i.1) h (fun u q => ⟨⟨u, q⟩, rfl⟩)
  exact ⟨i.1, i.2, hi⟩
theorem dj_p_Ru_begin {I : Type} {w : MW} {Q1 : MW → Prop} {Q3 : I → MW → Prop}  (h : p_Ru_begin w Q1) (kQ : ∀ x0, Q1 x0 → ∃ i : I, Q3 i x0) : ∃ i : I, p_Ru_begin w (Q3 i) := by
  have h := Eq.mp (p_Ru_begin.eq_1 ..) h
  refine dj_eq (fun i => (p_Ru_begin.eq_1 ..)) ?_
  exact (dj_p_Ru_enter h (fun _ h1 => (kQ _ h1)))
theorem ex_p_Ru_begin {w : MW} {Q : MW → Prop} (h : p_Ru_begin w Q) : ∃ w1 : MW, Q w1 ∧ p_Ru_begin w (fun u => u = w1) := by
  obtain ⟨i, hi⟩ := dj_p_Ru_begin (I := {x : MW // Q x}) (Q3 := fun i u => u = i.1) h (fun u q => ⟨⟨u, q⟩, rfl⟩)
  exact ⟨i.1, i.2, hi⟩
theorem dj_p_Ru_isAlive {I : Type} {w : MW} {Q1 : Int32 → MW → Prop} {Q3 : I → Int32 → MW → Prop}  (h : p_Ru_isAlive w Q1) (kQ : ∀ x0 x1, Q1 x0 x1 → ∃ i : I, Q3 i x0 x1) : ∃ i : I, p_Ru_isAlive w (Q3 i) := by
  have h := Eq.mp (p_Ru_isAlive.eq_1 ..) h
  refine dj_eq (fun i => (p_Ru_isAlive.eq_1 ..)) ?_
  exact (dj_if (fun h1 => (kQ _ _ (h.1 h1))) (fun h2 => (dj_if (fun h3 => (kQ _ _ ((h.2 h2).1 h3))) (fun h4 => (kQ _ _ ((h.2 h2).2 h4))))))
theorem ex_p_Ru_isAlive {w : MW} {Q : Int32 → MW → Prop} (h : p_Ru_isAlive w Q) : ∃ (r1 : Int32) (w1 : MW), Q r1 w1 ∧ p_Ru_isAlive w (fun r u => r = r1 ∧ u = w1) := by
  obtain ⟨i, hi⟩ := dj_p_Ru_isAlive (I := {x : Int32 × MW // Q x.1 x.2}) (Q3 := fun i r u => r = i.1.1 ∧ u = i.1.2) h (fun r u q => ⟨⟨(r, u), q⟩, rfl, rfl⟩)
  exact ⟨i.1.1, i.1.2, i.2, hi⟩
theorem dj_p_Bh_start {I : Type} {w : MW} {Q1 : Int32 → MW → Prop} {Q3 : I → Int32 → MW → Prop}  (h : p_Bh_start w Q1) (kQ : ∀ x0 x1, Q1 x0 x1 → ∃ i : I, Q3 i x0 x1) : ∃ i : I, p_Bh_start w (Q3 i) := by
  have h := Eq.mp (p_Bh_start.eq_1 ..) h
  refine dj_eq (fun i => (p_Bh_start.eq_1 ..)) ?_
  exact (dj_and h.1 (dj_if (fun h1 => (dj_p_Ru_isAlive (h.2.1 h1) (fun _ _ h3 => (dj_if (fun h4 => (dj_and (h3.1 h4).1 (dj_p_Pr_clearValues (h3.1 h4).2 (fun _ h6 => (dj_p_Ru_begin h6 (fun _ h7 => (kQ _ _ h7))))))) (fun h5 => (dj_p_Wa_closeAll (h3.2 h5) (fun _ h8 => (dj_and h8.1 (dj_p_Pr_clearValues h8.2 (fun _ h9 => (dj_p_Ru_begin h9 (fun _ h10 => (kQ _ _ h10))))))))))))) (fun h2 => (kQ _ _ (h.2.2 h2)))))
theorem ex_p_Bh_start {w : MW} {Q : Int32 → MW → Prop} (h : p_Bh_start w Q) : ∃ (r1 : Int32) (w1 : MW), Q r1 w1 ∧ p_Bh_start w (fun r u => r = r1 ∧ u = w1) := by
  obtain ⟨i, hi⟩ := dj_p_Bh_start (I := {x : Int32 × MW // Q x.1 x.2}) (Q3 := fun i r u => r = i.1.1 ∧ u = i.1.2) h (fun r u q => ⟨⟨(r, u), q⟩, rfl, rfl⟩)
  exact ⟨i.1.1, i.1.2, i.2, hi⟩
theorem dj_p_Ru_isOver {I : Type} {w : MW} {Q1 : Int32 → MW → Prop} {Q3 : I → Int32 → MW → Prop}  (h : p_Ru_isOver w Q1) (kQ : ∀ x0 x1, Q1 x0 x1 → ∃ i : I, Q3 i x0 x1) : ∃ i : I, p_Ru_isOver w (Q3 i) := by
  have h := Eq.mp (p_Ru_isOver.eq_1 ..) h
  refine dj_eq (fun i => (p_Ru_isOver.eq_1 ..)) ?_
  exact (dj_if (fun h1 => (kQ _ _ (h.1 h1))) (fun h2 => (kQ _ _ (h.2 h2))))
theorem ex_p_Ru_isOver {w : MW} {Q : Int32 → MW → Prop} (h : p_Ru_isOver w Q) : ∃ (r1 : Int32) (w1 : MW), Q r1 w1 ∧ p_Ru_isOver w (fun r u => r = r1 ∧ u = w1) := by
  obtain ⟨i, hi⟩ := dj_p_Ru_isOver (I := {x : Int32 × MW // Q x.1 x.2}) (Q3 := fun i r u => r = i.1.1 ∧ u = i.1.2) h (fun r u q => ⟨⟨(r, u), q⟩, rfl, rfl⟩)
  exact ⟨i.1.1, i.1.2, i.2, hi⟩
theorem dj_q_Ru_endsAllSides_13 {I : Type} {r_Ru_endsAllSides : MW → Int32 → Int32 → (Int32 → MW → Prop) → Prop} {r_Ru_endsRounds : MW → Int32 → Int32 → (Int32 → MW → Prop) → Prop} {r_Ru_goOn : MW → Int32 → Int32 → (Int32 → MW → Prop) → Prop} {r_Ru_goesPast : MW → Int32 → Int32 → (Int32 → MW → Prop) → Prop} {x13_2 : Int32} {E1 : Int32 → MW → Prop} {E3 : I → Int32 → MW → Prop} {Q1 : Int32 → MW → Prop} {Q3 : I → Int32 → MW → Prop} (ir_Ru_endsAllSides : ∀ {z0 : MW} {z1 : Int32} {z2 : Int32} {R1 : Int32 → MW → Prop} {R3 : I → Int32 → MW → Prop}, r_Ru_endsAllSides z0 z1 z2 R1 → (∀ y0 y1, R1 y0 y1 → ∃ i : I, R3 i y0 y1) → ∃ i : I, r_Ru_endsAllSides z0 z1 z2 (R3 i)) (ir_Ru_endsRounds : ∀ {z0 : MW} {z1 : Int32} {z2 : Int32} {R1 : Int32 → MW → Prop} {R3 : I → Int32 → MW → Prop}, r_Ru_endsRounds z0 z1 z2 R1 → (∀ y0 y1, R1 y0 y1 → ∃ i : I, R3 i y0 y1) → ∃ i : I, r_Ru_endsRounds z0 z1 z2 (R3 i)) (ir_Ru_goOn : ∀ {z0 : MW} {z1 : Int32} {z2 : Int32} {R1 : Int32 → MW → Prop} {R3 : I → Int32 → MW → Prop}, r_Ru_goOn z0 z1 z2 R1 → (∀ y0 y1, R1 y0 y1 → ∃ i : I, R3 i y0 y1) → ∃ i : I, r_Ru_goOn z0 z1 z2 (R3 i)) (ir_Ru_goesPast : ∀ {z0 : MW} {z1 : Int32} {z2 : Int32} {R1 : Int32 → MW → Prop} {R3 : I → Int32 → MW → Prop}, r_Ru_goesPast z0 z1 z2 R1 → (∀ y0 y1, R1 y0 y1 → ∃ i : I, R3 i y0 y1) → ∃ i : I, r_Ru_goesPast z0 z1 z2 (R3 i)) (kE : ∀ x0 x1, E1 x0 x1 → ∃ i : I, E3 i x0 x1) (kQ : ∀ x0 x1, Q1 x0 x1 → ∃ i : I, Q3 i x0 x1) : ∀ (m : Nat) (x13_3 : Int32) (x13_4 : Int32) (x13_5 : Int32) (w : MW), q_Ru_endsAllSides_13 r_Ru_endsAllSides r_Ru_endsRounds r_Ru_goOn r_Ru_goesPast x13_2 E1 Q1 m x13_3 x13_4 x13_5 w → ∃ i : I, q_Ru_endsAllSides_13 r_Ru_endsAllSides r_Ru_endsRounds r_Ru_goOn r_Ru_goesPast x13_2 (E3 i) (Q3 i) m x13_3 x13_4 x13_5 w := by
  intro m
  induction m with
  | zero => exact fun _ _ _ _ h => False.elim h
  | succ m ih =>
    intro x13_3 x13_4 x13_5 w h
    have h := Eq.mp (q_Ru_endsAllSides_13.eq_2 ..) h
    refine dj_eq (fun i => (q_Ru_endsAllSides_13.eq_2 ..)) ?_
    exact (dj_if (fun h1 => (kE _ _ (h.1 h1))) (fun h2 => (dj_if (fun h3 => (kE _ _ ((h.2 h2).1 h3))) (fun h4 => (dj_and ((h.2 h2).2 h4).1 (dj_if (fun h5 => (dj_p_Ru_isOver (((h.2 h2).2 h4).2.1 h5) (fun _ _ h7 => (dj_if (fun h8 => (dj_and (h7.1 h8).1 (ih _ _ _ _ (h7.1 h8).2))) (fun h9 => (kQ _ _ (h7.2 h9))))))) (fun h6 => (ir_Ru_goOn (((h.2 h2).2 h4).2.2 h6) (fun _ _ h10 => (dj_if (fun h11 => (dj_p_Ru_isOver (h10.1 h11) (fun _ _ h13 => (dj_if (fun h14 => (dj_and (h13.1 h14).1 (ih _ _ _ _ (h13.1 h14).2))) (fun h15 => (kQ _ _ (h13.2 h15))))))) (fun h12 => (dj_and (h10.2 h12).1 (dj_p_Ru_isOver (h10.2 h12).2 (fun _ _ h16 => (dj_if (fun h17 => (dj_and (h16.1 h17).1 (ih _ _ _ _ (h16.1 h17).2))) (fun h18 => (kQ _ _ (h16.2 h18))))))))))))))))))
theorem dj_q_Ru_endsRounds_2 {I : Type} {r_Ru_endsAllSides : MW → Int32 → Int32 → (Int32 → MW → Prop) → Prop} {r_Ru_endsRounds : MW → Int32 → Int32 → (Int32 → MW → Prop) → Prop} {r_Ru_goOn : MW → Int32 → Int32 → (Int32 → MW → Prop) → Prop} {r_Ru_goesPast : MW → Int32 → Int32 → (Int32 → MW → Prop) → Prop} {x2_1 : Int32} {x2_2 : Int32} {E1 : MW → Prop} {E3 : I → MW → Prop} {Q1 : Int32 → MW → Prop} {Q3 : I → Int32 → MW → Prop} (ir_Ru_endsAllSides : ∀ {z0 : MW} {z1 : Int32} {z2 : Int32} {R1 : Int32 → MW → Prop} {R3 : I → Int32 → MW → Prop}, r_Ru_endsAllSides z0 z1 z2 R1 → (∀ y0 y1, R1 y0 y1 → ∃ i : I, R3 i y0 y1) → ∃ i : I, r_Ru_endsAllSides z0 z1 z2 (R3 i)) (ir_Ru_endsRounds : ∀ {z0 : MW} {z1 : Int32} {z2 : Int32} {R1 : Int32 → MW → Prop} {R3 : I → Int32 → MW → Prop}, r_Ru_endsRounds z0 z1 z2 R1 → (∀ y0 y1, R1 y0 y1 → ∃ i : I, R3 i y0 y1) → ∃ i : I, r_Ru_endsRounds z0 z1 z2 (R3 i)) (ir_Ru_goOn : ∀ {z0 : MW} {z1 : Int32} {z2 : Int32} {R1 : Int32 → MW → Prop} {R3 : I → Int32 → MW → Prop}, r_Ru_goOn z0 z1 z2 R1 → (∀ y0 y1, R1 y0 y1 → ∃ i : I, R3 i y0 y1) → ∃ i : I, r_Ru_goOn z0 z1 z2 (R3 i)) (ir_Ru_goesPast : ∀ {z0 : MW} {z1 : Int32} {z2 : Int32} {R1 : Int32 → MW → Prop} {R3 : I → Int32 → MW → Prop}, r_Ru_goesPast z0 z1 z2 R1 → (∀ y0 y1, R1 y0 y1 → ∃ i : I, R3 i y0 y1) → ∃ i : I, r_Ru_goesPast z0 z1 z2 (R3 i)) (kE : ∀ x0, E1 x0 → ∃ i : I, E3 i x0) (kQ : ∀ x0 x1, Q1 x0 x1 → ∃ i : I, Q3 i x0 x1) : ∀ (m : Nat) (x2_3 : Int32) (w : MW), q_Ru_endsRounds_2 r_Ru_endsAllSides r_Ru_endsRounds r_Ru_goOn r_Ru_goesPast x2_1 x2_2 E1 Q1 m x2_3 w → ∃ i : I, q_Ru_endsRounds_2 r_Ru_endsAllSides r_Ru_endsRounds r_Ru_goOn r_Ru_goesPast x2_1 x2_2 (E3 i) (Q3 i) m x2_3 w := by
  intro m
  induction m with
  | zero => exact fun _ _ h => False.elim h
  | succ m ih =>
    intro x2_3 w h
    have h := Eq.mp (q_Ru_endsRounds_2.eq_2 ..) h
    refine dj_eq (fun i => (q_Ru_endsRounds_2.eq_2 ..)) ?_
    exact (dj_if (fun h1 => (kE _ (h.1 h1))) (fun h2 => (dj_and (h.2 h2).1 (dj_if (fun h3 => (kE _ ((h.2 h2).2.1 h3))) (fun h4 => (dj_and ((h.2 h2).2.2 h4).1 (ir_Ru_goOn ((h.2 h2).2.2 h4).2 (fun _ _ h5 => (dj_if (fun h6 => (dj_and (h5.1 h6).1 (dj_and (h5.1 h6).2.1 (dj_and (h5.1 h6).2.2.1 (dj_and (h5.1 h6).2.2.2.1 (ih _ _ (h5.1 h6).2.2.2.2)))))) (fun h7 => (kQ _ _ (h5.2 h7))))))))))))
theorem dj_p_Ru_fault {I : Type} {w : MW} {a0 : Int32} {b0 : Int32} {Q1 : MW → Prop} {Q3 : I → MW → Prop}  (h : p_Ru_fault w a0 b0 Q1) (kQ : ∀ x0, Q1 x0 → ∃ i : I, Q3 i x0) : ∃ i : I, p_Ru_fault w a0 b0 (Q3 i) := by
  have h := Eq.mp (p_Ru_fault.eq_1 ..) h
  refine dj_eq (fun i => (p_Ru_fault.eq_1 ..)) ?_
  exact (dj_p_Al_add h (fun _ h1 => (kQ _ h1)))
theorem ex_p_Ru_fault {w : MW} {a0 : Int32} {b0 : Int32} {Q : MW → Prop} (h : p_Ru_fault w a0 b0 Q) : ∃ w1 : MW, Q w1 ∧ p_Ru_fault w a0 b0 (fun u => u = w1) := by
  obtain ⟨i, hi⟩ := dj_p_Ru_fault (I := {x : MW // Q x}) (Q3 := fun i u => u = i.1) h (fun u q => ⟨⟨u, q⟩, rfl⟩)
  exact ⟨i.1, i.2, hi⟩
theorem dj_q_Ru_mayBegin_61 {I : Type} {y61_2 : Int32} {w : MW} {Q1 : Int32 → MW → Prop} {Q3 : I → Int32 → MW → Prop}  (kQ : ∀ x0 x1, Q1 x0 x1 → ∃ i : I, Q3 i x0 x1) (h : q_Ru_mayBegin_61 y61_2 w Q1) : ∃ i : I, q_Ru_mayBegin_61 y61_2 w (Q3 i) := by
  have h := Eq.mp (q_Ru_mayBegin_61.eq_1 ..) h
  refine dj_eq (fun i => (q_Ru_mayBegin_61.eq_1 ..)) ?_
  exact (dj_if (fun h1 => (kQ _ _ (h.1 h1))) (fun h2 => (kQ _ _ (h.2 h2))))
theorem dj_q_Ru_mayBegin_24 {I : Type} {y24_1 : Int32} {ys24_0 : Int32} {w : MW} {Q1 : Int32 → MW → Prop} {Q3 : I → Int32 → MW → Prop}  (kQ : ∀ x0 x1, Q1 x0 x1 → ∃ i : I, Q3 i x0 x1) (h : q_Ru_mayBegin_24 y24_1 ys24_0 w Q1) : ∃ i : I, q_Ru_mayBegin_24 y24_1 ys24_0 w (Q3 i) := by
  have h := Eq.mp (q_Ru_mayBegin_24.eq_1 ..) h
  refine dj_eq (fun i => (q_Ru_mayBegin_24.eq_1 ..)) ?_
  exact (dj_if (fun h1 => (dj_and (h.1 h1).1 (dj_p_Ru_fault (h.1 h1).2 (fun _ h3 => (kQ _ _ h3))))) (fun h2 => (dj_if (fun h4 => (dj_q_Ru_mayBegin_61  kQ ((h.2 h2).1 h4))) (fun h5 => (dj_if (fun h6 => (dj_q_Ru_mayBegin_61  kQ (((h.2 h2).2 h5).1 h6))) (fun h7 => (dj_and (((h.2 h2).2 h5).2 h7).1 (dj_p_Ru_fault (((h.2 h2).2 h5).2 h7).2 (fun _ h8 => (kQ _ _ h8))))))))))
theorem dj_p_Ru_mayBegin {I : Type} {w : MW} {a0 : Int32} {Q1 : Int32 → MW → Prop} {Q3 : I → Int32 → MW → Prop}  (h : p_Ru_mayBegin w a0 Q1) (kQ : ∀ x0 x1, Q1 x0 x1 → ∃ i : I, Q3 i x0 x1) : ∃ i : I, p_Ru_mayBegin w a0 (Q3 i) := by
  have h := Eq.mp (p_Ru_mayBegin.eq_1 ..) h
  refine dj_eq (fun i => (p_Ru_mayBegin.eq_1 ..)) ?_
  exact (dj_and h.1 (dj_and h.2.1 (dj_and h.2.2.1 (dj_if (fun h1 => (dj_q_Ru_mayBegin_24  kQ (h.2.2.2.1 h1))) (fun h2 => (dj_q_Ru_mayBegin_24  kQ (h.2.2.2.2 h2)))))))
theorem ex_p_Ru_mayBegin {w : MW} {a0 : Int32} {Q : Int32 → MW → Prop} (h : p_Ru_mayBegin w a0 Q) : ∃ (r1 : Int32) (w1 : MW), Q r1 w1 ∧ p_Ru_mayBegin w a0 (fun r u => r = r1 ∧ u = w1) := by
  obtain ⟨i, hi⟩ := dj_p_Ru_mayBegin (I := {x : Int32 × MW // Q x.1 x.2}) (Q3 := fun i r u => r = i.1.1 ∧ u = i.1.2) h (fun r u q => ⟨⟨(r, u), q⟩, rfl, rfl⟩)
  exact ⟨i.1.1, i.1.2, i.2, hi⟩
theorem dj_p_Ru_choose {I : Type} {w : MW} {a0 : Int32} {b0 : Int32} {Q1 : MW → Prop} {Q3 : I → MW → Prop}  (h : p_Ru_choose w a0 b0 Q1) (kQ : ∀ x0, Q1 x0 → ∃ i : I, Q3 i x0) : ∃ i : I, p_Ru_choose w a0 b0 (Q3 i) := by
  have h := Eq.mp (p_Ru_choose.eq_1 ..) h
  refine dj_eq (fun i => (p_Ru_choose.eq_1 ..)) ?_
  exact (dj_and h.1 (dj_if (fun h1 => (kQ _ (h.2.1 h1))) (fun h2 => (dj_and (h.2.2 h2).1 (kQ _ (h.2.2 h2).2)))))
theorem ex_p_Ru_choose {w : MW} {a0 : Int32} {b0 : Int32} {Q : MW → Prop} (h : p_Ru_choose w a0 b0 Q) : ∃ w1 : MW, Q w1 ∧ p_Ru_choose w a0 b0 (fun u => u = w1) := by
  obtain ⟨i, hi⟩ := dj_p_Ru_choose (I := {x : MW // Q x}) (Q3 := fun i u => u = i.1) h (fun u q => ⟨⟨u, q⟩, rfl⟩)
  exact ⟨i.1, i.2, hi⟩
theorem dj_q_Ru_goOn_34 {I : Type} {r_Ru_endsAllSides : MW → Int32 → Int32 → (Int32 → MW → Prop) → Prop} {r_Ru_endsRounds : MW → Int32 → Int32 → (Int32 → MW → Prop) → Prop} {r_Ru_goOn : MW → Int32 → Int32 → (Int32 → MW → Prop) → Prop} {r_Ru_goesPast : MW → Int32 → Int32 → (Int32 → MW → Prop) → Prop} {x34_1 : Int32} {x34_2 : Int32} {E1 : MW → Prop} {E3 : I → MW → Prop} {Q1 : Int32 → MW → Prop} {Q3 : I → Int32 → MW → Prop} (ir_Ru_endsAllSides : ∀ {z0 : MW} {z1 : Int32} {z2 : Int32} {R1 : Int32 → MW → Prop} {R3 : I → Int32 → MW → Prop}, r_Ru_endsAllSides z0 z1 z2 R1 → (∀ y0 y1, R1 y0 y1 → ∃ i : I, R3 i y0 y1) → ∃ i : I, r_Ru_endsAllSides z0 z1 z2 (R3 i)) (ir_Ru_endsRounds : ∀ {z0 : MW} {z1 : Int32} {z2 : Int32} {R1 : Int32 → MW → Prop} {R3 : I → Int32 → MW → Prop}, r_Ru_endsRounds z0 z1 z2 R1 → (∀ y0 y1, R1 y0 y1 → ∃ i : I, R3 i y0 y1) → ∃ i : I, r_Ru_endsRounds z0 z1 z2 (R3 i)) (ir_Ru_goOn : ∀ {z0 : MW} {z1 : Int32} {z2 : Int32} {R1 : Int32 → MW → Prop} {R3 : I → Int32 → MW → Prop}, r_Ru_goOn z0 z1 z2 R1 → (∀ y0 y1, R1 y0 y1 → ∃ i : I, R3 i y0 y1) → ∃ i : I, r_Ru_goOn z0 z1 z2 (R3 i)) (ir_Ru_goesPast : ∀ {z0 : MW} {z1 : Int32} {z2 : Int32} {R1 : Int32 → MW → Prop} {R3 : I → Int32 → MW → Prop}, r_Ru_goesPast z0 z1 z2 R1 → (∀ y0 y1, R1 y0 y1 → ∃ i : I, R3 i y0 y1) → ∃ i : I, r_Ru_goesPast z0 z1 z2 (R3 i)) (kE : ∀ x0, E1 x0 → ∃ i : I, E3 i x0) (kQ : ∀ x0 x1, Q1 x0 x1 → ∃ i : I, Q3 i x0 x1) : ∀ (m : Nat) (x34_3 : Int32) (w : MW), q_Ru_goOn_34 r_Ru_endsAllSides r_Ru_endsRounds r_Ru_goOn r_Ru_goesPast x34_1 x34_2 E1 Q1 m x34_3 w → ∃ i : I, q_Ru_goOn_34 r_Ru_endsAllSides r_Ru_endsRounds r_Ru_goOn r_Ru_goesPast x34_1 x34_2 (E3 i) (Q3 i) m x34_3 w := by
  intro m
  induction m with
  | zero => exact fun _ _ h => False.elim h
  | succ m ih =>
    intro x34_3 w h
    have h := Eq.mp (q_Ru_goOn_34.eq_2 ..) h
    refine dj_eq (fun i => (q_Ru_goOn_34.eq_2 ..)) ?_
    exact (dj_if (fun h1 => (kE _ (h.1 h1))) (fun h2 => (dj_and (h.2 h2).1 (dj_if (fun h3 => (kE _ ((h.2 h2).2.1 h3))) (fun h4 => (dj_and ((h.2 h2).2.2 h4).1 (ir_Ru_goesPast ((h.2 h2).2.2 h4).2 (fun _ _ h5 => (dj_if (fun h6 => (dj_and (h5.1 h6).1 (dj_p_Ru_choose (h5.1 h6).2 (fun _ h8 => (ih _ _ h8))))) (fun h7 => (kQ _ _ (h5.2 h7))))))))))))
theorem dj_p_Ru_goInside {I : Type} {w : MW} {a0 : Int32} {b0 : Int32} {Q1 : Int32 → MW → Prop} {Q3 : I → Int32 → MW → Prop}  (h : p_Ru_goInside w a0 b0 Q1) (kQ : ∀ x0 x1, Q1 x0 x1 → ∃ i : I, Q3 i x0 x1) : ∃ i : I, p_Ru_goInside w a0 b0 (Q3 i) := by
  have h := Eq.mp (p_Ru_goInside.eq_1 ..) h
  refine dj_eq (fun i => (p_Ru_goInside.eq_1 ..)) ?_
  exact (dj_and h.1 (dj_p_Ru_choose h.2 (fun _ h1 => (kQ _ _ h1))))
theorem ex_p_Ru_goInside {w : MW} {a0 : Int32} {b0 : Int32} {Q : Int32 → MW → Prop} (h : p_Ru_goInside w a0 b0 Q) : ∃ (r1 : Int32) (w1 : MW), Q r1 w1 ∧ p_Ru_goInside w a0 b0 (fun r u => r = r1 ∧ u = w1) := by
  obtain ⟨i, hi⟩ := dj_p_Ru_goInside (I := {x : Int32 × MW // Q x.1 x.2}) (Q3 := fun i r u => r = i.1.1 ∧ u = i.1.2) h (fun r u q => ⟨⟨(r, u), q⟩, rfl, rfl⟩)
  exact ⟨i.1.1, i.1.2, i.2, hi⟩
theorem dj_q_Ru_beginPar_9 {I : Type} {x9_1 : Int32} {E1 : MW → Prop} {E3 : I → MW → Prop} {Q1 : Int32 → MW → Prop} {Q3 : I → Int32 → MW → Prop}  (kE : ∀ x0, E1 x0 → ∃ i : I, E3 i x0) (kQ : ∀ x0 x1, Q1 x0 x1 → ∃ i : I, Q3 i x0 x1) : ∀ (m : Nat) (x9_2 : Int32) (x9_3 : Int32) (w : MW), q_Ru_beginPar_9 x9_1 E1 Q1 m x9_2 x9_3 w → ∃ i : I, q_Ru_beginPar_9 x9_1 (E3 i) (Q3 i) m x9_2 x9_3 w := by
  intro m
  induction m with
  | zero => exact fun _ _ _ h => False.elim h
  | succ m ih =>
    intro x9_2 x9_3 w h
    have h := Eq.mp (q_Ru_beginPar_9.eq_2 ..) h
    refine dj_eq (fun i => (q_Ru_beginPar_9.eq_2 ..)) ?_
    exact (dj_if (fun h1 => (kE _ (h.1 h1))) (fun h2 => (dj_if (fun h3 => (kE _ ((h.2 h2).1 h3))) (fun h4 => (dj_and ((h.2 h2).2 h4).1 (dj_and ((h.2 h2).2 h4).2.1 (ih _ _ _ ((h.2 h2).2 h4).2.2)))))))
theorem dj_p_Ru_beginPar {I : Type} {w : MW} {a0 : Int32} {Q1 : Int32 → MW → Prop} {Q3 : I → Int32 → MW → Prop}  (h : p_Ru_beginPar w a0 Q1) (kQ : ∀ x0 x1, Q1 x0 x1 → ∃ i : I, Q3 i x0 x1) : ∃ i : I, p_Ru_beginPar w a0 (Q3 i) := by
  have h := Eq.mp (p_Ru_beginPar.eq_1 ..) h
  refine dj_eq (fun i => (p_Ru_beginPar.eq_1 ..)) ?_
  exact (dj_and h.1 (dj_q_Ru_beginPar_9  (fun _ h1 => (dj_p_Ru_goInside h1 (fun _ _ h2 => (kQ _ _ h2)))) kQ _ _ _ _ h.2))
theorem ex_p_Ru_beginPar {w : MW} {a0 : Int32} {Q : Int32 → MW → Prop} (h : p_Ru_beginPar w a0 Q) : ∃ (r1 : Int32) (w1 : MW), Q r1 w1 ∧ p_Ru_beginPar w a0 (fun r u => r = r1 ∧ u = w1) := by
  obtain ⟨i, hi⟩ := dj_p_Ru_beginPar (I := {x : Int32 × MW // Q x.1 x.2}) (Q3 := fun i r u => r = i.1.1 ∧ u = i.1.2) h (fun r u q => ⟨⟨(r, u), q⟩, rfl, rfl⟩)
  exact ⟨i.1.1, i.1.2, i.2, hi⟩
theorem dj_p_Ru_stand {I : Type} {w : MW} {a0 : Int32} {Q1 : Int32 → MW → Prop} {Q3 : I → Int32 → MW → Prop}  (h : p_Ru_stand w a0 Q1) (kQ : ∀ x0 x1, Q1 x0 x1 → ∃ i : I, Q3 i x0 x1) : ∃ i : I, p_Ru_stand w a0 (Q3 i) := by
  have h := Eq.mp (p_Ru_stand.eq_1 ..) h
  refine dj_eq (fun i => (p_Ru_stand.eq_1 ..)) ?_
  exact (dj_and h.1 (dj_and h.2.1 (kQ _ _ h.2.2)))
theorem ex_p_Ru_stand {w : MW} {a0 : Int32} {Q : Int32 → MW → Prop} (h : p_Ru_stand w a0 Q) : ∃ (r1 : Int32) (w1 : MW), Q r1 w1 ∧ p_Ru_stand w a0 (fun r u => r = r1 ∧ u = w1) := by
  obtain ⟨i, hi⟩ := dj_p_Ru_stand (I := {x : Int32 × MW // Q x.1 x.2}) (Q3 := fun i r u => r = i.1.1 ∧ u = i.1.2) h (fun r u q => ⟨⟨(r, u), q⟩, rfl, rfl⟩)
  exact ⟨i.1.1, i.1.2, i.2, hi⟩
theorem dj_p_Ru_beginPlain {I : Type} {w : MW} {a0 : Int32} {b0 : Int32} {Q1 : Int32 → MW → Prop} {Q3 : I → Int32 → MW → Prop}  (h : p_Ru_beginPlain w a0 b0 Q1) (kQ : ∀ x0 x1, Q1 x0 x1 → ∃ i : I, Q3 i x0 x1) : ∃ i : I, p_Ru_beginPlain w a0 b0 (Q3 i) := by
  have h := Eq.mp (p_Ru_beginPlain.eq_1 ..) h
  refine dj_eq (fun i => (p_Ru_beginPlain.eq_1 ..)) ?_
  exact (dj_and h.1 (dj_if (fun h1 => (dj_p_Ru_beginPar (h.2.1 h1) (fun _ _ h3 => (kQ _ _ h3)))) (fun h2 => (dj_if (fun h4 => (dj_and ((h.2.2 h2).1 h4).1 (dj_p_Ru_goInside ((h.2.2 h2).1 h4).2 (fun _ _ h6 => (kQ _ _ h6))))) (fun h5 => (dj_if (fun h7 => (dj_and (((h.2.2 h2).2 h5).1 h7).1 (dj_p_Ru_goInside (((h.2.2 h2).2 h5).1 h7).2 (fun _ _ h9 => (kQ _ _ h9))))) (fun h8 => (dj_if (fun h10 => (dj_and ((((h.2.2 h2).2 h5).2 h8).1 h10).1 (dj_p_Ru_goInside ((((h.2.2 h2).2 h5).2 h8).1 h10).2 (fun _ _ h12 => (kQ _ _ h12))))) (fun h11 => (dj_if (fun h13 => (dj_and (((((h.2.2 h2).2 h5).2 h8).2 h11).1 h13).1 (dj_p_Ru_goInside (((((h.2.2 h2).2 h5).2 h8).2 h11).1 h13).2 (fun _ _ h15 => (kQ _ _ h15))))) (fun h14 => (dj_if (fun h16 => (dj_and ((((((h.2.2 h2).2 h5).2 h8).2 h11).2 h14).1 h16).1 (dj_p_Ru_goInside ((((((h.2.2 h2).2 h5).2 h8).2 h11).2 h14).1 h16).2 (fun _ _ h18 => (kQ _ _ h18))))) (fun h17 => (dj_if (fun h19 => (dj_and (((((((h.2.2 h2).2 h5).2 h8).2 h11).2 h14).2 h17).1 h19).1 (dj_p_Ru_stand (((((((h.2.2 h2).2 h5).2 h8).2 h11).2 h14).2 h17).1 h19).2 (fun _ _ h21 => (kQ _ _ h21))))) (fun h20 => (dj_if (fun h22 => (dj_and ((((((((h.2.2 h2).2 h5).2 h8).2 h11).2 h14).2 h17).2 h20).1 h22).1 (dj_p_Ru_goInside ((((((((h.2.2 h2).2 h5).2 h8).2 h11).2 h14).2 h17).2 h20).1 h22).2 (fun _ _ h24 => (kQ _ _ h24))))) (fun h23 => (dj_if (fun h25 => (kQ _ _ (((((((((h.2.2 h2).2 h5).2 h8).2 h11).2 h14).2 h17).2 h20).2 h23).1 h25))) (fun h26 => (dj_if (fun h27 => (kQ _ _ ((((((((((h.2.2 h2).2 h5).2 h8).2 h11).2 h14).2 h17).2 h20).2 h23).2 h26).1 h27))) (fun h28 => (dj_if (fun h29 => (dj_and (((((((((((h.2.2 h2).2 h5).2 h8).2 h11).2 h14).2 h17).2 h20).2 h23).2 h26).2 h28).1 h29).1 (dj_and (((((((((((h.2.2 h2).2 h5).2 h8).2 h11).2 h14).2 h17).2 h20).2 h23).2 h26).2 h28).1 h29).2.1 (dj_p_Ac_perform (((((((((((h.2.2 h2).2 h5).2 h8).2 h11).2 h14).2 h17).2 h20).2 h23).2 h26).2 h28).1 h29).2.2 (fun _ _ h31 => (dj_if (fun h32 => (kQ _ _ (h31.1 h32))) (fun h33 => (dj_p_Al_add (h31.2 h33) (fun _ h34 => (kQ _ _ h34)))))))))) (fun h30 => (dj_and (((((((((((h.2.2 h2).2 h5).2 h8).2 h11).2 h14).2 h17).2 h20).2 h23).2 h26).2 h28).2 h30).1 (dj_p_Ru_goInside (((((((((((h.2.2 h2).2 h5).2 h8).2 h11).2 h14).2 h17).2 h20).2 h23).2 h26).2 h28).2 h30).2 (fun _ _ h35 => (kQ _ _ h35)))))))))))))))))))))))))))
theorem ex_p_Ru_beginPlain {w : MW} {a0 : Int32} {b0 : Int32} {Q : Int32 → MW → Prop} (h : p_Ru_beginPlain w a0 b0 Q) : ∃ (r1 : Int32) (w1 : MW), Q r1 w1 ∧ p_Ru_beginPlain w a0 b0 (fun r u => r = r1 ∧ u = w1) := by
  obtain ⟨i, hi⟩ := dj_p_Ru_beginPlain (I := {x : Int32 × MW // Q x.1 x.2}) (Q3 := fun i r u => r = i.1.1 ∧ u = i.1.2) h (fun r u q => ⟨⟨(r, u), q⟩, rfl, rfl⟩)
  exact ⟨i.1.1, i.1.2, i.2, hi⟩
theorem dj_p_Ru_apply {I : Type} {w : MW} {a0 : Int32} {b0 : Int64} {c0 : Int64} {Q1 : Int64 → MW → Prop} {Q3 : I → Int64 → MW → Prop}  (h : p_Ru_apply w a0 b0 c0 Q1) (kQ : ∀ x0 x1, Q1 x0 x1 → ∃ i : I, Q3 i x0 x1) : ∃ i : I, p_Ru_apply w a0 b0 c0 (Q3 i) := by
  have h := Eq.mp (p_Ru_apply.eq_1 ..) h
  refine dj_eq (fun i => (p_Ru_apply.eq_1 ..)) ?_
  exact (dj_if (fun h1 => (kQ _ _ (h.1 h1))) (fun h2 => (dj_if (fun h3 => (kQ _ _ ((h.2 h2).1 h3))) (fun h4 => (dj_if (fun h5 => (dj_if (fun h7 => (kQ _ _ ((((h.2 h2).2 h4).1 h5).1 h7))) (fun h8 => (kQ _ _ ((((h.2 h2).2 h4).1 h5).2 h8))))) (fun h6 => (dj_if (fun h9 => (kQ _ _ ((((h.2 h2).2 h4).2 h6).1 h9))) (fun h10 => (dj_if (fun h11 => (dj_if (fun h13 => (kQ _ _ ((((((h.2 h2).2 h4).2 h6).2 h10).1 h11).1 h13))) (fun h14 => (kQ _ _ ((((((h.2 h2).2 h4).2 h6).2 h10).1 h11).2 h14))))) (fun h12 => (dj_if (fun h15 => (dj_if (fun h17 => (dj_and (((((((h.2 h2).2 h4).2 h6).2 h10).2 h12).1 h15).1 h17).1 (kQ _ _ (((((((h.2 h2).2 h4).2 h6).2 h10).2 h12).1 h15).1 h17).2))) (fun h18 => (kQ _ _ (((((((h.2 h2).2 h4).2 h6).2 h10).2 h12).1 h15).2 h18))))) (fun h16 => (dj_if (fun h19 => (dj_if (fun h21 => (kQ _ _ ((((((((h.2 h2).2 h4).2 h6).2 h10).2 h12).2 h16).1 h19).1 h21))) (fun h22 => (kQ _ _ ((((((((h.2 h2).2 h4).2 h6).2 h10).2 h12).2 h16).1 h19).2 h22))))) (fun h20 => (dj_if (fun h23 => (dj_if (fun h25 => (kQ _ _ (((((((((h.2 h2).2 h4).2 h6).2 h10).2 h12).2 h16).2 h20).1 h23).1 h25))) (fun h26 => (kQ _ _ (((((((((h.2 h2).2 h4).2 h6).2 h10).2 h12).2 h16).2 h20).1 h23).2 h26))))) (fun h24 => (dj_if (fun h27 => (dj_if (fun h29 => (kQ _ _ ((((((((((h.2 h2).2 h4).2 h6).2 h10).2 h12).2 h16).2 h20).2 h24).1 h27).1 h29))) (fun h30 => (kQ _ _ ((((((((((h.2 h2).2 h4).2 h6).2 h10).2 h12).2 h16).2 h20).2 h24).1 h27).2 h30))))) (fun h28 => (dj_if (fun h31 => (dj_if (fun h33 => (kQ _ _ (((((((((((h.2 h2).2 h4).2 h6).2 h10).2 h12).2 h16).2 h20).2 h24).2 h28).1 h31).1 h33))) (fun h34 => (kQ _ _ (((((((((((h.2 h2).2 h4).2 h6).2 h10).2 h12).2 h16).2 h20).2 h24).2 h28).1 h31).2 h34))))) (fun h32 => (dj_if (fun h35 => (dj_if (fun h37 => (kQ _ _ ((((((((((((h.2 h2).2 h4).2 h6).2 h10).2 h12).2 h16).2 h20).2 h24).2 h28).2 h32).1 h35).1 h37))) (fun h38 => (kQ _ _ ((((((((((((h.2 h2).2 h4).2 h6).2 h10).2 h12).2 h16).2 h20).2 h24).2 h28).2 h32).1 h35).2 h38))))) (fun h36 => (dj_if (fun h39 => (dj_if (fun h41 => (kQ _ _ (((((((((((((h.2 h2).2 h4).2 h6).2 h10).2 h12).2 h16).2 h20).2 h24).2 h28).2 h32).2 h36).1 h39).1 h41))) (fun h42 => (kQ _ _ (((((((((((((h.2 h2).2 h4).2 h6).2 h10).2 h12).2 h16).2 h20).2 h24).2 h28).2 h32).2 h36).1 h39).2 h42))))) (fun h40 => (dj_if (fun h43 => (dj_if (fun h45 => (kQ _ _ ((((((((((((((h.2 h2).2 h4).2 h6).2 h10).2 h12).2 h16).2 h20).2 h24).2 h28).2 h32).2 h36).2 h40).1 h43).1 h45))) (fun h46 => (kQ _ _ ((((((((((((((h.2 h2).2 h4).2 h6).2 h10).2 h12).2 h16).2 h20).2 h24).2 h28).2 h32).2 h36).2 h40).1 h43).2 h46))))) (fun h44 => (dj_if (fun h47 => (dj_if (fun h49 => (kQ _ _ (((((((((((((((h.2 h2).2 h4).2 h6).2 h10).2 h12).2 h16).2 h20).2 h24).2 h28).2 h32).2 h36).2 h40).2 h44).1 h47).1 h49))) (fun h50 => (kQ _ _ (((((((((((((((h.2 h2).2 h4).2 h6).2 h10).2 h12).2 h16).2 h20).2 h24).2 h28).2 h32).2 h36).2 h40).2 h44).1 h47).2 h50))))) (fun h48 => (dj_if (fun h51 => (dj_if (fun h53 => (kQ _ _ ((((((((((((((((h.2 h2).2 h4).2 h6).2 h10).2 h12).2 h16).2 h20).2 h24).2 h28).2 h32).2 h36).2 h40).2 h44).2 h48).1 h51).1 h53))) (fun h54 => (kQ _ _ ((((((((((((((((h.2 h2).2 h4).2 h6).2 h10).2 h12).2 h16).2 h20).2 h24).2 h28).2 h32).2 h36).2 h40).2 h44).2 h48).1 h51).2 h54))))) (fun h52 => (dj_if (fun h55 => (dj_if (fun h57 => (kQ _ _ (((((((((((((((((h.2 h2).2 h4).2 h6).2 h10).2 h12).2 h16).2 h20).2 h24).2 h28).2 h32).2 h36).2 h40).2 h44).2 h48).2 h52).1 h55).1 h57))) (fun h58 => (kQ _ _ (((((((((((((((((h.2 h2).2 h4).2 h6).2 h10).2 h12).2 h16).2 h20).2 h24).2 h28).2 h32).2 h36).2 h40).2 h44).2 h48).2 h52).1 h55).2 h58))))) (fun h56 => (dj_if (fun h59 => (dj_if (fun h61 => (kQ _ _ ((((((((((((((((((h.2 h2).2 h4).2 h6).2 h10).2 h12).2 h16).2 h20).2 h24).2 h28).2 h32).2 h36).2 h40).2 h44).2 h48).2 h52).2 h56).1 h59).1 h61))) (fun h62 => (kQ _ _ ((((((((((((((((((h.2 h2).2 h4).2 h6).2 h10).2 h12).2 h16).2 h20).2 h24).2 h28).2 h32).2 h36).2 h40).2 h44).2 h48).2 h52).2 h56).1 h59).2 h62))))) (fun h60 => (dj_if (fun h63 => (dj_if (fun h65 => (kQ _ _ (((((((((((((((((((h.2 h2).2 h4).2 h6).2 h10).2 h12).2 h16).2 h20).2 h24).2 h28).2 h32).2 h36).2 h40).2 h44).2 h48).2 h52).2 h56).2 h60).1 h63).1 h65))) (fun h66 => (kQ _ _ (((((((((((((((((((h.2 h2).2 h4).2 h6).2 h10).2 h12).2 h16).2 h20).2 h24).2 h28).2 h32).2 h36).2 h40).2 h44).2 h48).2 h52).2 h56).2 h60).1 h63).2 h66))))) (fun h64 => (dj_if (fun h67 => (dj_if (fun h69 => (kQ _ _ ((((((((((((((((((((h.2 h2).2 h4).2 h6).2 h10).2 h12).2 h16).2 h20).2 h24).2 h28).2 h32).2 h36).2 h40).2 h44).2 h48).2 h52).2 h56).2 h60).2 h64).1 h67).1 h69))) (fun h70 => (kQ _ _ ((((((((((((((((((((h.2 h2).2 h4).2 h6).2 h10).2 h12).2 h16).2 h20).2 h24).2 h28).2 h32).2 h36).2 h40).2 h44).2 h48).2 h52).2 h56).2 h60).2 h64).1 h67).2 h70))))) (fun h68 => (dj_if (fun h71 => (dj_if (fun h73 => (kQ _ _ (((((((((((((((((((((h.2 h2).2 h4).2 h6).2 h10).2 h12).2 h16).2 h20).2 h24).2 h28).2 h32).2 h36).2 h40).2 h44).2 h48).2 h52).2 h56).2 h60).2 h64).2 h68).1 h71).1 h73))) (fun h74 => (kQ _ _ (((((((((((((((((((((h.2 h2).2 h4).2 h6).2 h10).2 h12).2 h16).2 h20).2 h24).2 h28).2 h32).2 h36).2 h40).2 h44).2 h48).2 h52).2 h56).2 h60).2 h64).2 h68).1 h71).2 h74))))) (fun h72 => (dj_if (fun h75 => (kQ _ _ (((((((((((((((((((((h.2 h2).2 h4).2 h6).2 h10).2 h12).2 h16).2 h20).2 h24).2 h28).2 h32).2 h36).2 h40).2 h44).2 h48).2 h52).2 h56).2 h60).2 h64).2 h68).2 h72).1 h75))) (fun h76 => (kQ _ _ (((((((((((((((((((((h.2 h2).2 h4).2 h6).2 h10).2 h12).2 h16).2 h20).2 h24).2 h28).2 h32).2 h36).2 h40).2 h44).2 h48).2 h52).2 h56).2 h60).2 h64).2 h68).2 h72).2 h76))))))))))))))))))))))))))))))))))))))))))))
theorem ex_p_Ru_apply {w : MW} {a0 : Int32} {b0 : Int64} {c0 : Int64} {Q : Int64 → MW → Prop} (h : p_Ru_apply w a0 b0 c0 Q) : ∃ (r1 : Int64) (w1 : MW), Q r1 w1 ∧ p_Ru_apply w a0 b0 c0 (fun r u => r = r1 ∧ u = w1) := by
  obtain ⟨i, hi⟩ := dj_p_Ru_apply (I := {x : Int64 × MW // Q x.1 x.2}) (Q3 := fun i r u => r = i.1.1 ∧ u = i.1.2) h (fun r u q => ⟨⟨(r, u), q⟩, rfl, rfl⟩)
  exact ⟨i.1.1, i.1.2, i.2, hi⟩
theorem dj_q_Ru_reckon_169 {I : Type} {x12_2 : Int32} {y169_3 : Int32} {y169_4 : Int32} {y169_5 : Int32} {w : MW} {A1 : Int32 → Int32 → MW → Prop} {A3 : I → Int32 → Int32 → MW → Prop} {E1 : MW → Prop} {E3 : I → MW → Prop} {Q1 : Int64 → MW → Prop} {Q3 : I → Int64 → MW → Prop}  (kA : ∀ x0 x1 x2, A1 x0 x1 x2 → ∃ i : I, A3 i x0 x1 x2) (kE : ∀ x0, E1 x0 → ∃ i : I, E3 i x0) (kQ : ∀ x0 x1, Q1 x0 x1 → ∃ i : I, Q3 i x0 x1) (h : q_Ru_reckon_169 x12_2 y169_3 y169_4 y169_5 w A1 E1 Q1) : ∃ i : I, q_Ru_reckon_169 x12_2 y169_3 y169_4 y169_5 w (A3 i) (E3 i) (Q3 i) := by
  have h := Eq.mp (q_Ru_reckon_169.eq_1 ..) h
  refine dj_eq (fun i => (q_Ru_reckon_169.eq_1 ..)) ?_
  exact (dj_and h.1 (dj_and h.2.1 (dj_p_Ru_apply h.2.2 (fun _ _ h1 => (dj_and h1.1 (kA _ _ _ h1.2))))))
theorem dj_q_Ru_reckon_134 {I : Type} {x12_2 : Int32} {y134_3 : Int32} {y134_4 : Int32} {y134_5 : Int32} {w : MW} {A1 : Int32 → Int32 → MW → Prop} {A3 : I → Int32 → Int32 → MW → Prop} {E1 : MW → Prop} {E3 : I → MW → Prop} {Q1 : Int64 → MW → Prop} {Q3 : I → Int64 → MW → Prop}  (kA : ∀ x0 x1 x2, A1 x0 x1 x2 → ∃ i : I, A3 i x0 x1 x2) (kE : ∀ x0, E1 x0 → ∃ i : I, E3 i x0) (kQ : ∀ x0 x1, Q1 x0 x1 → ∃ i : I, Q3 i x0 x1) (h : q_Ru_reckon_134 x12_2 y134_3 y134_4 y134_5 w A1 E1 Q1) : ∃ i : I, q_Ru_reckon_134 x12_2 y134_3 y134_4 y134_5 w (A3 i) (E3 i) (Q3 i) := by
  have h := Eq.mp (q_Ru_reckon_134.eq_1 ..) h
  refine dj_eq (fun i => (q_Ru_reckon_134.eq_1 ..)) ?_
  exact (dj_if (fun h1 => (kA _ _ _ (h.1 h1))) (fun h2 => (dj_if (fun h3 => (dj_q_Ru_reckon_169  kA kE kQ ((h.2 h2).1 h3))) (fun h4 => (dj_and ((h.2 h2).2 h4).1 (dj_if (fun h5 => (dj_q_Ru_reckon_169  kA kE kQ (((h.2 h2).2 h4).2.1 h5))) (fun h6 => (dj_p_Ru_fault (((h.2 h2).2 h4).2.2 h6) (fun _ h7 => (kQ _ _ h7))))))))))
theorem dj_q_Ru_reckon_53 {I : Type} {x12_2 : Int32} {y53_3 : Int32} {y53_4 : Int32} {y53_5 : Int32} {w : MW} {A1 : Int32 → Int32 → MW → Prop} {A3 : I → Int32 → Int32 → MW → Prop} {E1 : MW → Prop} {E3 : I → MW → Prop} {Q1 : Int64 → MW → Prop} {Q3 : I → Int64 → MW → Prop}  (kA : ∀ x0 x1 x2, A1 x0 x1 x2 → ∃ i : I, A3 i x0 x1 x2) (kE : ∀ x0, E1 x0 → ∃ i : I, E3 i x0) (kQ : ∀ x0 x1, Q1 x0 x1 → ∃ i : I, Q3 i x0 x1) (h : q_Ru_reckon_53 x12_2 y53_3 y53_4 y53_5 w A1 E1 Q1) : ∃ i : I, q_Ru_reckon_53 x12_2 y53_3 y53_4 y53_5 w (A3 i) (E3 i) (Q3 i) := by
  have h := Eq.mp (q_Ru_reckon_53.eq_1 ..) h
  refine dj_eq (fun i => (q_Ru_reckon_53.eq_1 ..)) ?_
  exact (dj_if (fun h1 => (dj_and (h.1 h1).1 (dj_and (h.1 h1).2.1 (dj_and (h.1 h1).2.2.1 (dj_and (h.1 h1).2.2.2.1 (dj_and (h.1 h1).2.2.2.2.1 (kA _ _ _ (h.1 h1).2.2.2.2.2))))))) (fun h2 => (dj_and (h.2 h2).1 (dj_and (h.2 h2).2.1 (dj_and (h.2 h2).2.2.1 (kA _ _ _ (h.2 h2).2.2.2))))))
theorem dj_q_Ru_reckon_12 {I : Type} {x12_2 : Int32} {E1 : MW → Prop} {E3 : I → MW → Prop} {Q1 : Int64 → MW → Prop} {Q3 : I → Int64 → MW → Prop}  (kE : ∀ x0, E1 x0 → ∃ i : I, E3 i x0) (kQ : ∀ x0 x1, Q1 x0 x1 → ∃ i : I, Q3 i x0 x1) : ∀ (m : Nat) (x12_3 : Int32) (x12_4 : Int32) (w : MW), q_Ru_reckon_12 x12_2 E1 Q1 m x12_3 x12_4 w → ∃ i : I, q_Ru_reckon_12 x12_2 (E3 i) (Q3 i) m x12_3 x12_4 w := by
  intro m
  induction m with
  | zero => exact fun _ _ _ h => False.elim h
  | succ m ih =>
    intro x12_3 x12_4 w h
    have h := Eq.mp (q_Ru_reckon_12.eq_2 ..) h
    refine dj_eq (fun i => (q_Ru_reckon_12.eq_2 ..)) ?_
    exact (dj_if (fun h1 => (kE _ (h.1 h1))) (fun h2 => (dj_if (fun h3 => (kE _ ((h.2 h2).1 h3))) (fun h4 => (dj_and ((h.2 h2).2 h4).1 (dj_and ((h.2 h2).2 h4).2.1 (dj_if (fun h5 => (dj_q_Ru_reckon_53  (fun _ _ _ h7 => (ih _ _ _ h7)) kE kQ (((h.2 h2).2 h4).2.2.1 h5))) (fun h6 => (dj_if (fun h8 => (dj_if (fun h10 => (dj_q_Ru_reckon_134  (fun _ _ _ h12 => (ih _ _ _ h12)) kE kQ (((((h.2 h2).2 h4).2.2.2 h6).1 h8).1 h10))) (fun h11 => (dj_if (fun h13 => (dj_q_Ru_reckon_134  (fun _ _ _ h15 => (ih _ _ _ h15)) kE kQ ((((((h.2 h2).2 h4).2.2.2 h6).1 h8).2 h11).1 h13))) (fun h14 => (dj_and ((((((h.2 h2).2 h4).2.2.2 h6).1 h8).2 h11).2 h14).1 (dj_and ((((((h.2 h2).2 h4).2.2.2 h6).1 h8).2 h11).2 h14).2.1 (ih _ _ _ ((((((h.2 h2).2 h4).2.2.2 h6).1 h8).2 h11).2 h14).2.2)))))))) (fun h9 => (dj_q_Ru_reckon_53  (fun _ _ _ h16 => (ih _ _ _ h16)) kE kQ ((((h.2 h2).2 h4).2.2.2 h6).2 h9))))))))))))
theorem dj_p_Ru_reckon {I : Type} {w : MW} {a0 : Int32} {b0 : Int32} {Q1 : Int64 → MW → Prop} {Q3 : I → Int64 → MW → Prop}  (h : p_Ru_reckon w a0 b0 Q1) (kQ : ∀ x0 x1, Q1 x0 x1 → ∃ i : I, Q3 i x0 x1) : ∃ i : I, p_Ru_reckon w a0 b0 (Q3 i) := by
  have h := Eq.mp (p_Ru_reckon.eq_1 ..) h
  refine dj_eq (fun i => (p_Ru_reckon.eq_1 ..)) ?_
  exact (dj_q_Ru_reckon_12  (fun _ h1 => (kQ _ _ h1)) kQ _ _ _ _ h)
theorem ex_p_Ru_reckon {w : MW} {a0 : Int32} {b0 : Int32} {Q : Int64 → MW → Prop} (h : p_Ru_reckon w a0 b0 Q) : ∃ (r1 : Int64) (w1 : MW), Q r1 w1 ∧ p_Ru_reckon w a0 b0 (fun r u => r = r1 ∧ u = w1) := by
  obtain ⟨i, hi⟩ := dj_p_Ru_reckon (I := {x : Int64 × MW // Q x.1 x.2}) (Q3 := fun i r u => r = i.1.1 ∧ u = i.1.2) h (fun r u q => ⟨⟨(r, u), q⟩, rfl, rfl⟩)
  exact ⟨i.1.1, i.1.2, i.2, hi⟩
theorem dj_p_Ru_setValue {I : Type} {w : MW} {a0 : Int32} {b0 : Int64} {Q1 : MW → Prop} {Q3 : I → MW → Prop}  (h : p_Ru_setValue w a0 b0 Q1) (kQ : ∀ x0, Q1 x0 → ∃ i : I, Q3 i x0) : ∃ i : I, p_Ru_setValue w a0 b0 (Q3 i) := by
  have h := Eq.mp (p_Ru_setValue.eq_1 ..) h
  refine dj_eq (fun i => (p_Ru_setValue.eq_1 ..)) ?_
  exact (dj_and h.1 (dj_and h.2.1 (dj_and h.2.2.1 (dj_and h.2.2.2.1 (kQ _ h.2.2.2.2)))))
theorem ex_p_Ru_setValue {w : MW} {a0 : Int32} {b0 : Int64} {Q : MW → Prop} (h : p_Ru_setValue w a0 b0 Q) : ∃ w1 : MW, Q w1 ∧ p_Ru_setValue w a0 b0 (fun u => u = w1) := by
  obtain ⟨i, hi⟩ := dj_p_Ru_setValue (I := {x : MW // Q x}) (Q3 := fun i u => u = i.1) h (fun u q => ⟨⟨u, q⟩, rfl⟩)
  exact ⟨i.1, i.2, hi⟩
theorem dj_p_Ru_beginRamp {I : Type} {w : MW} {a0 : Int32} {b0 : Int64} {Q1 : Int32 → MW → Prop} {Q3 : I → Int32 → MW → Prop}  (h : p_Ru_beginRamp w a0 b0 Q1) (kQ : ∀ x0 x1, Q1 x0 x1 → ∃ i : I, Q3 i x0 x1) : ∃ i : I, p_Ru_beginRamp w a0 b0 (Q3 i) := by
  have h := Eq.mp (p_Ru_beginRamp.eq_1 ..) h
  refine dj_eq (fun i => (p_Ru_beginRamp.eq_1 ..)) ?_
  exact (dj_and h.1 (dj_and h.2.1 (dj_and h.2.2.1 (dj_p_Ru_reckon h.2.2.2 (fun _ _ h1 => (dj_p_Ru_isOver h1 (fun _ _ h2 => (dj_if (fun h3 => (dj_if (fun h5 => (dj_and ((h2.1 h3).1 h5).1 (dj_and ((h2.1 h3).1 h5).2.1 (dj_and ((h2.1 h3).1 h5).2.2.1 (dj_and ((h2.1 h3).1 h5).2.2.2.1 (dj_and ((h2.1 h3).1 h5).2.2.2.2.1 (dj_and ((h2.1 h3).1 h5).2.2.2.2.2.1 (dj_and ((h2.1 h3).1 h5).2.2.2.2.2.2.1 (dj_and ((h2.1 h3).1 h5).2.2.2.2.2.2.2.1 (dj_p_Ru_stand ((h2.1 h3).1 h5).2.2.2.2.2.2.2.2 (fun _ _ h7 => (kQ _ _ h7)))))))))))) (fun h6 => (dj_p_Ru_setValue ((h2.1 h3).2 h6) (fun _ h8 => (kQ _ _ h8)))))) (fun h4 => (kQ _ _ (h2.2 h4)))))))))))
theorem ex_p_Ru_beginRamp {w : MW} {a0 : Int32} {b0 : Int64} {Q : Int32 → MW → Prop} (h : p_Ru_beginRamp w a0 b0 Q) : ∃ (r1 : Int32) (w1 : MW), Q r1 w1 ∧ p_Ru_beginRamp w a0 b0 (fun r u => r = r1 ∧ u = w1) := by
  obtain ⟨i, hi⟩ := dj_p_Ru_beginRamp (I := {x : Int32 × MW // Q x.1 x.2}) (Q3 := fun i r u => r = i.1.1 ∧ u = i.1.2) h (fun r u q => ⟨⟨(r, u), q⟩, rfl, rfl⟩)
  exact ⟨i.1.1, i.1.2, i.2, hi⟩
theorem dj_q_Ru_beginReckoned_247 {I : Type} {y247_1 : Int32} {y247_4 : Int64} {w : MW} {Q1 : Int32 → MW → Prop} {Q3 : I → Int32 → MW → Prop}  (kQ : ∀ x0 x1, Q1 x0 x1 → ∃ i : I, Q3 i x0 x1) (h : q_Ru_beginReckoned_247 y247_1 y247_4 w Q1) : ∃ i : I, q_Ru_beginReckoned_247 y247_1 y247_4 w (Q3 i) := by
  have h := Eq.mp (q_Ru_beginReckoned_247.eq_1 ..) h
  refine dj_eq (fun i => (q_Ru_beginReckoned_247.eq_1 ..)) ?_
  exact (dj_if (fun h1 => (dj_and (h.1 h1).1 (dj_and (h.1 h1).2.1 (dj_p_Ru_goInside (h.1 h1).2.2 (fun _ _ h3 => (kQ _ _ h3)))))) (fun h2 => (dj_and (h.2 h2).1 (dj_p_Ru_goInside (h.2 h2).2 (fun _ _ h4 => (kQ _ _ h4))))))
theorem dj_p_Ru_beginReckoned {I : Type} {w : MW} {a0 : Int32} {b0 : Int32} {Q1 : Int32 → MW → Prop} {Q3 : I → Int32 → MW → Prop}  (h : p_Ru_beginReckoned w a0 b0 Q1) (kQ : ∀ x0 x1, Q1 x0 x1 → ∃ i : I, Q3 i x0 x1) : ∃ i : I, p_Ru_beginReckoned w a0 b0 (Q3 i) := by
  have h := Eq.mp (p_Ru_beginReckoned.eq_1 ..) h
  refine dj_eq (fun i => (p_Ru_beginReckoned.eq_1 ..)) ?_
  exact (dj_and h.1 (dj_and h.2.1 (dj_and h.2.2.1 (dj_and h.2.2.2.1 (dj_and h.2.2.2.2.1 (dj_p_Ru_reckon h.2.2.2.2.2 (fun _ _ h1 => (dj_p_Ru_isOver h1 (fun _ _ h2 => (dj_if (fun h3 => (dj_if (fun h5 => (dj_p_Ru_setValue ((h2.1 h3).1 h5) (fun _ h7 => (kQ _ _ h7)))) (fun h6 => (dj_if (fun h8 => (dj_and (((h2.1 h3).2 h6).1 h8).1 (dj_and (((h2.1 h3).2 h6).1 h8).2.1 (dj_if (fun h10 => (dj_p_Ru_stand ((((h2.1 h3).2 h6).1 h8).2.2.1 h10) (fun _ _ h12 => (kQ _ _ h12)))) (fun h11 => (kQ _ _ ((((h2.1 h3).2 h6).1 h8).2.2.2 h11))))))) (fun h9 => (dj_if (fun h13 => (dj_if (fun h15 => (dj_p_Ru_stand (((((h2.1 h3).2 h6).2 h9).1 h13).1 h15) (fun _ _ h17 => (kQ _ _ h17)))) (fun h16 => (kQ _ _ (((((h2.1 h3).2 h6).2 h9).1 h13).2 h16))))) (fun h14 => (dj_if (fun h18 => (dj_p_Ru_beginRamp (((((h2.1 h3).2 h6).2 h9).2 h14).1 h18) (fun _ _ h20 => (kQ _ _ h20)))) (fun h19 => (dj_if (fun h21 => (dj_if (fun h23 => (dj_q_Ru_beginReckoned_247  kQ (((((((h2.1 h3).2 h6).2 h9).2 h14).2 h19).1 h21).1 h23))) (fun h24 => (dj_p_Al_add (((((((h2.1 h3).2 h6).2 h9).2 h14).2 h19).1 h21).2 h24) (fun _ h25 => (dj_q_Ru_beginReckoned_247  kQ h25)))))) (fun h22 => (dj_if (fun h26 => (dj_if (fun h28 => (dj_q_Ru_beginReckoned_247  kQ ((((((((h2.1 h3).2 h6).2 h9).2 h14).2 h19).2 h22).1 h26).1 h28))) (fun h29 => (dj_p_Al_add ((((((((h2.1 h3).2 h6).2 h9).2 h14).2 h19).2 h22).1 h26).2 h29) (fun _ h30 => (dj_q_Ru_beginReckoned_247  kQ h30)))))) (fun h27 => (dj_if (fun h31 => (dj_if (fun h33 => (dj_and (((((((((h2.1 h3).2 h6).2 h9).2 h14).2 h19).2 h22).2 h27).1 h31).1 h33).1 (dj_and (((((((((h2.1 h3).2 h6).2 h9).2 h14).2 h19).2 h22).2 h27).1 h31).1 h33).2.1 (dj_p_Ru_goInside (((((((((h2.1 h3).2 h6).2 h9).2 h14).2 h19).2 h22).2 h27).1 h31).1 h33).2.2 (fun _ _ h35 => (kQ _ _ h35)))))) (fun h34 => (dj_and (((((((((h2.1 h3).2 h6).2 h9).2 h14).2 h19).2 h22).2 h27).1 h31).2 h34).1 (dj_p_Ru_goInside (((((((((h2.1 h3).2 h6).2 h9).2 h14).2 h19).2 h22).2 h27).1 h31).2 h34).2 (fun _ _ h36 => (kQ _ _ h36))))))) (fun h32 => (dj_if (fun h37 => (dj_if (fun h39 => (dj_q_Ru_beginReckoned_247  kQ ((((((((((h2.1 h3).2 h6).2 h9).2 h14).2 h19).2 h22).2 h27).2 h32).1 h37).1 h39))) (fun h40 => (dj_p_Al_add ((((((((((h2.1 h3).2 h6).2 h9).2 h14).2 h19).2 h22).2 h27).2 h32).1 h37).2 h40) (fun _ h41 => (dj_q_Ru_beginReckoned_247  kQ h41)))))) (fun h38 => (dj_if (fun h42 => (dj_and ((((((((((h2.1 h3).2 h6).2 h9).2 h14).2 h19).2 h22).2 h27).2 h32).2 h38).1 h42).1 (dj_and ((((((((((h2.1 h3).2 h6).2 h9).2 h14).2 h19).2 h22).2 h27).2 h32).2 h38).1 h42).2.1 (dj_p_Ru_goInside ((((((((((h2.1 h3).2 h6).2 h9).2 h14).2 h19).2 h22).2 h27).2 h32).2 h38).1 h42).2.2 (fun _ _ h44 => (kQ _ _ h44)))))) (fun h43 => (dj_if (fun h45 => (dj_q_Ru_beginReckoned_247  kQ (((((((((((h2.1 h3).2 h6).2 h9).2 h14).2 h19).2 h22).2 h27).2 h32).2 h38).2 h43).1 h45))) (fun h46 => (dj_p_Al_add (((((((((((h2.1 h3).2 h6).2 h9).2 h14).2 h19).2 h22).2 h27).2 h32).2 h38).2 h43).2 h46) (fun _ h47 => (dj_q_Ru_beginReckoned_247  kQ h47)))))))))))))))))))))))) (fun h4 => (kQ _ _ (h2.2 h4)))))))))))))
theorem ex_p_Ru_beginReckoned {w : MW} {a0 : Int32} {b0 : Int32} {Q : Int32 → MW → Prop} (h : p_Ru_beginReckoned w a0 b0 Q) : ∃ (r1 : Int32) (w1 : MW), Q r1 w1 ∧ p_Ru_beginReckoned w a0 b0 (fun r u => r = r1 ∧ u = w1) := by
  obtain ⟨i, hi⟩ := dj_p_Ru_beginReckoned (I := {x : Int32 × MW // Q x.1 x.2}) (Q3 := fun i r u => r = i.1.1 ∧ u = i.1.2) h (fun r u q => ⟨⟨(r, u), q⟩, rfl, rfl⟩)
  exact ⟨i.1.1, i.1.2, i.2, hi⟩
theorem dj_p_Ma_floorDiv {I : Type} {w : MW} {a0 : Int64} {b0 : Int64} {Q1 : Int64 → MW → Prop} {Q3 : I → Int64 → MW → Prop}  (h : p_Ma_floorDiv w a0 b0 Q1) (kQ : ∀ x0 x1, Q1 x0 x1 → ∃ i : I, Q3 i x0 x1) : ∃ i : I, p_Ma_floorDiv w a0 b0 (Q3 i) := by
  have h := Eq.mp (p_Ma_floorDiv.eq_1 ..) h
  refine dj_eq (fun i => (p_Ma_floorDiv.eq_1 ..)) ?_
  exact (dj_and h.1 (dj_if (fun h1 => (kQ _ _ (h.2.1 h1))) (fun h2 => (dj_if (fun h3 => (kQ _ _ ((h.2.2 h2).1 h3))) (fun h4 => (kQ _ _ ((h.2.2 h2).2 h4)))))))
theorem ex_p_Ma_floorDiv {w : MW} {a0 : Int64} {b0 : Int64} {Q : Int64 → MW → Prop} (h : p_Ma_floorDiv w a0 b0 Q) : ∃ (r1 : Int64) (w1 : MW), Q r1 w1 ∧ p_Ma_floorDiv w a0 b0 (fun r u => r = r1 ∧ u = w1) := by
  obtain ⟨i, hi⟩ := dj_p_Ma_floorDiv (I := {x : Int64 × MW // Q x.1 x.2}) (Q3 := fun i r u => r = i.1.1 ∧ u = i.1.2) h (fun r u q => ⟨⟨(r, u), q⟩, rfl, rfl⟩)
  exact ⟨i.1.1, i.1.2, i.2, hi⟩
theorem dj_p_Ru_rampOn {I : Type} {w : MW} {a0 : Int32} {b0 : Int64} {Q1 : Int32 → MW → Prop} {Q3 : I → Int32 → MW → Prop}  (h : p_Ru_rampOn w a0 b0 Q1) (kQ : ∀ x0 x1, Q1 x0 x1 → ∃ i : I, Q3 i x0 x1) : ∃ i : I, p_Ru_rampOn w a0 b0 (Q3 i) := by
  have h := Eq.mp (p_Ru_rampOn.eq_1 ..) h
  refine dj_eq (fun i => (p_Ru_rampOn.eq_1 ..)) ?_
  exact (dj_and h.1 (dj_if (fun h1 => (dj_and (h.2.1 h1).1 (dj_and (h.2.1 h1).2.1 (dj_p_Ru_setValue (h.2.1 h1).2.2 (fun _ h3 => (kQ _ _ h3)))))) (fun h2 => (dj_and (h.2.2 h2).1 (dj_if (fun h4 => (dj_and ((h.2.2 h2).2.1 h4).1 (dj_and ((h.2.2 h2).2.1 h4).2.1 (dj_and ((h.2.2 h2).2.1 h4).2.2.1 (dj_and ((h.2.2 h2).2.1 h4).2.2.2.1 (dj_and ((h.2.2 h2).2.1 h4).2.2.2.2.1 (dj_p_Ma_floorDiv ((h.2.2 h2).2.1 h4).2.2.2.2.2 (fun _ _ h6 => (dj_p_Ru_setValue h6 (fun _ h7 => (kQ _ _ h7))))))))))) (fun h5 => (dj_and ((h.2.2 h2).2.2 h5).1 (dj_and ((h.2.2 h2).2.2 h5).2.1 (dj_p_Ru_setValue ((h.2.2 h2).2.2 h5).2.2 (fun _ h8 => (kQ _ _ h8)))))))))))
theorem ex_p_Ru_rampOn {w : MW} {a0 : Int32} {b0 : Int64} {Q : Int32 → MW → Prop} (h : p_Ru_rampOn w a0 b0 Q) : ∃ (r1 : Int32) (w1 : MW), Q r1 w1 ∧ p_Ru_rampOn w a0 b0 (fun r u => r = r1 ∧ u = w1) := by
  obtain ⟨i, hi⟩ := dj_p_Ru_rampOn (I := {x : Int32 × MW // Q x.1 x.2}) (Q3 := fun i r u => r = i.1.1 ∧ u = i.1.2) h (fun r u q => ⟨⟨(r, u), q⟩, rfl, rfl⟩)
  exact ⟨i.1.1, i.1.2, i.2, hi⟩
theorem dj_p_Ru_lookAgain {I : Type} {w : MW} {a0 : Int32} {b0 : Int32} {Q1 : Int32 → MW → Prop} {Q3 : I → Int32 → MW → Prop}  (h : p_Ru_lookAgain w a0 b0 Q1) (kQ : ∀ x0 x1, Q1 x0 x1 → ∃ i : I, Q3 i x0 x1) : ∃ i : I, p_Ru_lookAgain w a0 b0 (Q3 i) := by
  have h := Eq.mp (p_Ru_lookAgain.eq_1 ..) h
  refine dj_eq (fun i => (p_Ru_lookAgain.eq_1 ..)) ?_
  exact (dj_and h.1 (dj_if (fun h1 => (dj_and (h.2.1 h1).1 (dj_if (fun h3 => (kQ _ _ ((h.2.1 h1).2.1 h3))) (fun h4 => (kQ _ _ ((h.2.1 h1).2.2 h4)))))) (fun h2 => (dj_if (fun h5 => (dj_and ((h.2.2 h2).1 h5).1 (dj_and ((h.2.2 h2).1 h5).2.1 (dj_and ((h.2.2 h2).1 h5).2.2.1 (dj_and ((h.2.2 h2).1 h5).2.2.2.1 (dj_p_Ru_reckon ((h.2.2 h2).1 h5).2.2.2.2 (fun _ _ h7 => (dj_if (fun h8 => (kQ _ _ (h7.1 h8))) (fun h9 => (kQ _ _ (h7.2 h9))))))))))) (fun h6 => (dj_if (fun h10 => (dj_and (((h.2.2 h2).2 h6).1 h10).1 (dj_p_Ru_rampOn (((h.2.2 h2).2 h6).1 h10).2 (fun _ _ h12 => (kQ _ _ h12))))) (fun h11 => (dj_if (fun h13 => (dj_and ((((h.2.2 h2).2 h6).2 h11).1 h13).1 (dj_if (fun h15 => (kQ _ _ (((((h.2.2 h2).2 h6).2 h11).1 h13).2.1 h15))) (fun h16 => (kQ _ _ (((((h.2.2 h2).2 h6).2 h11).1 h13).2.2 h16)))))) (fun h14 => (kQ _ _ ((((h.2.2 h2).2 h6).2 h11).2 h14)))))))))))
theorem ex_p_Ru_lookAgain {w : MW} {a0 : Int32} {b0 : Int32} {Q : Int32 → MW → Prop} (h : p_Ru_lookAgain w a0 b0 Q) : ∃ (r1 : Int32) (w1 : MW), Q r1 w1 ∧ p_Ru_lookAgain w a0 b0 (fun r u => r = r1 ∧ u = w1) := by
  obtain ⟨i, hi⟩ := dj_p_Ru_lookAgain (I := {x : Int32 × MW // Q x.1 x.2}) (Q3 := fun i r u => r = i.1.1 ∧ u = i.1.2) h (fun r u q => ⟨⟨(r, u), q⟩, rfl, rfl⟩)
  exact ⟨i.1.1, i.1.2, i.2, hi⟩
theorem dj_q_Ru_goesPast_94 {I : Type} {r_Ru_endsAllSides : MW → Int32 → Int32 → (Int32 → MW → Prop) → Prop} {r_Ru_endsRounds : MW → Int32 → Int32 → (Int32 → MW → Prop) → Prop} {r_Ru_goOn : MW → Int32 → Int32 → (Int32 → MW → Prop) → Prop} {r_Ru_goesPast : MW → Int32 → Int32 → (Int32 → MW → Prop) → Prop} {y94_1 : Int32} {y94_2 : Int32} {y94_3 : Int32} {y94_4 : Int32} {w : MW} {Q1 : Int32 → MW → Prop} {Q3 : I → Int32 → MW → Prop} (ir_Ru_endsAllSides : ∀ {z0 : MW} {z1 : Int32} {z2 : Int32} {R1 : Int32 → MW → Prop} {R3 : I → Int32 → MW → Prop}, r_Ru_endsAllSides z0 z1 z2 R1 → (∀ y0 y1, R1 y0 y1 → ∃ i : I, R3 i y0 y1) → ∃ i : I, r_Ru_endsAllSides z0 z1 z2 (R3 i)) (ir_Ru_endsRounds : ∀ {z0 : MW} {z1 : Int32} {z2 : Int32} {R1 : Int32 → MW → Prop} {R3 : I → Int32 → MW → Prop}, r_Ru_endsRounds z0 z1 z2 R1 → (∀ y0 y1, R1 y0 y1 → ∃ i : I, R3 i y0 y1) → ∃ i : I, r_Ru_endsRounds z0 z1 z2 (R3 i)) (ir_Ru_goOn : ∀ {z0 : MW} {z1 : Int32} {z2 : Int32} {R1 : Int32 → MW → Prop} {R3 : I → Int32 → MW → Prop}, r_Ru_goOn z0 z1 z2 R1 → (∀ y0 y1, R1 y0 y1 → ∃ i : I, R3 i y0 y1) → ∃ i : I, r_Ru_goOn z0 z1 z2 (R3 i)) (ir_Ru_goesPast : ∀ {z0 : MW} {z1 : Int32} {z2 : Int32} {R1 : Int32 → MW → Prop} {R3 : I → Int32 → MW → Prop}, r_Ru_goesPast z0 z1 z2 R1 → (∀ y0 y1, R1 y0 y1 → ∃ i : I, R3 i y0 y1) → ∃ i : I, r_Ru_goesPast z0 z1 z2 (R3 i)) (kQ : ∀ x0 x1, Q1 x0 x1 → ∃ i : I, Q3 i x0 x1) (h : q_Ru_goesPast_94 r_Ru_endsAllSides r_Ru_endsRounds r_Ru_goOn r_Ru_goesPast y94_1 y94_2 y94_3 y94_4 w Q1) : ∃ i : I, q_Ru_goesPast_94 r_Ru_endsAllSides r_Ru_endsRounds r_Ru_goOn r_Ru_goesPast y94_1 y94_2 y94_3 y94_4 w (Q3 i) := by
  have h := Eq.mp (q_Ru_goesPast_94.eq_1 ..) h
  refine dj_eq (fun i => (q_Ru_goesPast_94.eq_1 ..)) ?_
  exact (dj_if (fun h1 => (dj_if (fun h3 => (dj_if (fun h5 => (dj_and (((h.1 h1).1 h3).1 h5).1 (dj_if (fun h7 => (kQ _ _ ((((h.1 h1).1 h3).1 h5).2.1 h7))) (fun h8 => (dj_and ((((h.1 h1).1 h3).1 h5).2.2 h8).1 (ir_Ru_goOn ((((h.1 h1).1 h3).1 h5).2.2 h8).2 (fun _ _ h9 => (dj_if (fun h10 => (kQ _ _ (h9.1 h10))) (fun h11 => (kQ _ _ (h9.2 h11))))))))))) (fun h6 => (ir_Ru_endsRounds (((h.1 h1).1 h3).2 h6) (fun _ _ h12 => (kQ _ _ h12)))))) (fun h4 => (ir_Ru_endsAllSides ((h.1 h1).2 h4) (fun _ _ h13 => (kQ _ _ h13)))))) (fun h2 => (dj_if (fun h14 => (kQ _ _ ((h.2 h2).1 h14))) (fun h15 => (kQ _ _ ((h.2 h2).2 h15))))))
theorem dj_pb_Ru_endsAllSides {I : Type} {r_Ru_endsAllSides : MW → Int32 → Int32 → (Int32 → MW → Prop) → Prop} {r_Ru_endsRounds : MW → Int32 → Int32 → (Int32 → MW → Prop) → Prop} {r_Ru_goOn : MW → Int32 → Int32 → (Int32 → MW → Prop) → Prop} {r_Ru_goesPast : MW → Int32 → Int32 → (Int32 → MW → Prop) → Prop} {w : MW} {a0 : Int32} {b0 : Int32} {Q1 : Int32 → MW → Prop} {Q3 : I → Int32 → MW → Prop} (ir_Ru_endsAllSides : ∀ {z0 : MW} {z1 : Int32} {z2 : Int32} {R1 : Int32 → MW → Prop} {R3 : I → Int32 → MW → Prop}, r_Ru_endsAllSides z0 z1 z2 R1 → (∀ y0 y1, R1 y0 y1 → ∃ i : I, R3 i y0 y1) → ∃ i : I, r_Ru_endsAllSides z0 z1 z2 (R3 i)) (ir_Ru_endsRounds : ∀ {z0 : MW} {z1 : Int32} {z2 : Int32} {R1 : Int32 → MW → Prop} {R3 : I → Int32 → MW → Prop}, r_Ru_endsRounds z0 z1 z2 R1 → (∀ y0 y1, R1 y0 y1 → ∃ i : I, R3 i y0 y1) → ∃ i : I, r_Ru_endsRounds z0 z1 z2 (R3 i)) (ir_Ru_goOn : ∀ {z0 : MW} {z1 : Int32} {z2 : Int32} {R1 : Int32 → MW → Prop} {R3 : I → Int32 → MW → Prop}, r_Ru_goOn z0 z1 z2 R1 → (∀ y0 y1, R1 y0 y1 → ∃ i : I, R3 i y0 y1) → ∃ i : I, r_Ru_goOn z0 z1 z2 (R3 i)) (ir_Ru_goesPast : ∀ {z0 : MW} {z1 : Int32} {z2 : Int32} {R1 : Int32 → MW → Prop} {R3 : I → Int32 → MW → Prop}, r_Ru_goesPast z0 z1 z2 R1 → (∀ y0 y1, R1 y0 y1 → ∃ i : I, R3 i y0 y1) → ∃ i : I, r_Ru_goesPast z0 z1 z2 (R3 i)) (h : pb_Ru_endsAllSides r_Ru_endsAllSides r_Ru_endsRounds r_Ru_goOn r_Ru_goesPast w a0 b0 Q1) (kQ : ∀ x0 x1, Q1 x0 x1 → ∃ i : I, Q3 i x0 x1) : ∃ i : I, pb_Ru_endsAllSides r_Ru_endsAllSides r_Ru_endsRounds r_Ru_goOn r_Ru_goesPast w a0 b0 (Q3 i) := by
  have h := Eq.mp (pb_Ru_endsAllSides.eq_1 ..) h
  refine dj_eq (fun i => (pb_Ru_endsAllSides.eq_1 ..)) ?_
  exact (dj_and h.1 (dj_q_Ru_endsAllSides_13 @ir_Ru_endsAllSides @ir_Ru_endsRounds @ir_Ru_goOn @ir_Ru_goesPast (fun _ _ h1 => (dj_and h1.1 (kQ _ _ h1.2))) kQ _ _ _ _ _ h.2))
theorem dj_pb_Ru_endsRounds {I : Type} {r_Ru_endsAllSides : MW → Int32 → Int32 → (Int32 → MW → Prop) → Prop} {r_Ru_endsRounds : MW → Int32 → Int32 → (Int32 → MW → Prop) → Prop} {r_Ru_goOn : MW → Int32 → Int32 → (Int32 → MW → Prop) → Prop} {r_Ru_goesPast : MW → Int32 → Int32 → (Int32 → MW → Prop) → Prop} {w : MW} {a0 : Int32} {b0 : Int32} {Q1 : Int32 → MW → Prop} {Q3 : I → Int32 → MW → Prop} (ir_Ru_endsAllSides : ∀ {z0 : MW} {z1 : Int32} {z2 : Int32} {R1 : Int32 → MW → Prop} {R3 : I → Int32 → MW → Prop}, r_Ru_endsAllSides z0 z1 z2 R1 → (∀ y0 y1, R1 y0 y1 → ∃ i : I, R3 i y0 y1) → ∃ i : I, r_Ru_endsAllSides z0 z1 z2 (R3 i)) (ir_Ru_endsRounds : ∀ {z0 : MW} {z1 : Int32} {z2 : Int32} {R1 : Int32 → MW → Prop} {R3 : I → Int32 → MW → Prop}, r_Ru_endsRounds z0 z1 z2 R1 → (∀ y0 y1, R1 y0 y1 → ∃ i : I, R3 i y0 y1) → ∃ i : I, r_Ru_endsRounds z0 z1 z2 (R3 i)) (ir_Ru_goOn : ∀ {z0 : MW} {z1 : Int32} {z2 : Int32} {R1 : Int32 → MW → Prop} {R3 : I → Int32 → MW → Prop}, r_Ru_goOn z0 z1 z2 R1 → (∀ y0 y1, R1 y0 y1 → ∃ i : I, R3 i y0 y1) → ∃ i : I, r_Ru_goOn z0 z1 z2 (R3 i)) (ir_Ru_goesPast : ∀ {z0 : MW} {z1 : Int32} {z2 : Int32} {R1 : Int32 → MW → Prop} {R3 : I → Int32 → MW → Prop}, r_Ru_goesPast z0 z1 z2 R1 → (∀ y0 y1, R1 y0 y1 → ∃ i : I, R3 i y0 y1) → ∃ i : I, r_Ru_goesPast z0 z1 z2 (R3 i)) (h : pb_Ru_endsRounds r_Ru_endsAllSides r_Ru_endsRounds r_Ru_goOn r_Ru_goesPast w a0 b0 Q1) (kQ : ∀ x0 x1, Q1 x0 x1 → ∃ i : I, Q3 i x0 x1) : ∃ i : I, pb_Ru_endsRounds r_Ru_endsAllSides r_Ru_endsRounds r_Ru_goOn r_Ru_goesPast w a0 b0 (Q3 i) := by
  have h := Eq.mp (pb_Ru_endsRounds.eq_1 ..) h
  refine dj_eq (fun i => (pb_Ru_endsRounds.eq_1 ..)) ?_
  exact (dj_q_Ru_endsRounds_2 @ir_Ru_endsAllSides @ir_Ru_endsRounds @ir_Ru_goOn @ir_Ru_goesPast (fun _ h1 => (dj_and h1.1 (dj_if (fun h2 => (kQ _ _ (h1.2.1 h2))) (fun h3 => (kQ _ _ (h1.2.2 h3)))))) kQ _ _ _ h)
theorem dj_pb_Ru_goOn {I : Type} {r_Ru_endsAllSides : MW → Int32 → Int32 → (Int32 → MW → Prop) → Prop} {r_Ru_endsRounds : MW → Int32 → Int32 → (Int32 → MW → Prop) → Prop} {r_Ru_goOn : MW → Int32 → Int32 → (Int32 → MW → Prop) → Prop} {r_Ru_goesPast : MW → Int32 → Int32 → (Int32 → MW → Prop) → Prop} {w : MW} {a0 : Int32} {b0 : Int32} {Q1 : Int32 → MW → Prop} {Q3 : I → Int32 → MW → Prop} (ir_Ru_endsAllSides : ∀ {z0 : MW} {z1 : Int32} {z2 : Int32} {R1 : Int32 → MW → Prop} {R3 : I → Int32 → MW → Prop}, r_Ru_endsAllSides z0 z1 z2 R1 → (∀ y0 y1, R1 y0 y1 → ∃ i : I, R3 i y0 y1) → ∃ i : I, r_Ru_endsAllSides z0 z1 z2 (R3 i)) (ir_Ru_endsRounds : ∀ {z0 : MW} {z1 : Int32} {z2 : Int32} {R1 : Int32 → MW → Prop} {R3 : I → Int32 → MW → Prop}, r_Ru_endsRounds z0 z1 z2 R1 → (∀ y0 y1, R1 y0 y1 → ∃ i : I, R3 i y0 y1) → ∃ i : I, r_Ru_endsRounds z0 z1 z2 (R3 i)) (ir_Ru_goOn : ∀ {z0 : MW} {z1 : Int32} {z2 : Int32} {R1 : Int32 → MW → Prop} {R3 : I → Int32 → MW → Prop}, r_Ru_goOn z0 z1 z2 R1 → (∀ y0 y1, R1 y0 y1 → ∃ i : I, R3 i y0 y1) → ∃ i : I, r_Ru_goOn z0 z1 z2 (R3 i)) (ir_Ru_goesPast : ∀ {z0 : MW} {z1 : Int32} {z2 : Int32} {R1 : Int32 → MW → Prop} {R3 : I → Int32 → MW → Prop}, r_Ru_goesPast z0 z1 z2 R1 → (∀ y0 y1, R1 y0 y1 → ∃ i : I, R3 i y0 y1) → ∃ i : I, r_Ru_goesPast z0 z1 z2 (R3 i)) (h : pb_Ru_goOn r_Ru_endsAllSides r_Ru_endsRounds r_Ru_goOn r_Ru_goesPast w a0 b0 Q1) (kQ : ∀ x0 x1, Q1 x0 x1 → ∃ i : I, Q3 i x0 x1) : ∃ i : I, pb_Ru_goOn r_Ru_endsAllSides r_Ru_endsRounds r_Ru_goOn r_Ru_goesPast w a0 b0 (Q3 i) := by
  have h := Eq.mp (pb_Ru_goOn.eq_1 ..) h
  refine dj_eq (fun i => (pb_Ru_goOn.eq_1 ..)) ?_
  exact (dj_if (fun h1 => (dj_and (h.1 h1).1 (dj_if (fun h3 => (dj_q_Ru_goOn_34 @ir_Ru_endsAllSides @ir_Ru_endsRounds @ir_Ru_goOn @ir_Ru_goesPast (fun _ h5 => (dj_and h5.1 (dj_if (fun h6 => (kQ _ _ (h5.2.1 h6))) (fun h7 => (kQ _ _ (h5.2.2 h7)))))) kQ _ _ _ ((h.1 h1).2.1 h3))) (fun h4 => (dj_p_Ru_mayBegin ((h.1 h1).2.2 h4) (fun _ _ h8 => (dj_if (fun h9 => (dj_p_Ru_enter (h8.1 h9) (fun _ h11 => (dj_q_Ru_goOn_34 @ir_Ru_endsAllSides @ir_Ru_endsRounds @ir_Ru_goOn @ir_Ru_goesPast (fun _ h12 => (dj_and h12.1 (dj_if (fun h13 => (kQ _ _ (h12.2.1 h13))) (fun h14 => (kQ _ _ (h12.2.2 h14)))))) kQ _ _ _ h11)))) (fun h10 => (kQ _ _ (h8.2 h10)))))))))) (fun h2 => (kQ _ _ (h.2 h2))))
theorem dj_pb_Ru_goesPast {I : Type} {r_Ru_endsAllSides : MW → Int32 → Int32 → (Int32 → MW → Prop) → Prop} {r_Ru_endsRounds : MW → Int32 → Int32 → (Int32 → MW → Prop) → Prop} {r_Ru_goOn : MW → Int32 → Int32 → (Int32 → MW → Prop) → Prop} {r_Ru_goesPast : MW → Int32 → Int32 → (Int32 → MW → Prop) → Prop} {w : MW} {a0 : Int32} {b0 : Int32} {Q1 : Int32 → MW → Prop} {Q3 : I → Int32 → MW → Prop} (ir_Ru_endsAllSides : ∀ {z0 : MW} {z1 : Int32} {z2 : Int32} {R1 : Int32 → MW → Prop} {R3 : I → Int32 → MW → Prop}, r_Ru_endsAllSides z0 z1 z2 R1 → (∀ y0 y1, R1 y0 y1 → ∃ i : I, R3 i y0 y1) → ∃ i : I, r_Ru_endsAllSides z0 z1 z2 (R3 i)) (ir_Ru_endsRounds : ∀ {z0 : MW} {z1 : Int32} {z2 : Int32} {R1 : Int32 → MW → Prop} {R3 : I → Int32 → MW → Prop}, r_Ru_endsRounds z0 z1 z2 R1 → (∀ y0 y1, R1 y0 y1 → ∃ i : I, R3 i y0 y1) → ∃ i : I, r_Ru_endsRounds z0 z1 z2 (R3 i)) (ir_Ru_goOn : ∀ {z0 : MW} {z1 : Int32} {z2 : Int32} {R1 : Int32 → MW → Prop} {R3 : I → Int32 → MW → Prop}, r_Ru_goOn z0 z1 z2 R1 → (∀ y0 y1, R1 y0 y1 → ∃ i : I, R3 i y0 y1) → ∃ i : I, r_Ru_goOn z0 z1 z2 (R3 i)) (ir_Ru_goesPast : ∀ {z0 : MW} {z1 : Int32} {z2 : Int32} {R1 : Int32 → MW → Prop} {R3 : I → Int32 → MW → Prop}, r_Ru_goesPast z0 z1 z2 R1 → (∀ y0 y1, R1 y0 y1 → ∃ i : I, R3 i y0 y1) → ∃ i : I, r_Ru_goesPast z0 z1 z2 (R3 i)) (h : pb_Ru_goesPast r_Ru_endsAllSides r_Ru_endsRounds r_Ru_goOn r_Ru_goesPast w a0 b0 Q1) (kQ : ∀ x0 x1, Q1 x0 x1 → ∃ i : I, Q3 i x0 x1) : ∃ i : I, pb_Ru_goesPast r_Ru_endsAllSides r_Ru_endsRounds r_Ru_goOn r_Ru_goesPast w a0 b0 (Q3 i) := by
  have h := Eq.mp (pb_Ru_goesPast.eq_1 ..) h
  refine dj_eq (fun i => (pb_Ru_goesPast.eq_1 ..)) ?_
  exact (dj_and h.1 (dj_and h.2.1 (dj_and h.2.2.1 (dj_and h.2.2.2.1 (dj_if (fun h1 => (dj_p_Ru_mayBegin (h.2.2.2.2.1 h1) (fun _ _ h3 => (dj_if (fun h4 => (dj_q_Ru_goesPast_94 @ir_Ru_endsAllSides @ir_Ru_endsRounds @ir_Ru_goOn @ir_Ru_goesPast kQ (h3.1 h4))) (fun h5 => (dj_and (h3.2 h5).1 (dj_and (h3.2 h5).2.1 (dj_and (h3.2 h5).2.2.1 (dj_and (h3.2 h5).2.2.2.1 (dj_and (h3.2 h5).2.2.2.2.1 (dj_and (h3.2 h5).2.2.2.2.2.1 (dj_if (fun h6 => (dj_p_Ru_beginPlain ((h3.2 h5).2.2.2.2.2.2.1 h6) (fun _ _ h8 => (dj_q_Ru_goesPast_94 @ir_Ru_endsAllSides @ir_Ru_endsRounds @ir_Ru_goOn @ir_Ru_goesPast kQ h8)))) (fun h7 => (dj_p_Ru_beginReckoned ((h3.2 h5).2.2.2.2.2.2.2 h7) (fun _ _ h9 => (dj_q_Ru_goesPast_94 @ir_Ru_endsAllSides @ir_Ru_endsRounds @ir_Ru_goOn @ir_Ru_goesPast kQ h9)))))))))))))))) (fun h2 => (dj_p_Ru_lookAgain (h.2.2.2.2.2 h2) (fun _ _ h10 => (dj_q_Ru_goesPast_94 @ir_Ru_endsAllSides @ir_Ru_endsRounds @ir_Ru_goOn @ir_Ru_goesPast kQ h10)))))))))
theorem djg_Ru_endsAllSides {I : Type} : ∀ n : Nat, (∀ (w : MW) (a0 : Int32) (b0 : Int32) (R1 : Int32 → MW → Prop) (R3 : I → Int32 → MW → Prop), pn_Ru_endsAllSides n w a0 b0 R1 → (∀ y0 y1, R1 y0 y1 → ∃ i : I, R3 i y0 y1) → ∃ i : I, pn_Ru_endsAllSides n w a0 b0 (R3 i)) ∧ (∀ (w : MW) (a0 : Int32) (b0 : Int32) (R1 : Int32 → MW → Prop) (R3 : I → Int32 → MW → Prop), pn_Ru_endsRounds n w a0 b0 R1 → (∀ y0 y1, R1 y0 y1 → ∃ i : I, R3 i y0 y1) → ∃ i : I, pn_Ru_endsRounds n w a0 b0 (R3 i)) ∧ (∀ (w : MW) (a0 : Int32) (b0 : Int32) (R1 : Int32 → MW → Prop) (R3 : I → Int32 → MW → Prop), pn_Ru_goOn n w a0 b0 R1 → (∀ y0 y1, R1 y0 y1 → ∃ i : I, R3 i y0 y1) → ∃ i : I, pn_Ru_goOn n w a0 b0 (R3 i)) ∧ (∀ (w : MW) (a0 : Int32) (b0 : Int32) (R1 : Int32 → MW → Prop) (R3 : I → Int32 → MW → Prop), pn_Ru_goesPast n w a0 b0 R1 → (∀ y0 y1, R1 y0 y1 → ∃ i : I, R3 i y0 y1) → ∃ i : I, pn_Ru_goesPast n w a0 b0 (R3 i)) := by
  intro n
  induction n with
  | zero =>
    exact ⟨fun _ _ _ _ _ h _ => False.elim h, fun _ _ _ _ _ h _ => False.elim h, fun _ _ _ _ _ h _ => False.elim h, fun _ _ _ _ _ h _ => False.elim h⟩
  | succ n ih =>
    have i_Ru_endsAllSides := ih.1
    have i_Ru_endsRounds := ih.2.1
    have i_Ru_goOn := ih.2.2.1
    have i_Ru_goesPast := ih.2.2.2
    refine ⟨?_, ?_, ?_, ?_⟩
    · exact fun v0 v1 v2 _ _ h k => by
        have h := Eq.mp (pe_Ru_endsAllSides ..) h
        refine dj_eq (fun i => (pe_Ru_endsAllSides ..)) ?_
        exact dj_pb_Ru_endsAllSides (fun h k => i_Ru_endsAllSides _ _ _ _ _ h k) (fun h k => i_Ru_endsRounds _ _ _ _ _ h k) (fun h k => i_Ru_goOn _ _ _ _ _ h k) (fun h k => i_Ru_goesPast _ _ _ _ _ h k) h k
    · exact fun v0 v1 v2 _ _ h k => by
        have h := Eq.mp (pe_Ru_endsRounds ..) h
        refine dj_eq (fun i => (pe_Ru_endsRounds ..)) ?_
        exact dj_pb_Ru_endsRounds (fun h k => i_Ru_endsAllSides _ _ _ _ _ h k) (fun h k => i_Ru_endsRounds _ _ _ _ _ h k) (fun h k => i_Ru_goOn _ _ _ _ _ h k) (fun h k => i_Ru_goesPast _ _ _ _ _ h k) h k
    · exact fun v0 v1 v2 _ _ h k => by
        have h := Eq.mp (pe_Ru_goOn ..) h
        refine dj_eq (fun i => (pe_Ru_goOn ..)) ?_
        exact dj_pb_Ru_goOn (fun h k => i_Ru_endsAllSides _ _ _ _ _ h k) (fun h k => i_Ru_endsRounds _ _ _ _ _ h k) (fun h k => i_Ru_goOn _ _ _ _ _ h k) (fun h k => i_Ru_goesPast _ _ _ _ _ h k) h k
    · exact fun v0 v1 v2 _ _ h k => by
        have h := Eq.mp (pe_Ru_goesPast ..) h
        refine dj_eq (fun i => (pe_Ru_goesPast ..)) ?_
        exact dj_pb_Ru_goesPast (fun h k => i_Ru_endsAllSides _ _ _ _ _ h k) (fun h k => i_Ru_endsRounds _ _ _ _ _ h k) (fun h k => i_Ru_goOn _ _ _ _ _ h k) (fun h k => i_Ru_goesPast _ _ _ _ _ h k) h k
theorem dj_pn_Ru_endsAllSides {I : Type} (n : Nat) {w : MW} {a0 : Int32} {b0 : Int32} {Q1 : Int32 → MW → Prop} {Q3 : I → Int32 → MW → Prop} (h : pn_Ru_endsAllSides n w a0 b0 Q1) (kQ : ∀ x0 x1, Q1 x0 x1 → ∃ i : I, Q3 i x0 x1) : ∃ i : I, pn_Ru_endsAllSides n w a0 b0 (Q3 i) := (djg_Ru_endsAllSides n).1 _ _ _ _ _ h kQ
theorem ex_pn_Ru_endsAllSides (n : Nat) {w : MW} {a0 : Int32} {b0 : Int32} {Q : Int32 → MW → Prop} (h : pn_Ru_endsAllSides n w a0 b0 Q) : ∃ (r1 : Int32) (w1 : MW), Q r1 w1 ∧ pn_Ru_endsAllSides n w a0 b0 (fun r u => r = r1 ∧ u = w1) := by
  obtain ⟨i, hi⟩ := dj_pn_Ru_endsAllSides (I := {x : Int32 × MW // Q x.1 x.2}) (Q3 := fun i r u => r = i.1.1 ∧ u = i.1.2) n h (fun r u q => ⟨⟨(r, u), q⟩, rfl, rfl⟩)
  exact ⟨i.1.1, i.1.2, i.2, hi⟩
theorem dj_pn_Ru_endsRounds {I : Type} (n : Nat) {w : MW} {a0 : Int32} {b0 : Int32} {Q1 : Int32 → MW → Prop} {Q3 : I → Int32 → MW → Prop} (h : pn_Ru_endsRounds n w a0 b0 Q1) (kQ : ∀ x0 x1, Q1 x0 x1 → ∃ i : I, Q3 i x0 x1) : ∃ i : I, pn_Ru_endsRounds n w a0 b0 (Q3 i) := (djg_Ru_endsAllSides n).2.1 _ _ _ _ _ h kQ
theorem ex_pn_Ru_endsRounds (n : Nat) {w : MW} {a0 : Int32} {b0 : Int32} {Q : Int32 → MW → Prop} (h : pn_Ru_endsRounds n w a0 b0 Q) : ∃ (r1 : Int32) (w1 : MW), Q r1 w1 ∧ pn_Ru_endsRounds n w a0 b0 (fun r u => r = r1 ∧ u = w1) := by
  obtain ⟨i, hi⟩ := dj_pn_Ru_endsRounds (I := {x : Int32 × MW // Q x.1 x.2}) (Q3 := fun i r u => r = i.1.1 ∧ u = i.1.2) n h (fun r u q => ⟨⟨(r, u), q⟩, rfl, rfl⟩)
  exact ⟨i.1.1, i.1.2, i.2, hi⟩
theorem dj_pn_Ru_goOn {I : Type} (n : Nat) {w : MW} {a0 : Int32} {b0 : Int32} {Q1 : Int32 → MW → Prop} {Q3 : I → Int32 → MW → Prop} (h : pn_Ru_goOn n w a0 b0 Q1) (kQ : ∀ x0 x1, Q1 x0 x1 → ∃ i : I, Q3 i x0 x1) : ∃ i : I, pn_Ru_goOn n w a0 b0 (Q3 i) := (djg_Ru_endsAllSides n).2.2.1 _ _ _ _ _ h kQ
theorem ex_pn_Ru_goOn (n : Nat) {w : MW} {a0 : Int32} {b0 : Int32} {Q : Int32 → MW → Prop} (h : pn_Ru_goOn n w a0 b0 Q) : ∃ (r1 : Int32) (w1 : MW), Q r1 w1 ∧ pn_Ru_goOn n w a0 b0 (fun r u => r = r1 ∧ u = w1) := by
  obtain ⟨i, hi⟩ := dj_pn_Ru_goOn (I := {x : Int32 × MW // Q x.1 x.2}) (Q3 := fun i r u => r = i.1.1 ∧ u = i.1.2) n h (fun r u q => ⟨⟨(r, u), q⟩, rfl, rfl⟩)
  exact ⟨i.1.1, i.1.2, i.2, hi⟩
theorem dj_pn_Ru_goesPast {I : Type} (n : Nat) {w : MW} {a0 : Int32} {b0 : Int32} {Q1 : Int32 → MW → Prop} {Q3 : I → Int32 → MW → Prop} (h : pn_Ru_goesPast n w a0 b0 Q1) (kQ : ∀ x0 x1, Q1 x0 x1 → ∃ i : I, Q3 i x0 x1) : ∃ i : I, pn_Ru_goesPast n w a0 b0 (Q3 i) := (djg_Ru_endsAllSides n).2.2.2 _ _ _ _ _ h kQ
theorem ex_pn_Ru_goesPast (n : Nat) {w : MW} {a0 : Int32} {b0 : Int32} {Q : Int32 → MW → Prop} (h : pn_Ru_goesPast n w a0 b0 Q) : ∃ (r1 : Int32) (w1 : MW), Q r1 w1 ∧ pn_Ru_goesPast n w a0 b0 (fun r u => r = r1 ∧ u = w1) := by
  obtain ⟨i, hi⟩ := dj_pn_Ru_goesPast (I := {x : Int32 × MW // Q x.1 x.2}) (Q3 := fun i r u => r = i.1.1 ∧ u = i.1.2) n h (fun r u q => ⟨⟨(r, u), q⟩, rfl, rfl⟩)
  exact ⟨i.1.1, i.1.2, i.2, hi⟩
theorem dj_p_Ru_goOn {I : Type} {w : MW} {a0 : Int32} {b0 : Int32} {Q1 : Int32 → MW → Prop} {Q3 : I → Int32 → MW → Prop} (h : p_Ru_goOn w a0 b0 Q1) (kQ : ∀ x0 x1, Q1 x0 x1 → ∃ i : I, Q3 i x0 x1) : ∃ i : I, p_Ru_goOn w a0 b0 (Q3 i) := dj_pn_Ru_goOn _ h kQ
theorem ex_p_Ru_goOn {w : MW} {a0 : Int32} {b0 : Int32} {Q : Int32 → MW → Prop} (h : p_Ru_goOn w a0 b0 Q) : ∃ (r1 : Int32) (w1 : MW), Q r1 w1 ∧ p_Ru_goOn w a0 b0 (fun r u => r = r1 ∧ u = w1) := by
  obtain ⟨i, hi⟩ := dj_p_Ru_goOn (I := {x : Int32 × MW // Q x.1 x.2}) (Q3 := fun i r u => r = i.1.1 ∧ u = i.1.2) h (fun r u q => ⟨⟨(r, u), q⟩, rfl, rfl⟩)
  exact ⟨i.1.1, i.1.2, i.2, hi⟩
theorem dj_p_Ru_lookAtLimit {I : Type} {w : MW} {a0 : Int32} {Q1 : MW → Prop} {Q3 : I → MW → Prop}  (h : p_Ru_lookAtLimit w a0 Q1) (kQ : ∀ x0, Q1 x0 → ∃ i : I, Q3 i x0) : ∃ i : I, p_Ru_lookAtLimit w a0 (Q3 i) := by
  have h := Eq.mp (p_Ru_lookAtLimit.eq_1 ..) h
  refine dj_eq (fun i => (p_Ru_lookAtLimit.eq_1 ..)) ?_
  exact (dj_and h.1 (dj_and h.2.1 (dj_and h.2.2.1 (dj_and h.2.2.2.1 (dj_and h.2.2.2.2.1 (dj_and h.2.2.2.2.2.1 (dj_p_Ru_reckon h.2.2.2.2.2.2 (fun _ _ h1 => (dj_p_Ru_isOver h1 (fun _ _ h2 => (dj_if (fun h3 => (kQ _ (h2.1 h3))) (fun h4 => (dj_if (fun h5 => (kQ _ ((h2.2 h4).1 h5))) (fun h6 => (dj_and ((h2.2 h4).2 h6).1 (dj_p_Al_add ((h2.2 h4).2 h6).2 (fun _ h7 => (dj_and h7.1 (dj_and h7.2.1 (dj_p_Ru_choose h7.2.2 (fun _ h8 => (kQ _ h8))))))))))))))))))))))
theorem ex_p_Ru_lookAtLimit {w : MW} {a0 : Int32} {Q : MW → Prop} (h : p_Ru_lookAtLimit w a0 Q) : ∃ w1 : MW, Q w1 ∧ p_Ru_lookAtLimit w a0 (fun u => u = w1) := by
  obtain ⟨i, hi⟩ := dj_p_Ru_lookAtLimit (I := {x : MW // Q x}) (Q3 := fun i u => u = i.1) h (fun u q => ⟨⟨u, q⟩, rfl⟩)
  exact ⟨i.1, i.2, hi⟩
theorem dj_q_Ru_lookAtLimits_142 {I : Type} {r_Ru_lookAtLimits : MW → Int32 → Int32 → (MW → Prop) → Prop} {x142_2 : Int32} {E1 : MW → Prop} {E3 : I → MW → Prop} {Q1 : MW → Prop} {Q3 : I → MW → Prop} (ir_Ru_lookAtLimits : ∀ {z0 : MW} {z1 : Int32} {z2 : Int32} {R1 : MW → Prop} {R3 : I → MW → Prop}, r_Ru_lookAtLimits z0 z1 z2 R1 → (∀ y0, R1 y0 → ∃ i : I, R3 i y0) → ∃ i : I, r_Ru_lookAtLimits z0 z1 z2 (R3 i)) (kE : ∀ x0, E1 x0 → ∃ i : I, E3 i x0) (kQ : ∀ x0, Q1 x0 → ∃ i : I, Q3 i x0) : ∀ (m : Nat) (x142_5 : Int32) (x142_6 : Int32) (w : MW), q_Ru_lookAtLimits_142 r_Ru_lookAtLimits x142_2 E1 Q1 m x142_5 x142_6 w → ∃ i : I, q_Ru_lookAtLimits_142 r_Ru_lookAtLimits x142_2 (E3 i) (Q3 i) m x142_5 x142_6 w := by
  intro m
  induction m with
  | zero => exact fun _ _ _ h => False.elim h
  | succ m ih =>
    intro x142_5 x142_6 w h
    have h := Eq.mp (q_Ru_lookAtLimits_142.eq_2 ..) h
    refine dj_eq (fun i => (q_Ru_lookAtLimits_142.eq_2 ..)) ?_
    exact (dj_if (fun h1 => (kE _ (h.1 h1))) (fun h2 => (dj_if (fun h3 => (kE _ ((h.2 h2).1 h3))) (fun h4 => (ir_Ru_lookAtLimits ((h.2 h2).2 h4) (fun _ h5 => (dj_and h5.1 (ih _ _ _ h5.2))))))))
theorem dj_q_Ru_lookAtLimits_120 {I : Type} {r_Ru_lookAtLimits : MW → Int32 → Int32 → (MW → Prop) → Prop} {y120_2 : Int32} {y120_3 : Int32} {y120_4 : Int32} {w : MW} {Q1 : MW → Prop} {Q3 : I → MW → Prop} (ir_Ru_lookAtLimits : ∀ {z0 : MW} {z1 : Int32} {z2 : Int32} {R1 : MW → Prop} {R3 : I → MW → Prop}, r_Ru_lookAtLimits z0 z1 z2 R1 → (∀ y0, R1 y0 → ∃ i : I, R3 i y0) → ∃ i : I, r_Ru_lookAtLimits z0 z1 z2 (R3 i)) (kQ : ∀ x0, Q1 x0 → ∃ i : I, Q3 i x0) (h : q_Ru_lookAtLimits_120 r_Ru_lookAtLimits y120_2 y120_3 y120_4 w Q1) : ∃ i : I, q_Ru_lookAtLimits_120 r_Ru_lookAtLimits y120_2 y120_3 y120_4 w (Q3 i) := by
  have h := Eq.mp (q_Ru_lookAtLimits_120.eq_1 ..) h
  refine dj_eq (fun i => (q_Ru_lookAtLimits_120.eq_1 ..)) ?_
  exact (dj_if (fun h1 => (dj_q_Ru_lookAtLimits_142 @ir_Ru_lookAtLimits (fun _ h3 => (kQ _ h3)) kQ _ _ _ _ (h.1 h1))) (fun h2 => (dj_and (h.2 h2).1 (dj_q_Ru_lookAtLimits_142 @ir_Ru_lookAtLimits (fun _ h4 => (kQ _ h4)) kQ _ _ _ _ (h.2 h2).2))))
theorem dj_q_Ru_lookAtLimits_91 {I : Type} {r_Ru_lookAtLimits : MW → Int32 → Int32 → (MW → Prop) → Prop} {y91_2 : Int32} {y91_3 : Int32} {y91_4 : Int32} {w : MW} {Q1 : MW → Prop} {Q3 : I → MW → Prop} (ir_Ru_lookAtLimits : ∀ {z0 : MW} {z1 : Int32} {z2 : Int32} {R1 : MW → Prop} {R3 : I → MW → Prop}, r_Ru_lookAtLimits z0 z1 z2 R1 → (∀ y0, R1 y0 → ∃ i : I, R3 i y0) → ∃ i : I, r_Ru_lookAtLimits z0 z1 z2 (R3 i)) (kQ : ∀ x0, Q1 x0 → ∃ i : I, Q3 i x0) (h : q_Ru_lookAtLimits_91 r_Ru_lookAtLimits y91_2 y91_3 y91_4 w Q1) : ∃ i : I, q_Ru_lookAtLimits_91 r_Ru_lookAtLimits y91_2 y91_3 y91_4 w (Q3 i) := by
  have h := Eq.mp (q_Ru_lookAtLimits_91.eq_1 ..) h
  refine dj_eq (fun i => (q_Ru_lookAtLimits_91.eq_1 ..)) ?_
  exact (dj_if (fun h1 => (dj_q_Ru_lookAtLimits_120 @ir_Ru_lookAtLimits kQ (h.1 h1))) (fun h2 => (dj_and (h.2 h2).1 (dj_if (fun h3 => (dj_q_Ru_lookAtLimits_120 @ir_Ru_lookAtLimits kQ ((h.2 h2).2.1 h3))) (fun h4 => (dj_and ((h.2 h2).2.2 h4).1 (ir_Ru_lookAtLimits ((h.2 h2).2.2 h4).2 (fun _ h5 => (dj_q_Ru_lookAtLimits_120 @ir_Ru_lookAtLimits kQ h5)))))))))
theorem dj_q_Ru_lookAtLimits_20 {I : Type} {r_Ru_lookAtLimits : MW → Int32 → Int32 → (MW → Prop) → Prop} {y20_2 : Int32} {ys20_0 : Int32} {w : MW} {Q1 : MW → Prop} {Q3 : I → MW → Prop} (ir_Ru_lookAtLimits : ∀ {z0 : MW} {z1 : Int32} {z2 : Int32} {R1 : MW → Prop} {R3 : I → MW → Prop}, r_Ru_lookAtLimits z0 z1 z2 R1 → (∀ y0, R1 y0 → ∃ i : I, R3 i y0) → ∃ i : I, r_Ru_lookAtLimits z0 z1 z2 (R3 i)) (kQ : ∀ x0, Q1 x0 → ∃ i : I, Q3 i x0) (h : q_Ru_lookAtLimits_20 r_Ru_lookAtLimits y20_2 ys20_0 w Q1) : ∃ i : I, q_Ru_lookAtLimits_20 r_Ru_lookAtLimits y20_2 ys20_0 w (Q3 i) := by
  have h := Eq.mp (q_Ru_lookAtLimits_20.eq_1 ..) h
  refine dj_eq (fun i => (q_Ru_lookAtLimits_20.eq_1 ..)) ?_
  exact (dj_p_Ru_isOver h (fun _ _ h1 => (dj_if (fun h2 => (kQ _ (h1.1 h2))) (fun h3 => (dj_if (fun h4 => (kQ _ ((h1.2 h3).1 h4))) (fun h5 => (dj_and ((h1.2 h3).2 h5).1 (dj_if (fun h6 => (kQ _ (((h1.2 h3).2 h5).2.1 h6))) (fun h7 => (dj_if (fun h8 => (dj_and ((((h1.2 h3).2 h5).2.2 h7).1 h8).1 (dj_and ((((h1.2 h3).2 h5).2.2 h7).1 h8).2.1 (dj_and ((((h1.2 h3).2 h5).2.2 h7).1 h8).2.2.1 (dj_if (fun h10 => (dj_q_Ru_lookAtLimits_91 @ir_Ru_lookAtLimits kQ (((((h1.2 h3).2 h5).2.2 h7).1 h8).2.2.2.1 h10))) (fun h11 => (dj_and (((((h1.2 h3).2 h5).2.2 h7).1 h8).2.2.2.2 h11).1 (dj_and (((((h1.2 h3).2 h5).2.2 h7).1 h8).2.2.2.2 h11).2.1 (dj_if (fun h12 => (dj_q_Ru_lookAtLimits_91 @ir_Ru_lookAtLimits kQ ((((((h1.2 h3).2 h5).2.2 h7).1 h8).2.2.2.2 h11).2.2.1 h12))) (fun h13 => (dj_p_Ru_lookAtLimit ((((((h1.2 h3).2 h5).2.2 h7).1 h8).2.2.2.2 h11).2.2.2 h13) (fun _ h14 => (dj_q_Ru_lookAtLimits_91 @ir_Ru_lookAtLimits kQ h14))))))))))))) (fun h9 => (kQ _ ((((h1.2 h3).2 h5).2.2 h7).2 h9)))))))))))))
theorem dj_pb_Ru_lookAtLimits {I : Type} {r_Ru_lookAtLimits : MW → Int32 → Int32 → (MW → Prop) → Prop} {w : MW} {a0 : Int32} {b0 : Int32} {Q1 : MW → Prop} {Q3 : I → MW → Prop} (ir_Ru_lookAtLimits : ∀ {z0 : MW} {z1 : Int32} {z2 : Int32} {R1 : MW → Prop} {R3 : I → MW → Prop}, r_Ru_lookAtLimits z0 z1 z2 R1 → (∀ y0, R1 y0 → ∃ i : I, R3 i y0) → ∃ i : I, r_Ru_lookAtLimits z0 z1 z2 (R3 i)) (h : pb_Ru_lookAtLimits r_Ru_lookAtLimits w a0 b0 Q1) (kQ : ∀ x0, Q1 x0 → ∃ i : I, Q3 i x0) : ∃ i : I, pb_Ru_lookAtLimits r_Ru_lookAtLimits w a0 b0 (Q3 i) := by
  have h := Eq.mp (pb_Ru_lookAtLimits.eq_1 ..) h
  refine dj_eq (fun i => (pb_Ru_lookAtLimits.eq_1 ..)) ?_
  exact (dj_and h.1 (dj_if (fun h1 => (dj_q_Ru_lookAtLimits_20 @ir_Ru_lookAtLimits kQ (h.2.1 h1))) (fun h2 => (dj_and (h.2.2 h2).1 (dj_q_Ru_lookAtLimits_20 @ir_Ru_lookAtLimits kQ (h.2.2 h2).2)))))
theorem djg_Ru_lookAtLimits {I : Type} : ∀ n : Nat, (∀ (w : MW) (a0 : Int32) (b0 : Int32) (R1 : MW → Prop) (R3 : I → MW → Prop), pn_Ru_lookAtLimits n w a0 b0 R1 → (∀ y0, R1 y0 → ∃ i : I, R3 i y0) → ∃ i : I, pn_Ru_lookAtLimits n w a0 b0 (R3 i)) := by
  intro n
  induction n with
  | zero =>
    exact fun _ _ _ _ _ h _ => False.elim h
  | succ n ih =>
    have i_Ru_lookAtLimits := ih
    exact fun v0 v1 v2 _ _ h k => by
      have h := Eq.mp (pe_Ru_lookAtLimits ..) h
      refine dj_eq (fun i => (pe_Ru_lookAtLimits ..)) ?_
      exact dj_pb_Ru_lookAtLimits (fun h k => i_Ru_lookAtLimits _ _ _ _ _ h k) h k
theorem dj_pn_Ru_lookAtLimits {I : Type} (n : Nat) {w : MW} {a0 : Int32} {b0 : Int32} {Q1 : MW → Prop} {Q3 : I → MW → Prop} (h : pn_Ru_lookAtLimits n w a0 b0 Q1) (kQ : ∀ x0, Q1 x0 → ∃ i : I, Q3 i x0) : ∃ i : I, pn_Ru_lookAtLimits n w a0 b0 (Q3 i) := (djg_Ru_lookAtLimits n) _ _ _ _ _ h kQ
theorem ex_pn_Ru_lookAtLimits (n : Nat) {w : MW} {a0 : Int32} {b0 : Int32} {Q : MW → Prop} (h : pn_Ru_lookAtLimits n w a0 b0 Q) : ∃ w1 : MW, Q w1 ∧ pn_Ru_lookAtLimits n w a0 b0 (fun u => u = w1) := by
  obtain ⟨i, hi⟩ := dj_pn_Ru_lookAtLimits (I := {x : MW // Q x}) (Q3 := fun i u => u = i.1) n h (fun u q => ⟨⟨u, q⟩, rfl⟩)
  exact ⟨i.1, i.2, hi⟩
theorem dj_p_Ru_lookAtLimits {I : Type} {w : MW} {a0 : Int32} {b0 : Int32} {Q1 : MW → Prop} {Q3 : I → MW → Prop} (h : p_Ru_lookAtLimits w a0 b0 Q1) (kQ : ∀ x0, Q1 x0 → ∃ i : I, Q3 i x0) : ∃ i : I, p_Ru_lookAtLimits w a0 b0 (Q3 i) := dj_pn_Ru_lookAtLimits _ h kQ
theorem ex_p_Ru_lookAtLimits {w : MW} {a0 : Int32} {b0 : Int32} {Q : MW → Prop} (h : p_Ru_lookAtLimits w a0 b0 Q) : ∃ w1 : MW, Q w1 ∧ p_Ru_lookAtLimits w a0 b0 (fun u => u = w1) := by
  obtain ⟨i, hi⟩ := dj_p_Ru_lookAtLimits (I := {x : MW // Q x}) (Q3 := fun i u => u = i.1) h (fun u q => ⟨⟨u, q⟩, rfl⟩)
  exact ⟨i.1, i.2, hi⟩
theorem dj_q_Ru_walk_52 {I : Type} {ys52_0 : Int32} {w : MW} {Q1 : MW → Prop} {Q3 : I → MW → Prop}  (kQ : ∀ x0, Q1 x0 → ∃ i : I, Q3 i x0) (h : q_Ru_walk_52 ys52_0 w Q1) : ∃ i : I, q_Ru_walk_52 ys52_0 w (Q3 i) := by
  have h := Eq.mp (q_Ru_walk_52.eq_1 ..) h
  refine dj_eq (fun i => (q_Ru_walk_52.eq_1 ..)) ?_
  exact (dj_if (fun h1 => (dj_p_Ru_isOver (h.1 h1) (fun _ _ h3 => (dj_if (fun h4 => (kQ _ (h3.1 h4))) (fun h5 => (dj_if (fun h6 => (kQ _ ((h3.2 h5).1 h6))) (fun h7 => (kQ _ ((h3.2 h5).2 h7))))))))) (fun h2 => (kQ _ (h.2 h2))))
theorem dj_p_Ru_walk {I : Type} {w : MW} {Q1 : MW → Prop} {Q3 : I → MW → Prop}  (h : p_Ru_walk w Q1) (kQ : ∀ x0, Q1 x0 → ∃ i : I, Q3 i x0) : ∃ i : I, p_Ru_walk w (Q3 i) := by
  have h := Eq.mp (p_Ru_walk.eq_1 ..) h
  refine dj_eq (fun i => (p_Ru_walk.eq_1 ..)) ?_
  exact (dj_p_Ru_lookAtLimits h (fun _ h1 => (dj_p_Ru_isOver h1 (fun _ _ h2 => (dj_if (fun h3 => (dj_q_Ru_walk_52  kQ (h2.1 h3))) (fun h4 => (dj_p_Ru_goOn (h2.2 h4) (fun _ _ h5 => (dj_if (fun h6 => (dj_q_Ru_walk_52  kQ (h5.1 h6))) (fun h7 => (dj_q_Ru_walk_52  kQ (h5.2 h7))))))))))))
theorem ex_p_Ru_walk {w : MW} {Q : MW → Prop} (h : p_Ru_walk w Q) : ∃ w1 : MW, Q w1 ∧ p_Ru_walk w (fun u => u = w1) := by
  obtain ⟨i, hi⟩ := dj_p_Ru_walk (I := {x : MW // Q x}) (Q3 := fun i u => u = i.1) h (fun u q => ⟨⟨u, q⟩, rfl⟩)
  exact ⟨i.1, i.2, hi⟩
theorem dj_q_Bh_tick_73 {I : Type} {x15_1 : Int32} {y73_2 : Int32} {w : MW} {A1 : Int32 → MW → Prop} {A3 : I → Int32 → MW → Prop} {E1 : MW → Prop} {E3 : I → MW → Prop} {Q1 : Int32 → MW → Prop} {Q3 : I → Int32 → MW → Prop}  (kA : ∀ x0 x1, A1 x0 x1 → ∃ i : I, A3 i x0 x1) (kE : ∀ x0, E1 x0 → ∃ i : I, E3 i x0) (kQ : ∀ x0 x1, Q1 x0 x1 → ∃ i : I, Q3 i x0 x1) (h : q_Bh_tick_73 x15_1 y73_2 w A1 E1 Q1) : ∃ i : I, q_Bh_tick_73 x15_1 y73_2 w (A3 i) (E3 i) (Q3 i) := by
  have h := Eq.mp (q_Bh_tick_73.eq_1 ..) h
  refine dj_eq (fun i => (q_Bh_tick_73.eq_1 ..)) ?_
  exact (dj_p_Wa_closeAll h (fun _ h1 => (dj_p_Wa_move h1 (fun _ h2 => (kA _ _ h2)))))
theorem dj_q_Bh_tick_15 {I : Type} {x15_1 : Int32} {E1 : MW → Prop} {E3 : I → MW → Prop} {Q1 : Int32 → MW → Prop} {Q3 : I → Int32 → MW → Prop}  (kE : ∀ x0, E1 x0 → ∃ i : I, E3 i x0) (kQ : ∀ x0 x1, Q1 x0 x1 → ∃ i : I, Q3 i x0 x1) : ∀ (m : Nat) (x15_2 : Int32) (w : MW), q_Bh_tick_15 x15_1 E1 Q1 m x15_2 w → ∃ i : I, q_Bh_tick_15 x15_1 (E3 i) (Q3 i) m x15_2 w := by
  intro m
  induction m with
  | zero => exact fun _ _ h => False.elim h
  | succ m ih =>
    intro x15_2 w h
    have h := Eq.mp (q_Bh_tick_15.eq_2 ..) h
    refine dj_eq (fun i => (q_Bh_tick_15.eq_2 ..)) ?_
    exact (dj_if (fun h1 => (kE _ (h.1 h1))) (fun h2 => (dj_p_Bh_senseAll (h.2 h2) (fun _ h3 => (dj_and h3.1 (dj_p_Ro_countSecond h3.2 (fun _ h4 => (dj_if (fun h5 => (dj_p_Wa_move (h4.1 h5) (fun _ h7 => (ih _ _ h7)))) (fun h6 => (dj_p_Ru_walk (h4.2 h6) (fun _ h8 => (dj_if (fun h9 => (dj_q_Bh_tick_73  (fun _ _ h11 => (ih _ _ h11)) kE kQ (h8.1 h9))) (fun h10 => (dj_if (fun h12 => (dj_p_Wa_move ((h8.2 h10).1 h12) (fun _ h14 => (ih _ _ h14)))) (fun h13 => (dj_q_Bh_tick_73  (fun _ _ h15 => (ih _ _ h15)) kE kQ ((h8.2 h10).2 h13)))))))))))))))))
theorem dj_p_Bh_tick {I : Type} {w : MW} {a0 : Int32} {Q1 : Int32 → MW → Prop} {Q3 : I → Int32 → MW → Prop}  (h : p_Bh_tick w a0 Q1) (kQ : ∀ x0 x1, Q1 x0 x1 → ∃ i : I, Q3 i x0 x1) : ∃ i : I, p_Bh_tick w a0 (Q3 i) := by
  have h := Eq.mp (p_Bh_tick.eq_1 ..) h
  refine dj_eq (fun i => (p_Bh_tick.eq_1 ..)) ?_
  exact (dj_if (fun h1 => (kQ _ _ (h.1 h1))) (fun h2 => (dj_if (fun h3 => (dj_q_Bh_tick_15  (fun _ h5 => (kQ _ _ h5)) kQ _ _ _ ((h.2 h2).1 h3))) (fun h4 => (kQ _ _ ((h.2 h2).2 h4))))))
theorem ex_p_Bh_tick {w : MW} {a0 : Int32} {Q : Int32 → MW → Prop} (h : p_Bh_tick w a0 Q) : ∃ (r1 : Int32) (w1 : MW), Q r1 w1 ∧ p_Bh_tick w a0 (fun r u => r = r1 ∧ u = w1) := by
  obtain ⟨i, hi⟩ := dj_p_Bh_tick (I := {x : Int32 × MW // Q x.1 x.2}) (Q3 := fun i r u => r = i.1.1 ∧ u = i.1.2) h (fun r u q => ⟨⟨(r, u), q⟩, rfl, rfl⟩)
  exact ⟨i.1.1, i.1.2, i.2, hi⟩
theorem dj_q_Ru_seek_114 {I : Type} {r_Ru_seek : MW → Int32 → Int32 → Int32 → (Int32 → MW → Prop) → Prop} {x114_2 : Int32} {x114_3 : Int32} {x114_4 : Int32} {x114_5 : Int32} {E1 : Int32 → MW → Prop} {E3 : I → Int32 → MW → Prop} {Q1 : Int32 → MW → Prop} {Q3 : I → Int32 → MW → Prop} (ir_Ru_seek : ∀ {z0 : MW} {z1 : Int32} {z2 : Int32} {z3 : Int32} {R1 : Int32 → MW → Prop} {R3 : I → Int32 → MW → Prop}, r_Ru_seek z0 z1 z2 z3 R1 → (∀ y0 y1, R1 y0 y1 → ∃ i : I, R3 i y0 y1) → ∃ i : I, r_Ru_seek z0 z1 z2 z3 (R3 i)) (kE : ∀ x0 x1, E1 x0 x1 → ∃ i : I, E3 i x0 x1) (kQ : ∀ x0 x1, Q1 x0 x1 → ∃ i : I, Q3 i x0 x1) : ∀ (m : Nat) (x114_6 : Int32) (x114_7 : Int32) (x114_8 : Int32) (w : MW), q_Ru_seek_114 r_Ru_seek x114_2 x114_3 x114_4 x114_5 E1 Q1 m x114_6 x114_7 x114_8 w → ∃ i : I, q_Ru_seek_114 r_Ru_seek x114_2 x114_3 x114_4 x114_5 (E3 i) (Q3 i) m x114_6 x114_7 x114_8 w := by
  intro m
  induction m with
  | zero => exact fun _ _ _ _ h => False.elim h
  | succ m ih =>
    intro x114_6 x114_7 x114_8 w h
    have h := Eq.mp (q_Ru_seek_114.eq_2 ..) h
    refine dj_eq (fun i => (q_Ru_seek_114.eq_2 ..)) ?_
    exact (dj_if (fun h1 => (kE _ _ (h.1 h1))) (fun h2 => (dj_if (fun h3 => (kE _ _ ((h.2 h2).1 h3))) (fun h4 => (dj_if (fun h5 => (kE _ _ (((h.2 h2).2 h4).1 h5))) (fun h6 => (ir_Ru_seek (((h.2 h2).2 h4).2 h6) (fun _ _ h7 => (dj_and h7.1 (ih _ _ _ _ h7.2))))))))))
theorem dj_q_Ru_seek_192 {I : Type} {r_Ru_seek : MW → Int32 → Int32 → Int32 → (Int32 → MW → Prop) → Prop} {y192_4 : Int32} {w : MW} {Q1 : Int32 → MW → Prop} {Q3 : I → Int32 → MW → Prop} (ir_Ru_seek : ∀ {z0 : MW} {z1 : Int32} {z2 : Int32} {z3 : Int32} {R1 : Int32 → MW → Prop} {R3 : I → Int32 → MW → Prop}, r_Ru_seek z0 z1 z2 z3 R1 → (∀ y0 y1, R1 y0 y1 → ∃ i : I, R3 i y0 y1) → ∃ i : I, r_Ru_seek z0 z1 z2 z3 (R3 i)) (kQ : ∀ x0 x1, Q1 x0 x1 → ∃ i : I, Q3 i x0 x1) (h : q_Ru_seek_192 r_Ru_seek y192_4 w Q1) : ∃ i : I, q_Ru_seek_192 r_Ru_seek y192_4 w (Q3 i) := by
  have h := Eq.mp (q_Ru_seek_192.eq_1 ..) h
  refine dj_eq (fun i => (q_Ru_seek_192.eq_1 ..)) ?_
  exact (dj_if (fun h1 => (kQ _ _ (h.1 h1))) (fun h2 => (kQ _ _ (h.2 h2))))
theorem dj_q_Ru_seek_106 {I : Type} {r_Ru_seek : MW → Int32 → Int32 → Int32 → (Int32 → MW → Prop) → Prop} {y106_2 : Int32} {y106_3 : Int32} {y106_4 : Int32} {y106_5 : Int32} {ys106_0 : Int32} {w : MW} {Q1 : Int32 → MW → Prop} {Q3 : I → Int32 → MW → Prop} (ir_Ru_seek : ∀ {z0 : MW} {z1 : Int32} {z2 : Int32} {z3 : Int32} {R1 : Int32 → MW → Prop} {R3 : I → Int32 → MW → Prop}, r_Ru_seek z0 z1 z2 z3 R1 → (∀ y0 y1, R1 y0 y1 → ∃ i : I, R3 i y0 y1) → ∃ i : I, r_Ru_seek z0 z1 z2 z3 (R3 i)) (kQ : ∀ x0 x1, Q1 x0 x1 → ∃ i : I, Q3 i x0 x1) (h : q_Ru_seek_106 r_Ru_seek y106_2 y106_3 y106_4 y106_5 ys106_0 w Q1) : ∃ i : I, q_Ru_seek_106 r_Ru_seek y106_2 y106_3 y106_4 y106_5 ys106_0 w (Q3 i) := by
  have h := Eq.mp (q_Ru_seek_106.eq_1 ..) h
  refine dj_eq (fun i => (q_Ru_seek_106.eq_1 ..)) ?_
  exact (dj_q_Ru_seek_114 @ir_Ru_seek (fun _ _ h1 => (dj_if (fun h2 => (kQ _ _ (h1.1 h2))) (fun h3 => (dj_if (fun h4 => (dj_q_Ru_seek_192 @ir_Ru_seek kQ ((h1.2 h3).1 h4))) (fun h5 => (dj_if (fun h6 => (kQ _ _ (((h1.2 h3).2 h5).1 h6))) (fun h7 => (dj_and (((h1.2 h3).2 h5).2 h7).1 (dj_if (fun h8 => (dj_q_Ru_seek_192 @ir_Ru_seek kQ ((((h1.2 h3).2 h5).2 h7).2.1 h8))) (fun h9 => (kQ _ _ ((((h1.2 h3).2 h5).2 h7).2.2 h9)))))))))))) kQ _ _ _ _ _ h)
theorem dj_q_Ru_seek_20 {I : Type} {r_Ru_seek : MW → Int32 → Int32 → Int32 → (Int32 → MW → Prop) → Prop} {y20_2 : Int32} {y20_3 : Int32} {ys20_0 : Int32} {w : MW} {Q1 : Int32 → MW → Prop} {Q3 : I → Int32 → MW → Prop} (ir_Ru_seek : ∀ {z0 : MW} {z1 : Int32} {z2 : Int32} {z3 : Int32} {R1 : Int32 → MW → Prop} {R3 : I → Int32 → MW → Prop}, r_Ru_seek z0 z1 z2 z3 R1 → (∀ y0 y1, R1 y0 y1 → ∃ i : I, R3 i y0 y1) → ∃ i : I, r_Ru_seek z0 z1 z2 z3 (R3 i)) (kQ : ∀ x0 x1, Q1 x0 x1 → ∃ i : I, Q3 i x0 x1) (h : q_Ru_seek_20 r_Ru_seek y20_2 y20_3 ys20_0 w Q1) : ∃ i : I, q_Ru_seek_20 r_Ru_seek y20_2 y20_3 ys20_0 w (Q3 i) := by
  have h := Eq.mp (q_Ru_seek_20.eq_1 ..) h
  refine dj_eq (fun i => (q_Ru_seek_20.eq_1 ..)) ?_
  exact (dj_if (fun h1 => (kQ _ _ (h.1 h1))) (fun h2 => (dj_and (h.2 h2).1 (dj_if (fun h3 => (kQ _ _ ((h.2 h2).2.1 h3))) (fun h4 => (dj_if (fun h5 => (dj_and (((h.2 h2).2.2 h4).1 h5).1 (dj_if (fun h7 => (dj_and ((((h.2 h2).2.2 h4).1 h5).2.1 h7).1 (dj_and ((((h.2 h2).2.2 h4).1 h5).2.1 h7).2.1 (dj_and ((((h.2 h2).2.2 h4).1 h5).2.1 h7).2.2.1 (dj_if (fun h9 => (dj_q_Ru_seek_106 @ir_Ru_seek kQ (((((h.2 h2).2.2 h4).1 h5).2.1 h7).2.2.2.1 h9))) (fun h10 => (dj_and (((((h.2 h2).2.2 h4).1 h5).2.1 h7).2.2.2.2 h10).1 (dj_q_Ru_seek_106 @ir_Ru_seek kQ (((((h.2 h2).2.2 h4).1 h5).2.1 h7).2.2.2.2 h10).2)))))))) (fun h8 => (dj_and ((((h.2 h2).2.2 h4).1 h5).2.2 h8).1 (ir_Ru_seek ((((h.2 h2).2.2 h4).1 h5).2.2 h8).2 (fun _ _ h11 => (kQ _ _ h11)))))))) (fun h6 => (kQ _ _ (((h.2 h2).2.2 h4).2 h6)))))))))
theorem dj_pb_Ru_seek {I : Type} {r_Ru_seek : MW → Int32 → Int32 → Int32 → (Int32 → MW → Prop) → Prop} {w : MW} {a0 : Int32} {b0 : Int32} {c0 : Int32} {Q1 : Int32 → MW → Prop} {Q3 : I → Int32 → MW → Prop} (ir_Ru_seek : ∀ {z0 : MW} {z1 : Int32} {z2 : Int32} {z3 : Int32} {R1 : Int32 → MW → Prop} {R3 : I → Int32 → MW → Prop}, r_Ru_seek z0 z1 z2 z3 R1 → (∀ y0 y1, R1 y0 y1 → ∃ i : I, R3 i y0 y1) → ∃ i : I, r_Ru_seek z0 z1 z2 z3 (R3 i)) (h : pb_Ru_seek r_Ru_seek w a0 b0 c0 Q1) (kQ : ∀ x0 x1, Q1 x0 x1 → ∃ i : I, Q3 i x0 x1) : ∃ i : I, pb_Ru_seek r_Ru_seek w a0 b0 c0 (Q3 i) := by
  have h := Eq.mp (pb_Ru_seek.eq_1 ..) h
  refine dj_eq (fun i => (pb_Ru_seek.eq_1 ..)) ?_
  exact (dj_and h.1 (dj_if (fun h1 => (dj_q_Ru_seek_20 @ir_Ru_seek kQ (h.2.1 h1))) (fun h2 => (dj_and (h.2.2 h2).1 (dj_q_Ru_seek_20 @ir_Ru_seek kQ (h.2.2 h2).2)))))
theorem djg_Ru_seek {I : Type} : ∀ n : Nat, (∀ (w : MW) (a0 : Int32) (b0 : Int32) (c0 : Int32) (R1 : Int32 → MW → Prop) (R3 : I → Int32 → MW → Prop), pn_Ru_seek n w a0 b0 c0 R1 → (∀ y0 y1, R1 y0 y1 → ∃ i : I, R3 i y0 y1) → ∃ i : I, pn_Ru_seek n w a0 b0 c0 (R3 i)) := by
  intro n
  induction n with
  | zero =>
    exact fun _ _ _ _ _ _ h _ => False.elim h
  | succ n ih =>
    have i_Ru_seek := ih
    exact fun v0 v1 v2 v3 _ _ h k => by
      have h := Eq.mp (pe_Ru_seek ..) h
      refine dj_eq (fun i => (pe_Ru_seek ..)) ?_
      exact dj_pb_Ru_seek (fun h k => i_Ru_seek _ _ _ _ _ _ h k) h k
theorem dj_pn_Ru_seek {I : Type} (n : Nat) {w : MW} {a0 : Int32} {b0 : Int32} {c0 : Int32} {Q1 : Int32 → MW → Prop} {Q3 : I → Int32 → MW → Prop} (h : pn_Ru_seek n w a0 b0 c0 Q1) (kQ : ∀ x0 x1, Q1 x0 x1 → ∃ i : I, Q3 i x0 x1) : ∃ i : I, pn_Ru_seek n w a0 b0 c0 (Q3 i) := (djg_Ru_seek n) _ _ _ _ _ _ h kQ
theorem ex_pn_Ru_seek (n : Nat) {w : MW} {a0 : Int32} {b0 : Int32} {c0 : Int32} {Q : Int32 → MW → Prop} (h : pn_Ru_seek n w a0 b0 c0 Q) : ∃ (r1 : Int32) (w1 : MW), Q r1 w1 ∧ pn_Ru_seek n w a0 b0 c0 (fun r u => r = r1 ∧ u = w1) := by
  obtain ⟨i, hi⟩ := dj_pn_Ru_seek (I := {x : Int32 × MW // Q x.1 x.2}) (Q3 := fun i r u => r = i.1.1 ∧ u = i.1.2) n h (fun r u q => ⟨⟨(r, u), q⟩, rfl, rfl⟩)
  exact ⟨i.1.1, i.1.2, i.2, hi⟩
theorem dj_p_Ru_seek {I : Type} {w : MW} {a0 : Int32} {b0 : Int32} {c0 : Int32} {Q1 : Int32 → MW → Prop} {Q3 : I → Int32 → MW → Prop} (h : p_Ru_seek w a0 b0 c0 Q1) (kQ : ∀ x0 x1, Q1 x0 x1 → ∃ i : I, Q3 i x0 x1) : ∃ i : I, p_Ru_seek w a0 b0 c0 (Q3 i) := dj_pn_Ru_seek _ h kQ
theorem ex_p_Ru_seek {w : MW} {a0 : Int32} {b0 : Int32} {c0 : Int32} {Q : Int32 → MW → Prop} (h : p_Ru_seek w a0 b0 c0 Q) : ∃ (r1 : Int32) (w1 : MW), Q r1 w1 ∧ p_Ru_seek w a0 b0 c0 (fun r u => r = r1 ∧ u = w1) := by
  obtain ⟨i, hi⟩ := dj_p_Ru_seek (I := {x : Int32 × MW // Q x.1 x.2}) (Q3 := fun i r u => r = i.1.1 ∧ u = i.1.2) h (fun r u q => ⟨⟨(r, u), q⟩, rfl, rfl⟩)
  exact ⟨i.1.1, i.1.2, i.2, hi⟩
theorem dj_q_Ru_giveAnswer_23 {I : Type} {y23_1 : Int64} {ys23_0 : Int32} {w : MW} {Q1 : Int32 → MW → Prop} {Q3 : I → Int32 → MW → Prop}  (kQ : ∀ x0 x1, Q1 x0 x1 → ∃ i : I, Q3 i x0 x1) (h : q_Ru_giveAnswer_23 y23_1 ys23_0 w Q1) : ∃ i : I, q_Ru_giveAnswer_23 y23_1 ys23_0 w (Q3 i) := by
  have h := Eq.mp (q_Ru_giveAnswer_23.eq_1 ..) h
  refine dj_eq (fun i => (q_Ru_giveAnswer_23.eq_1 ..)) ?_
  exact (dj_if (fun h1 => (dj_and (h.1 h1).1 (dj_and (h.1 h1).2.1 (dj_p_Ru_setValue (h.1 h1).2.2 (fun _ h3 => (kQ _ _ h3)))))) (fun h2 => (kQ _ _ (h.2 h2))))
theorem dj_p_Ru_giveAnswer {I : Type} {w : MW} {a0 : Int64} {Q1 : Int32 → MW → Prop} {Q3 : I → Int32 → MW → Prop}  (h : p_Ru_giveAnswer w a0 Q1) (kQ : ∀ x0 x1, Q1 x0 x1 → ∃ i : I, Q3 i x0 x1) : ∃ i : I, p_Ru_giveAnswer w a0 (Q3 i) := by
  have h := Eq.mp (p_Ru_giveAnswer.eq_1 ..) h
  refine dj_eq (fun i => (p_Ru_giveAnswer.eq_1 ..)) ?_
  exact (dj_if (fun h1 => (dj_q_Ru_giveAnswer_23  kQ (h.1 h1))) (fun h2 => (dj_p_Ru_seek (h.2 h2) (fun _ _ h3 => (dj_q_Ru_giveAnswer_23  kQ h3)))))
theorem ex_p_Ru_giveAnswer {w : MW} {a0 : Int64} {Q : Int32 → MW → Prop} (h : p_Ru_giveAnswer w a0 Q) : ∃ (r1 : Int32) (w1 : MW), Q r1 w1 ∧ p_Ru_giveAnswer w a0 (fun r u => r = r1 ∧ u = w1) := by
  obtain ⟨i, hi⟩ := dj_p_Ru_giveAnswer (I := {x : Int32 × MW // Q x.1 x.2}) (Q3 := fun i r u => r = i.1.1 ∧ u = i.1.2) h (fun r u q => ⟨⟨(r, u), q⟩, rfl, rfl⟩)
  exact ⟨i.1.1, i.1.2, i.2, hi⟩
theorem dj_p_Bh_answer {I : Type} {w : MW} {a0 : Int64} {Q1 : Int32 → MW → Prop} {Q3 : I → Int32 → MW → Prop}  (h : p_Bh_answer w a0 Q1) (kQ : ∀ x0 x1, Q1 x0 x1 → ∃ i : I, Q3 i x0 x1) : ∃ i : I, p_Bh_answer w a0 (Q3 i) := by
  have h := Eq.mp (p_Bh_answer.eq_1 ..) h
  refine dj_eq (fun i => (p_Bh_answer.eq_1 ..)) ?_
  exact (dj_p_Ru_giveAnswer h (fun _ _ h1 => (kQ _ _ h1)))
theorem ex_p_Bh_answer {w : MW} {a0 : Int64} {Q : Int32 → MW → Prop} (h : p_Bh_answer w a0 Q) : ∃ (r1 : Int32) (w1 : MW), Q r1 w1 ∧ p_Bh_answer w a0 (fun r u => r = r1 ∧ u = w1) := by
  obtain ⟨i, hi⟩ := dj_p_Bh_answer (I := {x : Int32 × MW // Q x.1 x.2}) (Q3 := fun i r u => r = i.1.1 ∧ u = i.1.2) h (fun r u q => ⟨⟨(r, u), q⟩, rfl, rfl⟩)
  exact ⟨i.1.1, i.1.2, i.2, hi⟩
theorem dj_q_Bh_hold_16 {I : Type} {y16_1 : Int32} {ys16_0 : Int32} {ys16_1 : Int32} {w : MW} {Q1 : Int32 → MW → Prop} {Q3 : I → Int32 → MW → Prop}  (kQ : ∀ x0 x1, Q1 x0 x1 → ∃ i : I, Q3 i x0 x1) (h : q_Bh_hold_16 y16_1 ys16_0 ys16_1 w Q1) : ∃ i : I, q_Bh_hold_16 y16_1 ys16_0 ys16_1 w (Q3 i) := by
  have h := Eq.mp (q_Bh_hold_16.eq_1 ..) h
  refine dj_eq (fun i => (q_Bh_hold_16.eq_1 ..)) ?_
  exact (dj_if (fun h1 => (dj_if (fun h3 => (kQ _ _ ((h.1 h1).1 h3))) (fun h4 => (dj_p_Wa_closeAll ((h.1 h1).2 h4) (fun _ h5 => (kQ _ _ h5)))))) (fun h2 => (kQ _ _ (h.2 h2))))
theorem dj_p_Bh_hold {I : Type} {w : MW} {a0 : Int32} {Q1 : Int32 → MW → Prop} {Q3 : I → Int32 → MW → Prop}  (h : p_Bh_hold w a0 Q1) (kQ : ∀ x0 x1, Q1 x0 x1 → ∃ i : I, Q3 i x0 x1) : ∃ i : I, p_Bh_hold w a0 (Q3 i) := by
  have h := Eq.mp (p_Bh_hold.eq_1 ..) h
  refine dj_eq (fun i => (p_Bh_hold.eq_1 ..)) ?_
  exact (dj_if (fun h1 => (dj_q_Bh_hold_16  kQ (h.1 h1))) (fun h2 => (dj_q_Bh_hold_16  kQ (h.2 h2))))
theorem ex_p_Bh_hold {w : MW} {a0 : Int32} {Q : Int32 → MW → Prop} (h : p_Bh_hold w a0 Q) : ∃ (r1 : Int32) (w1 : MW), Q r1 w1 ∧ p_Bh_hold w a0 (fun r u => r = r1 ∧ u = w1) := by
  obtain ⟨i, hi⟩ := dj_p_Bh_hold (I := {x : Int32 × MW // Q x.1 x.2}) (Q3 := fun i r u => r = i.1.1 ∧ u = i.1.2) h (fun r u q => ⟨⟨(r, u), q⟩, rfl, rfl⟩)
  exact ⟨i.1.1, i.1.2, i.2, hi⟩
theorem dj_p_Bh_stop {I : Type} {w : MW} {Q1 : Int32 → MW → Prop} {Q3 : I → Int32 → MW → Prop}  (h : p_Bh_stop w Q1) (kQ : ∀ x0 x1, Q1 x0 x1 → ∃ i : I, Q3 i x0 x1) : ∃ i : I, p_Bh_stop w (Q3 i) := by
  have h := Eq.mp (p_Bh_stop.eq_1 ..) h
  refine dj_eq (fun i => (p_Bh_stop.eq_1 ..)) ?_
  exact (dj_p_Ru_isAlive h (fun _ _ h1 => (dj_if (fun h2 => (dj_p_Wa_closeAll (h1.1 h2) (fun _ h4 => (kQ _ _ h4)))) (fun h3 => (kQ _ _ (h1.2 h3))))))
theorem ex_p_Bh_stop {w : MW} {Q : Int32 → MW → Prop} (h : p_Bh_stop w Q) : ∃ (r1 : Int32) (w1 : MW), Q r1 w1 ∧ p_Bh_stop w (fun r u => r = r1 ∧ u = w1) := by
  obtain ⟨i, hi⟩ := dj_p_Bh_stop (I := {x : Int32 × MW // Q x.1 x.2}) (Q3 := fun i r u => r = i.1.1 ∧ u = i.1.2) h (fun r u q => ⟨⟨(r, u), q⟩, rfl, rfl⟩)
  exact ⟨i.1.1, i.1.2, i.2, hi⟩
theorem dj_p_Ro_has {I : Type} {w : MW} {a0 : Int32} {Q1 : Int32 → MW → Prop} {Q3 : I → Int32 → MW → Prop}  (h : p_Ro_has w a0 Q1) (kQ : ∀ x0 x1, Q1 x0 x1 → ∃ i : I, Q3 i x0 x1) : ∃ i : I, p_Ro_has w a0 (Q3 i) := by
  have h := Eq.mp (p_Ro_has.eq_1 ..) h
  refine dj_eq (fun i => (p_Ro_has.eq_1 ..)) ?_
  exact (dj_if (fun h1 => (kQ _ _ (h.1 h1))) (fun h2 => (dj_if (fun h3 => (kQ _ _ ((h.2 h2).1 h3))) (fun h4 => (kQ _ _ ((h.2 h2).2 h4))))))
theorem ex_p_Ro_has {w : MW} {a0 : Int32} {Q : Int32 → MW → Prop} (h : p_Ro_has w a0 Q) : ∃ (r1 : Int32) (w1 : MW), Q r1 w1 ∧ p_Ro_has w a0 (fun r u => r = r1 ∧ u = w1) := by
  obtain ⟨i, hi⟩ := dj_p_Ro_has (I := {x : Int32 × MW // Q x.1 x.2}) (Q3 := fun i r u => r = i.1.1 ∧ u = i.1.2) h (fun r u q => ⟨⟨(r, u), q⟩, rfl, rfl⟩)
  exact ⟨i.1.1, i.1.2, i.2, hi⟩
theorem dj_p_Bh_reset {I : Type} {w : MW} {a0 : Int32} {Q1 : Int32 → MW → Prop} {Q3 : I → Int32 → MW → Prop}  (h : p_Bh_reset w a0 Q1) (kQ : ∀ x0 x1, Q1 x0 x1 → ∃ i : I, Q3 i x0 x1) : ∃ i : I, p_Bh_reset w a0 (Q3 i) := by
  have h := Eq.mp (p_Bh_reset.eq_1 ..) h
  refine dj_eq (fun i => (p_Bh_reset.eq_1 ..)) ?_
  exact (dj_and h.1 (dj_p_Ro_has h.2 (fun _ _ h1 => (dj_if (fun h2 => (kQ _ _ (h1.1 h2))) (fun h3 => (dj_and (h1.2 h3).1 (dj_if (fun h4 => (kQ _ _ ((h1.2 h3).2.1 h4))) (fun h5 => (dj_p_Ro_isOn ((h1.2 h3).2.2 h5) (fun _ _ h6 => (dj_if (fun h7 => (dj_and (h6.1 h7).1 (kQ _ _ (h6.1 h7).2))) (fun h8 => (kQ _ _ (h6.2 h8))))))))))))))
theorem ex_p_Bh_reset {w : MW} {a0 : Int32} {Q : Int32 → MW → Prop} (h : p_Bh_reset w a0 Q) : ∃ (r1 : Int32) (w1 : MW), Q r1 w1 ∧ p_Bh_reset w a0 (fun r u => r = r1 ∧ u = w1) := by
  obtain ⟨i, hi⟩ := dj_p_Bh_reset (I := {x : Int32 × MW // Q x.1 x.2}) (Q3 := fun i r u => r = i.1.1 ∧ u = i.1.2) h (fun r u q => ⟨⟨(r, u), q⟩, rfl, rfl⟩)
  exact ⟨i.1.1, i.1.2, i.2, hi⟩
theorem dj_p_Bh_bars {I : Type} {w : MW} {a0 : Int32} {Q1 : Int32 → MW → Prop} {Q3 : I → Int32 → MW → Prop}  (h : p_Bh_bars w a0 Q1) (kQ : ∀ x0 x1, Q1 x0 x1 → ∃ i : I, Q3 i x0 x1) : ∃ i : I, p_Bh_bars w a0 (Q3 i) := by
  have h := Eq.mp (p_Bh_bars.eq_1 ..) h
  refine dj_eq (fun i => (p_Bh_bars.eq_1 ..)) ?_
  exact (dj_p_Ac_isAct h (fun _ _ h1 => (dj_if (fun h2 => (kQ _ _ (h1.1 h2))) (fun h3 => (dj_and (h1.2 h3).1 (dj_p_Ro_barring (h1.2 h3).2 (fun _ _ h4 => (kQ _ _ h4))))))))
theorem ex_p_Bh_bars {w : MW} {a0 : Int32} {Q : Int32 → MW → Prop} (h : p_Bh_bars w a0 Q) : ∃ (r1 : Int32) (w1 : MW), Q r1 w1 ∧ p_Bh_bars w a0 (fun r u => r = r1 ∧ u = w1) := by
  obtain ⟨i, hi⟩ := dj_p_Bh_bars (I := {x : Int32 × MW // Q x.1 x.2}) (Q3 := fun i r u => r = i.1.1 ∧ u = i.1.2) h (fun r u q => ⟨⟨(r, u), q⟩, rfl, rfl⟩)
  exact ⟨i.1.1, i.1.2, i.2, hi⟩
theorem dj_p_Bh_row {I : Type} {w : MW} {a0 : Int32} {b0 : Int32} {Q1 : Int32 → MW → Prop} {Q3 : I → Int32 → MW → Prop}  (h : p_Bh_row w a0 b0 Q1) (kQ : ∀ x0 x1, Q1 x0 x1 → ∃ i : I, Q3 i x0 x1) : ∃ i : I, p_Bh_row w a0 b0 (Q3 i) := by
  have h := Eq.mp (p_Bh_row.eq_1 ..) h
  refine dj_eq (fun i => (p_Bh_row.eq_1 ..)) ?_
  exact (dj_and h.1 (dj_p_Ro_has h.2 (fun _ _ h1 => (dj_if (fun h2 => (dj_if (fun h4 => (dj_and ((h1.1 h2).1 h4).1 (kQ _ _ ((h1.1 h2).1 h4).2))) (fun h5 => (dj_if (fun h6 => (dj_and (((h1.1 h2).2 h5).1 h6).1 (dj_if (fun h8 => (kQ _ _ ((((h1.1 h2).2 h5).1 h6).2.1 h8))) (fun h9 => (kQ _ _ ((((h1.1 h2).2 h5).1 h6).2.2 h9)))))) (fun h7 => (dj_if (fun h10 => (dj_and ((((h1.1 h2).2 h5).2 h7).1 h10).1 (kQ _ _ ((((h1.1 h2).2 h5).2 h7).1 h10).2))) (fun h11 => (dj_if (fun h12 => (dj_p_Ro_isOn (((((h1.1 h2).2 h5).2 h7).2 h11).1 h12) (fun _ _ h14 => (dj_if (fun h15 => (kQ _ _ (h14.1 h15))) (fun h16 => (kQ _ _ (h14.2 h16))))))) (fun h13 => (kQ _ _ (((((h1.1 h2).2 h5).2 h7).2 h11).2 h13))))))))))) (fun h3 => (kQ _ _ (h1.2 h3)))))))
theorem ex_p_Bh_row {w : MW} {a0 : Int32} {b0 : Int32} {Q : Int32 → MW → Prop} (h : p_Bh_row w a0 b0 Q) : ∃ (r1 : Int32) (w1 : MW), Q r1 w1 ∧ p_Bh_row w a0 b0 (fun r u => r = r1 ∧ u = w1) := by
  obtain ⟨i, hi⟩ := dj_p_Bh_row (I := {x : Int32 × MW // Q x.1 x.2}) (Q3 := fun i r u => r = i.1.1 ∧ u = i.1.2) h (fun r u q => ⟨⟨(r, u), q⟩, rfl, rfl⟩)
  exact ⟨i.1.1, i.1.2, i.2, hi⟩
theorem dj_p_Bh_state {I : Type} {w : MW} {Q1 : Int32 → MW → Prop} {Q3 : I → Int32 → MW → Prop}  (h : p_Bh_state w Q1) (kQ : ∀ x0 x1, Q1 x0 x1 → ∃ i : I, Q3 i x0 x1) : ∃ i : I, p_Bh_state w (Q3 i) := by
  have h := Eq.mp (p_Bh_state.eq_1 ..) h
  refine dj_eq (fun i => (p_Bh_state.eq_1 ..)) ?_
  exact (kQ _ _ h)
theorem ex_p_Bh_state {w : MW} {Q : Int32 → MW → Prop} (h : p_Bh_state w Q) : ∃ (r1 : Int32) (w1 : MW), Q r1 w1 ∧ p_Bh_state w (fun r u => r = r1 ∧ u = w1) := by
  obtain ⟨i, hi⟩ := dj_p_Bh_state (I := {x : Int32 × MW // Q x.1 x.2}) (Q3 := fun i r u => r = i.1.1 ∧ u = i.1.2) h (fun r u q => ⟨⟨(r, u), q⟩, rfl, rfl⟩)
  exact ⟨i.1.1, i.1.2, i.2, hi⟩
theorem dj_p_Pr_hasValue {I : Type} {w : MW} {a0 : Int32} {Q1 : Int32 → MW → Prop} {Q3 : I → Int32 → MW → Prop}  (h : p_Pr_hasValue w a0 Q1) (kQ : ∀ x0 x1, Q1 x0 x1 → ∃ i : I, Q3 i x0 x1) : ∃ i : I, p_Pr_hasValue w a0 (Q3 i) := by
  have h := Eq.mp (p_Pr_hasValue.eq_1 ..) h
  refine dj_eq (fun i => (p_Pr_hasValue.eq_1 ..)) ?_
  exact (dj_if (fun h1 => (kQ _ _ (h.1 h1))) (fun h2 => (dj_if (fun h3 => (kQ _ _ ((h.2 h2).1 h3))) (fun h4 => (dj_and ((h.2 h2).2 h4).1 (dj_if (fun h5 => (kQ _ _ (((h.2 h2).2 h4).2.1 h5))) (fun h6 => (kQ _ _ (((h.2 h2).2 h4).2.2 h6)))))))))
theorem ex_p_Pr_hasValue {w : MW} {a0 : Int32} {Q : Int32 → MW → Prop} (h : p_Pr_hasValue w a0 Q) : ∃ (r1 : Int32) (w1 : MW), Q r1 w1 ∧ p_Pr_hasValue w a0 (fun r u => r = r1 ∧ u = w1) := by
  obtain ⟨i, hi⟩ := dj_p_Pr_hasValue (I := {x : Int32 × MW // Q x.1 x.2}) (Q3 := fun i r u => r = i.1.1 ∧ u = i.1.2) h (fun r u q => ⟨⟨(r, u), q⟩, rfl, rfl⟩)
  exact ⟨i.1.1, i.1.2, i.2, hi⟩
theorem dj_p_Bh_value {I : Type} {w : MW} {a0 : Int32} {Q1 : Int64 → MW → Prop} {Q3 : I → Int64 → MW → Prop}  (h : p_Bh_value w a0 Q1) (kQ : ∀ x0 x1, Q1 x0 x1 → ∃ i : I, Q3 i x0 x1) : ∃ i : I, p_Bh_value w a0 (Q3 i) := by
  have h := Eq.mp (p_Bh_value.eq_1 ..) h
  refine dj_eq (fun i => (p_Bh_value.eq_1 ..)) ?_
  exact (dj_and h.1 (dj_p_Pr_hasValue h.2 (fun _ _ h1 => (dj_if (fun h2 => (kQ _ _ (h1.1 h2))) (fun h3 => (dj_and (h1.2 h3).1 (dj_and (h1.2 h3).2.1 (kQ _ _ (h1.2 h3).2.2))))))))
theorem ex_p_Bh_value {w : MW} {a0 : Int32} {Q : Int64 → MW → Prop} (h : p_Bh_value w a0 Q) : ∃ (r1 : Int64) (w1 : MW), Q r1 w1 ∧ p_Bh_value w a0 (fun r u => r = r1 ∧ u = w1) := by
  obtain ⟨i, hi⟩ := dj_p_Bh_value (I := {x : Int64 × MW // Q x.1 x.2}) (Q3 := fun i r u => r = i.1.1 ∧ u = i.1.2) h (fun r u q => ⟨⟨(r, u), q⟩, rfl, rfl⟩)
  exact ⟨i.1.1, i.1.2, i.2, hi⟩
theorem dj_p_Ru_standingNode {I : Type} {w : MW} {a0 : Int32} {Q1 : Int32 → MW → Prop} {Q3 : I → Int32 → MW → Prop}  (h : p_Ru_standingNode w a0 Q1) (kQ : ∀ x0 x1, Q1 x0 x1 → ∃ i : I, Q3 i x0 x1) : ∃ i : I, p_Ru_standingNode w a0 (Q3 i) := by
  have h := Eq.mp (p_Ru_standingNode.eq_1 ..) h
  refine dj_eq (fun i => (p_Ru_standingNode.eq_1 ..)) ?_
  exact (dj_p_Ru_isAlive h (fun _ _ h1 => (dj_if (fun h2 => (kQ _ _ (h1.1 h2))) (fun h3 => (dj_if (fun h4 => (kQ _ _ ((h1.2 h3).1 h4))) (fun h5 => (dj_p_Ru_seek ((h1.2 h3).2 h5) (fun _ _ h6 => (dj_if (fun h7 => (dj_and (h6.1 h7).1 (kQ _ _ (h6.1 h7).2))) (fun h8 => (kQ _ _ (h6.2 h8))))))))))))
theorem ex_p_Ru_standingNode {w : MW} {a0 : Int32} {Q : Int32 → MW → Prop} (h : p_Ru_standingNode w a0 Q) : ∃ (r1 : Int32) (w1 : MW), Q r1 w1 ∧ p_Ru_standingNode w a0 (fun r u => r = r1 ∧ u = w1) := by
  obtain ⟨i, hi⟩ := dj_p_Ru_standingNode (I := {x : Int32 × MW // Q x.1 x.2}) (Q3 := fun i r u => r = i.1.1 ∧ u = i.1.2) h (fun r u q => ⟨⟨(r, u), q⟩, rfl, rfl⟩)
  exact ⟨i.1.1, i.1.2, i.2, hi⟩
theorem dj_p_Bh_still {I : Type} {w : MW} {a0 : Int32} {Q1 : Int32 → MW → Prop} {Q3 : I → Int32 → MW → Prop}  (h : p_Bh_still w a0 Q1) (kQ : ∀ x0 x1, Q1 x0 x1 → ∃ i : I, Q3 i x0 x1) : ∃ i : I, p_Bh_still w a0 (Q3 i) := by
  have h := Eq.mp (p_Bh_still.eq_1 ..) h
  refine dj_eq (fun i => (p_Bh_still.eq_1 ..)) ?_
  exact (dj_p_Ru_standingNode h (fun _ _ h1 => (kQ _ _ h1)))
theorem ex_p_Bh_still {w : MW} {a0 : Int32} {Q : Int32 → MW → Prop} (h : p_Bh_still w a0 Q) : ∃ (r1 : Int32) (w1 : MW), Q r1 w1 ∧ p_Bh_still w a0 (fun r u => r = r1 ∧ u = w1) := by
  obtain ⟨i, hi⟩ := dj_p_Bh_still (I := {x : Int32 × MW // Q x.1 x.2}) (Q3 := fun i r u => r = i.1.1 ∧ u = i.1.2) h (fun r u q => ⟨⟨(r, u), q⟩, rfl, rfl⟩)
  exact ⟨i.1.1, i.1.2, i.2, hi⟩
theorem dj_p_Al_get {I : Type} {w : MW} {a0 : Int32} {b0 : Int32} {Q1 : Int32 → MW → Prop} {Q3 : I → Int32 → MW → Prop}  (h : p_Al_get w a0 b0 Q1) (kQ : ∀ x0 x1, Q1 x0 x1 → ∃ i : I, Q3 i x0 x1) : ∃ i : I, p_Al_get w a0 b0 (Q3 i) := by
  have h := Eq.mp (p_Al_get.eq_1 ..) h
  refine dj_eq (fun i => (p_Al_get.eq_1 ..)) ?_
  exact (dj_if (fun h1 => (kQ _ _ (h.1 h1))) (fun h2 => (dj_if (fun h3 => (kQ _ _ ((h.2 h2).1 h3))) (fun h4 => (dj_if (fun h5 => (kQ _ _ (((h.2 h2).2 h4).1 h5))) (fun h6 => (dj_if (fun h7 => (dj_if (fun h9 => (dj_if (fun h11 => (dj_and ((((((h.2 h2).2 h4).2 h6).1 h7).1 h9).1 h11).1 (kQ _ _ ((((((h.2 h2).2 h4).2 h6).1 h7).1 h9).1 h11).2))) (fun h12 => (dj_and ((((((h.2 h2).2 h4).2 h6).1 h7).1 h9).2 h12).1 (kQ _ _ ((((((h.2 h2).2 h4).2 h6).1 h7).1 h9).2 h12).2))))) (fun h10 => (dj_and (((((h.2 h2).2 h4).2 h6).1 h7).2 h10).1 (kQ _ _ (((((h.2 h2).2 h4).2 h6).1 h7).2 h10).2))))) (fun h8 => (kQ _ _ ((((h.2 h2).2 h4).2 h6).2 h8))))))))))
theorem ex_p_Al_get {w : MW} {a0 : Int32} {b0 : Int32} {Q : Int32 → MW → Prop} (h : p_Al_get w a0 b0 Q) : ∃ (r1 : Int32) (w1 : MW), Q r1 w1 ∧ p_Al_get w a0 b0 (fun r u => r = r1 ∧ u = w1) := by
  obtain ⟨i, hi⟩ := dj_p_Al_get (I := {x : Int32 × MW // Q x.1 x.2}) (Q3 := fun i r u => r = i.1.1 ∧ u = i.1.2) h (fun r u q => ⟨⟨(r, u), q⟩, rfl, rfl⟩)
  exact ⟨i.1.1, i.1.2, i.2, hi⟩
theorem dj_p_Bh_alarm {I : Type} {w : MW} {a0 : Int32} {b0 : Int32} {Q1 : Int32 → MW → Prop} {Q3 : I → Int32 → MW → Prop}  (h : p_Bh_alarm w a0 b0 Q1) (kQ : ∀ x0 x1, Q1 x0 x1 → ∃ i : I, Q3 i x0 x1) : ∃ i : I, p_Bh_alarm w a0 b0 (Q3 i) := by
  have h := Eq.mp (p_Bh_alarm.eq_1 ..) h
  refine dj_eq (fun i => (p_Bh_alarm.eq_1 ..)) ?_
  exact (dj_p_Al_get h (fun _ _ h1 => (kQ _ _ h1)))
theorem ex_p_Bh_alarm {w : MW} {a0 : Int32} {b0 : Int32} {Q : Int32 → MW → Prop} (h : p_Bh_alarm w a0 b0 Q) : ∃ (r1 : Int32) (w1 : MW), Q r1 w1 ∧ p_Bh_alarm w a0 b0 (fun r u => r = r1 ∧ u = w1) := by
  obtain ⟨i, hi⟩ := dj_p_Bh_alarm (I := {x : Int32 × MW // Q x.1 x.2}) (Q3 := fun i r u => r = i.1.1 ∧ u = i.1.2) h (fun r u q => ⟨⟨(r, u), q⟩, rfl, rfl⟩)
  exact ⟨i.1.1, i.1.2, i.2, hi⟩
theorem dj_q_Wa_get_79 {I : Type} {x79_2 : Int32} {E1 : Int32 → MW → Prop} {E3 : I → Int32 → MW → Prop} {Q1 : Int32 → MW → Prop} {Q3 : I → Int32 → MW → Prop}  (kE : ∀ x0 x1, E1 x0 x1 → ∃ i : I, E3 i x0 x1) (kQ : ∀ x0 x1, Q1 x0 x1 → ∃ i : I, Q3 i x0 x1) : ∀ (m : Nat) (x79_3 : Int32) (x79_4 : Int32) (w : MW), q_Wa_get_79 x79_2 E1 Q1 m x79_3 x79_4 w → ∃ i : I, q_Wa_get_79 x79_2 (E3 i) (Q3 i) m x79_3 x79_4 w := by
  intro m
  induction m with
  | zero => exact fun _ _ _ h => False.elim h
  | succ m ih =>
    intro x79_3 x79_4 w h
    have h := Eq.mp (q_Wa_get_79.eq_2 ..) h
    refine dj_eq (fun i => (q_Wa_get_79.eq_2 ..)) ?_
    exact (dj_if (fun h1 => (kE _ _ (h.1 h1))) (fun h2 => (dj_if (fun h3 => (kE _ _ ((h.2 h2).1 h3))) (fun h4 => (dj_and ((h.2 h2).2 h4).1 (ih _ _ _ ((h.2 h2).2 h4).2))))))
theorem dj_p_Wa_get {I : Type} {w : MW} {a0 : Int32} {b0 : Int32} {Q1 : Int32 → MW → Prop} {Q3 : I → Int32 → MW → Prop}  (h : p_Wa_get w a0 b0 Q1) (kQ : ∀ x0 x1, Q1 x0 x1 → ∃ i : I, Q3 i x0 x1) : ∃ i : I, p_Wa_get w a0 b0 (Q3 i) := by
  have h := Eq.mp (p_Wa_get.eq_1 ..) h
  refine dj_eq (fun i => (p_Wa_get.eq_1 ..)) ?_
  exact (dj_if (fun h1 => (kQ _ _ (h.1 h1))) (fun h2 => (dj_if (fun h3 => (kQ _ _ ((h.2 h2).1 h3))) (fun h4 => (dj_if (fun h5 => (kQ _ _ (((h.2 h2).2 h4).1 h5))) (fun h6 => (dj_and (((h.2 h2).2 h4).2 h6).1 (dj_if (fun h7 => (dj_if (fun h9 => (dj_and (((((h.2 h2).2 h4).2 h6).2.1 h7).1 h9).1 (dj_q_Wa_get_79  (fun _ _ h11 => (kQ _ _ h11)) kQ _ _ _ _ (((((h.2 h2).2 h4).2 h6).2.1 h7).1 h9).2))) (fun h10 => (dj_if (fun h12 => (dj_if (fun h14 => (dj_and (((((((h.2 h2).2 h4).2 h6).2.1 h7).2 h10).1 h12).1 h14).1 (kQ _ _ (((((((h.2 h2).2 h4).2 h6).2.1 h7).2 h10).1 h12).1 h14).2))) (fun h15 => (dj_and (((((((h.2 h2).2 h4).2 h6).2.1 h7).2 h10).1 h12).2 h15).1 (kQ _ _ (((((((h.2 h2).2 h4).2 h6).2.1 h7).2 h10).1 h12).2 h15).2))))) (fun h13 => (dj_and ((((((h.2 h2).2 h4).2 h6).2.1 h7).2 h10).2 h13).1 (kQ _ _ ((((((h.2 h2).2 h4).2 h6).2.1 h7).2 h10).2 h13).2))))))) (fun h8 => (kQ _ _ ((((h.2 h2).2 h4).2 h6).2.2 h8)))))))))))
theorem ex_p_Wa_get {w : MW} {a0 : Int32} {b0 : Int32} {Q : Int32 → MW → Prop} (h : p_Wa_get w a0 b0 Q) : ∃ (r1 : Int32) (w1 : MW), Q r1 w1 ∧ p_Wa_get w a0 b0 (fun r u => r = r1 ∧ u = w1) := by
  obtain ⟨i, hi⟩ := dj_p_Wa_get (I := {x : Int32 × MW // Q x.1 x.2}) (Q3 := fun i r u => r = i.1.1 ∧ u = i.1.2) h (fun r u q => ⟨⟨(r, u), q⟩, rfl, rfl⟩)
  exact ⟨i.1.1, i.1.2, i.2, hi⟩
theorem dj_p_Bh_way {I : Type} {w : MW} {a0 : Int32} {b0 : Int32} {Q1 : Int32 → MW → Prop} {Q3 : I → Int32 → MW → Prop}  (h : p_Bh_way w a0 b0 Q1) (kQ : ∀ x0 x1, Q1 x0 x1 → ∃ i : I, Q3 i x0 x1) : ∃ i : I, p_Bh_way w a0 b0 (Q3 i) := by
  have h := Eq.mp (p_Bh_way.eq_1 ..) h
  refine dj_eq (fun i => (p_Bh_way.eq_1 ..)) ?_
  exact (dj_p_Wa_get h (fun _ _ h1 => (kQ _ _ h1)))
theorem ex_p_Bh_way {w : MW} {a0 : Int32} {b0 : Int32} {Q : Int32 → MW → Prop} (h : p_Bh_way w a0 b0 Q) : ∃ (r1 : Int32) (w1 : MW), Q r1 w1 ∧ p_Bh_way w a0 b0 (fun r u => r = r1 ∧ u = w1) := by
  obtain ⟨i, hi⟩ := dj_p_Bh_way (I := {x : Int32 × MW // Q x.1 x.2}) (Q3 := fun i r u => r = i.1.1 ∧ u = i.1.2) h (fun r u q => ⟨⟨(r, u), q⟩, rfl, rfl⟩)
  exact ⟨i.1.1, i.1.2, i.2, hi⟩
theorem dj_p_St_levelOf {I : Type} {w : MW} {a0 : Int32} {Q1 : Int32 → MW → Prop} {Q3 : I → Int32 → MW → Prop}  (h : p_St_levelOf w a0 Q1) (kQ : ∀ x0 x1, Q1 x0 x1 → ∃ i : I, Q3 i x0 x1) : ∃ i : I, p_St_levelOf w a0 (Q3 i) := by
  have h := Eq.mp (p_St_levelOf.eq_1 ..) h
  refine dj_eq (fun i => (p_St_levelOf.eq_1 ..)) ?_
  exact (dj_and h.1 (dj_if (fun h1 => (kQ _ _ (h.2.1 h1))) (fun h2 => (dj_and (h.2.2 h2).1 (dj_if (fun h3 => (dj_p_St_heldLevel ((h.2.2 h2).2.1 h3) (fun _ _ h5 => (kQ _ _ h5)))) (fun h4 => (kQ _ _ ((h.2.2 h2).2.2 h4))))))))
theorem ex_p_St_levelOf {w : MW} {a0 : Int32} {Q : Int32 → MW → Prop} (h : p_St_levelOf w a0 Q) : ∃ (r1 : Int32) (w1 : MW), Q r1 w1 ∧ p_St_levelOf w a0 (fun r u => r = r1 ∧ u = w1) := by
  obtain ⟨i, hi⟩ := dj_p_St_levelOf (I := {x : Int32 × MW // Q x.1 x.2}) (Q3 := fun i r u => r = i.1.1 ∧ u = i.1.2) h (fun r u q => ⟨⟨(r, u), q⟩, rfl, rfl⟩)
  exact ⟨i.1.1, i.1.2, i.2, hi⟩
theorem dj_p_Bh_space {I : Type} {w : MW} {a0 : Int32} {b0 : Int32} {Q1 : Int32 → MW → Prop} {Q3 : I → Int32 → MW → Prop}  (h : p_Bh_space w a0 b0 Q1) (kQ : ∀ x0 x1, Q1 x0 x1 → ∃ i : I, Q3 i x0 x1) : ∃ i : I, p_Bh_space w a0 b0 (Q3 i) := by
  have h := Eq.mp (p_Bh_space.eq_1 ..) h
  refine dj_eq (fun i => (p_Bh_space.eq_1 ..)) ?_
  exact (dj_if (fun h1 => (dj_p_St_isHolder (h.1 h1) (fun _ _ h3 => (dj_if (fun h4 => (dj_if (fun h6 => (dj_and ((h3.1 h4).1 h6).1 (kQ _ _ ((h3.1 h4).1 h6).2))) (fun h7 => (dj_if (fun h8 => (dj_and (((h3.1 h4).2 h7).1 h8).1 (kQ _ _ (((h3.1 h4).2 h7).1 h8).2))) (fun h9 => (dj_if (fun h10 => (dj_and ((((h3.1 h4).2 h7).2 h9).1 h10).1 (dj_if (fun h12 => (dj_and (((((h3.1 h4).2 h7).2 h9).1 h10).2.1 h12).1 (kQ _ _ (((((h3.1 h4).2 h7).2 h9).1 h10).2.1 h12).2))) (fun h13 => (dj_and (((((h3.1 h4).2 h7).2 h9).1 h10).2.2 h13).1 (kQ _ _ (((((h3.1 h4).2 h7).2 h9).1 h10).2.2 h13).2)))))) (fun h11 => (dj_if (fun h14 => (dj_p_St_levelOf (((((h3.1 h4).2 h7).2 h9).2 h11).1 h14) (fun _ _ h16 => (kQ _ _ h16)))) (fun h15 => (kQ _ _ (((((h3.1 h4).2 h7).2 h9).2 h11).2 h15))))))))))) (fun h5 => (kQ _ _ (h3.2 h5))))))) (fun h2 => (dj_p_St_isValve (h.2 h2) (fun _ _ h17 => (dj_if (fun h18 => (kQ _ _ (h17.1 h18))) (fun h19 => (dj_and (h17.2 h19).1 (kQ _ _ (h17.2 h19).2))))))))
theorem ex_p_Bh_space {w : MW} {a0 : Int32} {b0 : Int32} {Q : Int32 → MW → Prop} (h : p_Bh_space w a0 b0 Q) : ∃ (r1 : Int32) (w1 : MW), Q r1 w1 ∧ p_Bh_space w a0 b0 (fun r u => r = r1 ∧ u = w1) := by
  obtain ⟨i, hi⟩ := dj_p_Bh_space (I := {x : Int32 × MW // Q x.1 x.2}) (Q3 := fun i r u => r = i.1.1 ∧ u = i.1.2) h (fun r u q => ⟨⟨(r, u), q⟩, rfl, rfl⟩)
  exact ⟨i.1.1, i.1.2, i.2, hi⟩
theorem dj_p_Bh_danger {I : Type} {w : MW} {a0 : Int32} {Q1 : Int32 → MW → Prop} {Q3 : I → Int32 → MW → Prop}  (h : p_Bh_danger w a0 Q1) (kQ : ∀ x0 x1, Q1 x0 x1 → ∃ i : I, Q3 i x0 x1) : ∃ i : I, p_Bh_danger w a0 (Q3 i) := by
  have h := Eq.mp (p_Bh_danger.eq_1 ..) h
  refine dj_eq (fun i => (p_Bh_danger.eq_1 ..)) ?_
  exact (dj_p_Sf_isSafe h (fun _ _ h1 => (dj_if (fun h2 => (dj_if (fun h4 => (dj_if (fun h6 => (kQ _ _ (((h1.1 h2).1 h4).1 h6))) (fun h7 => (dj_if (fun h8 => (kQ _ _ ((((h1.1 h2).1 h4).2 h7).1 h8))) (fun h9 => (dj_if (fun h10 => (kQ _ _ (((((h1.1 h2).1 h4).2 h7).2 h9).1 h10))) (fun h11 => (kQ _ _ (((((h1.1 h2).1 h4).2 h7).2 h9).2 h11))))))))) (fun h5 => (kQ _ _ ((h1.1 h2).2 h5))))) (fun h3 => (kQ _ _ (h1.2 h3))))))
theorem ex_p_Bh_danger {w : MW} {a0 : Int32} {Q : Int32 → MW → Prop} (h : p_Bh_danger w a0 Q) : ∃ (r1 : Int32) (w1 : MW), Q r1 w1 ∧ p_Bh_danger w a0 (fun r u => r = r1 ∧ u = w1) := by
  obtain ⟨i, hi⟩ := dj_p_Bh_danger (I := {x : Int32 × MW // Q x.1 x.2}) (Q3 := fun i r u => r = i.1.1 ∧ u = i.1.2) h (fun r u q => ⟨⟨(r, u), q⟩, rfl, rfl⟩)
  exact ⟨i.1.1, i.1.2, i.2, hi⟩
theorem dj_p_Bh_sense {I : Type} {w : MW} {a0 : Int32} {b0 : Int32} {c0 : Int32} {Q1 : Int32 → MW → Prop} {Q3 : I → Int32 → MW → Prop}  (h : p_Bh_sense w a0 b0 c0 Q1) (kQ : ∀ x0 x1, Q1 x0 x1 → ∃ i : I, Q3 i x0 x1) : ∃ i : I, p_Bh_sense w a0 b0 c0 (Q3 i) := by
  have h := Eq.mp (p_Bh_sense.eq_1 ..) h
  refine dj_eq (fun i => (p_Bh_sense.eq_1 ..)) ?_
  exact (dj_and h.1 (dj_p_Pr_isSignal h.2 (fun _ _ h1 => (dj_if (fun h2 => (kQ _ _ (h1.1 h2))) (fun h3 => (dj_if (fun h4 => (kQ _ _ ((h1.2 h3).1 h4))) (fun h5 => (dj_if (fun h6 => (dj_and (((h1.2 h3).2 h5).1 h6).1 (dj_and (((h1.2 h3).2 h5).1 h6).2.1 (dj_and (((h1.2 h3).2 h5).1 h6).2.2.1 (dj_and (((h1.2 h3).2 h5).1 h6).2.2.2.1 (kQ _ _ (((h1.2 h3).2 h5).1 h6).2.2.2.2)))))) (fun h7 => (kQ _ _ (((h1.2 h3).2 h5).2 h7)))))))))))
theorem ex_p_Bh_sense {w : MW} {a0 : Int32} {b0 : Int32} {c0 : Int32} {Q : Int32 → MW → Prop} (h : p_Bh_sense w a0 b0 c0 Q) : ∃ (r1 : Int32) (w1 : MW), Q r1 w1 ∧ p_Bh_sense w a0 b0 c0 (fun r u => r = r1 ∧ u = w1) := by
  obtain ⟨i, hi⟩ := dj_p_Bh_sense (I := {x : Int32 × MW // Q x.1 x.2}) (Q3 := fun i r u => r = i.1.1 ∧ u = i.1.2) h (fun r u q => ⟨⟨(r, u), q⟩, rfl, rfl⟩)
  exact ⟨i.1.1, i.1.2, i.2, hi⟩
theorem dj_p_Bh_signal {I : Type} {w : MW} {a0 : Int32} {b0 : Int64} {Q1 : Int32 → MW → Prop} {Q3 : I → Int32 → MW → Prop}  (h : p_Bh_signal w a0 b0 Q1) (kQ : ∀ x0 x1, Q1 x0 x1 → ∃ i : I, Q3 i x0 x1) : ∃ i : I, p_Bh_signal w a0 b0 (Q3 i) := by
  have h := Eq.mp (p_Bh_signal.eq_1 ..) h
  refine dj_eq (fun i => (p_Bh_signal.eq_1 ..)) ?_
  exact (dj_and h.1 (dj_p_Pr_isSignal h.2 (fun _ _ h1 => (dj_if (fun h2 => (dj_and (h1.1 h2).1 (dj_and (h1.1 h2).2.1 (kQ _ _ (h1.1 h2).2.2)))) (fun h3 => (kQ _ _ (h1.2 h3)))))))
theorem ex_p_Bh_signal {w : MW} {a0 : Int32} {b0 : Int64} {Q : Int32 → MW → Prop} (h : p_Bh_signal w a0 b0 Q) : ∃ (r1 : Int32) (w1 : MW), Q r1 w1 ∧ p_Bh_signal w a0 b0 (fun r u => r = r1 ∧ u = w1) := by
  obtain ⟨i, hi⟩ := dj_p_Bh_signal (I := {x : Int32 × MW // Q x.1 x.2}) (Q3 := fun i r u => r = i.1.1 ∧ u = i.1.2) h (fun r u q => ⟨⟨(r, u), q⟩, rfl, rfl⟩)
  exact ⟨i.1.1, i.1.2, i.2, hi⟩
theorem dj_p_Bh_watch {I : Type} {w : MW} {a0 : Int32} {b0 : Int32} {c0 : Int32} {e0 : Int64} {Q1 : Int32 → MW → Prop} {Q3 : I → Int32 → MW → Prop}  (h : p_Bh_watch w a0 b0 c0 e0 Q1) (kQ : ∀ x0 x1, Q1 x0 x1 → ∃ i : I, Q3 i x0 x1) : ∃ i : I, p_Bh_watch w a0 b0 c0 e0 (Q3 i) := by
  have h := Eq.mp (p_Bh_watch.eq_1 ..) h
  refine dj_eq (fun i => (p_Bh_watch.eq_1 ..)) ?_
  exact (dj_if (fun h1 => (kQ _ _ (h.1 h1))) (fun h2 => (dj_if (fun h3 => (kQ _ _ ((h.2 h2).1 h3))) (fun h4 => (dj_if (fun h5 => (kQ _ _ (((h.2 h2).2 h4).1 h5))) (fun h6 => (dj_if (fun h7 => (dj_and ((((h.2 h2).2 h4).2 h6).1 h7).1 (dj_and ((((h.2 h2).2 h4).2 h6).1 h7).2.1 (dj_and ((((h.2 h2).2 h4).2 h6).1 h7).2.2.1 (kQ _ _ ((((h.2 h2).2 h4).2 h6).1 h7).2.2.2))))) (fun h8 => (kQ _ _ ((((h.2 h2).2 h4).2 h6).2 h8))))))))))
theorem ex_p_Bh_watch {w : MW} {a0 : Int32} {b0 : Int32} {c0 : Int32} {e0 : Int64} {Q : Int32 → MW → Prop} (h : p_Bh_watch w a0 b0 c0 e0 Q) : ∃ (r1 : Int32) (w1 : MW), Q r1 w1 ∧ p_Bh_watch w a0 b0 c0 e0 (fun r u => r = r1 ∧ u = w1) := by
  obtain ⟨i, hi⟩ := dj_p_Bh_watch (I := {x : Int32 × MW // Q x.1 x.2}) (Q3 := fun i r u => r = i.1.1 ∧ u = i.1.2) h (fun r u q => ⟨⟨(r, u), q⟩, rfl, rfl⟩)
  exact ⟨i.1.1, i.1.2, i.2, hi⟩
theorem dj_q_Ac_tie_71 {I : Type} {y71_1 : Int32} {y71_2 : Int32} {y71_3 : Int32} {y71_4 : Int32} {y71_5 : Int32} {w : MW} {Q1 : Int32 → MW → Prop} {Q3 : I → Int32 → MW → Prop}  (kQ : ∀ x0 x1, Q1 x0 x1 → ∃ i : I, Q3 i x0 x1) (h : q_Ac_tie_71 y71_1 y71_2 y71_3 y71_4 y71_5 w Q1) : ∃ i : I, q_Ac_tie_71 y71_1 y71_2 y71_3 y71_4 y71_5 w (Q3 i) := by
  have h := Eq.mp (q_Ac_tie_71.eq_1 ..) h
  refine dj_eq (fun i => (q_Ac_tie_71.eq_1 ..)) ?_
  exact (dj_and h.1 (dj_and h.2.1 (dj_and h.2.2.1 (dj_and h.2.2.2.1 (kQ _ _ h.2.2.2.2)))))
theorem dj_q_Ac_tie_52 {I : Type} {y52_1 : Int32} {y52_2 : Int32} {y52_3 : Int32} {y52_4 : Int32} {y52_5 : Int32} {w : MW} {Q1 : Int32 → MW → Prop} {Q3 : I → Int32 → MW → Prop}  (kQ : ∀ x0 x1, Q1 x0 x1 → ∃ i : I, Q3 i x0 x1) (h : q_Ac_tie_52 y52_1 y52_2 y52_3 y52_4 y52_5 w Q1) : ∃ i : I, q_Ac_tie_52 y52_1 y52_2 y52_3 y52_4 y52_5 w (Q3 i) := by
  have h := Eq.mp (q_Ac_tie_52.eq_1 ..) h
  refine dj_eq (fun i => (q_Ac_tie_52.eq_1 ..)) ?_
  exact (dj_if (fun h1 => (dj_q_Ac_tie_71  kQ (h.1 h1))) (fun h2 => (dj_if (fun h3 => (kQ _ _ ((h.2 h2).1 h3))) (fun h4 => (dj_if (fun h5 => (dj_q_Ac_tie_71  kQ (((h.2 h2).2 h4).1 h5))) (fun h6 => (kQ _ _ (((h.2 h2).2 h4).2 h6))))))))
theorem dj_q_Ac_tie_35 {I : Type} {y35_1 : Int32} {y35_2 : Int32} {y35_3 : Int32} {y35_4 : Int32} {y35_5 : Int32} {w : MW} {Q1 : Int32 → MW → Prop} {Q3 : I → Int32 → MW → Prop}  (kQ : ∀ x0 x1, Q1 x0 x1 → ∃ i : I, Q3 i x0 x1) (h : q_Ac_tie_35 y35_1 y35_2 y35_3 y35_4 y35_5 w Q1) : ∃ i : I, q_Ac_tie_35 y35_1 y35_2 y35_3 y35_4 y35_5 w (Q3 i) := by
  have h := Eq.mp (q_Ac_tie_35.eq_1 ..) h
  refine dj_eq (fun i => (q_Ac_tie_35.eq_1 ..)) ?_
  exact (dj_if (fun h1 => (dj_q_Ac_tie_52  kQ (h.1 h1))) (fun h2 => (dj_if (fun h3 => (kQ _ _ ((h.2 h2).1 h3))) (fun h4 => (dj_if (fun h5 => (kQ _ _ (((h.2 h2).2 h4).1 h5))) (fun h6 => (dj_q_Ac_tie_52  kQ (((h.2 h2).2 h4).2 h6))))))))
theorem dj_p_Ac_tie {I : Type} {w : MW} {a0 : Int32} {b0 : Int32} {c0 : Int32} {e0 : Int32} {f0 : Int32} {Q1 : Int32 → MW → Prop} {Q3 : I → Int32 → MW → Prop}  (h : p_Ac_tie w a0 b0 c0 e0 f0 Q1) (kQ : ∀ x0 x1, Q1 x0 x1 → ∃ i : I, Q3 i x0 x1) : ∃ i : I, p_Ac_tie w a0 b0 c0 e0 f0 (Q3 i) := by
  have h := Eq.mp (p_Ac_tie.eq_1 ..) h
  refine dj_eq (fun i => (p_Ac_tie.eq_1 ..)) ?_
  exact (dj_p_Ac_isAct h (fun _ _ h1 => (dj_if (fun h2 => (kQ _ _ (h1.1 h2))) (fun h3 => (dj_if (fun h4 => (kQ _ _ ((h1.2 h3).1 h4))) (fun h5 => (dj_if (fun h6 => (dj_if (fun h8 => (dj_q_Ac_tie_35  kQ ((((h1.2 h3).2 h5).1 h6).1 h8))) (fun h9 => (dj_if (fun h10 => (kQ _ _ (((((h1.2 h3).2 h5).1 h6).2 h9).1 h10))) (fun h11 => (dj_if (fun h12 => (kQ _ _ ((((((h1.2 h3).2 h5).1 h6).2 h9).2 h11).1 h12))) (fun h13 => (dj_q_Ac_tie_35  kQ ((((((h1.2 h3).2 h5).1 h6).2 h9).2 h11).2 h13))))))))) (fun h7 => (kQ _ _ (((h1.2 h3).2 h5).2 h7))))))))))
theorem ex_p_Ac_tie {w : MW} {a0 : Int32} {b0 : Int32} {c0 : Int32} {e0 : Int32} {f0 : Int32} {Q : Int32 → MW → Prop} (h : p_Ac_tie w a0 b0 c0 e0 f0 Q) : ∃ (r1 : Int32) (w1 : MW), Q r1 w1 ∧ p_Ac_tie w a0 b0 c0 e0 f0 (fun r u => r = r1 ∧ u = w1) := by
  obtain ⟨i, hi⟩ := dj_p_Ac_tie (I := {x : Int32 × MW // Q x.1 x.2}) (Q3 := fun i r u => r = i.1.1 ∧ u = i.1.2) h (fun r u q => ⟨⟨(r, u), q⟩, rfl, rfl⟩)
  exact ⟨i.1.1, i.1.2, i.2, hi⟩
theorem dj_p_Bh_bind {I : Type} {w : MW} {a0 : Int32} {b0 : Int32} {c0 : Int32} {e0 : Int32} {f0 : Int32} {Q1 : Int32 → MW → Prop} {Q3 : I → Int32 → MW → Prop}  (h : p_Bh_bind w a0 b0 c0 e0 f0 Q1) (kQ : ∀ x0 x1, Q1 x0 x1 → ∃ i : I, Q3 i x0 x1) : ∃ i : I, p_Bh_bind w a0 b0 c0 e0 f0 (Q3 i) := by
  have h := Eq.mp (p_Bh_bind.eq_1 ..) h
  refine dj_eq (fun i => (p_Bh_bind.eq_1 ..)) ?_
  exact (dj_p_Ac_tie h (fun _ _ h1 => (kQ _ _ h1)))
theorem ex_p_Bh_bind {w : MW} {a0 : Int32} {b0 : Int32} {c0 : Int32} {e0 : Int32} {f0 : Int32} {Q : Int32 → MW → Prop} (h : p_Bh_bind w a0 b0 c0 e0 f0 Q) : ∃ (r1 : Int32) (w1 : MW), Q r1 w1 ∧ p_Bh_bind w a0 b0 c0 e0 f0 (fun r u => r = r1 ∧ u = w1) := by
  obtain ⟨i, hi⟩ := dj_p_Bh_bind (I := {x : Int32 × MW // Q x.1 x.2}) (Q3 := fun i r u => r = i.1.1 ∧ u = i.1.2) h (fun r u q => ⟨⟨(r, u), q⟩, rfl, rfl⟩)
  exact ⟨i.1.1, i.1.2, i.2, hi⟩
theorem dj_p_St_mayMeet {I : Type} {w : MW} {a0 : Int32} {b0 : Int32} {Q1 : Int32 → MW → Prop} {Q3 : I → Int32 → MW → Prop}  (h : p_St_mayMeet w a0 b0 Q1) (kQ : ∀ x0 x1, Q1 x0 x1 → ∃ i : I, Q3 i x0 x1) : ∃ i : I, p_St_mayMeet w a0 b0 (Q3 i) := by
  have h := Eq.mp (p_St_mayMeet.eq_1 ..) h
  refine dj_eq (fun i => (p_St_mayMeet.eq_1 ..)) ?_
  exact (dj_and h.1 (dj_if (fun h1 => (kQ _ _ (h.2.1 h1))) (fun h2 => (kQ _ _ (h.2.2 h2)))))
theorem ex_p_St_mayMeet {w : MW} {a0 : Int32} {b0 : Int32} {Q : Int32 → MW → Prop} (h : p_St_mayMeet w a0 b0 Q) : ∃ (r1 : Int32) (w1 : MW), Q r1 w1 ∧ p_St_mayMeet w a0 b0 (fun r u => r = r1 ∧ u = w1) := by
  obtain ⟨i, hi⟩ := dj_p_St_mayMeet (I := {x : Int32 × MW // Q x.1 x.2}) (Q3 := fun i r u => r = i.1.1 ∧ u = i.1.2) h (fun r u q => ⟨⟨(r, u), q⟩, rfl, rfl⟩)
  exact ⟨i.1.1, i.1.2, i.2, hi⟩
theorem dj_p_Bh_may {I : Type} {w : MW} {a0 : Int32} {b0 : Int32} {Q1 : Int32 → MW → Prop} {Q3 : I → Int32 → MW → Prop}  (h : p_Bh_may w a0 b0 Q1) (kQ : ∀ x0 x1, Q1 x0 x1 → ∃ i : I, Q3 i x0 x1) : ∃ i : I, p_Bh_may w a0 b0 (Q3 i) := by
  have h := Eq.mp (p_Bh_may.eq_1 ..) h
  refine dj_eq (fun i => (p_Bh_may.eq_1 ..)) ?_
  exact (dj_p_Bh_isLiquid h (fun _ _ h1 => (dj_if (fun h2 => (kQ _ _ (h1.1 h2))) (fun h3 => (dj_p_Bh_isLiquid (h1.2 h3) (fun _ _ h4 => (dj_if (fun h5 => (kQ _ _ (h4.1 h5))) (fun h6 => (dj_if (fun h7 => (kQ _ _ ((h4.2 h6).1 h7))) (fun h8 => (dj_p_St_mayMeet ((h4.2 h6).2 h8) (fun _ _ h9 => (dj_if (fun h10 => (dj_and (h9.1 h10).1 (dj_and (h9.1 h10).2.1 (dj_and (h9.1 h10).2.2.1 (dj_and (h9.1 h10).2.2.2.1 (kQ _ _ (h9.1 h10).2.2.2.2)))))) (fun h11 => (kQ _ _ (h9.2 h11))))))))))))))))
theorem ex_p_Bh_may {w : MW} {a0 : Int32} {b0 : Int32} {Q : Int32 → MW → Prop} (h : p_Bh_may w a0 b0 Q) : ∃ (r1 : Int32) (w1 : MW), Q r1 w1 ∧ p_Bh_may w a0 b0 (fun r u => r = r1 ∧ u = w1) := by
  obtain ⟨i, hi⟩ := dj_p_Bh_may (I := {x : Int32 × MW // Q x.1 x.2}) (Q3 := fun i r u => r = i.1.1 ∧ u = i.1.2) h (fun r u q => ⟨⟨(r, u), q⟩, rfl, rfl⟩)
  exact ⟨i.1.1, i.1.2, i.2, hi⟩
theorem dj_p_Bh_need {I : Type} {w : MW} {a0 : Int32} {b0 : Int32} {c0 : Int32} {Q1 : Int32 → MW → Prop} {Q3 : I → Int32 → MW → Prop}  (h : p_Bh_need w a0 b0 c0 Q1) (kQ : ∀ x0 x1, Q1 x0 x1 → ∃ i : I, Q3 i x0 x1) : ∃ i : I, p_Bh_need w a0 b0 c0 (Q3 i) := by
  have h := Eq.mp (p_Bh_need.eq_1 ..) h
  refine dj_eq (fun i => (p_Bh_need.eq_1 ..)) ?_
  exact (dj_p_Bh_isLiquid h (fun _ _ h1 => (dj_if (fun h2 => (kQ _ _ (h1.1 h2))) (fun h3 => (dj_p_Bh_isLiquid (h1.2 h3) (fun _ _ h4 => (dj_if (fun h5 => (kQ _ _ (h4.1 h5))) (fun h6 => (dj_if (fun h7 => (kQ _ _ ((h4.2 h6).1 h7))) (fun h8 => (dj_if (fun h9 => (dj_and (((h4.2 h6).2 h8).1 h9).1 (kQ _ _ (((h4.2 h6).2 h8).1 h9).2))) (fun h10 => (kQ _ _ (((h4.2 h6).2 h8).2 h10))))))))))))))
theorem ex_p_Bh_need {w : MW} {a0 : Int32} {b0 : Int32} {c0 : Int32} {Q : Int32 → MW → Prop} (h : p_Bh_need w a0 b0 c0 Q) : ∃ (r1 : Int32) (w1 : MW), Q r1 w1 ∧ p_Bh_need w a0 b0 c0 (fun r u => r = r1 ∧ u = w1) := by
  obtain ⟨i, hi⟩ := dj_p_Bh_need (I := {x : Int32 × MW // Q x.1 x.2}) (Q3 := fun i r u => r = i.1.1 ∧ u = i.1.2) h (fun r u q => ⟨⟨(r, u), q⟩, rfl, rfl⟩)
  exact ⟨i.1.1, i.1.2, i.2, hi⟩
theorem dj_p_Bh_lasts {I : Type} {w : MW} {a0 : Int32} {b0 : Int32} {Q1 : Int32 → MW → Prop} {Q3 : I → Int32 → MW → Prop}  (h : p_Bh_lasts w a0 b0 Q1) (kQ : ∀ x0 x1, Q1 x0 x1 → ∃ i : I, Q3 i x0 x1) : ∃ i : I, p_Bh_lasts w a0 b0 (Q3 i) := by
  have h := Eq.mp (p_Bh_lasts.eq_1 ..) h
  refine dj_eq (fun i => (p_Bh_lasts.eq_1 ..)) ?_
  exact (dj_if (fun h1 => (kQ _ _ (h.1 h1))) (fun h2 => (dj_if (fun h3 => (kQ _ _ ((h.2 h2).1 h3))) (fun h4 => (dj_if (fun h5 => (kQ _ _ (((h.2 h2).2 h4).1 h5))) (fun h6 => (dj_if (fun h7 => (dj_and ((((h.2 h2).2 h4).2 h6).1 h7).1 (kQ _ _ ((((h.2 h2).2 h4).2 h6).1 h7).2))) (fun h8 => (kQ _ _ ((((h.2 h2).2 h4).2 h6).2 h8))))))))))
theorem ex_p_Bh_lasts {w : MW} {a0 : Int32} {b0 : Int32} {Q : Int32 → MW → Prop} (h : p_Bh_lasts w a0 b0 Q) : ∃ (r1 : Int32) (w1 : MW), Q r1 w1 ∧ p_Bh_lasts w a0 b0 (fun r u => r = r1 ∧ u = w1) := by
  obtain ⟨i, hi⟩ := dj_p_Bh_lasts (I := {x : Int32 × MW // Q x.1 x.2}) (Q3 := fun i r u => r = i.1.1 ∧ u = i.1.2) h (fun r u q => ⟨⟨(r, u), q⟩, rfl, rfl⟩)
  exact ⟨i.1.1, i.1.2, i.2, hi⟩
theorem dj_p_Bh_isPerson {I : Type} {w : MW} {a0 : Int32} {Q1 : Int32 → MW → Prop} {Q3 : I → Int32 → MW → Prop}  (h : p_Bh_isPerson w a0 Q1) (kQ : ∀ x0 x1, Q1 x0 x1 → ∃ i : I, Q3 i x0 x1) : ∃ i : I, p_Bh_isPerson w a0 (Q3 i) := by
  have h := Eq.mp (p_Bh_isPerson.eq_1 ..) h
  refine dj_eq (fun i => (p_Bh_isPerson.eq_1 ..)) ?_
  exact (dj_if (fun h1 => (kQ _ _ (h.1 h1))) (fun h2 => (dj_if (fun h3 => (kQ _ _ ((h.2 h2).1 h3))) (fun h4 => (kQ _ _ ((h.2 h2).2 h4))))))
theorem ex_p_Bh_isPerson {w : MW} {a0 : Int32} {Q : Int32 → MW → Prop} (h : p_Bh_isPerson w a0 Q) : ∃ (r1 : Int32) (w1 : MW), Q r1 w1 ∧ p_Bh_isPerson w a0 (fun r u => r = r1 ∧ u = w1) := by
  obtain ⟨i, hi⟩ := dj_p_Bh_isPerson (I := {x : Int32 × MW // Q x.1 x.2}) (Q3 := fun i r u => r = i.1.1 ∧ u = i.1.2) h (fun r u q => ⟨⟨(r, u), q⟩, rfl, rfl⟩)
  exact ⟨i.1.1, i.1.2, i.2, hi⟩
theorem dj_p_Bh_pass {I : Type} {w : MW} {a0 : Int32} {b0 : Int32} {c0 : Int32} {e0 : Int32} {Q1 : Int32 → MW → Prop} {Q3 : I → Int32 → MW → Prop}  (h : p_Bh_pass w a0 b0 c0 e0 Q1) (kQ : ∀ x0 x1, Q1 x0 x1 → ∃ i : I, Q3 i x0 x1) : ∃ i : I, p_Bh_pass w a0 b0 c0 e0 (Q3 i) := by
  have h := Eq.mp (p_Bh_pass.eq_1 ..) h
  refine dj_eq (fun i => (p_Bh_pass.eq_1 ..)) ?_
  exact (dj_and h.1 (dj_p_Ro_has h.2 (fun _ _ h1 => (dj_if (fun h2 => (dj_p_Bh_isPerson (h1.1 h2) (fun _ _ h4 => (dj_if (fun h5 => (kQ _ _ (h4.1 h5))) (fun h6 => (dj_p_Bh_isPerson (h4.2 h6) (fun _ _ h7 => (dj_if (fun h8 => (kQ _ _ (h7.1 h8))) (fun h9 => (dj_if (fun h10 => (dj_if (fun h12 => (kQ _ _ (((h7.2 h9).1 h10).1 h12))) (fun h13 => (dj_if (fun h14 => (dj_and ((((h7.2 h9).1 h10).2 h13).1 h14).1 (dj_and ((((h7.2 h9).1 h10).2 h13).1 h14).2.1 (dj_if (fun h16 => (dj_and (((((h7.2 h9).1 h10).2 h13).1 h14).2.2.1 h16).1 (dj_and (((((h7.2 h9).1 h10).2 h13).1 h14).2.2.1 h16).2.1 (kQ _ _ (((((h7.2 h9).1 h10).2 h13).1 h14).2.2.1 h16).2.2)))) (fun h17 => (kQ _ _ (((((h7.2 h9).1 h10).2 h13).1 h14).2.2.2 h17))))))) (fun h15 => (kQ _ _ ((((h7.2 h9).1 h10).2 h13).2 h15))))))) (fun h11 => (kQ _ _ ((h7.2 h9).2 h11))))))))))))) (fun h3 => (kQ _ _ (h1.2 h3)))))))
theorem ex_p_Bh_pass {w : MW} {a0 : Int32} {b0 : Int32} {c0 : Int32} {e0 : Int32} {Q : Int32 → MW → Prop} (h : p_Bh_pass w a0 b0 c0 e0 Q) : ∃ (r1 : Int32) (w1 : MW), Q r1 w1 ∧ p_Bh_pass w a0 b0 c0 e0 (fun r u => r = r1 ∧ u = w1) := by
  obtain ⟨i, hi⟩ := dj_p_Bh_pass (I := {x : Int32 × MW // Q x.1 x.2}) (Q3 := fun i r u => r = i.1.1 ∧ u = i.1.2) h (fun r u q => ⟨⟨(r, u), q⟩, rfl, rfl⟩)
  exact ⟨i.1.1, i.1.2, i.2, hi⟩
theorem dj_p_Mo_fill {I : Type} {w : MW} {a0 : Int32} {b0 : Int32} {c0 : Int64} {Q1 : Int32 → MW → Prop} {Q3 : I → Int32 → MW → Prop}  (h : p_Mo_fill w a0 b0 c0 Q1) (kQ : ∀ x0 x1, Q1 x0 x1 → ∃ i : I, Q3 i x0 x1) : ∃ i : I, p_Mo_fill w a0 b0 c0 (Q3 i) := by
  have h := Eq.mp (p_Mo_fill.eq_1 ..) h
  refine dj_eq (fun i => (p_Mo_fill.eq_1 ..)) ?_
  exact (dj_p_Mo_isTank h (fun _ _ h1 => (dj_if (fun h2 => (kQ _ _ (h1.1 h2))) (fun h3 => (dj_if (fun h4 => (kQ _ _ ((h1.2 h3).1 h4))) (fun h5 => (dj_if (fun h6 => (kQ _ _ (((h1.2 h3).2 h5).1 h6))) (fun h7 => (dj_if (fun h8 => (kQ _ _ ((((h1.2 h3).2 h5).2 h7).1 h8))) (fun h9 => (dj_if (fun h10 => (kQ _ _ (((((h1.2 h3).2 h5).2 h7).2 h9).1 h10))) (fun h11 => (dj_and (((((h1.2 h3).2 h5).2 h7).2 h9).2 h11).1 (dj_and (((((h1.2 h3).2 h5).2 h7).2 h9).2 h11).2.1 (dj_if (fun h12 => (kQ _ _ ((((((h1.2 h3).2 h5).2 h7).2 h9).2 h11).2.2.1 h12))) (fun h13 => (dj_p_Mo_mayCome ((((((h1.2 h3).2 h5).2 h7).2 h9).2 h11).2.2.2 h13) (fun _ _ h14 => (dj_if (fun h15 => (dj_p_Mo_look (h14.1 h15) (fun _ h17 => (dj_and h17.1 (dj_p_Mo_isSafe h17.2 (fun _ _ h18 => (dj_if (fun h19 => (dj_and (h18.1 h19).1 (dj_and (h18.1 h19).2.1 (dj_and (h18.1 h19).2.2.1 (dj_p_Mo_note (h18.1 h19).2.2.2 (fun _ h21 => (kQ _ _ h21))))))) (fun h20 => (kQ _ _ (h18.2 h20)))))))))) (fun h16 => (kQ _ _ (h14.2 h16))))))))))))))))))))))
theorem ex_p_Mo_fill {w : MW} {a0 : Int32} {b0 : Int32} {c0 : Int64} {Q : Int32 → MW → Prop} (h : p_Mo_fill w a0 b0 c0 Q) : ∃ (r1 : Int32) (w1 : MW), Q r1 w1 ∧ p_Mo_fill w a0 b0 c0 (fun r u => r = r1 ∧ u = w1) := by
  obtain ⟨i, hi⟩ := dj_p_Mo_fill (I := {x : Int32 × MW // Q x.1 x.2}) (Q3 := fun i r u => r = i.1.1 ∧ u = i.1.2) h (fun r u q => ⟨⟨(r, u), q⟩, rfl, rfl⟩)
  exact ⟨i.1.1, i.1.2, i.2, hi⟩
theorem dj_p_Mo_way {I : Type} {w : MW} {a0 : Int32} {b0 : Int32} {Q1 : Int32 → MW → Prop} {Q3 : I → Int32 → MW → Prop}  (h : p_Mo_way w a0 b0 Q1) (kQ : ∀ x0 x1, Q1 x0 x1 → ∃ i : I, Q3 i x0 x1) : ∃ i : I, p_Mo_way w a0 b0 (Q3 i) := by
  have h := Eq.mp (p_Mo_way.eq_1 ..) h
  refine dj_eq (fun i => (p_Mo_way.eq_1 ..)) ?_
  exact (dj_if (fun h1 => (kQ _ _ (h.1 h1))) (fun h2 => (dj_if (fun h3 => (kQ _ _ ((h.2 h2).1 h3))) (fun h4 => (dj_if (fun h5 => (kQ _ _ (((h.2 h2).2 h4).1 h5))) (fun h6 => (dj_and (((h.2 h2).2 h4).2 h6).1 (dj_if (fun h7 => (dj_if (fun h9 => (dj_if (fun h11 => (dj_if (fun h13 => (dj_and (((((((h.2 h2).2 h4).2 h6).2.1 h7).1 h9).1 h11).1 h13).1 (kQ _ _ (((((((h.2 h2).2 h4).2 h6).2.1 h7).1 h9).1 h11).1 h13).2))) (fun h14 => (dj_and (((((((h.2 h2).2 h4).2 h6).2.1 h7).1 h9).1 h11).2 h14).1 (kQ _ _ (((((((h.2 h2).2 h4).2 h6).2.1 h7).1 h9).1 h11).2 h14).2))))) (fun h12 => (dj_and ((((((h.2 h2).2 h4).2 h6).2.1 h7).1 h9).2 h12).1 (kQ _ _ ((((((h.2 h2).2 h4).2 h6).2.1 h7).1 h9).2 h12).2))))) (fun h10 => (dj_and (((((h.2 h2).2 h4).2 h6).2.1 h7).2 h10).1 (kQ _ _ (((((h.2 h2).2 h4).2 h6).2.1 h7).2 h10).2))))) (fun h8 => (kQ _ _ ((((h.2 h2).2 h4).2 h6).2.2 h8)))))))))))
theorem ex_p_Mo_way {w : MW} {a0 : Int32} {b0 : Int32} {Q : Int32 → MW → Prop} (h : p_Mo_way w a0 b0 Q) : ∃ (r1 : Int32) (w1 : MW), Q r1 w1 ∧ p_Mo_way w a0 b0 (fun r u => r = r1 ∧ u = w1) := by
  obtain ⟨i, hi⟩ := dj_p_Mo_way (I := {x : Int32 × MW // Q x.1 x.2}) (Q3 := fun i r u => r = i.1.1 ∧ u = i.1.2) h (fun r u q => ⟨⟨(r, u), q⟩, rfl, rfl⟩)
  exact ⟨i.1.1, i.1.2, i.2, hi⟩
theorem dj_q_Mo_litresIn_19 {I : Type} {x19_1 : Int32} {E1 : Int32 → MW → Prop} {E3 : I → Int32 → MW → Prop} {Q1 : Int32 → MW → Prop} {Q3 : I → Int32 → MW → Prop}  (kE : ∀ x0 x1, E1 x0 x1 → ∃ i : I, E3 i x0 x1) (kQ : ∀ x0 x1, Q1 x0 x1 → ∃ i : I, Q3 i x0 x1) : ∀ (m : Nat) (x19_2 : Int32) (x19_3 : Int32) (w : MW), q_Mo_litresIn_19 x19_1 E1 Q1 m x19_2 x19_3 w → ∃ i : I, q_Mo_litresIn_19 x19_1 (E3 i) (Q3 i) m x19_2 x19_3 w := by
  intro m
  induction m with
  | zero => exact fun _ _ _ h => False.elim h
  | succ m ih =>
    intro x19_2 x19_3 w h
    have h := Eq.mp (q_Mo_litresIn_19.eq_2 ..) h
    refine dj_eq (fun i => (q_Mo_litresIn_19.eq_2 ..)) ?_
    exact (dj_and h.1 (dj_if (fun h1 => (kE _ _ (h.2.1 h1))) (fun h2 => (dj_and (h.2.2 h2).1 (dj_if (fun h3 => (ih _ _ _ ((h.2.2 h2).2.1 h3))) (fun h4 => (ih _ _ _ ((h.2.2 h2).2.2 h4))))))))
theorem dj_p_Mo_litresIn {I : Type} {w : MW} {a0 : Int32} {Q1 : Int32 → MW → Prop} {Q3 : I → Int32 → MW → Prop}  (h : p_Mo_litresIn w a0 Q1) (kQ : ∀ x0 x1, Q1 x0 x1 → ∃ i : I, Q3 i x0 x1) : ∃ i : I, p_Mo_litresIn w a0 (Q3 i) := by
  have h := Eq.mp (p_Mo_litresIn.eq_1 ..) h
  refine dj_eq (fun i => (p_Mo_litresIn.eq_1 ..)) ?_
  exact (dj_if (fun h1 => (dj_q_Mo_litresIn_19  (fun _ _ h3 => (kQ _ _ h3)) kQ _ _ _ _ (h.1 h1))) (fun h2 => (dj_and (h.2 h2).1 (kQ _ _ (h.2 h2).2))))
theorem ex_p_Mo_litresIn {w : MW} {a0 : Int32} {Q : Int32 → MW → Prop} (h : p_Mo_litresIn w a0 Q) : ∃ (r1 : Int32) (w1 : MW), Q r1 w1 ∧ p_Mo_litresIn w a0 (fun r u => r = r1 ∧ u = w1) := by
  obtain ⟨i, hi⟩ := dj_p_Mo_litresIn (I := {x : Int32 × MW // Q x.1 x.2}) (Q3 := fun i r u => r = i.1.1 ∧ u = i.1.2) h (fun r u q => ⟨⟨(r, u), q⟩, rfl, rfl⟩)
  exact ⟨i.1.1, i.1.2, i.2, hi⟩
theorem dj_p_Mo_space {I : Type} {w : MW} {a0 : Int32} {b0 : Int32} {Q1 : Int32 → MW → Prop} {Q3 : I → Int32 → MW → Prop}  (h : p_Mo_space w a0 b0 Q1) (kQ : ∀ x0 x1, Q1 x0 x1 → ∃ i : I, Q3 i x0 x1) : ∃ i : I, p_Mo_space w a0 b0 (Q3 i) := by
  have h := Eq.mp (p_Mo_space.eq_1 ..) h
  refine dj_eq (fun i => (p_Mo_space.eq_1 ..)) ?_
  exact (dj_if (fun h1 => (dj_p_Mo_holdsLiquid (h.1 h1) (fun _ _ h3 => (dj_if (fun h4 => (kQ _ _ (h3.1 h4))) (fun h5 => (dj_if (fun h6 => (kQ _ _ ((h3.2 h5).1 h6))) (fun h7 => (dj_if (fun h8 => (dj_if (fun h10 => (dj_if (fun h12 => (dj_if (fun h14 => (dj_p_Mo_level ((((((h3.2 h5).2 h7).1 h8).1 h10).1 h12).1 h14) (fun _ _ h16 => (kQ _ _ h16)))) (fun h15 => (dj_and ((((((h3.2 h5).2 h7).1 h8).1 h10).1 h12).2 h15).1 (kQ _ _ ((((((h3.2 h5).2 h7).1 h8).1 h10).1 h12).2 h15).2))))) (fun h13 => (dj_p_Mo_litresIn (((((h3.2 h5).2 h7).1 h8).1 h10).2 h13) (fun _ _ h17 => (kQ _ _ h17)))))) (fun h11 => (dj_p_Mo_liquidIn ((((h3.2 h5).2 h7).1 h8).2 h11) (fun _ _ h18 => (kQ _ _ h18)))))) (fun h9 => (kQ _ _ (((h3.2 h5).2 h7).2 h9))))))))))) (fun h2 => (dj_p_Mo_isValve (h.2 h2) (fun _ _ h19 => (dj_if (fun h20 => (kQ _ _ (h19.1 h20))) (fun h21 => (dj_and (h19.2 h21).1 (kQ _ _ (h19.2 h21).2))))))))
theorem ex_p_Mo_space {w : MW} {a0 : Int32} {b0 : Int32} {Q : Int32 → MW → Prop} (h : p_Mo_space w a0 b0 Q) : ∃ (r1 : Int32) (w1 : MW), Q r1 w1 ∧ p_Mo_space w a0 b0 (fun r u => r = r1 ∧ u = w1) := by
  obtain ⟨i, hi⟩ := dj_p_Mo_space (I := {x : Int32 × MW // Q x.1 x.2}) (Q3 := fun i r u => r = i.1.1 ∧ u = i.1.2) h (fun r u q => ⟨⟨(r, u), q⟩, rfl, rfl⟩)
  exact ⟨i.1.1, i.1.2, i.2, hi⟩
theorem dj_p_Mo_danger {I : Type} {w : MW} {a0 : Int32} {Q1 : Int32 → MW → Prop} {Q3 : I → Int32 → MW → Prop}  (h : p_Mo_danger w a0 Q1) (kQ : ∀ x0 x1, Q1 x0 x1 → ∃ i : I, Q3 i x0 x1) : ∃ i : I, p_Mo_danger w a0 (Q3 i) := by
  have h := Eq.mp (p_Mo_danger.eq_1 ..) h
  refine dj_eq (fun i => (p_Mo_danger.eq_1 ..)) ?_
  exact (dj_p_Mo_look h (fun _ h1 => (dj_p_Mo_isSafe h1 (fun _ _ h2 => (dj_if (fun h3 => (dj_if (fun h5 => (dj_if (fun h7 => (dj_if (fun h9 => (dj_if (fun h11 => (kQ _ _ (((((h2.1 h3).1 h5).1 h7).1 h9).1 h11))) (fun h12 => (kQ _ _ (((((h2.1 h3).1 h5).1 h7).1 h9).2 h12))))) (fun h10 => (kQ _ _ ((((h2.1 h3).1 h5).1 h7).2 h10))))) (fun h8 => (kQ _ _ (((h2.1 h3).1 h5).2 h8))))) (fun h6 => (kQ _ _ ((h2.1 h3).2 h6))))) (fun h4 => (dj_if (fun h13 => (kQ _ _ ((h2.2 h4).1 h13))) (fun h14 => (kQ _ _ ((h2.2 h4).2 h14))))))))))
theorem ex_p_Mo_danger {w : MW} {a0 : Int32} {Q : Int32 → MW → Prop} (h : p_Mo_danger w a0 Q) : ∃ (r1 : Int32) (w1 : MW), Q r1 w1 ∧ p_Mo_danger w a0 (fun r u => r = r1 ∧ u = w1) := by
  obtain ⟨i, hi⟩ := dj_p_Mo_danger (I := {x : Int32 × MW // Q x.1 x.2}) (Q3 := fun i r u => r = i.1.1 ∧ u = i.1.2) h (fun r u q => ⟨⟨(r, u), q⟩, rfl, rfl⟩)
  exact ⟨i.1.1, i.1.2, i.2, hi⟩
