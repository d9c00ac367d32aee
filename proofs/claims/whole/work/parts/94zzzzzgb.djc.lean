/-! a contract is a function: calls of the reference -/
theorem dj_p_Mo_raise {I : Type} {w : MW} {a0 : Int32} {b0 : Int32} {Q1 : MW → Prop} {Q3 : I → MW → Prop}  (h : p_Mo_raise w a0 b0 Q1) (kQ : ∀ x0, Q1 x0 → ∃ i : I, Q3 i x0) : ∃ i : I, p_Mo_raise w a0 b0 (Q3 i) := by
  have h := Eq.mp (p_Mo_raise.eq_1 ..) h
  refine dj_eq (fun i => (p_Mo_raise.eq_1 ..)) ?_
  exact (dj_if (fun h1 => (kQ _ (h.1 h1))) (fun h2 => (dj_and (h.2 h2).1 (dj_and (h.2 h2).2.1 (dj_and (h.2 h2).2.2.1 (kQ _ (h.2 h2).2.2.2))))))
theorem ex_p_Mo_raise {w : MW} {a0 : Int32} {b0 : Int32} {Q : MW → Prop} (h : p_Mo_raise w a0 b0 Q) : ∃ w1 : MW, Q w1 ∧ p_Mo_raise w a0 b0 (fun u => u = w1) := by
  obtain ⟨i, hi⟩ := dj_p_Mo_raise (I := {x : MW // Q x}) (Q3 := fun i u => u = i.1) h (fun u q => ⟨⟨u, q⟩, rfl⟩)
  exact ⟨i.1, i.2, hi⟩
theorem dj_p_Mo_act {I : Type} {w : MW} {a0 : Int32} {Q1 : Int32 → MW → Prop} {Q3 : I → Int32 → MW → Prop}  (h : p_Mo_act w a0 Q1) (kQ : ∀ x0 x1, Q1 x0 x1 → ∃ i : I, Q3 i x0 x1) : ∃ i : I, p_Mo_act w a0 (Q3 i) := by
  have h := Eq.mp (p_Mo_act.eq_1 ..) h
  refine dj_eq (fun i => (p_Mo_act.eq_1 ..)) ?_
  exact (dj_if (fun h1 => (kQ _ _ (h.1 h1))) (fun h2 => (dj_if (fun h3 => (dj_p_Mo_perform ((h.2 h2).1 h3) (fun _ _ h5 => (dj_if (fun h6 => (kQ _ _ (h5.1 h6))) (fun h7 => (dj_p_Mo_raise (h5.2 h7) (fun _ h8 => (kQ _ _ h8)))))))) (fun h4 => (kQ _ _ ((h.2 h2).2 h4))))))
theorem ex_p_Mo_act {w : MW} {a0 : Int32} {Q : Int32 → MW → Prop} (h : p_Mo_act w a0 Q) : ∃ (r1 : Int32) (w1 : MW), Q r1 w1 ∧ p_Mo_act w a0 (fun r u => r = r1 ∧ u = w1) := by
  obtain ⟨i, hi⟩ := dj_p_Mo_act (I := {x : Int32 × MW // Q x.1 x.2}) (Q3 := fun i r u => r = i.1.1 ∧ u = i.1.2) h (fun r u q => ⟨⟨(r, u), q⟩, rfl, rfl⟩)
  exact ⟨i.1.1, i.1.2, i.2, hi⟩
theorem dj_p_Tx_node1 {I : Type} {w : MW} {a0 : Int32} {Q1 : Int32 → MW → Prop} {Q3 : I → Int32 → MW → Prop}  (h : p_Tx_node1 w a0 Q1) (kQ : ∀ x0 x1, Q1 x0 x1 → ∃ i : I, Q3 i x0 x1) : ∃ i : I, p_Tx_node1 w a0 (Q3 i) := by
  have h := Eq.mp (p_Tx_node1.eq_1 ..) h
  refine dj_eq (fun i => (p_Tx_node1.eq_1 ..)) ?_
  exact (kQ _ _ h)
theorem ex_p_Tx_node1 {w : MW} {a0 : Int32} {Q : Int32 → MW → Prop} (h : p_Tx_node1 w a0 Q) : ∃ (r1 : Int32) (w1 : MW), Q r1 w1 ∧ p_Tx_node1 w a0 (fun r u => r = r1 ∧ u = w1) := by
  obtain ⟨i, hi⟩ := dj_p_Tx_node1 (I := {x : Int32 × MW // Q x.1 x.2}) (Q3 := fun i r u => r = i.1.1 ∧ u = i.1.2) h (fun r u q => ⟨⟨(r, u), q⟩, rfl, rfl⟩)
  exact ⟨i.1.1, i.1.2, i.2, hi⟩
theorem dj_q_Mo_start_4 {I : Type}  {E1 : Int32 → MW → Prop} {E3 : I → Int32 → MW → Prop} {Q1 : Int32 → MW → Prop} {Q3 : I → Int32 → MW → Prop}  (kE : ∀ x0 x1, E1 x0 x1 → ∃ i : I, E3 i x0 x1) (kQ : ∀ x0 x1, Q1 x0 x1 → ∃ i : I, Q3 i x0 x1) : ∀ (m : Nat) (x4_1 : Int32) (x4_2 : Int32) (w : MW), q_Mo_start_4 E1 Q1 m x4_1 x4_2 w → ∃ i : I, q_Mo_start_4 (E3 i) (Q3 i) m x4_1 x4_2 w := by
  intro m
  induction m with
  | zero => exact fun _ _ _ h => False.elim h
  | succ m ih =>
    intro x4_1 x4_2 w h
    have h := Eq.mp (q_Mo_start_4.eq_2 ..) h
    refine dj_eq (fun i => (q_Mo_start_4.eq_2 ..)) ?_
    exact (dj_if (fun h1 => (kE _ _ (h.1 h1))) (fun h2 => (dj_if (fun h3 => (ih _ _ _ ((h.2 h2).1 h3))) (fun h4 => (dj_and ((h.2 h2).2 h4).1 (dj_p_Tx_node1 ((h.2 h2).2 h4).2 (fun _ _ h5 => (dj_and h5.1 (dj_if (fun h6 => (ih _ _ _ (h5.2.1 h6))) (fun h7 => (ih _ _ _ (h5.2.2 h7))))))))))))
theorem dj_p_Mo_hang {I : Type} {w : MW} {a0 : Int32} {b0 : Int32} {c0 : Int32} {Q1 : Int32 → MW → Prop} {Q3 : I → Int32 → MW → Prop}  (h : p_Mo_hang w a0 b0 c0 Q1) (kQ : ∀ x0 x1, Q1 x0 x1 → ∃ i : I, Q3 i x0 x1) : ∃ i : I, p_Mo_hang w a0 b0 c0 (Q3 i) := by
  have h := Eq.mp (p_Mo_hang.eq_1 ..) h
  refine dj_eq (fun i => (p_Mo_hang.eq_1 ..)) ?_
  exact (dj_if (fun h1 => (dj_and (h.1 h1).1 (kQ _ _ (h.1 h1).2))) (fun h2 => (dj_and (h.2 h2).1 (kQ _ _ (h.2 h2).2))))
theorem ex_p_Mo_hang {w : MW} {a0 : Int32} {b0 : Int32} {c0 : Int32} {Q : Int32 → MW → Prop} (h : p_Mo_hang w a0 b0 c0 Q) : ∃ (r1 : Int32) (w1 : MW), Q r1 w1 ∧ p_Mo_hang w a0 b0 c0 (fun r u => r = r1 ∧ u = w1) := by
  obtain ⟨i, hi⟩ := dj_p_Mo_hang (I := {x : Int32 × MW // Q x.1 x.2}) (Q3 := fun i r u => r = i.1.1 ∧ u = i.1.2) h (fun r u q => ⟨⟨(r, u), q⟩, rfl, rfl⟩)
  exact ⟨i.1.1, i.1.2, i.2, hi⟩
theorem dj_p_Tx_kid {I : Type} {w : MW} {a0 : Int32} {b0 : Int32} {Q1 : Int32 → MW → Prop} {Q3 : I → Int32 → MW → Prop}  (h : p_Tx_kid w a0 b0 Q1) (kQ : ∀ x0 x1, Q1 x0 x1 → ∃ i : I, Q3 i x0 x1) : ∃ i : I, p_Tx_kid w a0 b0 (Q3 i) := by
  have h := Eq.mp (p_Tx_kid.eq_1 ..) h
  refine dj_eq (fun i => (p_Tx_kid.eq_1 ..)) ?_
  exact (dj_p_Tx_node1 h (fun _ _ h1 => (dj_and h1.1 (dj_and h1.2.1 (kQ _ _ h1.2.2)))))
theorem ex_p_Tx_kid {w : MW} {a0 : Int32} {b0 : Int32} {Q : Int32 → MW → Prop} (h : p_Tx_kid w a0 b0 Q) : ∃ (r1 : Int32) (w1 : MW), Q r1 w1 ∧ p_Tx_kid w a0 b0 (fun r u => r = r1 ∧ u = w1) := by
  obtain ⟨i, hi⟩ := dj_p_Tx_kid (I := {x : Int32 × MW // Q x.1 x.2}) (Q3 := fun i r u => r = i.1.1 ∧ u = i.1.2) h (fun r u q => ⟨⟨(r, u), q⟩, rfl, rfl⟩)
  exact ⟨i.1.1, i.1.2, i.2, hi⟩
theorem dj_p_Mo_kids {I : Type} {w : MW} {a0 : Int32} {Q1 : Int32 → MW → Prop} {Q3 : I → Int32 → MW → Prop}  (h : p_Mo_kids w a0 Q1) (kQ : ∀ x0 x1, Q1 x0 x1 → ∃ i : I, Q3 i x0 x1) : ∃ i : I, p_Mo_kids w a0 (Q3 i) := by
  have h := Eq.mp (p_Mo_kids.eq_1 ..) h
  refine dj_eq (fun i => (p_Mo_kids.eq_1 ..)) ?_
  exact (dj_p_Tx_node1 h (fun _ _ h1 => (dj_and h1.1 (kQ _ _ h1.2))))
theorem ex_p_Mo_kids {w : MW} {a0 : Int32} {Q : Int32 → MW → Prop} (h : p_Mo_kids w a0 Q) : ∃ (r1 : Int32) (w1 : MW), Q r1 w1 ∧ p_Mo_kids w a0 (fun r u => r = r1 ∧ u = w1) := by
  obtain ⟨i, hi⟩ := dj_p_Mo_kids (I := {x : Int32 × MW // Q x.1 x.2}) (Q3 := fun i r u => r = i.1.1 ∧ u = i.1.2) h (fun r u q => ⟨⟨(r, u), q⟩, rfl, rfl⟩)
  exact ⟨i.1.1, i.1.2, i.2, hi⟩
theorem dj_q_Mo_lay_131 {I : Type} {r_Mo_lay : MW → Int32 → (Int32 → MW → Prop) → Prop} {x131_1 : Int32} {x131_2 : Int32} {E1 : MW → Prop} {E3 : I → MW → Prop} {Q1 : Int32 → MW → Prop} {Q3 : I → Int32 → MW → Prop} (ir_Mo_lay : ∀ {z0 : MW} {z1 : Int32} {R1 : Int32 → MW → Prop} {R3 : I → Int32 → MW → Prop}, r_Mo_lay z0 z1 R1 → (∀ y0 y1, R1 y0 y1 → ∃ i : I, R3 i y0 y1) → ∃ i : I, r_Mo_lay z0 z1 (R3 i)) (kE : ∀ x0, E1 x0 → ∃ i : I, E3 i x0) (kQ : ∀ x0 x1, Q1 x0 x1 → ∃ i : I, Q3 i x0 x1) : ∀ (m : Nat) (x131_3 : Int32) (x131_4 : Int32) (w : MW), q_Mo_lay_131 r_Mo_lay x131_1 x131_2 E1 Q1 m x131_3 x131_4 w → ∃ i : I, q_Mo_lay_131 r_Mo_lay x131_1 x131_2 (E3 i) (Q3 i) m x131_3 x131_4 w := by
  intro m
  induction m with
  | zero => exact fun _ _ _ h => False.elim h
  | succ m ih =>
    intro x131_3 x131_4 w h
    have h := Eq.mp (q_Mo_lay_131.eq_2 ..) h
    refine dj_eq (fun i => (q_Mo_lay_131.eq_2 ..)) ?_
    exact (dj_p_Mo_kids h (fun _ _ h1 => (dj_if (fun h2 => (kE _ (h1.1 h2))) (fun h3 => (dj_p_Tx_kid (h1.2 h3) (fun _ _ h4 => (dj_p_Tx_node1 h4 (fun _ _ h5 => (dj_and h5.1 (dj_if (fun h6 => (ih _ _ _ (h5.2.1 h6))) (fun h7 => (ir_Mo_lay (h5.2.2 h7) (fun _ _ h8 => (dj_p_Mo_hang h8 (fun _ _ h9 => (ih _ _ _ h9))))))))))))))))
theorem dj_pb_Mo_lay {I : Type} {r_Mo_lay : MW → Int32 → (Int32 → MW → Prop) → Prop} {w : MW} {a0 : Int32} {Q1 : Int32 → MW → Prop} {Q3 : I → Int32 → MW → Prop} (ir_Mo_lay : ∀ {z0 : MW} {z1 : Int32} {R1 : Int32 → MW → Prop} {R3 : I → Int32 → MW → Prop}, r_Mo_lay z0 z1 R1 → (∀ y0 y1, R1 y0 y1 → ∃ i : I, R3 i y0 y1) → ∃ i : I, r_Mo_lay z0 z1 (R3 i)) (h : pb_Mo_lay r_Mo_lay w a0 Q1) (kQ : ∀ x0 x1, Q1 x0 x1 → ∃ i : I, Q3 i x0 x1) : ∃ i : I, pb_Mo_lay r_Mo_lay w a0 (Q3 i) := by
  have h := Eq.mp (pb_Mo_lay.eq_1 ..) h
  refine dj_eq (fun i => (pb_Mo_lay.eq_1 ..)) ?_
  exact (dj_and h.1 (dj_and h.2.1 (dj_and h.2.2.1 (dj_and h.2.2.2.1 (dj_p_Tx_node1 h.2.2.2.2 (fun _ _ h1 => (dj_and h1.1 (dj_if (fun h2 => (dj_q_Mo_lay_131 @ir_Mo_lay (fun _ h4 => (kQ _ _ h4)) kQ _ _ _ _ (h1.2.1 h2))) (fun h3 => (dj_p_Tx_node1 (h1.2.2 h3) (fun _ _ h5 => (dj_and h5.1 (dj_and h5.2.1 (dj_p_Tx_kid h5.2.2 (fun _ _ h6 => (ir_Mo_lay h6 (fun _ _ h7 => (dj_and h7.1 (kQ _ _ h7.2)))))))))))))))))))
theorem djg_Mo_lay {I : Type} : ∀ n : Nat, (∀ (w : MW) (a0 : Int32) (R1 : Int32 → MW → Prop) (R3 : I → Int32 → MW → Prop), pn_Mo_lay n w a0 R1 → (∀ y0 y1, R1 y0 y1 → ∃ i : I, R3 i y0 y1) → ∃ i : I, pn_Mo_lay n w a0 (R3 i)) := by
  intro n
  induction n with
  | zero =>
    exact fun _ _ _ _ h _ => False.elim h
  | succ n ih =>
    have i_Mo_lay := ih
    exact fun v0 v1 _ _ h k => by
      have h := Eq.mp (pe_Mo_lay ..) h
      refine dj_eq (fun i => (pe_Mo_lay ..)) ?_
      exact dj_pb_Mo_lay (fun h k => i_Mo_lay _ _ _ _ h k) h k
theorem dj_pn_Mo_lay {I : Type} (n : Nat) {w : MW} {a0 : Int32} {Q1 : Int32 → MW → Prop} {Q3 : I → Int32 → MW → Prop} (h : pn_Mo_lay n w a0 Q1) (kQ : ∀ x0 x1, Q1 x0 x1 → ∃ i : I, Q3 i x0 x1) : ∃ i : I, pn_Mo_lay n w a0 (Q3 i) := (djg_Mo_lay n) _ _ _ _ h kQ
theorem ex_pn_Mo_lay (n : Nat) {w : MW} {a0 : Int32} {Q : Int32 → MW → Prop} (h : pn_Mo_lay n w a0 Q) : ∃ (r1 : Int32) (w1 : MW), Q r1 w1 ∧ pn_Mo_lay n w a0 (fun r u => r = r1 ∧ u = w1) := by
  obtain ⟨i, hi⟩ := dj_pn_Mo_lay (I := {x : Int32 × MW // Q x.1 x.2}) (Q3 := fun i r u => r = i.1.1 ∧ u = i.1.2) n h (fun r u q => ⟨⟨(r, u), q⟩, rfl, rfl⟩)
  exact ⟨i.1.1, i.1.2, i.2, hi⟩
theorem dj_p_Mo_lay {I : Type} {w : MW} {a0 : Int32} {Q1 : Int32 → MW → Prop} {Q3 : I → Int32 → MW → Prop} (h : p_Mo_lay w a0 Q1) (kQ : ∀ x0 x1, Q1 x0 x1 → ∃ i : I, Q3 i x0 x1) : ∃ i : I, p_Mo_lay w a0 (Q3 i) := dj_pn_Mo_lay _ h kQ
theorem ex_p_Mo_lay {w : MW} {a0 : Int32} {Q : Int32 → MW → Prop} (h : p_Mo_lay w a0 Q) : ∃ (r1 : Int32) (w1 : MW), Q r1 w1 ∧ p_Mo_lay w a0 (fun r u => r = r1 ∧ u = w1) := by
  obtain ⟨i, hi⟩ := dj_p_Mo_lay (I := {x : Int32 × MW // Q x.1 x.2}) (Q3 := fun i r u => r = i.1.1 ∧ u = i.1.2) h (fun r u q => ⟨⟨(r, u), q⟩, rfl, rfl⟩)
  exact ⟨i.1.1, i.1.2, i.2, hi⟩
theorem dj_q_Mo_start_134 {I : Type}  {E1 : MW → Prop} {E3 : I → MW → Prop} {Q1 : Int32 → MW → Prop} {Q3 : I → Int32 → MW → Prop}  (kE : ∀ x0, E1 x0 → ∃ i : I, E3 i x0) (kQ : ∀ x0 x1, Q1 x0 x1 → ∃ i : I, Q3 i x0 x1) : ∀ (m : Nat) (x134_2 : Int32) (x134_3 : Int32) (w : MW), q_Mo_start_134 E1 Q1 m x134_2 x134_3 w → ∃ i : I, q_Mo_start_134 (E3 i) (Q3 i) m x134_2 x134_3 w := by
  intro m
  induction m with
  | zero => exact fun _ _ _ h => False.elim h
  | succ m ih =>
    intro x134_2 x134_3 w h
    have h := Eq.mp (q_Mo_start_134.eq_2 ..) h
    refine dj_eq (fun i => (q_Mo_start_134.eq_2 ..)) ?_
    exact (dj_if (fun h1 => (kE _ (h.1 h1))) (fun h2 => (dj_and (h.2 h2).1 (dj_p_Tx_node1 (h.2 h2).2 (fun _ _ h3 => (dj_and h3.1 (dj_if (fun h4 => (ih _ _ _ (h3.2.1 h4))) (fun h5 => (dj_p_Mo_lay (h3.2.2 h5) (fun _ _ h6 => (dj_p_Mo_hang h6 (fun _ _ h7 => (ih _ _ _ h7)))))))))))))
theorem dj_p_Mo_isRole {I : Type} {w : MW} {a0 : Int32} {b0 : Int32} {Q1 : Int32 → MW → Prop} {Q3 : I → Int32 → MW → Prop}  (h : p_Mo_isRole w a0 b0 Q1) (kQ : ∀ x0 x1, Q1 x0 x1 → ∃ i : I, Q3 i x0 x1) : ∃ i : I, p_Mo_isRole w a0 b0 (Q3 i) := by
  have h := Eq.mp (p_Mo_isRole.eq_1 ..) h
  refine dj_eq (fun i => (p_Mo_isRole.eq_1 ..)) ?_
  exact (dj_if (fun h1 => (kQ _ _ (h.1 h1))) (fun h2 => (dj_if (fun h3 => (kQ _ _ ((h.2 h2).1 h3))) (fun h4 => (dj_and ((h.2 h2).2 h4).1 (dj_if (fun h5 => (kQ _ _ (((h.2 h2).2 h4).2.1 h5))) (fun h6 => (kQ _ _ (((h.2 h2).2 h4).2.2 h6)))))))))
theorem ex_p_Mo_isRole {w : MW} {a0 : Int32} {b0 : Int32} {Q : Int32 → MW → Prop} (h : p_Mo_isRole w a0 b0 Q) : ∃ (r1 : Int32) (w1 : MW), Q r1 w1 ∧ p_Mo_isRole w a0 b0 (fun r u => r = r1 ∧ u = w1) := by
  obtain ⟨i, hi⟩ := dj_p_Mo_isRole (I := {x : Int32 × MW // Q x.1 x.2}) (Q3 := fun i r u => r = i.1.1 ∧ u = i.1.2) h (fun r u q => ⟨⟨(r, u), q⟩, rfl, rfl⟩)
  exact ⟨i.1.1, i.1.2, i.2, hi⟩
theorem dj_q_Mo_start_264 {I : Type} {y264_3 : Int32} {ys264_0 : Int32} {w : MW} {A1 : Int32 → MW → Prop} {A3 : I → Int32 → MW → Prop} {E1 : MW → Prop} {E3 : I → MW → Prop} {Q1 : Int32 → MW → Prop} {Q3 : I → Int32 → MW → Prop}  (kA : ∀ x0 x1, A1 x0 x1 → ∃ i : I, A3 i x0 x1) (kE : ∀ x0, E1 x0 → ∃ i : I, E3 i x0) (kQ : ∀ x0 x1, Q1 x0 x1 → ∃ i : I, Q3 i x0 x1) (h : q_Mo_start_264 y264_3 ys264_0 w A1 E1 Q1) : ∃ i : I, q_Mo_start_264 y264_3 ys264_0 w (A3 i) (E3 i) (Q3 i) := by
  have h := Eq.mp (q_Mo_start_264.eq_1 ..) h
  refine dj_eq (fun i => (q_Mo_start_264.eq_1 ..)) ?_
  exact (dj_if (fun h1 => (dj_and (h.1 h1).1 (kA _ _ (h.1 h1).2))) (fun h2 => (dj_and (h.2 h2).1 (dj_and (h.2 h2).2.1 (kA _ _ (h.2 h2).2.2)))))
theorem dj_q_Mo_start_223 {I : Type}  {E1 : MW → Prop} {E3 : I → MW → Prop} {Q1 : Int32 → MW → Prop} {Q3 : I → Int32 → MW → Prop}  (kE : ∀ x0, E1 x0 → ∃ i : I, E3 i x0) (kQ : ∀ x0 x1, Q1 x0 x1 → ∃ i : I, Q3 i x0 x1) : ∀ (m : Nat) (x223_3 : Int32) (w : MW), q_Mo_start_223 E1 Q1 m x223_3 w → ∃ i : I, q_Mo_start_223 (E3 i) (Q3 i) m x223_3 w := by
  intro m
  induction m with
  | zero => exact fun _ _ h => False.elim h
  | succ m ih =>
    intro x223_3 w h
    have h := Eq.mp (q_Mo_start_223.eq_2 ..) h
    refine dj_eq (fun i => (q_Mo_start_223.eq_2 ..)) ?_
    exact (dj_if (fun h1 => (kE _ (h.1 h1))) (fun h2 => (dj_p_Mo_isRole (h.2 h2) (fun _ _ h3 => (dj_if (fun h4 => (dj_q_Mo_start_264  (fun _ _ h6 => (ih _ _ h6)) kE kQ (h3.1 h4))) (fun h5 => (dj_and (h3.2 h5).1 (dj_if (fun h7 => (dj_q_Mo_start_264  (fun _ _ h9 => (ih _ _ h9)) kE kQ ((h3.2 h5).2.1 h7))) (fun h8 => (dj_and ((h3.2 h5).2.2 h8).1 (dj_if (fun h10 => (dj_q_Mo_start_264  (fun _ _ h12 => (ih _ _ h12)) kE kQ (((h3.2 h5).2.2 h8).2.1 h10))) (fun h11 => (dj_q_Mo_start_264  (fun _ _ h13 => (ih _ _ h13)) kE kQ (((h3.2 h5).2.2 h8).2.2 h11))))))))))))))
theorem dj_q_Mo_start_97 {I : Type} {w : MW} {Q1 : Int32 → MW → Prop} {Q3 : I → Int32 → MW → Prop}  (kQ : ∀ x0 x1, Q1 x0 x1 → ∃ i : I, Q3 i x0 x1) (h : q_Mo_start_97 w Q1) : ∃ i : I, q_Mo_start_97 w (Q3 i) := by
  have h := Eq.mp (q_Mo_start_97.eq_1 ..) h
  refine dj_eq (fun i => (q_Mo_start_97.eq_1 ..)) ?_
  exact (dj_q_Mo_start_134  (fun _ h1 => (dj_q_Mo_start_223  (fun _ h2 => (kQ _ _ h2)) kQ _ _ _ h1)) kQ _ _ _ _ h)
theorem dj_p_Mo_start {I : Type} {w : MW} {Q1 : Int32 → MW → Prop} {Q3 : I → Int32 → MW → Prop}  (h : p_Mo_start w Q1) (kQ : ∀ x0 x1, Q1 x0 x1 → ∃ i : I, Q3 i x0 x1) : ∃ i : I, p_Mo_start w (Q3 i) := by
  have h := Eq.mp (p_Mo_start.eq_1 ..) h
  refine dj_eq (fun i => (p_Mo_start.eq_1 ..)) ?_
  exact (dj_q_Mo_start_4  (fun _ _ h1 => (dj_if (fun h2 => (dj_if (fun h4 => (dj_p_Mo_closeAll ((h1.1 h2).1 h4) (fun _ h6 => (dj_q_Mo_start_97  kQ h6)))) (fun h5 => (dj_if (fun h7 => (dj_q_Mo_start_97  kQ (((h1.1 h2).2 h5).1 h7))) (fun h8 => (dj_p_Mo_closeAll (((h1.1 h2).2 h5).2 h8) (fun _ h9 => (dj_q_Mo_start_97  kQ h9)))))))) (fun h3 => (kQ _ _ (h1.2 h3))))) kQ _ _ _ _ h)
theorem ex_p_Mo_start {w : MW} {Q : Int32 → MW → Prop} (h : p_Mo_start w Q) : ∃ (r1 : Int32) (w1 : MW), Q r1 w1 ∧ p_Mo_start w (fun r u => r = r1 ∧ u = w1) := by
  obtain ⟨i, hi⟩ := dj_p_Mo_start (I := {x : Int32 × MW // Q x.1 x.2}) (Q3 := fun i r u => r = i.1.1 ∧ u = i.1.2) h (fun r u q => ⟨⟨(r, u), q⟩, rfl, rfl⟩)
  exact ⟨i.1.1, i.1.2, i.2, hi⟩
theorem dj_p_Mo_kind {I : Type} {w : MW} {a0 : Int32} {Q1 : Int32 → MW → Prop} {Q3 : I → Int32 → MW → Prop}  (h : p_Mo_kind w a0 Q1) (kQ : ∀ x0 x1, Q1 x0 x1 → ∃ i : I, Q3 i x0 x1) : ∃ i : I, p_Mo_kind w a0 (Q3 i) := by
  have h := Eq.mp (p_Mo_kind.eq_1 ..) h
  refine dj_eq (fun i => (p_Mo_kind.eq_1 ..)) ?_
  exact (dj_and h.1 (dj_if (fun h1 => (dj_and (h.2.1 h1).1 (dj_p_Tx_node1 (h.2.1 h1).2 (fun _ _ h3 => (dj_and h3.1 (kQ _ _ h3.2)))))) (fun h2 => (kQ _ _ (h.2.2 h2)))))
theorem ex_p_Mo_kind {w : MW} {a0 : Int32} {Q : Int32 → MW → Prop} (h : p_Mo_kind w a0 Q) : ∃ (r1 : Int32) (w1 : MW), Q r1 w1 ∧ p_Mo_kind w a0 (fun r u => r = r1 ∧ u = w1) := by
  obtain ⟨i, hi⟩ := dj_p_Mo_kind (I := {x : Int32 × MW // Q x.1 x.2}) (Q3 := fun i r u => r = i.1.1 ∧ u = i.1.2) h (fun r u q => ⟨⟨(r, u), q⟩, rfl, rfl⟩)
  exact ⟨i.1.1, i.1.2, i.2, hi⟩
theorem dj_pb_Mo_reckon {I : Type} {r_Mo_reckon : MW → Int32 → (Int64 → MW → Prop) → Prop} {w : MW} {a0 : Int32} {Q1 : Int64 → MW → Prop} {Q3 : I → Int64 → MW → Prop} (ir_Mo_reckon : ∀ {z0 : MW} {z1 : Int32} {R1 : Int64 → MW → Prop} {R3 : I → Int64 → MW → Prop}, r_Mo_reckon z0 z1 R1 → (∀ y0 y1, R1 y0 y1 → ∃ i : I, R3 i y0 y1) → ∃ i : I, r_Mo_reckon z0 z1 (R3 i)) (h : pb_Mo_reckon r_Mo_reckon w a0 Q1) (kQ : ∀ x0 x1, Q1 x0 x1 → ∃ i : I, Q3 i x0 x1) : ∃ i : I, pb_Mo_reckon r_Mo_reckon w a0 (Q3 i) := by
  have h := Eq.mp (pb_Mo_reckon.eq_1 ..) h
  refine dj_eq (fun i => (pb_Mo_reckon.eq_1 ..)) ?_
  exact (dj_if (fun h1 => (dj_p_Tx_node1 (h.1 h1) (fun _ _ h3 => (dj_and h3.1 (dj_if (fun h4 => (dj_if (fun h6 => (dj_p_Tx_kid ((h3.2.1 h4).1 h6) (fun _ _ h8 => (ir_Mo_reckon h8 (fun _ _ h9 => (dj_if (fun h10 => (dj_p_Tx_kid (h9.1 h10) (fun _ _ h12 => (ir_Mo_reckon h12 (fun _ _ h13 => (dj_if (fun h14 => (dj_if (fun h16 => (kQ _ _ ((h13.1 h14).1 h16))) (fun h17 => (dj_if (fun h18 => (kQ _ _ (((h13.1 h14).2 h17).1 h18))) (fun h19 => (dj_if (fun h20 => (kQ _ _ ((((h13.1 h14).2 h17).2 h19).1 h20))) (fun h21 => (dj_if (fun h22 => (dj_if (fun h24 => (dj_and ((((((h13.1 h14).2 h17).2 h19).2 h21).1 h22).1 h24).1 (kQ _ _ ((((((h13.1 h14).2 h17).2 h19).2 h21).1 h22).1 h24).2))) (fun h25 => (kQ _ _ ((((((h13.1 h14).2 h17).2 h19).2 h21).1 h22).2 h25))))) (fun h23 => (dj_if (fun h26 => (dj_if (fun h28 => (kQ _ _ (((((((h13.1 h14).2 h17).2 h19).2 h21).2 h23).1 h26).1 h28))) (fun h29 => (kQ _ _ (((((((h13.1 h14).2 h17).2 h19).2 h21).2 h23).1 h26).2 h29))))) (fun h27 => (dj_if (fun h30 => (dj_if (fun h32 => (kQ _ _ ((((((((h13.1 h14).2 h17).2 h19).2 h21).2 h23).2 h27).1 h30).1 h32))) (fun h33 => (kQ _ _ ((((((((h13.1 h14).2 h17).2 h19).2 h21).2 h23).2 h27).1 h30).2 h33))))) (fun h31 => (dj_if (fun h34 => (dj_if (fun h36 => (kQ _ _ (((((((((h13.1 h14).2 h17).2 h19).2 h21).2 h23).2 h27).2 h31).1 h34).1 h36))) (fun h37 => (kQ _ _ (((((((((h13.1 h14).2 h17).2 h19).2 h21).2 h23).2 h27).2 h31).1 h34).2 h37))))) (fun h35 => (dj_if (fun h38 => (kQ _ _ (((((((((h13.1 h14).2 h17).2 h19).2 h21).2 h23).2 h27).2 h31).2 h35).1 h38))) (fun h39 => (kQ _ _ (((((((((h13.1 h14).2 h17).2 h19).2 h21).2 h23).2 h27).2 h31).2 h35).2 h39))))))))))))))))))) (fun h15 => (kQ _ _ (h13.2 h15))))))))) (fun h11 => (kQ _ _ (h9.2 h11))))))))) (fun h7 => (dj_p_Tx_node1 ((h3.2.1 h4).2 h7) (fun _ _ h40 => (dj_and h40.1 (dj_and h40.2.1 (kQ _ _ h40.2.2)))))))) (fun h5 => (dj_p_Tx_node1 (h3.2.2 h5) (fun _ _ h41 => (dj_and h41.1 (kQ _ _ h41.2)))))))))) (fun h2 => (kQ _ _ (h.2 h2))))
theorem djg_Mo_reckon {I : Type} : ∀ n : Nat, (∀ (w : MW) (a0 : Int32) (R1 : Int64 → MW → Prop) (R3 : I → Int64 → MW → Prop), pn_Mo_reckon n w a0 R1 → (∀ y0 y1, R1 y0 y1 → ∃ i : I, R3 i y0 y1) → ∃ i : I, pn_Mo_reckon n w a0 (R3 i)) := by
  intro n
  induction n with
  | zero =>
    exact fun _ _ _ _ h _ => False.elim h
  | succ n ih =>
    have i_Mo_reckon := ih
    exact fun v0 v1 _ _ h k => by
      have h := Eq.mp (pe_Mo_reckon ..) h
      refine dj_eq (fun i => (pe_Mo_reckon ..)) ?_
      exact dj_pb_Mo_reckon (fun h k => i_Mo_reckon _ _ _ _ h k) h k
theorem dj_pn_Mo_reckon {I : Type} (n : Nat) {w : MW} {a0 : Int32} {Q1 : Int64 → MW → Prop} {Q3 : I → Int64 → MW → Prop} (h : pn_Mo_reckon n w a0 Q1) (kQ : ∀ x0 x1, Q1 x0 x1 → ∃ i : I, Q3 i x0 x1) : ∃ i : I, pn_Mo_reckon n w a0 (Q3 i) := (djg_Mo_reckon n) _ _ _ _ h kQ
theorem ex_pn_Mo_reckon (n : Nat) {w : MW} {a0 : Int32} {Q : Int64 → MW → Prop} (h : pn_Mo_reckon n w a0 Q) : ∃ (r1 : Int64) (w1 : MW), Q r1 w1 ∧ pn_Mo_reckon n w a0 (fun r u => r = r1 ∧ u = w1) := by
  obtain ⟨i, hi⟩ := dj_pn_Mo_reckon (I := {x : Int64 × MW // Q x.1 x.2}) (Q3 := fun i r u => r = i.1.1 ∧ u = i.1.2) n h (fun r u q => ⟨⟨(r, u), q⟩, rfl, rfl⟩)
  exact ⟨i.1.1, i.1.2, i.2, hi⟩
theorem dj_p_Mo_reckon {I : Type} {w : MW} {a0 : Int32} {Q1 : Int64 → MW → Prop} {Q3 : I → Int64 → MW → Prop} (h : p_Mo_reckon w a0 Q1) (kQ : ∀ x0 x1, Q1 x0 x1 → ∃ i : I, Q3 i x0 x1) : ∃ i : I, p_Mo_reckon w a0 (Q3 i) := dj_pn_Mo_reckon _ h kQ
theorem ex_p_Mo_reckon {w : MW} {a0 : Int32} {Q : Int64 → MW → Prop} (h : p_Mo_reckon w a0 Q) : ∃ (r1 : Int64) (w1 : MW), Q r1 w1 ∧ p_Mo_reckon w a0 (fun r u => r = r1 ∧ u = w1) := by
  obtain ⟨i, hi⟩ := dj_p_Mo_reckon (I := {x : Int64 × MW // Q x.1 x.2}) (Q3 := fun i r u => r = i.1.1 ∧ u = i.1.2) h (fun r u q => ⟨⟨(r, u), q⟩, rfl, rfl⟩)
  exact ⟨i.1.1, i.1.2, i.2, hi⟩
theorem dj_p_Mo_isBad {I : Type} {w : MW} {Q1 : Int32 → MW → Prop} {Q3 : I → Int32 → MW → Prop}  (h : p_Mo_isBad w Q1) (kQ : ∀ x0 x1, Q1 x0 x1 → ∃ i : I, Q3 i x0 x1) : ∃ i : I, p_Mo_isBad w (Q3 i) := by
  have h := Eq.mp (p_Mo_isBad.eq_1 ..) h
  refine dj_eq (fun i => (p_Mo_isBad.eq_1 ..)) ?_
  exact (dj_if (fun h1 => (dj_p_Mo_raise (h.1 h1) (fun _ h3 => (kQ _ _ h3)))) (fun h2 => (kQ _ _ (h.2 h2))))
theorem ex_p_Mo_isBad {w : MW} {Q : Int32 → MW → Prop} (h : p_Mo_isBad w Q) : ∃ (r1 : Int32) (w1 : MW), Q r1 w1 ∧ p_Mo_isBad w (fun r u => r = r1 ∧ u = w1) := by
  obtain ⟨i, hi⟩ := dj_p_Mo_isBad (I := {x : Int32 × MW // Q x.1 x.2}) (Q3 := fun i r u => r = i.1.1 ∧ u = i.1.2) h (fun r u q => ⟨⟨(r, u), q⟩, rfl, rfl⟩)
  exact ⟨i.1.1, i.1.2, i.2, hi⟩
theorem dj_q_Mo_begin_538 {I : Type}  {E1 : MW → Prop} {E3 : I → MW → Prop} {Q1 : Int32 → MW → Prop} {Q3 : I → Int32 → MW → Prop}  (kE : ∀ x0, E1 x0 → ∃ i : I, E3 i x0) (kQ : ∀ x0 x1, Q1 x0 x1 → ∃ i : I, Q3 i x0 x1) : ∀ (m : Nat) (x538_11 : Int32) (w : MW), q_Mo_begin_538 E1 Q1 m x538_11 w → ∃ i : I, q_Mo_begin_538 (E3 i) (Q3 i) m x538_11 w := by
  intro m
  induction m with
  | zero => exact fun _ _ h => False.elim h
  | succ m ih =>
    intro x538_11 w h
    have h := Eq.mp (q_Mo_begin_538.eq_2 ..) h
    refine dj_eq (fun i => (q_Mo_begin_538.eq_2 ..)) ?_
    exact (dj_if (fun h1 => (kE _ (h.1 h1))) (fun h2 => (dj_and (h.2 h2).1 (dj_and (h.2 h2).2.1 (dj_and (h.2 h2).2.2.1 (ih _ _ (h.2 h2).2.2.2))))))
theorem dj_q_Mo_begin_331 {I : Type} {y331_1 : Int32} {y331_6 : Int64} {y331_10 : Int32} {ys331_0 : Int32} {ys331_1 : Int32} {w : MW} {Q1 : Int32 → MW → Prop} {Q3 : I → Int32 → MW → Prop}  (kQ : ∀ x0 x1, Q1 x0 x1 → ∃ i : I, Q3 i x0 x1) (h : q_Mo_begin_331 y331_1 y331_6 y331_10 ys331_0 ys331_1 w Q1) : ∃ i : I, q_Mo_begin_331 y331_1 y331_6 y331_10 ys331_0 ys331_1 w (Q3 i) := by
  have h := Eq.mp (q_Mo_begin_331.eq_1 ..) h
  refine dj_eq (fun i => (q_Mo_begin_331.eq_1 ..)) ?_
  exact (dj_and h.1 (dj_and h.2.1 (dj_if (fun h1 => (dj_and (h.2.2.1 h1).1 (dj_and (h.2.2.1 h1).2.1 (dj_and (h.2.2.1 h1).2.2.1 (dj_q_Mo_begin_538  (fun _ h3 => (kQ _ _ h3)) kQ _ _ _ (h.2.2.1 h1).2.2.2))))) (fun h2 => (dj_and (h.2.2.2 h2).1 (dj_and (h.2.2.2 h2).2.1 (dj_q_Mo_begin_538  (fun _ h4 => (kQ _ _ h4)) kQ _ _ _ (h.2.2.2 h2).2.2)))))))
theorem dj_q_Mo_begin_470 {I : Type} {y470_1 : Int32} {y470_2 : Int32} {y470_6 : Int64} {ys470_0 : Int32} {ys470_1 : Int32} {w : MW} {Q1 : Int32 → MW → Prop} {Q3 : I → Int32 → MW → Prop}  (kQ : ∀ x0 x1, Q1 x0 x1 → ∃ i : I, Q3 i x0 x1) (h : q_Mo_begin_470 y470_1 y470_2 y470_6 ys470_0 ys470_1 w Q1) : ∃ i : I, q_Mo_begin_470 y470_1 y470_2 y470_6 ys470_0 ys470_1 w (Q3 i) := by
  have h := Eq.mp (q_Mo_begin_470.eq_1 ..) h
  refine dj_eq (fun i => (q_Mo_begin_470.eq_1 ..)) ?_
  exact (dj_and h.1 (dj_if (fun h1 => (dj_and (h.2.1 h1).1 (dj_q_Mo_begin_538  (fun _ h3 => (kQ _ _ h3)) kQ _ _ _ (h.2.1 h1).2))) (fun h2 => (dj_p_Mo_raise (h.2.2 h2) (fun _ h4 => (dj_and h4.1 (dj_q_Mo_begin_538  (fun _ h5 => (kQ _ _ h5)) kQ _ _ _ h4.2)))))))
theorem dj_q_Mo_begin_248 {I : Type} {y248_1 : Int32} {y248_2 : Int32} {y248_3 : Int32} {y248_4 : Int32} {y248_6 : Int64} {ys248_0 : Int64} {ys248_1 : Int32} {w : MW} {Q1 : Int32 → MW → Prop} {Q3 : I → Int32 → MW → Prop}  (kQ : ∀ x0 x1, Q1 x0 x1 → ∃ i : I, Q3 i x0 x1) (h : q_Mo_begin_248 y248_1 y248_2 y248_3 y248_4 y248_6 ys248_0 ys248_1 w Q1) : ∃ i : I, q_Mo_begin_248 y248_1 y248_2 y248_3 y248_4 y248_6 ys248_0 ys248_1 w (Q3 i) := by
  have h := Eq.mp (q_Mo_begin_248.eq_1 ..) h
  refine dj_eq (fun i => (q_Mo_begin_248.eq_1 ..)) ?_
  exact (dj_and h.1 (dj_and h.2.1 (dj_and h.2.2.1 (dj_if (fun h1 => (dj_if (fun h3 => (dj_if (fun h5 => (dj_if (fun h7 => (dj_if (fun h9 => (dj_if (fun h11 => (dj_if (fun h13 => (dj_and (((((((h.2.2.2.1 h1).1 h3).1 h5).1 h7).1 h9).1 h11).1 h13).1 (dj_q_Mo_begin_538  (fun _ h15 => (kQ _ _ h15)) kQ _ _ _ (((((((h.2.2.2.1 h1).1 h3).1 h5).1 h7).1 h9).1 h11).1 h13).2))) (fun h14 => (dj_p_Mo_perform (((((((h.2.2.2.1 h1).1 h3).1 h5).1 h7).1 h9).1 h11).2 h14) (fun _ _ h16 => (dj_if (fun h17 => (dj_and (h16.1 h17).1 (dj_q_Mo_begin_538  (fun _ h19 => (kQ _ _ h19)) kQ _ _ _ (h16.1 h17).2))) (fun h18 => (dj_p_Mo_raise (h16.2 h18) (fun _ h20 => (dj_and h20.1 (dj_q_Mo_begin_538  (fun _ h21 => (kQ _ _ h21)) kQ _ _ _ h20.2))))))))))) (fun h12 => (dj_and ((((((h.2.2.2.1 h1).1 h3).1 h5).1 h7).1 h9).2 h12).1 (dj_q_Mo_begin_538  (fun _ h22 => (kQ _ _ h22)) kQ _ _ _ ((((((h.2.2.2.1 h1).1 h3).1 h5).1 h7).1 h9).2 h12).2))))) (fun h10 => (dj_if (fun h23 => (dj_and ((((((h.2.2.2.1 h1).1 h3).1 h5).1 h7).2 h10).1 h23).1 (dj_and ((((((h.2.2.2.1 h1).1 h3).1 h5).1 h7).2 h10).1 h23).2.1 (dj_q_Mo_begin_470  kQ ((((((h.2.2.2.1 h1).1 h3).1 h5).1 h7).2 h10).1 h23).2.2)))) (fun h24 => (dj_and ((((((h.2.2.2.1 h1).1 h3).1 h5).1 h7).2 h10).2 h24).1 (dj_q_Mo_begin_470  kQ ((((((h.2.2.2.1 h1).1 h3).1 h5).1 h7).2 h10).2 h24).2))))))) (fun h8 => (dj_if (fun h25 => (dj_and (((((h.2.2.2.1 h1).1 h3).1 h5).2 h8).1 h25).1 (dj_and (((((h.2.2.2.1 h1).1 h3).1 h5).2 h8).1 h25).2.1 (dj_and (((((h.2.2.2.1 h1).1 h3).1 h5).2 h8).1 h25).2.2.1 (dj_and (((((h.2.2.2.1 h1).1 h3).1 h5).2 h8).1 h25).2.2.2.1 (dj_q_Mo_begin_538  (fun _ h27 => (kQ _ _ h27)) kQ _ _ _ (((((h.2.2.2.1 h1).1 h3).1 h5).2 h8).1 h25).2.2.2.2)))))) (fun h26 => (dj_and (((((h.2.2.2.1 h1).1 h3).1 h5).2 h8).2 h26).1 (dj_and (((((h.2.2.2.1 h1).1 h3).1 h5).2 h8).2 h26).2.1 (dj_and (((((h.2.2.2.1 h1).1 h3).1 h5).2 h8).2 h26).2.2.1 (dj_q_Mo_begin_538  (fun _ h28 => (kQ _ _ h28)) kQ _ _ _ (((((h.2.2.2.1 h1).1 h3).1 h5).2 h8).2 h26).2.2.2))))))))) (fun h6 => (dj_if (fun h29 => (dj_and ((((h.2.2.2.1 h1).1 h3).2 h6).1 h29).1 (dj_and ((((h.2.2.2.1 h1).1 h3).2 h6).1 h29).2.1 (dj_q_Mo_begin_538  (fun _ h31 => (kQ _ _ h31)) kQ _ _ _ ((((h.2.2.2.1 h1).1 h3).2 h6).1 h29).2.2)))) (fun h30 => (dj_and ((((h.2.2.2.1 h1).1 h3).2 h6).2 h30).1 (dj_and ((((h.2.2.2.1 h1).1 h3).2 h6).2 h30).2.1 (dj_q_Mo_begin_538  (fun _ h32 => (kQ _ _ h32)) kQ _ _ _ ((((h.2.2.2.1 h1).1 h3).2 h6).2 h30).2.2)))))))) (fun h4 => (dj_and ((h.2.2.2.1 h1).2 h4).1 (dj_and ((h.2.2.2.1 h1).2 h4).2.1 (dj_and ((h.2.2.2.1 h1).2 h4).2.2.1 (dj_if (fun h33 => (dj_q_Mo_begin_331  kQ (((h.2.2.2.1 h1).2 h4).2.2.2.1 h33))) (fun h34 => (dj_q_Mo_begin_331  kQ (((h.2.2.2.1 h1).2 h4).2.2.2.2 h34)))))))))) (fun h2 => (dj_and (h.2.2.2.2 h2).1 (dj_and (h.2.2.2.2 h2).2.1 (dj_q_Mo_begin_538  (fun _ h35 => (kQ _ _ h35)) kQ _ _ _ (h.2.2.2.2 h2).2.2))))))))
theorem dj_q_Mo_begin_182 {I : Type} {y182_1 : Int32} {y182_2 : Int32} {y182_3 : Int32} {y182_4 : Int32} {y182_6 : Int64} {ys182_0 : Int64} {w : MW} {Q1 : Int32 → MW → Prop} {Q3 : I → Int32 → MW → Prop}  (kQ : ∀ x0 x1, Q1 x0 x1 → ∃ i : I, Q3 i x0 x1) (h : q_Mo_begin_182 y182_1 y182_2 y182_3 y182_4 y182_6 ys182_0 w Q1) : ∃ i : I, q_Mo_begin_182 y182_1 y182_2 y182_3 y182_4 y182_6 ys182_0 w (Q3 i) := by
  have h := Eq.mp (q_Mo_begin_182.eq_1 ..) h
  refine dj_eq (fun i => (q_Mo_begin_182.eq_1 ..)) ?_
  exact (dj_p_Mo_isBad h (fun _ _ h1 => (dj_if (fun h2 => (dj_and (h1.1 h2).1 (dj_and (h1.1 h2).2.1 (dj_and (h1.1 h2).2.2.1 (dj_and (h1.1 h2).2.2.2.1 (dj_and (h1.1 h2).2.2.2.2.1 (dj_if (fun h4 => (dj_q_Mo_begin_248  kQ ((h1.1 h2).2.2.2.2.2.1 h4))) (fun h5 => (dj_q_Mo_begin_248  kQ ((h1.1 h2).2.2.2.2.2.2 h5)))))))))) (fun h3 => (kQ _ _ (h1.2 h3))))))
theorem dj_q_Mo_begin_157 {I : Type} {y157_1 : Int32} {y157_2 : Int32} {y157_3 : Int32} {y157_4 : Int32} {ys157_0 : Int64} {w : MW} {Q1 : Int32 → MW → Prop} {Q3 : I → Int32 → MW → Prop}  (kQ : ∀ x0 x1, Q1 x0 x1 → ∃ i : I, Q3 i x0 x1) (h : q_Mo_begin_157 y157_1 y157_2 y157_3 y157_4 ys157_0 w Q1) : ∃ i : I, q_Mo_begin_157 y157_1 y157_2 y157_3 y157_4 ys157_0 w (Q3 i) := by
  have h := Eq.mp (q_Mo_begin_157.eq_1 ..) h
  refine dj_eq (fun i => (q_Mo_begin_157.eq_1 ..)) ?_
  exact (dj_if (fun h1 => (dj_q_Mo_begin_182  kQ (h.1 h1))) (fun h2 => (dj_p_Tx_kid (h.2 h2) (fun _ _ h3 => (dj_p_Mo_reckon h3 (fun _ _ h4 => (dj_q_Mo_begin_182  kQ h4)))))))
theorem dj_q_Mo_begin_133 {I : Type} {y133_1 : Int32} {y133_2 : Int32} {y133_3 : Int32} {y133_4 : Int32} {ys133_0 : Int32} {w : MW} {Q1 : Int32 → MW → Prop} {Q3 : I → Int32 → MW → Prop}  (kQ : ∀ x0 x1, Q1 x0 x1 → ∃ i : I, Q3 i x0 x1) (h : q_Mo_begin_133 y133_1 y133_2 y133_3 y133_4 ys133_0 w Q1) : ∃ i : I, q_Mo_begin_133 y133_1 y133_2 y133_3 y133_4 ys133_0 w (Q3 i) := by
  have h := Eq.mp (q_Mo_begin_133.eq_1 ..) h
  refine dj_eq (fun i => (q_Mo_begin_133.eq_1 ..)) ?_
  exact (dj_if (fun h1 => (dj_q_Mo_begin_157  kQ (h.1 h1))) (fun h2 => (dj_p_Tx_kid (h.2 h2) (fun _ _ h3 => (dj_p_Mo_reckon h3 (fun _ _ h4 => (dj_q_Mo_begin_157  kQ h4)))))))
theorem dj_q_Mo_begin_72 {I : Type} {y72_1 : Int32} {y72_2 : Int32} {y72_3 : Int32} {ys72_0 : Int32} {ys72_1 : Int32} {w : MW} {Q1 : Int32 → MW → Prop} {Q3 : I → Int32 → MW → Prop}  (kQ : ∀ x0 x1, Q1 x0 x1 → ∃ i : I, Q3 i x0 x1) (h : q_Mo_begin_72 y72_1 y72_2 y72_3 ys72_0 ys72_1 w Q1) : ∃ i : I, q_Mo_begin_72 y72_1 y72_2 y72_3 ys72_0 ys72_1 w (Q3 i) := by
  have h := Eq.mp (q_Mo_begin_72.eq_1 ..) h
  refine dj_eq (fun i => (q_Mo_begin_72.eq_1 ..)) ?_
  exact (dj_p_Tx_node1 h (fun _ _ h1 => (dj_if (fun h2 => (dj_q_Mo_begin_133  kQ (h1.1 h2))) (fun h3 => (dj_if (fun h4 => (dj_q_Mo_begin_133  kQ ((h1.2 h3).1 h4))) (fun h5 => (dj_if (fun h6 => (dj_q_Mo_begin_133  kQ (((h1.2 h3).2 h5).1 h6))) (fun h7 => (dj_if (fun h8 => (dj_q_Mo_begin_133  kQ ((((h1.2 h3).2 h5).2 h7).1 h8))) (fun h9 => (dj_if (fun h10 => (dj_q_Mo_begin_133  kQ (((((h1.2 h3).2 h5).2 h7).2 h9).1 h10))) (fun h11 => (dj_if (fun h12 => (dj_q_Mo_begin_133  kQ ((((((h1.2 h3).2 h5).2 h7).2 h9).2 h11).1 h12))) (fun h13 => (dj_if (fun h14 => (dj_q_Mo_begin_133  kQ (((((((h1.2 h3).2 h5).2 h7).2 h9).2 h11).2 h13).1 h14))) (fun h15 => (dj_q_Mo_begin_133  kQ (((((((h1.2 h3).2 h5).2 h7).2 h9).2 h11).2 h13).2 h15))))))))))))))))))
theorem dj_q_Mo_begin_46 {I : Type} {y46_1 : Int32} {y46_2 : Int32} {y46_3 : Int32} {w : MW} {Q1 : Int32 → MW → Prop} {Q3 : I → Int32 → MW → Prop}  (kQ : ∀ x0 x1, Q1 x0 x1 → ∃ i : I, Q3 i x0 x1) (h : q_Mo_begin_46 y46_1 y46_2 y46_3 w Q1) : ∃ i : I, q_Mo_begin_46 y46_1 y46_2 y46_3 w (Q3 i) := by
  have h := Eq.mp (q_Mo_begin_46.eq_1 ..) h
  refine dj_eq (fun i => (q_Mo_begin_46.eq_1 ..)) ?_
  exact (dj_if (fun h1 => (dj_q_Mo_begin_72  kQ (h.1 h1))) (fun h2 => (dj_q_Mo_begin_72  kQ (h.2 h2))))
theorem dj_p_Mo_begin {I : Type} {w : MW} {a0 : Int32} {Q1 : Int32 → MW → Prop} {Q3 : I → Int32 → MW → Prop}  (h : p_Mo_begin w a0 Q1) (kQ : ∀ x0 x1, Q1 x0 x1 → ∃ i : I, Q3 i x0 x1) : ∃ i : I, p_Mo_begin w a0 (Q3 i) := by
  have h := Eq.mp (p_Mo_begin.eq_1 ..) h
  refine dj_eq (fun i => (p_Mo_begin.eq_1 ..)) ?_
  exact (dj_and h.1 (dj_p_Mo_kind h.2 (fun _ _ h1 => (dj_if (fun h2 => (dj_p_Mo_raise (h1.1 h2) (fun _ h4 => (kQ _ _ h4)))) (fun h3 => (dj_if (fun h5 => (dj_q_Mo_begin_46  kQ ((h1.2 h3).1 h5))) (fun h6 => (dj_if (fun h7 => (dj_q_Mo_begin_46  kQ (((h1.2 h3).2 h6).1 h7))) (fun h8 => (dj_p_Mo_raise (((h1.2 h3).2 h6).2 h8) (fun _ h9 => (kQ _ _ h9))))))))))))
theorem ex_p_Mo_begin {w : MW} {a0 : Int32} {Q : Int32 → MW → Prop} (h : p_Mo_begin w a0 Q) : ∃ (r1 : Int32) (w1 : MW), Q r1 w1 ∧ p_Mo_begin w a0 (fun r u => r = r1 ∧ u = w1) := by
  obtain ⟨i, hi⟩ := dj_p_Mo_begin (I := {x : Int32 × MW // Q x.1 x.2}) (Q3 := fun i r u => r = i.1.1 ∧ u = i.1.2) h (fun r u q => ⟨⟨(r, u), q⟩, rfl, rfl⟩)
  exact ⟨i.1.1, i.1.2, i.2, hi⟩
theorem dj_q_Mo_goRamp_127 {I : Type} {y127_1 : Int32} {y127_4 : Int32} {ys127_0 : Int64} {ys127_1 : Int64} {w : MW} {Q1 : Int32 → MW → Prop} {Q3 : I → Int32 → MW → Prop}  (kQ : ∀ x0 x1, Q1 x0 x1 → ∃ i : I, Q3 i x0 x1) (h : q_Mo_goRamp_127 y127_1 y127_4 ys127_0 ys127_1 w Q1) : ∃ i : I, q_Mo_goRamp_127 y127_1 y127_4 ys127_0 ys127_1 w (Q3 i) := by
  have h := Eq.mp (q_Mo_goRamp_127.eq_1 ..) h
  refine dj_eq (fun i => (q_Mo_goRamp_127.eq_1 ..)) ?_
  exact (dj_and h.1 (dj_and h.2.1 (kQ _ _ h.2.2)))
theorem dj_p_Mo_goRamp {I : Type} {w : MW} {a0 : Int32} {Q1 : Int32 → MW → Prop} {Q3 : I → Int32 → MW → Prop}  (h : p_Mo_goRamp w a0 Q1) (kQ : ∀ x0 x1, Q1 x0 x1 → ∃ i : I, Q3 i x0 x1) : ∃ i : I, p_Mo_goRamp w a0 (Q3 i) := by
  have h := Eq.mp (p_Mo_goRamp.eq_1 ..) h
  refine dj_eq (fun i => (p_Mo_goRamp.eq_1 ..)) ?_
  exact (dj_and h.1 (dj_and h.2.1 (dj_p_Tx_node1 h.2.2 (fun _ _ h1 => (dj_and h1.1 (dj_and h1.2.1 (dj_if (fun h2 => (dj_and (h1.2.2.1 h2).1 (dj_and (h1.2.2.1 h2).2.1 (kQ _ _ (h1.2.2.1 h2).2.2)))) (fun h3 => (dj_and (h1.2.2.2 h3).1 (dj_if (fun h4 => (dj_if (fun h6 => (kQ _ _ (((h1.2.2.2 h3).2.1 h4).1 h6))) (fun h7 => (dj_and (((h1.2.2.2 h3).2.1 h4).2 h7).1 (dj_and (((h1.2.2.2 h3).2.1 h4).2 h7).2.1 (dj_and (((h1.2.2.2 h3).2.1 h4).2 h7).2.2.1 (dj_and (((h1.2.2.2 h3).2.1 h4).2 h7).2.2.2.1 (dj_and (((h1.2.2.2 h3).2.1 h4).2 h7).2.2.2.2.1 (dj_and (((h1.2.2.2 h3).2.1 h4).2 h7).2.2.2.2.2.1 (dj_if (fun h8 => (dj_q_Mo_goRamp_127  kQ ((((h1.2.2.2 h3).2.1 h4).2 h7).2.2.2.2.2.2.1 h8))) (fun h9 => (dj_q_Mo_goRamp_127  kQ ((((h1.2.2.2 h3).2.1 h4).2 h7).2.2.2.2.2.2.2 h9))))))))))))) (fun h5 => (dj_and ((h1.2.2.2 h3).2.2 h5).1 (dj_and ((h1.2.2.2 h3).2.2 h5).2.1 (kQ _ _ ((h1.2.2.2 h3).2.2 h5).2.2))))))))))))))
theorem ex_p_Mo_goRamp {w : MW} {a0 : Int32} {Q : Int32 → MW → Prop} (h : p_Mo_goRamp w a0 Q) : ∃ (r1 : Int32) (w1 : MW), Q r1 w1 ∧ p_Mo_goRamp w a0 (fun r u => r = r1 ∧ u = w1) := by
  obtain ⟨i, hi⟩ := dj_p_Mo_goRamp (I := {x : Int32 × MW // Q x.1 x.2}) (Q3 := fun i r u => r = i.1.1 ∧ u = i.1.2) h (fun r u q => ⟨⟨(r, u), q⟩, rfl, rfl⟩)
  exact ⟨i.1.1, i.1.2, i.2, hi⟩
theorem dj_p_Mo_goUntil {I : Type} {w : MW} {a0 : Int32} {Q1 : Int32 → MW → Prop} {Q3 : I → Int32 → MW → Prop}  (h : p_Mo_goUntil w a0 Q1) (kQ : ∀ x0 x1, Q1 x0 x1 → ∃ i : I, Q3 i x0 x1) : ∃ i : I, p_Mo_goUntil w a0 (Q3 i) := by
  have h := Eq.mp (p_Mo_goUntil.eq_1 ..) h
  refine dj_eq (fun i => (p_Mo_goUntil.eq_1 ..)) ?_
  exact (dj_and h.1 (dj_if (fun h1 => (dj_and (h.2.1 h1).1 (dj_if (fun h3 => (kQ _ _ ((h.2.1 h1).2.1 h3))) (fun h4 => (kQ _ _ ((h.2.1 h1).2.2 h4)))))) (fun h2 => (dj_and (h.2.2 h2).1 (dj_if (fun h5 => (dj_and ((h.2.2 h2).2.1 h5).1 (dj_if (fun h7 => (kQ _ _ (((h.2.2 h2).2.1 h5).2.1 h7))) (fun h8 => (kQ _ _ (((h.2.2 h2).2.1 h5).2.2 h8)))))) (fun h6 => (dj_and ((h.2.2 h2).2.2 h6).1 (dj_p_Tx_kid ((h.2.2 h2).2.2 h6).2 (fun _ _ h9 => (dj_p_Mo_reckon h9 (fun _ _ h10 => (dj_p_Mo_isBad h10 (fun _ _ h11 => (dj_if (fun h12 => (dj_if (fun h14 => (dj_and ((h11.1 h12).1 h14).1 (dj_and ((h11.1 h12).1 h14).2.1 (dj_if (fun h16 => (kQ _ _ (((h11.1 h12).1 h14).2.2.1 h16))) (fun h17 => (kQ _ _ (((h11.1 h12).1 h14).2.2.2 h17))))))) (fun h15 => (dj_and ((h11.1 h12).2 h15).1 (dj_and ((h11.1 h12).2 h15).2.1 (dj_if (fun h18 => (kQ _ _ (((h11.1 h12).2 h15).2.2.1 h18))) (fun h19 => (kQ _ _ (((h11.1 h12).2 h15).2.2.2 h19))))))))) (fun h13 => (kQ _ _ (h11.2 h13)))))))))))))))))
theorem ex_p_Mo_goUntil {w : MW} {a0 : Int32} {Q : Int32 → MW → Prop} (h : p_Mo_goUntil w a0 Q) : ∃ (r1 : Int32) (w1 : MW), Q r1 w1 ∧ p_Mo_goUntil w a0 (fun r u => r = r1 ∧ u = w1) := by
  obtain ⟨i, hi⟩ := dj_p_Mo_goUntil (I := {x : Int32 × MW // Q x.1 x.2}) (Q3 := fun i r u => r = i.1.1 ∧ u = i.1.2) h (fun r u q => ⟨⟨(r, u), q⟩, rfl, rfl⟩)
  exact ⟨i.1.1, i.1.2, i.2, hi⟩
theorem dj_q_Mo_go_207 {I : Type} {r_Mo_go : MW → Int32 → (Int32 → MW → Prop) → Prop} {r_Mo_goPar : MW → Int32 → (Int32 → MW → Prop) → Prop} {x207_1 : Int32} {E1 : MW → Prop} {E3 : I → MW → Prop} {Q1 : Int32 → MW → Prop} {Q3 : I → Int32 → MW → Prop} (ir_Mo_go : ∀ {z0 : MW} {z1 : Int32} {R1 : Int32 → MW → Prop} {R3 : I → Int32 → MW → Prop}, r_Mo_go z0 z1 R1 → (∀ y0 y1, R1 y0 y1 → ∃ i : I, R3 i y0 y1) → ∃ i : I, r_Mo_go z0 z1 (R3 i)) (ir_Mo_goPar : ∀ {z0 : MW} {z1 : Int32} {R1 : Int32 → MW → Prop} {R3 : I → Int32 → MW → Prop}, r_Mo_goPar z0 z1 R1 → (∀ y0 y1, R1 y0 y1 → ∃ i : I, R3 i y0 y1) → ∃ i : I, r_Mo_goPar z0 z1 (R3 i)) (kE : ∀ x0, E1 x0 → ∃ i : I, E3 i x0) (kQ : ∀ x0 x1, Q1 x0 x1 → ∃ i : I, Q3 i x0 x1) : ∀ (m : Nat) (w : MW), q_Mo_go_207 r_Mo_go r_Mo_goPar x207_1 E1 Q1 m w → ∃ i : I, q_Mo_go_207 r_Mo_go r_Mo_goPar x207_1 (E3 i) (Q3 i) m w := by
  intro m
  induction m with
  | zero => exact fun _ h => False.elim h
  | succ m ih =>
    intro w h
    have h := Eq.mp (q_Mo_go_207.eq_2 ..) h
    refine dj_eq (fun i => (q_Mo_go_207.eq_2 ..)) ?_
    exact (dj_and h.1 (dj_if (fun h1 => (kE _ (h.2.1 h1))) (fun h2 => (dj_and (h.2.2 h2).1 (ir_Mo_go (h.2.2 h2).2 (fun _ _ h3 => (dj_if (fun h4 => (dj_and (h3.1 h4).1 (dj_and (h3.1 h4).2.1 (dj_and (h3.1 h4).2.2.1 (dj_and (h3.1 h4).2.2.2.1 (ih _ (h3.1 h4).2.2.2.2)))))) (fun h5 => (kQ _ _ (h3.2 h5))))))))))
theorem dj_q_Mo_go_92 {I : Type} {r_Mo_go : MW → Int32 → (Int32 → MW → Prop) → Prop} {r_Mo_goPar : MW → Int32 → (Int32 → MW → Prop) → Prop} {x92_1 : Int32} {E1 : MW → Prop} {E3 : I → MW → Prop} {Q1 : Int32 → MW → Prop} {Q3 : I → Int32 → MW → Prop} (ir_Mo_go : ∀ {z0 : MW} {z1 : Int32} {R1 : Int32 → MW → Prop} {R3 : I → Int32 → MW → Prop}, r_Mo_go z0 z1 R1 → (∀ y0 y1, R1 y0 y1 → ∃ i : I, R3 i y0 y1) → ∃ i : I, r_Mo_go z0 z1 (R3 i)) (ir_Mo_goPar : ∀ {z0 : MW} {z1 : Int32} {R1 : Int32 → MW → Prop} {R3 : I → Int32 → MW → Prop}, r_Mo_goPar z0 z1 R1 → (∀ y0 y1, R1 y0 y1 → ∃ i : I, R3 i y0 y1) → ∃ i : I, r_Mo_goPar z0 z1 (R3 i)) (kE : ∀ x0, E1 x0 → ∃ i : I, E3 i x0) (kQ : ∀ x0 x1, Q1 x0 x1 → ∃ i : I, Q3 i x0 x1) : ∀ (m : Nat) (w : MW), q_Mo_go_92 r_Mo_go r_Mo_goPar x92_1 E1 Q1 m w → ∃ i : I, q_Mo_go_92 r_Mo_go r_Mo_goPar x92_1 (E3 i) (Q3 i) m w := by
  intro m
  induction m with
  | zero => exact fun _ h => False.elim h
  | succ m ih =>
    intro w h
    have h := Eq.mp (q_Mo_go_92.eq_2 ..) h
    refine dj_eq (fun i => (q_Mo_go_92.eq_2 ..)) ?_
    exact (dj_and h.1 (dj_if (fun h1 => (kE _ (h.2.1 h1))) (fun h2 => (dj_and (h.2.2 h2).1 (ir_Mo_go (h.2.2 h2).2 (fun _ _ h3 => (dj_if (fun h4 => (dj_and (h3.1 h4).1 (dj_and (h3.1 h4).2.1 (dj_and (h3.1 h4).2.2.1 (ih _ (h3.1 h4).2.2.2))))) (fun h5 => (kQ _ _ (h3.2 h5))))))))))
theorem dj_q_Mo_go_19 {I : Type} {r_Mo_go : MW → Int32 → (Int32 → MW → Prop) → Prop} {r_Mo_goPar : MW → Int32 → (Int32 → MW → Prop) → Prop} {y19_1 : Int32} {w : MW} {Q1 : Int32 → MW → Prop} {Q3 : I → Int32 → MW → Prop} (ir_Mo_go : ∀ {z0 : MW} {z1 : Int32} {R1 : Int32 → MW → Prop} {R3 : I → Int32 → MW → Prop}, r_Mo_go z0 z1 R1 → (∀ y0 y1, R1 y0 y1 → ∃ i : I, R3 i y0 y1) → ∃ i : I, r_Mo_go z0 z1 (R3 i)) (ir_Mo_goPar : ∀ {z0 : MW} {z1 : Int32} {R1 : Int32 → MW → Prop} {R3 : I → Int32 → MW → Prop}, r_Mo_goPar z0 z1 R1 → (∀ y0 y1, R1 y0 y1 → ∃ i : I, R3 i y0 y1) → ∃ i : I, r_Mo_goPar z0 z1 (R3 i)) (kQ : ∀ x0 x1, Q1 x0 x1 → ∃ i : I, Q3 i x0 x1) (h : q_Mo_go_19 r_Mo_go r_Mo_goPar y19_1 w Q1) : ∃ i : I, q_Mo_go_19 r_Mo_go r_Mo_goPar y19_1 w (Q3 i) := by
  have h := Eq.mp (q_Mo_go_19.eq_1 ..) h
  refine dj_eq (fun i => (q_Mo_go_19.eq_1 ..)) ?_
  exact (dj_p_Mo_kind h (fun _ _ h1 => (dj_if (fun h2 => (dj_and (h1.1 h2).1 (dj_and (h1.1 h2).2.1 (dj_if (fun h4 => (kQ _ _ ((h1.1 h2).2.2.1 h4))) (fun h5 => (kQ _ _ ((h1.1 h2).2.2.2 h5))))))) (fun h3 => (dj_if (fun h6 => (dj_p_Mo_goUntil ((h1.2 h3).1 h6) (fun _ _ h8 => (kQ _ _ h8)))) (fun h7 => (dj_if (fun h9 => (dj_p_Mo_goRamp (((h1.2 h3).2 h7).1 h9) (fun _ _ h11 => (kQ _ _ h11)))) (fun h10 => (dj_if (fun h12 => (ir_Mo_goPar ((((h1.2 h3).2 h7).2 h10).1 h12) (fun _ _ h14 => (kQ _ _ h14)))) (fun h13 => (dj_if (fun h15 => (dj_and (((((h1.2 h3).2 h7).2 h10).2 h13).1 h15).1 (dj_if (fun h17 => (dj_and ((((((h1.2 h3).2 h7).2 h10).2 h13).1 h15).2.1 h17).1 (ir_Mo_go ((((((h1.2 h3).2 h7).2 h10).2 h13).1 h15).2.1 h17).2 (fun _ _ h19 => (kQ _ _ h19))))) (fun h18 => (kQ _ _ ((((((h1.2 h3).2 h7).2 h10).2 h13).1 h15).2.2 h18)))))) (fun h16 => (dj_if (fun h20 => (dj_q_Mo_go_207 @ir_Mo_go @ir_Mo_goPar (fun _ h22 => (kQ _ _ h22)) kQ _ _ ((((((h1.2 h3).2 h7).2 h10).2 h13).2 h16).1 h20))) (fun h21 => (dj_if (fun h23 => (dj_and (((((((h1.2 h3).2 h7).2 h10).2 h13).2 h16).2 h21).1 h23).1 (dj_if (fun h25 => (dj_and ((((((((h1.2 h3).2 h7).2 h10).2 h13).2 h16).2 h21).1 h23).2.1 h25).1 (ir_Mo_go ((((((((h1.2 h3).2 h7).2 h10).2 h13).2 h16).2 h21).1 h23).2.1 h25).2 (fun _ _ h27 => (kQ _ _ h27))))) (fun h26 => (kQ _ _ ((((((((h1.2 h3).2 h7).2 h10).2 h13).2 h16).2 h21).1 h23).2.2 h26)))))) (fun h24 => (dj_if (fun h28 => (dj_and ((((((((h1.2 h3).2 h7).2 h10).2 h13).2 h16).2 h21).2 h24).1 h28).1 (dj_if (fun h30 => (kQ _ _ (((((((((h1.2 h3).2 h7).2 h10).2 h13).2 h16).2 h21).2 h24).1 h28).2.1 h30))) (fun h31 => (kQ _ _ (((((((((h1.2 h3).2 h7).2 h10).2 h13).2 h16).2 h21).2 h24).1 h28).2.2 h31)))))) (fun h29 => (dj_if (fun h32 => (dj_and (((((((((h1.2 h3).2 h7).2 h10).2 h13).2 h16).2 h21).2 h24).2 h29).1 h32).1 (dj_if (fun h34 => (dj_and ((((((((((h1.2 h3).2 h7).2 h10).2 h13).2 h16).2 h21).2 h24).2 h29).1 h32).2.1 h34).1 (ir_Mo_go ((((((((((h1.2 h3).2 h7).2 h10).2 h13).2 h16).2 h21).2 h24).2 h29).1 h32).2.1 h34).2 (fun _ _ h36 => (kQ _ _ h36))))) (fun h35 => (kQ _ _ ((((((((((h1.2 h3).2 h7).2 h10).2 h13).2 h16).2 h21).2 h24).2 h29).1 h32).2.2 h35)))))) (fun h33 => (dj_if (fun h37 => (kQ _ _ ((((((((((h1.2 h3).2 h7).2 h10).2 h13).2 h16).2 h21).2 h24).2 h29).2 h33).1 h37))) (fun h38 => (dj_if (fun h39 => (kQ _ _ (((((((((((h1.2 h3).2 h7).2 h10).2 h13).2 h16).2 h21).2 h24).2 h29).2 h33).2 h38).1 h39))) (fun h40 => (dj_if (fun h41 => (kQ _ _ ((((((((((((h1.2 h3).2 h7).2 h10).2 h13).2 h16).2 h21).2 h24).2 h29).2 h33).2 h38).2 h40).1 h41))) (fun h42 => (dj_if (fun h43 => (dj_q_Mo_go_92 @ir_Mo_go @ir_Mo_goPar (fun _ h45 => (kQ _ _ h45)) kQ _ _ (((((((((((((h1.2 h3).2 h7).2 h10).2 h13).2 h16).2 h21).2 h24).2 h29).2 h33).2 h38).2 h40).2 h42).1 h43))) (fun h44 => (kQ _ _ (((((((((((((h1.2 h3).2 h7).2 h10).2 h13).2 h16).2 h21).2 h24).2 h29).2 h33).2 h38).2 h40).2 h42).2 h44))))))))))))))))))))))))))))))
theorem dj_q_Mo_goPar_62 {I : Type} {r_Mo_go : MW → Int32 → (Int32 → MW → Prop) → Prop} {r_Mo_goPar : MW → Int32 → (Int32 → MW → Prop) → Prop} {y62_2 : Int32} {y62_3 : Int32} {w : MW} {A1 : Int32 → Int32 → MW → Prop} {A3 : I → Int32 → Int32 → MW → Prop} {E1 : Int32 → MW → Prop} {E3 : I → Int32 → MW → Prop} {Q1 : Int32 → MW → Prop} {Q3 : I → Int32 → MW → Prop} (ir_Mo_go : ∀ {z0 : MW} {z1 : Int32} {R1 : Int32 → MW → Prop} {R3 : I → Int32 → MW → Prop}, r_Mo_go z0 z1 R1 → (∀ y0 y1, R1 y0 y1 → ∃ i : I, R3 i y0 y1) → ∃ i : I, r_Mo_go z0 z1 (R3 i)) (ir_Mo_goPar : ∀ {z0 : MW} {z1 : Int32} {R1 : Int32 → MW → Prop} {R3 : I → Int32 → MW → Prop}, r_Mo_goPar z0 z1 R1 → (∀ y0 y1, R1 y0 y1 → ∃ i : I, R3 i y0 y1) → ∃ i : I, r_Mo_goPar z0 z1 (R3 i)) (kA : ∀ x0 x1 x2, A1 x0 x1 x2 → ∃ i : I, A3 i x0 x1 x2) (kE : ∀ x0 x1, E1 x0 x1 → ∃ i : I, E3 i x0 x1) (kQ : ∀ x0 x1, Q1 x0 x1 → ∃ i : I, Q3 i x0 x1) (h : q_Mo_goPar_62 r_Mo_go r_Mo_goPar y62_2 y62_3 w A1 E1 Q1) : ∃ i : I, q_Mo_goPar_62 r_Mo_go r_Mo_goPar y62_2 y62_3 w (A3 i) (E3 i) (Q3 i) := by
  have h := Eq.mp (q_Mo_goPar_62.eq_1 ..) h
  refine dj_eq (fun i => (q_Mo_goPar_62.eq_1 ..)) ?_
  exact (dj_if (fun h1 => (dj_and (h.1 h1).1 (kA _ _ _ (h.1 h1).2))) (fun h2 => (dj_and (h.2 h2).1 (dj_if (fun h3 => (dj_and ((h.2 h2).2.1 h3).1 (kA _ _ _ ((h.2 h2).2.1 h3).2))) (fun h4 => (dj_and ((h.2 h2).2.2 h4).1 (kA _ _ _ ((h.2 h2).2.2 h4).2)))))))
theorem dj_q_Mo_goPar_9 {I : Type} {r_Mo_go : MW → Int32 → (Int32 → MW → Prop) → Prop} {r_Mo_goPar : MW → Int32 → (Int32 → MW → Prop) → Prop} {E1 : Int32 → MW → Prop} {E3 : I → Int32 → MW → Prop} {Q1 : Int32 → MW → Prop} {Q3 : I → Int32 → MW → Prop} (ir_Mo_go : ∀ {z0 : MW} {z1 : Int32} {R1 : Int32 → MW → Prop} {R3 : I → Int32 → MW → Prop}, r_Mo_go z0 z1 R1 → (∀ y0 y1, R1 y0 y1 → ∃ i : I, R3 i y0 y1) → ∃ i : I, r_Mo_go z0 z1 (R3 i)) (ir_Mo_goPar : ∀ {z0 : MW} {z1 : Int32} {R1 : Int32 → MW → Prop} {R3 : I → Int32 → MW → Prop}, r_Mo_goPar z0 z1 R1 → (∀ y0 y1, R1 y0 y1 → ∃ i : I, R3 i y0 y1) → ∃ i : I, r_Mo_goPar z0 z1 (R3 i)) (kE : ∀ x0 x1, E1 x0 x1 → ∃ i : I, E3 i x0 x1) (kQ : ∀ x0 x1, Q1 x0 x1 → ∃ i : I, Q3 i x0 x1) : ∀ (m : Nat) (x9_2 : Int32) (x9_3 : Int32) (w : MW), q_Mo_goPar_9 r_Mo_go r_Mo_goPar E1 Q1 m x9_2 x9_3 w → ∃ i : I, q_Mo_goPar_9 r_Mo_go r_Mo_goPar (E3 i) (Q3 i) m x9_2 x9_3 w := by
  intro m
  induction m with
  | zero => exact fun _ _ _ h => False.elim h
  | succ m ih =>
    intro x9_2 x9_3 w h
    have h := Eq.mp (q_Mo_goPar_9.eq_2 ..) h
    refine dj_eq (fun i => (q_Mo_goPar_9.eq_2 ..)) ?_
    exact (dj_if (fun h1 => (kE _ _ (h.1 h1))) (fun h2 => (dj_and (h.2 h2).1 (dj_if (fun h3 => (dj_q_Mo_goPar_62 @ir_Mo_go @ir_Mo_goPar (fun _ _ _ h5 => (ih _ _ _ h5)) kE kQ ((h.2 h2).2.1 h3))) (fun h4 => (ir_Mo_go ((h.2 h2).2.2 h4) (fun _ _ h6 => (dj_if (fun h7 => (kQ _ _ (h6.1 h7))) (fun h8 => (dj_if (fun h9 => (dj_if (fun h11 => (dj_and (((h6.2 h8).1 h9).1 h11).1 (dj_q_Mo_goPar_62 @ir_Mo_go @ir_Mo_goPar (fun _ _ _ h13 => (ih _ _ _ h13)) kE kQ (((h6.2 h8).1 h9).1 h11).2))) (fun h12 => (dj_and (((h6.2 h8).1 h9).2 h12).1 (dj_q_Mo_goPar_62 @ir_Mo_go @ir_Mo_goPar (fun _ _ _ h14 => (ih _ _ _ h14)) kE kQ (((h6.2 h8).1 h9).2 h12).2))))) (fun h10 => (kQ _ _ ((h6.2 h8).2 h10)))))))))))))
theorem dj_pb_Mo_go {I : Type} {r_Mo_go : MW → Int32 → (Int32 → MW → Prop) → Prop} {r_Mo_goPar : MW → Int32 → (Int32 → MW → Prop) → Prop} {w : MW} {a0 : Int32} {Q1 : Int32 → MW → Prop} {Q3 : I → Int32 → MW → Prop} (ir_Mo_go : ∀ {z0 : MW} {z1 : Int32} {R1 : Int32 → MW → Prop} {R3 : I → Int32 → MW → Prop}, r_Mo_go z0 z1 R1 → (∀ y0 y1, R1 y0 y1 → ∃ i : I, R3 i y0 y1) → ∃ i : I, r_Mo_go z0 z1 (R3 i)) (ir_Mo_goPar : ∀ {z0 : MW} {z1 : Int32} {R1 : Int32 → MW → Prop} {R3 : I → Int32 → MW → Prop}, r_Mo_goPar z0 z1 R1 → (∀ y0 y1, R1 y0 y1 → ∃ i : I, R3 i y0 y1) → ∃ i : I, r_Mo_goPar z0 z1 (R3 i)) (h : pb_Mo_go r_Mo_go r_Mo_goPar w a0 Q1) (kQ : ∀ x0 x1, Q1 x0 x1 → ∃ i : I, Q3 i x0 x1) : ∃ i : I, pb_Mo_go r_Mo_go r_Mo_goPar w a0 (Q3 i) := by
  have h := Eq.mp (pb_Mo_go.eq_1 ..) h
  refine dj_eq (fun i => (pb_Mo_go.eq_1 ..)) ?_
  exact (dj_and h.1 (dj_if (fun h1 => (dj_q_Mo_go_19 @ir_Mo_go @ir_Mo_goPar kQ (h.2.1 h1))) (fun h2 => (dj_p_Mo_begin (h.2.2 h2) (fun _ _ h3 => (dj_if (fun h4 => (dj_q_Mo_go_19 @ir_Mo_go @ir_Mo_goPar kQ (h3.1 h4))) (fun h5 => (kQ _ _ (h3.2 h5)))))))))
theorem dj_pb_Mo_goPar {I : Type} {r_Mo_go : MW → Int32 → (Int32 → MW → Prop) → Prop} {r_Mo_goPar : MW → Int32 → (Int32 → MW → Prop) → Prop} {w : MW} {a0 : Int32} {Q1 : Int32 → MW → Prop} {Q3 : I → Int32 → MW → Prop} (ir_Mo_go : ∀ {z0 : MW} {z1 : Int32} {R1 : Int32 → MW → Prop} {R3 : I → Int32 → MW → Prop}, r_Mo_go z0 z1 R1 → (∀ y0 y1, R1 y0 y1 → ∃ i : I, R3 i y0 y1) → ∃ i : I, r_Mo_go z0 z1 (R3 i)) (ir_Mo_goPar : ∀ {z0 : MW} {z1 : Int32} {R1 : Int32 → MW → Prop} {R3 : I → Int32 → MW → Prop}, r_Mo_goPar z0 z1 R1 → (∀ y0 y1, R1 y0 y1 → ∃ i : I, R3 i y0 y1) → ∃ i : I, r_Mo_goPar z0 z1 (R3 i)) (h : pb_Mo_goPar r_Mo_go r_Mo_goPar w a0 Q1) (kQ : ∀ x0 x1, Q1 x0 x1 → ∃ i : I, Q3 i x0 x1) : ∃ i : I, pb_Mo_goPar r_Mo_go r_Mo_goPar w a0 (Q3 i) := by
  have h := Eq.mp (pb_Mo_goPar.eq_1 ..) h
  refine dj_eq (fun i => (pb_Mo_goPar.eq_1 ..)) ?_
  exact (dj_and h.1 (dj_q_Mo_goPar_9 @ir_Mo_go @ir_Mo_goPar (fun _ _ h1 => (dj_if (fun h2 => (kQ _ _ (h1.1 h2))) (fun h3 => (kQ _ _ (h1.2 h3))))) kQ _ _ _ _ h.2))
theorem djg_Mo_go {I : Type} : ∀ n : Nat, (∀ (w : MW) (a0 : Int32) (R1 : Int32 → MW → Prop) (R3 : I → Int32 → MW → Prop), pn_Mo_go n w a0 R1 → (∀ y0 y1, R1 y0 y1 → ∃ i : I, R3 i y0 y1) → ∃ i : I, pn_Mo_go n w a0 (R3 i)) ∧ (∀ (w : MW) (a0 : Int32) (R1 : Int32 → MW → Prop) (R3 : I → Int32 → MW → Prop), pn_Mo_goPar n w a0 R1 → (∀ y0 y1, R1 y0 y1 → ∃ i : I, R3 i y0 y1) → ∃ i : I, pn_Mo_goPar n w a0 (R3 i)) := by
  intro n
  induction n with
  | zero =>
    exact ⟨fun _ _ _ _ h _ => False.elim h, fun _ _ _ _ h _ => False.elim h⟩
  | succ n ih =>
    have i_Mo_go := ih.1
    have i_Mo_goPar := ih.2
    refine ⟨?_, ?_⟩
    · exact fun v0 v1 _ _ h k => by
        have h := Eq.mp (pe_Mo_go ..) h
        refine dj_eq (fun i => (pe_Mo_go ..)) ?_
        exact dj_pb_Mo_go (fun h k => i_Mo_go _ _ _ _ h k) (fun h k => i_Mo_goPar _ _ _ _ h k) h k
    · exact fun v0 v1 _ _ h k => by
        have h := Eq.mp (pe_Mo_goPar ..) h
        refine dj_eq (fun i => (pe_Mo_goPar ..)) ?_
        exact dj_pb_Mo_goPar (fun h k => i_Mo_go _ _ _ _ h k) (fun h k => i_Mo_goPar _ _ _ _ h k) h k
theorem dj_pn_Mo_go {I : Type} (n : Nat) {w : MW} {a0 : Int32} {Q1 : Int32 → MW → Prop} {Q3 : I → Int32 → MW → Prop} (h : pn_Mo_go n w a0 Q1) (kQ : ∀ x0 x1, Q1 x0 x1 → ∃ i : I, Q3 i x0 x1) : ∃ i : I, pn_Mo_go n w a0 (Q3 i) := (djg_Mo_go n).1 _ _ _ _ h kQ
theorem ex_pn_Mo_go (n : Nat) {w : MW} {a0 : Int32} {Q : Int32 → MW → Prop} (h : pn_Mo_go n w a0 Q) : ∃ (r1 : Int32) (w1 : MW), Q r1 w1 ∧ pn_Mo_go n w a0 (fun r u => r = r1 ∧ u = w1) := by
  obtain ⟨i, hi⟩ := dj_pn_Mo_go (I := {x : Int32 × MW // Q x.1 x.2}) (Q3 := fun i r u => r = i.1.1 ∧ u = i.1.2) n h (fun r u q => ⟨⟨(r, u), q⟩, rfl, rfl⟩)
  exact ⟨i.1.1, i.1.2, i.2, hi⟩
theorem dj_pn_Mo_goPar {I : Type} (n : Nat) {w : MW} {a0 : Int32} {Q1 : Int32 → MW → Prop} {Q3 : I → Int32 → MW → Prop} (h : pn_Mo_goPar n w a0 Q1) (kQ : ∀ x0 x1, Q1 x0 x1 → ∃ i : I, Q3 i x0 x1) : ∃ i : I, pn_Mo_goPar n w a0 (Q3 i) := (djg_Mo_go n).2 _ _ _ _ h kQ
theorem ex_pn_Mo_goPar (n : Nat) {w : MW} {a0 : Int32} {Q : Int32 → MW → Prop} (h : pn_Mo_goPar n w a0 Q) : ∃ (r1 : Int32) (w1 : MW), Q r1 w1 ∧ pn_Mo_goPar n w a0 (fun r u => r = r1 ∧ u = w1) := by
  obtain ⟨i, hi⟩ := dj_pn_Mo_goPar (I := {x : Int32 × MW // Q x.1 x.2}) (Q3 := fun i r u => r = i.1.1 ∧ u = i.1.2) n h (fun r u q => ⟨⟨(r, u), q⟩, rfl, rfl⟩)
  exact ⟨i.1.1, i.1.2, i.2, hi⟩
theorem dj_p_Mo_go {I : Type} {w : MW} {a0 : Int32} {Q1 : Int32 → MW → Prop} {Q3 : I → Int32 → MW → Prop} (h : p_Mo_go w a0 Q1) (kQ : ∀ x0 x1, Q1 x0 x1 → ∃ i : I, Q3 i x0 x1) : ∃ i : I, p_Mo_go w a0 (Q3 i) := dj_pn_Mo_go _ h kQ
theorem ex_p_Mo_go {w : MW} {a0 : Int32} {Q : Int32 → MW → Prop} (h : p_Mo_go w a0 Q) : ∃ (r1 : Int32) (w1 : MW), Q r1 w1 ∧ p_Mo_go w a0 (fun r u => r = r1 ∧ u = w1) := by
  obtain ⟨i, hi⟩ := dj_p_Mo_go (I := {x : Int32 × MW // Q x.1 x.2}) (Q3 := fun i r u => r = i.1.1 ∧ u = i.1.2) h (fun r u q => ⟨⟨(r, u), q⟩, rfl, rfl⟩)
  exact ⟨i.1.1, i.1.2, i.2, hi⟩
theorem dj_q_Mo_limits_107 {I : Type} {r_Mo_limits : MW → Int32 → (Int32 → MW → Prop) → Prop} {y107_1 : Int32} {y107_2 : Int32} {w : MW} {Q1 : Int32 → MW → Prop} {Q3 : I → Int32 → MW → Prop} (ir_Mo_limits : ∀ {z0 : MW} {z1 : Int32} {R1 : Int32 → MW → Prop} {R3 : I → Int32 → MW → Prop}, r_Mo_limits z0 z1 R1 → (∀ y0 y1, R1 y0 y1 → ∃ i : I, R3 i y0 y1) → ∃ i : I, r_Mo_limits z0 z1 (R3 i)) (kQ : ∀ x0 x1, Q1 x0 x1 → ∃ i : I, Q3 i x0 x1) (h : q_Mo_limits_107 r_Mo_limits y107_1 y107_2 w Q1) : ∃ i : I, q_Mo_limits_107 r_Mo_limits y107_1 y107_2 w (Q3 i) := by
  have h := Eq.mp (q_Mo_limits_107.eq_1 ..) h
  refine dj_eq (fun i => (q_Mo_limits_107.eq_1 ..)) ?_
  exact (dj_and h.1 (dj_if (fun h1 => (dj_if (fun h3 => (dj_and ((h.2.1 h1).1 h3).1 (ir_Mo_limits ((h.2.1 h1).1 h3).2 (fun _ _ h5 => (kQ _ _ h5))))) (fun h4 => (dj_and ((h.2.1 h1).2 h4).1 (dj_and ((h.2.1 h1).2 h4).2.1 (dj_if (fun h6 => (dj_and (((h.2.1 h1).2 h4).2.2.1 h6).1 (ir_Mo_limits (((h.2.1 h1).2 h4).2.2.1 h6).2 (fun _ _ h8 => (kQ _ _ h8))))) (fun h7 => (dj_and (((h.2.1 h1).2 h4).2.2.2 h7).1 (dj_p_Tx_kid (((h.2.1 h1).2 h4).2.2.2 h7).2 (fun _ _ h9 => (dj_p_Mo_reckon h9 (fun _ _ h10 => (dj_p_Mo_isBad h10 (fun _ _ h11 => (dj_if (fun h12 => (dj_if (fun h14 => (dj_and ((h11.1 h12).1 h14).1 (ir_Mo_limits ((h11.1 h12).1 h14).2 (fun _ _ h16 => (kQ _ _ h16))))) (fun h15 => (dj_and ((h11.1 h12).2 h15).1 (dj_p_Mo_raise ((h11.1 h12).2 h15).2 (fun _ h17 => (dj_and h17.1 (dj_and h17.2.1 (dj_and h17.2.2.1 (dj_and h17.2.2.2.1 (dj_and h17.2.2.2.2.1 (kQ _ _ h17.2.2.2.2.2)))))))))))) (fun h13 => (kQ _ _ (h11.2 h13)))))))))))))))))) (fun h2 => (kQ _ _ (h.2.2 h2)))))
theorem dj_q_Mo_limits_30 {I : Type} {r_Mo_limits : MW → Int32 → (Int32 → MW → Prop) → Prop} {E1 : MW → Prop} {E3 : I → MW → Prop} {Q1 : Int32 → MW → Prop} {Q3 : I → Int32 → MW → Prop} (ir_Mo_limits : ∀ {z0 : MW} {z1 : Int32} {R1 : Int32 → MW → Prop} {R3 : I → Int32 → MW → Prop}, r_Mo_limits z0 z1 R1 → (∀ y0 y1, R1 y0 y1 → ∃ i : I, R3 i y0 y1) → ∃ i : I, r_Mo_limits z0 z1 (R3 i)) (kE : ∀ x0, E1 x0 → ∃ i : I, E3 i x0) (kQ : ∀ x0 x1, Q1 x0 x1 → ∃ i : I, Q3 i x0 x1) : ∀ (m : Nat) (x30_3 : Int32) (w : MW), q_Mo_limits_30 r_Mo_limits E1 Q1 m x30_3 w → ∃ i : I, q_Mo_limits_30 r_Mo_limits (E3 i) (Q3 i) m x30_3 w := by
  intro m
  induction m with
  | zero => exact fun _ _ h => False.elim h
  | succ m ih =>
    intro x30_3 w h
    have h := Eq.mp (q_Mo_limits_30.eq_2 ..) h
    refine dj_eq (fun i => (q_Mo_limits_30.eq_2 ..)) ?_
    exact (dj_if (fun h1 => (kE _ (h.1 h1))) (fun h2 => (dj_and (h.2 h2).1 (dj_if (fun h3 => (dj_and ((h.2 h2).2.1 h3).1 (ih _ _ ((h.2 h2).2.1 h3).2))) (fun h4 => (ir_Mo_limits ((h.2 h2).2.2 h4) (fun _ _ h5 => (dj_if (fun h6 => (dj_and (h5.1 h6).1 (ih _ _ (h5.1 h6).2))) (fun h7 => (kQ _ _ (h5.2 h7)))))))))))
theorem dj_pb_Mo_limits {I : Type} {r_Mo_limits : MW → Int32 → (Int32 → MW → Prop) → Prop} {w : MW} {a0 : Int32} {Q1 : Int32 → MW → Prop} {Q3 : I → Int32 → MW → Prop} (ir_Mo_limits : ∀ {z0 : MW} {z1 : Int32} {R1 : Int32 → MW → Prop} {R3 : I → Int32 → MW → Prop}, r_Mo_limits z0 z1 R1 → (∀ y0 y1, R1 y0 y1 → ∃ i : I, R3 i y0 y1) → ∃ i : I, r_Mo_limits z0 z1 (R3 i)) (h : pb_Mo_limits r_Mo_limits w a0 Q1) (kQ : ∀ x0 x1, Q1 x0 x1 → ∃ i : I, Q3 i x0 x1) : ∃ i : I, pb_Mo_limits r_Mo_limits w a0 (Q3 i) := by
  have h := Eq.mp (pb_Mo_limits.eq_1 ..) h
  refine dj_eq (fun i => (pb_Mo_limits.eq_1 ..)) ?_
  exact (dj_and h.1 (dj_if (fun h1 => (dj_p_Mo_kind (h.2.1 h1) (fun _ _ h3 => (dj_if (fun h4 => (dj_if (fun h6 => (dj_if (fun h8 => (dj_q_Mo_limits_107 @ir_Mo_limits kQ (((h3.1 h4).1 h6).1 h8))) (fun h9 => (dj_if (fun h10 => (dj_q_Mo_limits_107 @ir_Mo_limits kQ ((((h3.1 h4).1 h6).2 h9).1 h10))) (fun h11 => (dj_if (fun h12 => (dj_q_Mo_limits_107 @ir_Mo_limits kQ (((((h3.1 h4).1 h6).2 h9).2 h11).1 h12))) (fun h13 => (dj_if (fun h14 => (kQ _ _ ((((((h3.1 h4).1 h6).2 h9).2 h11).2 h13).1 h14))) (fun h15 => (dj_q_Mo_limits_107 @ir_Mo_limits kQ ((((((h3.1 h4).1 h6).2 h9).2 h11).2 h13).2 h15))))))))))) (fun h7 => (dj_and ((h3.1 h4).2 h7).1 (ir_Mo_limits ((h3.1 h4).2 h7).2 (fun _ _ h16 => (kQ _ _ h16))))))) (fun h5 => (dj_and (h3.2 h5).1 (dj_q_Mo_limits_30 @ir_Mo_limits (fun _ h17 => (kQ _ _ h17)) kQ _ _ _ (h3.2 h5).2))))))) (fun h2 => (kQ _ _ (h.2.2 h2)))))
theorem djg_Mo_limits {I : Type} : ∀ n : Nat, (∀ (w : MW) (a0 : Int32) (R1 : Int32 → MW → Prop) (R3 : I → Int32 → MW → Prop), pn_Mo_limits n w a0 R1 → (∀ y0 y1, R1 y0 y1 → ∃ i : I, R3 i y0 y1) → ∃ i : I, pn_Mo_limits n w a0 (R3 i)) := by
  intro n
  induction n with
  | zero =>
    exact fun _ _ _ _ h _ => False.elim h
  | succ n ih =>
    have i_Mo_limits := ih
    exact fun v0 v1 _ _ h k => by
      have h := Eq.mp (pe_Mo_limits ..) h
      refine dj_eq (fun i => (pe_Mo_limits ..)) ?_
      exact dj_pb_Mo_limits (fun h k => i_Mo_limits _ _ _ _ h k) h k
theorem dj_pn_Mo_limits {I : Type} (n : Nat) {w : MW} {a0 : Int32} {Q1 : Int32 → MW → Prop} {Q3 : I → Int32 → MW → Prop} (h : pn_Mo_limits n w a0 Q1) (kQ : ∀ x0 x1, Q1 x0 x1 → ∃ i : I, Q3 i x0 x1) : ∃ i : I, pn_Mo_limits n w a0 (Q3 i) := (djg_Mo_limits n) _ _ _ _ h kQ
theorem ex_pn_Mo_limits (n : Nat) {w : MW} {a0 : Int32} {Q : Int32 → MW → Prop} (h : pn_Mo_limits n w a0 Q) : ∃ (r1 : Int32) (w1 : MW), Q r1 w1 ∧ pn_Mo_limits n w a0 (fun r u => r = r1 ∧ u = w1) := by
  obtain ⟨i, hi⟩ := dj_pn_Mo_limits (I := {x : Int32 × MW // Q x.1 x.2}) (Q3 := fun i r u => r = i.1.1 ∧ u = i.1.2) n h (fun r u q => ⟨⟨(r, u), q⟩, rfl, rfl⟩)
  exact ⟨i.1.1, i.1.2, i.2, hi⟩
theorem dj_p_Mo_limits {I : Type} {w : MW} {a0 : Int32} {Q1 : Int32 → MW → Prop} {Q3 : I → Int32 → MW → Prop} (h : p_Mo_limits w a0 Q1) (kQ : ∀ x0 x1, Q1 x0 x1 → ∃ i : I, Q3 i x0 x1) : ∃ i : I, p_Mo_limits w a0 (Q3 i) := dj_pn_Mo_limits _ h kQ
theorem ex_p_Mo_limits {w : MW} {a0 : Int32} {Q : Int32 → MW → Prop} (h : p_Mo_limits w a0 Q) : ∃ (r1 : Int32) (w1 : MW), Q r1 w1 ∧ p_Mo_limits w a0 (fun r u => r = r1 ∧ u = w1) := by
  obtain ⟨i, hi⟩ := dj_p_Mo_limits (I := {x : Int32 × MW // Q x.1 x.2}) (Q3 := fun i r u => r = i.1.1 ∧ u = i.1.2) h (fun r u q => ⟨⟨(r, u), q⟩, rfl, rfl⟩)
  exact ⟨i.1.1, i.1.2, i.2, hi⟩
theorem dj_q_Mo_walk_32 {I : Type} {ys32_0 : Int32} {w : MW} {Q1 : MW → Prop} {Q3 : I → MW → Prop}  (kQ : ∀ x0, Q1 x0 → ∃ i : I, Q3 i x0) (h : q_Mo_walk_32 ys32_0 w Q1) : ∃ i : I, q_Mo_walk_32 ys32_0 w (Q3 i) := by
  have h := Eq.mp (q_Mo_walk_32.eq_1 ..) h
  refine dj_eq (fun i => (q_Mo_walk_32.eq_1 ..)) ?_
  exact (dj_if (fun h1 => (dj_if (fun h3 => (dj_if (fun h5 => (kQ _ (((h.1 h1).1 h3).1 h5))) (fun h6 => (dj_if (fun h7 => (kQ _ ((((h.1 h1).1 h3).2 h6).1 h7))) (fun h8 => (kQ _ ((((h.1 h1).1 h3).2 h6).2 h8))))))) (fun h4 => (kQ _ ((h.1 h1).2 h4))))) (fun h2 => (kQ _ (h.2 h2))))
theorem dj_p_Mo_walk {I : Type} {w : MW} {Q1 : MW → Prop} {Q3 : I → MW → Prop}  (h : p_Mo_walk w Q1) (kQ : ∀ x0, Q1 x0 → ∃ i : I, Q3 i x0) : ∃ i : I, p_Mo_walk w (Q3 i) := by
  have h := Eq.mp (p_Mo_walk.eq_1 ..) h
  refine dj_eq (fun i => (p_Mo_walk.eq_1 ..)) ?_
  exact (dj_p_Mo_limits h (fun _ _ h1 => (dj_if (fun h2 => (dj_q_Mo_walk_32  kQ (h1.1 h2))) (fun h3 => (dj_p_Mo_go (h1.2 h3) (fun _ _ h4 => (dj_q_Mo_walk_32  kQ h4)))))))
theorem ex_p_Mo_walk {w : MW} {Q : MW → Prop} (h : p_Mo_walk w Q) : ∃ w1 : MW, Q w1 ∧ p_Mo_walk w (fun u => u = w1) := by
  obtain ⟨i, hi⟩ := dj_p_Mo_walk (I := {x : MW // Q x}) (Q3 := fun i u => u = i.1) h (fun u q => ⟨⟨u, q⟩, rfl⟩)
  exact ⟨i.1, i.2, hi⟩
theorem dj_q_Mo_tick_60 {I : Type} {x15_1 : Int32} {y60_2 : Int32} {w : MW} {A1 : Int32 → MW → Prop} {A3 : I → Int32 → MW → Prop} {E1 : MW → Prop} {E3 : I → MW → Prop} {Q1 : Int32 → MW → Prop} {Q3 : I → Int32 → MW → Prop}  (kA : ∀ x0 x1, A1 x0 x1 → ∃ i : I, A3 i x0 x1) (kE : ∀ x0, E1 x0 → ∃ i : I, E3 i x0) (kQ : ∀ x0 x1, Q1 x0 x1 → ∃ i : I, Q3 i x0 x1) (h : q_Mo_tick_60 x15_1 y60_2 w A1 E1 Q1) : ∃ i : I, q_Mo_tick_60 x15_1 y60_2 w (A3 i) (E3 i) (Q3 i) := by
  have h := Eq.mp (q_Mo_tick_60.eq_1 ..) h
  refine dj_eq (fun i => (q_Mo_tick_60.eq_1 ..)) ?_
  exact (dj_p_Mo_closeAll h (fun _ h1 => (dj_q_Mo_tick_67  (fun _ h2 => (kA _ _ h2)) kQ _ _ _ h1)))
theorem dj_q_Mo_tick_15 {I : Type} {x15_1 : Int32} {E1 : MW → Prop} {E3 : I → MW → Prop} {Q1 : Int32 → MW → Prop} {Q3 : I → Int32 → MW → Prop}  (kE : ∀ x0, E1 x0 → ∃ i : I, E3 i x0) (kQ : ∀ x0 x1, Q1 x0 x1 → ∃ i : I, Q3 i x0 x1) : ∀ (m : Nat) (x15_2 : Int32) (w : MW), q_Mo_tick_15 x15_1 E1 Q1 m x15_2 w → ∃ i : I, q_Mo_tick_15 x15_1 (E3 i) (Q3 i) m x15_2 w := by
  intro m
  induction m with
  | zero => exact fun _ _ h => False.elim h
  | succ m ih =>
    intro x15_2 w h
    have h := Eq.mp (q_Mo_tick_15.eq_2 ..) h
    refine dj_eq (fun i => (q_Mo_tick_15.eq_2 ..)) ?_
    exact (dj_if (fun h1 => (kE _ (h.1 h1))) (fun h2 => (dj_p_Mo_senseAll (h.2 h2) (fun _ h3 => (dj_p_Mr_tick h3 (fun _ _ h4 => (dj_if (fun h5 => (dj_q_Mo_tick_67  (fun _ h7 => (ih _ _ h7)) kQ _ _ _ (h4.1 h5))) (fun h6 => (dj_p_Mo_walk (h4.2 h6) (fun _ h8 => (dj_if (fun h9 => (dj_q_Mo_tick_60  (fun _ _ h11 => (ih _ _ h11)) kE kQ (h8.1 h9))) (fun h10 => (dj_if (fun h12 => (dj_q_Mo_tick_67  (fun _ h14 => (ih _ _ h14)) kQ _ _ _ ((h8.2 h10).1 h12))) (fun h13 => (dj_q_Mo_tick_60  (fun _ _ h15 => (ih _ _ h15)) kE kQ ((h8.2 h10).2 h13))))))))))))))))
theorem dj_p_Mo_tick {I : Type} {w : MW} {a0 : Int32} {Q1 : Int32 → MW → Prop} {Q3 : I → Int32 → MW → Prop}  (h : p_Mo_tick w a0 Q1) (kQ : ∀ x0 x1, Q1 x0 x1 → ∃ i : I, Q3 i x0 x1) : ∃ i : I, p_Mo_tick w a0 (Q3 i) := by
  have h := Eq.mp (p_Mo_tick.eq_1 ..) h
  refine dj_eq (fun i => (p_Mo_tick.eq_1 ..)) ?_
  exact (dj_if (fun h1 => (kQ _ _ (h.1 h1))) (fun h2 => (dj_if (fun h3 => (dj_q_Mo_tick_15  (fun _ h5 => (kQ _ _ h5)) kQ _ _ _ ((h.2 h2).1 h3))) (fun h4 => (kQ _ _ ((h.2 h2).2 h4))))))
theorem ex_p_Mo_tick {w : MW} {a0 : Int32} {Q : Int32 → MW → Prop} (h : p_Mo_tick w a0 Q) : ∃ (r1 : Int32) (w1 : MW), Q r1 w1 ∧ p_Mo_tick w a0 (fun r u => r = r1 ∧ u = w1) := by
  obtain ⟨i, hi⟩ := dj_p_Mo_tick (I := {x : Int32 × MW // Q x.1 x.2}) (Q3 := fun i r u => r = i.1.1 ∧ u = i.1.2) h (fun r u q => ⟨⟨(r, u), q⟩, rfl, rfl⟩)
  exact ⟨i.1.1, i.1.2, i.2, hi⟩
theorem dj_q_Mo_stillAt_125 {I : Type} {r_Mo_stillAt : MW → Int32 → Int32 → (Int32 → MW → Prop) → Prop} {y125_1 : Int32} {y125_2 : Int32} {w : MW} {Q1 : Int32 → MW → Prop} {Q3 : I → Int32 → MW → Prop} (ir_Mo_stillAt : ∀ {z0 : MW} {z1 : Int32} {z2 : Int32} {R1 : Int32 → MW → Prop} {R3 : I → Int32 → MW → Prop}, r_Mo_stillAt z0 z1 z2 R1 → (∀ y0 y1, R1 y0 y1 → ∃ i : I, R3 i y0 y1) → ∃ i : I, r_Mo_stillAt z0 z1 z2 (R3 i)) (kQ : ∀ x0 x1, Q1 x0 x1 → ∃ i : I, Q3 i x0 x1) (h : q_Mo_stillAt_125 r_Mo_stillAt y125_1 y125_2 w Q1) : ∃ i : I, q_Mo_stillAt_125 r_Mo_stillAt y125_1 y125_2 w (Q3 i) := by
  have h := Eq.mp (q_Mo_stillAt_125.eq_1 ..) h
  refine dj_eq (fun i => (q_Mo_stillAt_125.eq_1 ..)) ?_
  exact (dj_and h.1 (dj_if (fun h1 => (dj_and (h.2.1 h1).1 (ir_Mo_stillAt (h.2.1 h1).2 (fun _ _ h3 => (kQ _ _ h3))))) (fun h2 => (kQ _ _ (h.2.2 h2)))))
theorem dj_q_Mo_stillAt_224 {I : Type} {r_Mo_stillAt : MW → Int32 → Int32 → (Int32 → MW → Prop) → Prop} {y224_1 : Int32} {y224_4 : Int32} {ys224_0 : Int32} {ys224_1 : Int32} {w : MW} {Q1 : Int32 → MW → Prop} {Q3 : I → Int32 → MW → Prop} (ir_Mo_stillAt : ∀ {z0 : MW} {z1 : Int32} {z2 : Int32} {R1 : Int32 → MW → Prop} {R3 : I → Int32 → MW → Prop}, r_Mo_stillAt z0 z1 z2 R1 → (∀ y0 y1, R1 y0 y1 → ∃ i : I, R3 i y0 y1) → ∃ i : I, r_Mo_stillAt z0 z1 z2 (R3 i)) (kQ : ∀ x0 x1, Q1 x0 x1 → ∃ i : I, Q3 i x0 x1) (h : q_Mo_stillAt_224 r_Mo_stillAt y224_1 y224_4 ys224_0 ys224_1 w Q1) : ∃ i : I, q_Mo_stillAt_224 r_Mo_stillAt y224_1 y224_4 ys224_0 ys224_1 w (Q3 i) := by
  have h := Eq.mp (q_Mo_stillAt_224.eq_1 ..) h
  refine dj_eq (fun i => (q_Mo_stillAt_224.eq_1 ..)) ?_
  exact (dj_if (fun h1 => (kQ _ _ (h.1 h1))) (fun h2 => (dj_if (fun h3 => (kQ _ _ ((h.2 h2).1 h3))) (fun h4 => (kQ _ _ ((h.2 h2).2 h4))))))
theorem dj_q_Mo_stillAt_31 {I : Type} {r_Mo_stillAt : MW → Int32 → Int32 → (Int32 → MW → Prop) → Prop} {x31_2 : Int32} {E1 : MW → Prop} {E3 : I → MW → Prop} {Q1 : Int32 → MW → Prop} {Q3 : I → Int32 → MW → Prop} (ir_Mo_stillAt : ∀ {z0 : MW} {z1 : Int32} {z2 : Int32} {R1 : Int32 → MW → Prop} {R3 : I → Int32 → MW → Prop}, r_Mo_stillAt z0 z1 z2 R1 → (∀ y0 y1, R1 y0 y1 → ∃ i : I, R3 i y0 y1) → ∃ i : I, r_Mo_stillAt z0 z1 z2 (R3 i)) (kE : ∀ x0, E1 x0 → ∃ i : I, E3 i x0) (kQ : ∀ x0 x1, Q1 x0 x1 → ∃ i : I, Q3 i x0 x1) : ∀ (m : Nat) (x31_4 : Int32) (w : MW), q_Mo_stillAt_31 r_Mo_stillAt x31_2 E1 Q1 m x31_4 w → ∃ i : I, q_Mo_stillAt_31 r_Mo_stillAt x31_2 (E3 i) (Q3 i) m x31_4 w := by
  intro m
  induction m with
  | zero => exact fun _ _ h => False.elim h
  | succ m ih =>
    intro x31_4 w h
    have h := Eq.mp (q_Mo_stillAt_31.eq_2 ..) h
    refine dj_eq (fun i => (q_Mo_stillAt_31.eq_2 ..)) ?_
    exact (dj_if (fun h1 => (kE _ (h.1 h1))) (fun h2 => (dj_and (h.2 h2).1 (dj_if (fun h3 => (ir_Mo_stillAt ((h.2 h2).2.1 h3) (fun _ _ h5 => (dj_if (fun h6 => (dj_and (h5.1 h6).1 (ih _ _ (h5.1 h6).2))) (fun h7 => (kQ _ _ (h5.2 h7))))))) (fun h4 => (dj_and ((h.2 h2).2.2 h4).1 (ih _ _ ((h.2 h2).2.2 h4).2)))))))
theorem dj_pb_Mo_stillAt {I : Type} {r_Mo_stillAt : MW → Int32 → Int32 → (Int32 → MW → Prop) → Prop} {w : MW} {a0 : Int32} {b0 : Int32} {Q1 : Int32 → MW → Prop} {Q3 : I → Int32 → MW → Prop} (ir_Mo_stillAt : ∀ {z0 : MW} {z1 : Int32} {z2 : Int32} {R1 : Int32 → MW → Prop} {R3 : I → Int32 → MW → Prop}, r_Mo_stillAt z0 z1 z2 R1 → (∀ y0 y1, R1 y0 y1 → ∃ i : I, R3 i y0 y1) → ∃ i : I, r_Mo_stillAt z0 z1 z2 (R3 i)) (h : pb_Mo_stillAt r_Mo_stillAt w a0 b0 Q1) (kQ : ∀ x0 x1, Q1 x0 x1 → ∃ i : I, Q3 i x0 x1) : ∃ i : I, pb_Mo_stillAt r_Mo_stillAt w a0 b0 (Q3 i) := by
  have h := Eq.mp (pb_Mo_stillAt.eq_1 ..) h
  refine dj_eq (fun i => (pb_Mo_stillAt.eq_1 ..)) ?_
  exact (dj_and h.1 (dj_if (fun h1 => (dj_p_Mo_kind (h.2.1 h1) (fun _ _ h3 => (dj_if (fun h4 => (dj_if (fun h6 => (dj_if (fun h8 => (dj_q_Mo_stillAt_125 @ir_Mo_stillAt kQ (((h3.1 h4).1 h6).1 h8))) (fun h9 => (dj_if (fun h10 => (dj_q_Mo_stillAt_125 @ir_Mo_stillAt kQ ((((h3.1 h4).1 h6).2 h9).1 h10))) (fun h11 => (dj_if (fun h12 => (dj_q_Mo_stillAt_125 @ir_Mo_stillAt kQ (((((h3.1 h4).1 h6).2 h9).2 h11).1 h12))) (fun h13 => (dj_if (fun h14 => (dj_if (fun h16 => (dj_if (fun h18 => (dj_q_Mo_stillAt_224 @ir_Mo_stillAt kQ ((((((((h3.1 h4).1 h6).2 h9).2 h11).2 h13).1 h14).1 h16).1 h18))) (fun h19 => (dj_if (fun h20 => (dj_q_Mo_stillAt_224 @ir_Mo_stillAt kQ (((((((((h3.1 h4).1 h6).2 h9).2 h11).2 h13).1 h14).1 h16).2 h19).1 h20))) (fun h21 => (dj_if (fun h22 => (dj_q_Mo_stillAt_224 @ir_Mo_stillAt kQ ((((((((((h3.1 h4).1 h6).2 h9).2 h11).2 h13).1 h14).1 h16).2 h19).2 h21).1 h22))) (fun h23 => (dj_if (fun h24 => (dj_q_Mo_stillAt_224 @ir_Mo_stillAt kQ (((((((((((h3.1 h4).1 h6).2 h9).2 h11).2 h13).1 h14).1 h16).2 h19).2 h21).2 h23).1 h24))) (fun h25 => (dj_q_Mo_stillAt_224 @ir_Mo_stillAt kQ (((((((((((h3.1 h4).1 h6).2 h9).2 h11).2 h13).1 h14).1 h16).2 h19).2 h21).2 h23).2 h25))))))))))) (fun h17 => (dj_if (fun h26 => (dj_q_Mo_stillAt_224 @ir_Mo_stillAt kQ ((((((((h3.1 h4).1 h6).2 h9).2 h11).2 h13).1 h14).2 h17).1 h26))) (fun h27 => (dj_and ((((((((h3.1 h4).1 h6).2 h9).2 h11).2 h13).1 h14).2 h17).2 h27).1 (dj_if (fun h28 => (dj_q_Mo_stillAt_224 @ir_Mo_stillAt kQ (((((((((h3.1 h4).1 h6).2 h9).2 h11).2 h13).1 h14).2 h17).2 h27).2.1 h28))) (fun h29 => (dj_q_Mo_stillAt_224 @ir_Mo_stillAt kQ (((((((((h3.1 h4).1 h6).2 h9).2 h11).2 h13).1 h14).2 h17).2 h27).2.2 h29)))))))))) (fun h15 => (dj_q_Mo_stillAt_125 @ir_Mo_stillAt kQ ((((((h3.1 h4).1 h6).2 h9).2 h11).2 h13).2 h15))))))))))) (fun h7 => (dj_and ((h3.1 h4).2 h7).1 (ir_Mo_stillAt ((h3.1 h4).2 h7).2 (fun _ _ h30 => (kQ _ _ h30))))))) (fun h5 => (dj_and (h3.2 h5).1 (dj_q_Mo_stillAt_31 @ir_Mo_stillAt (fun _ h31 => (kQ _ _ h31)) kQ _ _ _ (h3.2 h5).2))))))) (fun h2 => (kQ _ _ (h.2.2 h2)))))
theorem djg_Mo_stillAt {I : Type} : ∀ n : Nat, (∀ (w : MW) (a0 : Int32) (b0 : Int32) (R1 : Int32 → MW → Prop) (R3 : I → Int32 → MW → Prop), pn_Mo_stillAt n w a0 b0 R1 → (∀ y0 y1, R1 y0 y1 → ∃ i : I, R3 i y0 y1) → ∃ i : I, pn_Mo_stillAt n w a0 b0 (R3 i)) := by
  intro n
  induction n with
  | zero =>
    exact fun _ _ _ _ _ h _ => False.elim h
  | succ n ih =>
    have i_Mo_stillAt := ih
    exact fun v0 v1 v2 _ _ h k => by
      have h := Eq.mp (pe_Mo_stillAt ..) h
      refine dj_eq (fun i => (pe_Mo_stillAt ..)) ?_
      exact dj_pb_Mo_stillAt (fun h k => i_Mo_stillAt _ _ _ _ _ h k) h k
theorem dj_pn_Mo_stillAt {I : Type} (n : Nat) {w : MW} {a0 : Int32} {b0 : Int32} {Q1 : Int32 → MW → Prop} {Q3 : I → Int32 → MW → Prop} (h : pn_Mo_stillAt n w a0 b0 Q1) (kQ : ∀ x0 x1, Q1 x0 x1 → ∃ i : I, Q3 i x0 x1) : ∃ i : I, pn_Mo_stillAt n w a0 b0 (Q3 i) := (djg_Mo_stillAt n) _ _ _ _ _ h kQ
theorem ex_pn_Mo_stillAt (n : Nat) {w : MW} {a0 : Int32} {b0 : Int32} {Q : Int32 → MW → Prop} (h : pn_Mo_stillAt n w a0 b0 Q) : ∃ (r1 : Int32) (w1 : MW), Q r1 w1 ∧ pn_Mo_stillAt n w a0 b0 (fun r u => r = r1 ∧ u = w1) := by
  obtain ⟨i, hi⟩ := dj_pn_Mo_stillAt (I := {x : Int32 × MW // Q x.1 x.2}) (Q3 := fun i r u => r = i.1.1 ∧ u = i.1.2) n h (fun r u q => ⟨⟨(r, u), q⟩, rfl, rfl⟩)
  exact ⟨i.1.1, i.1.2, i.2, hi⟩
theorem dj_p_Mo_stillAt {I : Type} {w : MW} {a0 : Int32} {b0 : Int32} {Q1 : Int32 → MW → Prop} {Q3 : I → Int32 → MW → Prop} (h : p_Mo_stillAt w a0 b0 Q1) (kQ : ∀ x0 x1, Q1 x0 x1 → ∃ i : I, Q3 i x0 x1) : ∃ i : I, p_Mo_stillAt w a0 b0 (Q3 i) := dj_pn_Mo_stillAt _ h kQ
theorem ex_p_Mo_stillAt {w : MW} {a0 : Int32} {b0 : Int32} {Q : Int32 → MW → Prop} (h : p_Mo_stillAt w a0 b0 Q) : ∃ (r1 : Int32) (w1 : MW), Q r1 w1 ∧ p_Mo_stillAt w a0 b0 (fun r u => r = r1 ∧ u = w1) := by
  obtain ⟨i, hi⟩ := dj_p_Mo_stillAt (I := {x : Int32 × MW // Q x.1 x.2}) (Q3 := fun i r u => r = i.1.1 ∧ u = i.1.2) h (fun r u q => ⟨⟨(r, u), q⟩, rfl, rfl⟩)
  exact ⟨i.1.1, i.1.2, i.2, hi⟩
theorem dj_q_Mo_answer_22 {I : Type} {y22_1 : Int64} {ys22_0 : Int32} {w : MW} {Q1 : Int32 → MW → Prop} {Q3 : I → Int32 → MW → Prop}  (kQ : ∀ x0 x1, Q1 x0 x1 → ∃ i : I, Q3 i x0 x1) (h : q_Mo_answer_22 y22_1 ys22_0 w Q1) : ∃ i : I, q_Mo_answer_22 y22_1 ys22_0 w (Q3 i) := by
  have h := Eq.mp (q_Mo_answer_22.eq_1 ..) h
  refine dj_eq (fun i => (q_Mo_answer_22.eq_1 ..)) ?_
  exact (dj_if (fun h1 => (dj_and (h.1 h1).1 (dj_and (h.1 h1).2.1 (dj_p_Tx_node1 (h.1 h1).2.2 (fun _ _ h3 => (dj_and h3.1 (dj_and h3.2.1 (kQ _ _ h3.2.2)))))))) (fun h2 => (kQ _ _ (h.2 h2))))
theorem dj_p_Mo_answer {I : Type} {w : MW} {a0 : Int64} {Q1 : Int32 → MW → Prop} {Q3 : I → Int32 → MW → Prop}  (h : p_Mo_answer w a0 Q1) (kQ : ∀ x0 x1, Q1 x0 x1 → ∃ i : I, Q3 i x0 x1) : ∃ i : I, p_Mo_answer w a0 (Q3 i) := by
  have h := Eq.mp (p_Mo_answer.eq_1 ..) h
  refine dj_eq (fun i => (p_Mo_answer.eq_1 ..)) ?_
  exact (dj_if (fun h1 => (dj_q_Mo_answer_22  kQ (h.1 h1))) (fun h2 => (dj_p_Mo_stillAt (h.2 h2) (fun _ _ h3 => (dj_q_Mo_answer_22  kQ h3)))))
theorem ex_p_Mo_answer {w : MW} {a0 : Int64} {Q : Int32 → MW → Prop} (h : p_Mo_answer w a0 Q) : ∃ (r1 : Int32) (w1 : MW), Q r1 w1 ∧ p_Mo_answer w a0 (fun r u => r = r1 ∧ u = w1) := by
  obtain ⟨i, hi⟩ := dj_p_Mo_answer (I := {x : Int32 × MW // Q x.1 x.2}) (Q3 := fun i r u => r = i.1.1 ∧ u = i.1.2) h (fun r u q => ⟨⟨(r, u), q⟩, rfl, rfl⟩)
  exact ⟨i.1.1, i.1.2, i.2, hi⟩
theorem dj_q_Mo_hold_24 {I : Type} {y24_1 : Int32} {w : MW} {Q1 : Int32 → MW → Prop} {Q3 : I → Int32 → MW → Prop}  (kQ : ∀ x0 x1, Q1 x0 x1 → ∃ i : I, Q3 i x0 x1) (h : q_Mo_hold_24 y24_1 w Q1) : ∃ i : I, q_Mo_hold_24 y24_1 w (Q3 i) := by
  have h := Eq.mp (q_Mo_hold_24.eq_1 ..) h
  refine dj_eq (fun i => (q_Mo_hold_24.eq_1 ..)) ?_
  exact (dj_if (fun h1 => (kQ _ _ (h.1 h1))) (fun h2 => (dj_p_Mo_closeAll (h.2 h2) (fun _ h3 => (kQ _ _ h3)))))
theorem dj_p_Mo_hold {I : Type} {w : MW} {a0 : Int32} {Q1 : Int32 → MW → Prop} {Q3 : I → Int32 → MW → Prop}  (h : p_Mo_hold w a0 Q1) (kQ : ∀ x0 x1, Q1 x0 x1 → ∃ i : I, Q3 i x0 x1) : ∃ i : I, p_Mo_hold w a0 (Q3 i) := by
  have h := Eq.mp (p_Mo_hold.eq_1 ..) h
  refine dj_eq (fun i => (p_Mo_hold.eq_1 ..)) ?_
  exact (dj_if (fun h1 => (dj_if (fun h3 => (dj_q_Mo_hold_24  kQ ((h.1 h1).1 h3))) (fun h4 => (kQ _ _ ((h.1 h1).2 h4))))) (fun h2 => (dj_if (fun h5 => (dj_q_Mo_hold_24  kQ ((h.2 h2).1 h5))) (fun h6 => (kQ _ _ ((h.2 h2).2 h6))))))
theorem ex_p_Mo_hold {w : MW} {a0 : Int32} {Q : Int32 → MW → Prop} (h : p_Mo_hold w a0 Q) : ∃ (r1 : Int32) (w1 : MW), Q r1 w1 ∧ p_Mo_hold w a0 (fun r u => r = r1 ∧ u = w1) := by
  obtain ⟨i, hi⟩ := dj_p_Mo_hold (I := {x : Int32 × MW // Q x.1 x.2}) (Q3 := fun i r u => r = i.1.1 ∧ u = i.1.2) h (fun r u q => ⟨⟨(r, u), q⟩, rfl, rfl⟩)
  exact ⟨i.1.1, i.1.2, i.2, hi⟩
theorem dj_p_Mo_stop {I : Type} {w : MW} {Q1 : Int32 → MW → Prop} {Q3 : I → Int32 → MW → Prop}  (h : p_Mo_stop w Q1) (kQ : ∀ x0 x1, Q1 x0 x1 → ∃ i : I, Q3 i x0 x1) : ∃ i : I, p_Mo_stop w (Q3 i) := by
  have h := Eq.mp (p_Mo_stop.eq_1 ..) h
  refine dj_eq (fun i => (p_Mo_stop.eq_1 ..)) ?_
  exact (dj_if (fun h1 => (dj_p_Mo_closeAll (h.1 h1) (fun _ h3 => (kQ _ _ h3)))) (fun h2 => (dj_if (fun h4 => (dj_p_Mo_closeAll ((h.2 h2).1 h4) (fun _ h6 => (kQ _ _ h6)))) (fun h5 => (kQ _ _ ((h.2 h2).2 h5))))))
theorem ex_p_Mo_stop {w : MW} {Q : Int32 → MW → Prop} (h : p_Mo_stop w Q) : ∃ (r1 : Int32) (w1 : MW), Q r1 w1 ∧ p_Mo_stop w (fun r u => r = r1 ∧ u = w1) := by
  obtain ⟨i, hi⟩ := dj_p_Mo_stop (I := {x : Int32 × MW // Q x.1 x.2}) (Q3 := fun i r u => r = i.1.1 ∧ u = i.1.2) h (fun r u q => ⟨⟨(r, u), q⟩, rfl, rfl⟩)
  exact ⟨i.1.1, i.1.2, i.2, hi⟩
theorem dj_p_Mr_isRow {I : Type} {w : MW} {a0 : Int32} {Q1 : Int32 → MW → Prop} {Q3 : I → Int32 → MW → Prop}  (h : p_Mr_isRow w a0 Q1) (kQ : ∀ x0 x1, Q1 x0 x1 → ∃ i : I, Q3 i x0 x1) : ∃ i : I, p_Mr_isRow w a0 (Q3 i) := by
  have h := Eq.mp (p_Mr_isRow.eq_1 ..) h
  refine dj_eq (fun i => (p_Mr_isRow.eq_1 ..)) ?_
  exact (dj_if (fun h1 => (kQ _ _ (h.1 h1))) (fun h2 => (dj_if (fun h3 => (kQ _ _ ((h.2 h2).1 h3))) (fun h4 => (kQ _ _ ((h.2 h2).2 h4))))))
theorem ex_p_Mr_isRow {w : MW} {a0 : Int32} {Q : Int32 → MW → Prop} (h : p_Mr_isRow w a0 Q) : ∃ (r1 : Int32) (w1 : MW), Q r1 w1 ∧ p_Mr_isRow w a0 (fun r u => r = r1 ∧ u = w1) := by
  obtain ⟨i, hi⟩ := dj_p_Mr_isRow (I := {x : Int32 × MW // Q x.1 x.2}) (Q3 := fun i r u => r = i.1.1 ∧ u = i.1.2) h (fun r u q => ⟨⟨(r, u), q⟩, rfl, rfl⟩)
  exact ⟨i.1.1, i.1.2, i.2, hi⟩
theorem dj_p_Mr_reset {I : Type} {w : MW} {a0 : Int32} {Q1 : Int32 → MW → Prop} {Q3 : I → Int32 → MW → Prop}  (h : p_Mr_reset w a0 Q1) (kQ : ∀ x0 x1, Q1 x0 x1 → ∃ i : I, Q3 i x0 x1) : ∃ i : I, p_Mr_reset w a0 (Q3 i) := by
  have h := Eq.mp (p_Mr_reset.eq_1 ..) h
  refine dj_eq (fun i => (p_Mr_reset.eq_1 ..)) ?_
  exact (dj_p_Mr_isRow h (fun _ _ h1 => (dj_if (fun h2 => (kQ _ _ (h1.1 h2))) (fun h3 => (dj_and (h1.2 h3).1 (dj_if (fun h4 => (kQ _ _ ((h1.2 h3).2.1 h4))) (fun h5 => (dj_p_Mr_isOn ((h1.2 h3).2.2 h5) (fun _ _ h6 => (dj_if (fun h7 => (dj_and (h6.1 h7).1 (kQ _ _ (h6.1 h7).2))) (fun h8 => (kQ _ _ (h6.2 h8)))))))))))))
theorem ex_p_Mr_reset {w : MW} {a0 : Int32} {Q : Int32 → MW → Prop} (h : p_Mr_reset w a0 Q) : ∃ (r1 : Int32) (w1 : MW), Q r1 w1 ∧ p_Mr_reset w a0 (fun r u => r = r1 ∧ u = w1) := by
  obtain ⟨i, hi⟩ := dj_p_Mr_reset (I := {x : Int32 × MW // Q x.1 x.2}) (Q3 := fun i r u => r = i.1.1 ∧ u = i.1.2) h (fun r u q => ⟨⟨(r, u), q⟩, rfl, rfl⟩)
  exact ⟨i.1.1, i.1.2, i.2, hi⟩
theorem dj_p_Mo_reset {I : Type} {w : MW} {a0 : Int32} {Q1 : Int32 → MW → Prop} {Q3 : I → Int32 → MW → Prop}  (h : p_Mo_reset w a0 Q1) (kQ : ∀ x0 x1, Q1 x0 x1 → ∃ i : I, Q3 i x0 x1) : ∃ i : I, p_Mo_reset w a0 (Q3 i) := by
  have h := Eq.mp (p_Mo_reset.eq_1 ..) h
  refine dj_eq (fun i => (p_Mo_reset.eq_1 ..)) ?_
  exact (dj_p_Mr_reset h (fun _ _ h1 => (kQ _ _ h1)))
theorem ex_p_Mo_reset {w : MW} {a0 : Int32} {Q : Int32 → MW → Prop} (h : p_Mo_reset w a0 Q) : ∃ (r1 : Int32) (w1 : MW), Q r1 w1 ∧ p_Mo_reset w a0 (fun r u => r = r1 ∧ u = w1) := by
  obtain ⟨i, hi⟩ := dj_p_Mo_reset (I := {x : Int32 × MW // Q x.1 x.2}) (Q3 := fun i r u => r = i.1.1 ∧ u = i.1.2) h (fun r u q => ⟨⟨(r, u), q⟩, rfl, rfl⟩)
  exact ⟨i.1.1, i.1.2, i.2, hi⟩
theorem dj_p_Mo_bars {I : Type} {w : MW} {a0 : Int32} {Q1 : Int32 → MW → Prop} {Q3 : I → Int32 → MW → Prop}  (h : p_Mo_bars w a0 Q1) (kQ : ∀ x0 x1, Q1 x0 x1 → ∃ i : I, Q3 i x0 x1) : ∃ i : I, p_Mo_bars w a0 (Q3 i) := by
  have h := Eq.mp (p_Mo_bars.eq_1 ..) h
  refine dj_eq (fun i => (p_Mo_bars.eq_1 ..)) ?_
  exact (dj_p_Mr_act1 h (fun _ _ h1 => (kQ _ _ h1)))
theorem ex_p_Mo_bars {w : MW} {a0 : Int32} {Q : Int32 → MW → Prop} (h : p_Mo_bars w a0 Q) : ∃ (r1 : Int32) (w1 : MW), Q r1 w1 ∧ p_Mo_bars w a0 (fun r u => r = r1 ∧ u = w1) := by
  obtain ⟨i, hi⟩ := dj_p_Mo_bars (I := {x : Int32 × MW // Q x.1 x.2}) (Q3 := fun i r u => r = i.1.1 ∧ u = i.1.2) h (fun r u q => ⟨⟨(r, u), q⟩, rfl, rfl⟩)
  exact ⟨i.1.1, i.1.2, i.2, hi⟩
theorem dj_p_Mo_row {I : Type} {w : MW} {a0 : Int32} {b0 : Int32} {Q1 : Int32 → MW → Prop} {Q3 : I → Int32 → MW → Prop}  (h : p_Mo_row w a0 b0 Q1) (kQ : ∀ x0 x1, Q1 x0 x1 → ∃ i : I, Q3 i x0 x1) : ∃ i : I, p_Mo_row w a0 b0 (Q3 i) := by
  have h := Eq.mp (p_Mo_row.eq_1 ..) h
  refine dj_eq (fun i => (p_Mo_row.eq_1 ..)) ?_
  exact (dj_if (fun h1 => (kQ _ _ (h.1 h1))) (fun h2 => (dj_if (fun h3 => (kQ _ _ ((h.2 h2).1 h3))) (fun h4 => (dj_if (fun h5 => (kQ _ _ (((h.2 h2).2 h4).1 h5))) (fun h6 => (dj_if (fun h7 => (dj_if (fun h9 => (dj_if (fun h11 => (dj_if (fun h13 => (dj_p_Mr_isOn (((((((h.2 h2).2 h4).2 h6).1 h7).1 h9).1 h11).1 h13) (fun _ _ h15 => (dj_if (fun h16 => (kQ _ _ (h15.1 h16))) (fun h17 => (kQ _ _ (h15.2 h17))))))) (fun h14 => (dj_and (((((((h.2 h2).2 h4).2 h6).1 h7).1 h9).1 h11).2 h14).1 (kQ _ _ (((((((h.2 h2).2 h4).2 h6).1 h7).1 h9).1 h11).2 h14).2))))) (fun h12 => (dj_and ((((((h.2 h2).2 h4).2 h6).1 h7).1 h9).2 h12).1 (dj_if (fun h18 => (kQ _ _ (((((((h.2 h2).2 h4).2 h6).1 h7).1 h9).2 h12).2.1 h18))) (fun h19 => (kQ _ _ (((((((h.2 h2).2 h4).2 h6).1 h7).1 h9).2 h12).2.2 h19)))))))) (fun h10 => (dj_and (((((h.2 h2).2 h4).2 h6).1 h7).2 h10).1 (kQ _ _ (((((h.2 h2).2 h4).2 h6).1 h7).2 h10).2))))) (fun h8 => (kQ _ _ ((((h.2 h2).2 h4).2 h6).2 h8))))))))))
theorem ex_p_Mo_row {w : MW} {a0 : Int32} {b0 : Int32} {Q : Int32 → MW → Prop} (h : p_Mo_row w a0 b0 Q) : ∃ (r1 : Int32) (w1 : MW), Q r1 w1 ∧ p_Mo_row w a0 b0 (fun r u => r = r1 ∧ u = w1) := by
  obtain ⟨i, hi⟩ := dj_p_Mo_row (I := {x : Int32 × MW // Q x.1 x.2}) (Q3 := fun i r u => r = i.1.1 ∧ u = i.1.2) h (fun r u q => ⟨⟨(r, u), q⟩, rfl, rfl⟩)
  exact ⟨i.1.1, i.1.2, i.2, hi⟩
theorem dj_p_Mo_state {I : Type} {w : MW} {Q1 : Int32 → MW → Prop} {Q3 : I → Int32 → MW → Prop}  (h : p_Mo_state w Q1) (kQ : ∀ x0 x1, Q1 x0 x1 → ∃ i : I, Q3 i x0 x1) : ∃ i : I, p_Mo_state w (Q3 i) := by
  have h := Eq.mp (p_Mo_state.eq_1 ..) h
  refine dj_eq (fun i => (p_Mo_state.eq_1 ..)) ?_
  exact (kQ _ _ h)
theorem ex_p_Mo_state {w : MW} {Q : Int32 → MW → Prop} (h : p_Mo_state w Q) : ∃ (r1 : Int32) (w1 : MW), Q r1 w1 ∧ p_Mo_state w (fun r u => r = r1 ∧ u = w1) := by
  obtain ⟨i, hi⟩ := dj_p_Mo_state (I := {x : Int32 × MW // Q x.1 x.2}) (Q3 := fun i r u => r = i.1.1 ∧ u = i.1.2) h (fun r u q => ⟨⟨(r, u), q⟩, rfl, rfl⟩)
  exact ⟨i.1.1, i.1.2, i.2, hi⟩
theorem dj_p_Mo_value {I : Type} {w : MW} {a0 : Int32} {Q1 : Int64 → MW → Prop} {Q3 : I → Int64 → MW → Prop}  (h : p_Mo_value w a0 Q1) (kQ : ∀ x0 x1, Q1 x0 x1 → ∃ i : I, Q3 i x0 x1) : ∃ i : I, p_Mo_value w a0 (Q3 i) := by
  have h := Eq.mp (p_Mo_value.eq_1 ..) h
  refine dj_eq (fun i => (p_Mo_value.eq_1 ..)) ?_
  exact (dj_p_Mo_isRole h (fun _ _ h1 => (dj_if (fun h2 => (dj_and (h1.1 h2).1 (kQ _ _ (h1.1 h2).2))) (fun h3 => (dj_p_Mo_isRole (h1.2 h3) (fun _ _ h4 => (dj_if (fun h5 => (kQ _ _ (h4.1 h5))) (fun h6 => (dj_and (h4.2 h6).1 (kQ _ _ (h4.2 h6).2))))))))))
theorem ex_p_Mo_value {w : MW} {a0 : Int32} {Q : Int64 → MW → Prop} (h : p_Mo_value w a0 Q) : ∃ (r1 : Int64) (w1 : MW), Q r1 w1 ∧ p_Mo_value w a0 (fun r u => r = r1 ∧ u = w1) := by
  obtain ⟨i, hi⟩ := dj_p_Mo_value (I := {x : Int64 × MW // Q x.1 x.2}) (Q3 := fun i r u => r = i.1.1 ∧ u = i.1.2) h (fun r u q => ⟨⟨(r, u), q⟩, rfl, rfl⟩)
  exact ⟨i.1.1, i.1.2, i.2, hi⟩
theorem dj_q_Mo_still_24 {I : Type} {w : MW} {Q1 : Int32 → MW → Prop} {Q3 : I → Int32 → MW → Prop}  (kQ : ∀ x0 x1, Q1 x0 x1 → ∃ i : I, Q3 i x0 x1) (h : q_Mo_still_24 w Q1) : ∃ i : I, q_Mo_still_24 w (Q3 i) := by
  have h := Eq.mp (q_Mo_still_24.eq_1 ..) h
  refine dj_eq (fun i => (q_Mo_still_24.eq_1 ..)) ?_
  exact (dj_p_Mo_stillAt h (fun _ _ h1 => (dj_if (fun h2 => (dj_and (h1.1 h2).1 (kQ _ _ (h1.1 h2).2))) (fun h3 => (kQ _ _ (h1.2 h3))))))
theorem dj_p_Mo_still {I : Type} {w : MW} {a0 : Int32} {Q1 : Int32 → MW → Prop} {Q3 : I → Int32 → MW → Prop}  (h : p_Mo_still w a0 Q1) (kQ : ∀ x0 x1, Q1 x0 x1 → ∃ i : I, Q3 i x0 x1) : ∃ i : I, p_Mo_still w a0 (Q3 i) := by
  have h := Eq.mp (p_Mo_still.eq_1 ..) h
  refine dj_eq (fun i => (p_Mo_still.eq_1 ..)) ?_
  exact (dj_if (fun h1 => (kQ _ _ (h.1 h1))) (fun h2 => (dj_if (fun h3 => (dj_q_Mo_still_24  kQ ((h.2 h2).1 h3))) (fun h4 => (dj_if (fun h5 => (kQ _ _ (((h.2 h2).2 h4).1 h5))) (fun h6 => (dj_q_Mo_still_24  kQ (((h.2 h2).2 h4).2 h6))))))))
theorem ex_p_Mo_still {w : MW} {a0 : Int32} {Q : Int32 → MW → Prop} (h : p_Mo_still w a0 Q) : ∃ (r1 : Int32) (w1 : MW), Q r1 w1 ∧ p_Mo_still w a0 (fun r u => r = r1 ∧ u = w1) := by
  obtain ⟨i, hi⟩ := dj_p_Mo_still (I := {x : Int32 × MW // Q x.1 x.2}) (Q3 := fun i r u => r = i.1.1 ∧ u = i.1.2) h (fun r u q => ⟨⟨(r, u), q⟩, rfl, rfl⟩)
  exact ⟨i.1.1, i.1.2, i.2, hi⟩
theorem dj_p_Mo_alarm {I : Type} {w : MW} {a0 : Int32} {b0 : Int32} {Q1 : Int32 → MW → Prop} {Q3 : I → Int32 → MW → Prop}  (h : p_Mo_alarm w a0 b0 Q1) (kQ : ∀ x0 x1, Q1 x0 x1 → ∃ i : I, Q3 i x0 x1) : ∃ i : I, p_Mo_alarm w a0 b0 (Q3 i) := by
  have h := Eq.mp (p_Mo_alarm.eq_1 ..) h
  refine dj_eq (fun i => (p_Mo_alarm.eq_1 ..)) ?_
  exact (dj_if (fun h1 => (kQ _ _ (h.1 h1))) (fun h2 => (dj_if (fun h3 => (dj_if (fun h5 => (dj_if (fun h7 => (dj_if (fun h9 => (kQ _ _ (((((h.2 h2).1 h3).1 h5).1 h7).1 h9))) (fun h10 => (dj_and (((((h.2 h2).1 h3).1 h5).1 h7).2 h10).1 (kQ _ _ (((((h.2 h2).1 h3).1 h5).1 h7).2 h10).2))))) (fun h8 => (dj_and ((((h.2 h2).1 h3).1 h5).2 h8).1 (kQ _ _ ((((h.2 h2).1 h3).1 h5).2 h8).2))))) (fun h6 => (dj_and (((h.2 h2).1 h3).2 h6).1 (kQ _ _ (((h.2 h2).1 h3).2 h6).2))))) (fun h4 => (kQ _ _ ((h.2 h2).2 h4))))))
theorem ex_p_Mo_alarm {w : MW} {a0 : Int32} {b0 : Int32} {Q : Int32 → MW → Prop} (h : p_Mo_alarm w a0 b0 Q) : ∃ (r1 : Int32) (w1 : MW), Q r1 w1 ∧ p_Mo_alarm w a0 b0 (fun r u => r = r1 ∧ u = w1) := by
  obtain ⟨i, hi⟩ := dj_p_Mo_alarm (I := {x : Int32 × MW // Q x.1 x.2}) (Q3 := fun i r u => r = i.1.1 ∧ u = i.1.2) h (fun r u q => ⟨⟨(r, u), q⟩, rfl, rfl⟩)
  exact ⟨i.1.1, i.1.2, i.2, hi⟩
theorem dj_p_Mo_sense {I : Type} {w : MW} {a0 : Int32} {b0 : Int32} {c0 : Int32} {Q1 : Int32 → MW → Prop} {Q3 : I → Int32 → MW → Prop}  (h : p_Mo_sense w a0 b0 c0 Q1) (kQ : ∀ x0 x1, Q1 x0 x1 → ∃ i : I, Q3 i x0 x1) : ∃ i : I, p_Mo_sense w a0 b0 c0 (Q3 i) := by
  have h := Eq.mp (p_Mo_sense.eq_1 ..) h
  refine dj_eq (fun i => (p_Mo_sense.eq_1 ..)) ?_
  exact (dj_p_Mo_isRole h (fun _ _ h1 => (dj_if (fun h2 => (kQ _ _ (h1.1 h2))) (fun h3 => (dj_if (fun h4 => (kQ _ _ ((h1.2 h3).1 h4))) (fun h5 => (dj_if (fun h6 => (dj_and (((h1.2 h3).2 h5).1 h6).1 (dj_and (((h1.2 h3).2 h5).1 h6).2.1 (kQ _ _ (((h1.2 h3).2 h5).1 h6).2.2)))) (fun h7 => (kQ _ _ (((h1.2 h3).2 h5).2 h7))))))))))
theorem ex_p_Mo_sense {w : MW} {a0 : Int32} {b0 : Int32} {c0 : Int32} {Q : Int32 → MW → Prop} (h : p_Mo_sense w a0 b0 c0 Q) : ∃ (r1 : Int32) (w1 : MW), Q r1 w1 ∧ p_Mo_sense w a0 b0 c0 (fun r u => r = r1 ∧ u = w1) := by
  obtain ⟨i, hi⟩ := dj_p_Mo_sense (I := {x : Int32 × MW // Q x.1 x.2}) (Q3 := fun i r u => r = i.1.1 ∧ u = i.1.2) h (fun r u q => ⟨⟨(r, u), q⟩, rfl, rfl⟩)
  exact ⟨i.1.1, i.1.2, i.2, hi⟩
theorem dj_p_Mo_signal {I : Type} {w : MW} {a0 : Int32} {b0 : Int64} {Q1 : Int32 → MW → Prop} {Q3 : I → Int32 → MW → Prop}  (h : p_Mo_signal w a0 b0 Q1) (kQ : ∀ x0 x1, Q1 x0 x1 → ∃ i : I, Q3 i x0 x1) : ∃ i : I, p_Mo_signal w a0 b0 (Q3 i) := by
  have h := Eq.mp (p_Mo_signal.eq_1 ..) h
  refine dj_eq (fun i => (p_Mo_signal.eq_1 ..)) ?_
  exact (dj_p_Mo_isRole h (fun _ _ h1 => (dj_if (fun h2 => (dj_and (h1.1 h2).1 (kQ _ _ (h1.1 h2).2))) (fun h3 => (kQ _ _ (h1.2 h3))))))
theorem ex_p_Mo_signal {w : MW} {a0 : Int32} {b0 : Int64} {Q : Int32 → MW → Prop} (h : p_Mo_signal w a0 b0 Q) : ∃ (r1 : Int32) (w1 : MW), Q r1 w1 ∧ p_Mo_signal w a0 b0 (fun r u => r = r1 ∧ u = w1) := by
  obtain ⟨i, hi⟩ := dj_p_Mo_signal (I := {x : Int32 × MW // Q x.1 x.2}) (Q3 := fun i r u => r = i.1.1 ∧ u = i.1.2) h (fun r u q => ⟨⟨(r, u), q⟩, rfl, rfl⟩)
  exact ⟨i.1.1, i.1.2, i.2, hi⟩
theorem dj_p_Mo_watch {I : Type} {w : MW} {a0 : Int32} {b0 : Int32} {c0 : Int32} {e0 : Int64} {Q1 : Int32 → MW → Prop} {Q3 : I → Int32 → MW → Prop}  (h : p_Mo_watch w a0 b0 c0 e0 Q1) (kQ : ∀ x0 x1, Q1 x0 x1 → ∃ i : I, Q3 i x0 x1) : ∃ i : I, p_Mo_watch w a0 b0 c0 e0 (Q3 i) := by
  have h := Eq.mp (p_Mo_watch.eq_1 ..) h
  refine dj_eq (fun i => (p_Mo_watch.eq_1 ..)) ?_
  exact (dj_if (fun h1 => (kQ _ _ (h.1 h1))) (fun h2 => (dj_if (fun h3 => (kQ _ _ ((h.2 h2).1 h3))) (fun h4 => (dj_if (fun h5 => (kQ _ _ (((h.2 h2).2 h4).1 h5))) (fun h6 => (dj_if (fun h7 => (dj_and ((((h.2 h2).2 h4).2 h6).1 h7).1 (dj_and ((((h.2 h2).2 h4).2 h6).1 h7).2.1 (dj_and ((((h.2 h2).2 h4).2 h6).1 h7).2.2.1 (kQ _ _ ((((h.2 h2).2 h4).2 h6).1 h7).2.2.2))))) (fun h8 => (kQ _ _ ((((h.2 h2).2 h4).2 h6).2 h8))))))))))
theorem ex_p_Mo_watch {w : MW} {a0 : Int32} {b0 : Int32} {c0 : Int32} {e0 : Int64} {Q : Int32 → MW → Prop} (h : p_Mo_watch w a0 b0 c0 e0 Q) : ∃ (r1 : Int32) (w1 : MW), Q r1 w1 ∧ p_Mo_watch w a0 b0 c0 e0 (fun r u => r = r1 ∧ u = w1) := by
  obtain ⟨i, hi⟩ := dj_p_Mo_watch (I := {x : Int32 × MW // Q x.1 x.2}) (Q3 := fun i r u => r = i.1.1 ∧ u = i.1.2) h (fun r u q => ⟨⟨(r, u), q⟩, rfl, rfl⟩)
  exact ⟨i.1.1, i.1.2, i.2, hi⟩
theorem dj_q_Mo_bind_72 {I : Type} {y72_1 : Int32} {y72_2 : Int32} {y72_3 : Int32} {y72_4 : Int32} {y72_5 : Int32} {w : MW} {Q1 : Int32 → MW → Prop} {Q3 : I → Int32 → MW → Prop}  (kQ : ∀ x0 x1, Q1 x0 x1 → ∃ i : I, Q3 i x0 x1) (h : q_Mo_bind_72 y72_1 y72_2 y72_3 y72_4 y72_5 w Q1) : ∃ i : I, q_Mo_bind_72 y72_1 y72_2 y72_3 y72_4 y72_5 w (Q3 i) := by
  have h := Eq.mp (q_Mo_bind_72.eq_1 ..) h
  refine dj_eq (fun i => (q_Mo_bind_72.eq_1 ..)) ?_
  exact (dj_and h.1 (dj_and h.2.1 (dj_and h.2.2.1 (dj_and h.2.2.2.1 (kQ _ _ h.2.2.2.2)))))
theorem dj_q_Mo_bind_53 {I : Type} {y53_1 : Int32} {y53_2 : Int32} {y53_3 : Int32} {y53_4 : Int32} {y53_5 : Int32} {w : MW} {Q1 : Int32 → MW → Prop} {Q3 : I → Int32 → MW → Prop}  (kQ : ∀ x0 x1, Q1 x0 x1 → ∃ i : I, Q3 i x0 x1) (h : q_Mo_bind_53 y53_1 y53_2 y53_3 y53_4 y53_5 w Q1) : ∃ i : I, q_Mo_bind_53 y53_1 y53_2 y53_3 y53_4 y53_5 w (Q3 i) := by
  have h := Eq.mp (q_Mo_bind_53.eq_1 ..) h
  refine dj_eq (fun i => (q_Mo_bind_53.eq_1 ..)) ?_
  exact (dj_if (fun h1 => (dj_q_Mo_bind_72  kQ (h.1 h1))) (fun h2 => (dj_if (fun h3 => (kQ _ _ ((h.2 h2).1 h3))) (fun h4 => (dj_if (fun h5 => (dj_q_Mo_bind_72  kQ (((h.2 h2).2 h4).1 h5))) (fun h6 => (kQ _ _ (((h.2 h2).2 h4).2 h6))))))))
theorem dj_q_Mo_bind_36 {I : Type} {y36_1 : Int32} {y36_2 : Int32} {y36_3 : Int32} {y36_4 : Int32} {y36_5 : Int32} {w : MW} {Q1 : Int32 → MW → Prop} {Q3 : I → Int32 → MW → Prop}  (kQ : ∀ x0 x1, Q1 x0 x1 → ∃ i : I, Q3 i x0 x1) (h : q_Mo_bind_36 y36_1 y36_2 y36_3 y36_4 y36_5 w Q1) : ∃ i : I, q_Mo_bind_36 y36_1 y36_2 y36_3 y36_4 y36_5 w (Q3 i) := by
  have h := Eq.mp (q_Mo_bind_36.eq_1 ..) h
  refine dj_eq (fun i => (q_Mo_bind_36.eq_1 ..)) ?_
  exact (dj_if (fun h1 => (dj_q_Mo_bind_53  kQ (h.1 h1))) (fun h2 => (dj_if (fun h3 => (kQ _ _ ((h.2 h2).1 h3))) (fun h4 => (dj_if (fun h5 => (kQ _ _ (((h.2 h2).2 h4).1 h5))) (fun h6 => (dj_q_Mo_bind_53  kQ (((h.2 h2).2 h4).2 h6))))))))
theorem dj_p_Mo_bind {I : Type} {w : MW} {a0 : Int32} {b0 : Int32} {c0 : Int32} {e0 : Int32} {f0 : Int32} {Q1 : Int32 → MW → Prop} {Q3 : I → Int32 → MW → Prop}  (h : p_Mo_bind w a0 b0 c0 e0 f0 Q1) (kQ : ∀ x0 x1, Q1 x0 x1 → ∃ i : I, Q3 i x0 x1) : ∃ i : I, p_Mo_bind w a0 b0 c0 e0 f0 (Q3 i) := by
  have h := Eq.mp (p_Mo_bind.eq_1 ..) h
  refine dj_eq (fun i => (p_Mo_bind.eq_1 ..)) ?_
  exact (dj_if (fun h1 => (kQ _ _ (h.1 h1))) (fun h2 => (dj_if (fun h3 => (kQ _ _ ((h.2 h2).1 h3))) (fun h4 => (dj_if (fun h5 => (kQ _ _ (((h.2 h2).2 h4).1 h5))) (fun h6 => (dj_if (fun h7 => (kQ _ _ ((((h.2 h2).2 h4).2 h6).1 h7))) (fun h8 => (dj_if (fun h9 => (dj_q_Mo_bind_36  kQ (((((h.2 h2).2 h4).2 h6).2 h8).1 h9))) (fun h10 => (dj_if (fun h11 => (kQ _ _ ((((((h.2 h2).2 h4).2 h6).2 h8).2 h10).1 h11))) (fun h12 => (dj_if (fun h13 => (kQ _ _ (((((((h.2 h2).2 h4).2 h6).2 h8).2 h10).2 h12).1 h13))) (fun h14 => (dj_q_Mo_bind_36  kQ (((((((h.2 h2).2 h4).2 h6).2 h8).2 h10).2 h12).2 h14))))))))))))))))
theorem ex_p_Mo_bind {w : MW} {a0 : Int32} {b0 : Int32} {c0 : Int32} {e0 : Int32} {f0 : Int32} {Q : Int32 → MW → Prop} (h : p_Mo_bind w a0 b0 c0 e0 f0 Q) : ∃ (r1 : Int32) (w1 : MW), Q r1 w1 ∧ p_Mo_bind w a0 b0 c0 e0 f0 (fun r u => r = r1 ∧ u = w1) := by
  obtain ⟨i, hi⟩ := dj_p_Mo_bind (I := {x : Int32 × MW // Q x.1 x.2}) (Q3 := fun i r u => r = i.1.1 ∧ u = i.1.2) h (fun r u q => ⟨⟨(r, u), q⟩, rfl, rfl⟩)
  exact ⟨i.1.1, i.1.2, i.2, hi⟩
theorem dj_q_Mo_may_46 {I : Type} {y46_1 : Int32} {y46_2 : Int32} {ys46_0 : Int32} {w : MW} {Q1 : Int32 → MW → Prop} {Q3 : I → Int32 → MW → Prop}  (kQ : ∀ x0 x1, Q1 x0 x1 → ∃ i : I, Q3 i x0 x1) (h : q_Mo_may_46 y46_1 y46_2 ys46_0 w Q1) : ∃ i : I, q_Mo_may_46 y46_1 y46_2 ys46_0 w (Q3 i) := by
  have h := Eq.mp (q_Mo_may_46.eq_1 ..) h
  refine dj_eq (fun i => (q_Mo_may_46.eq_1 ..)) ?_
  exact (dj_if (fun h1 => (dj_and (h.1 h1).1 (kQ _ _ (h.1 h1).2))) (fun h2 => (dj_and (h.2 h2).1 (dj_and (h.2 h2).2.1 (dj_and (h.2 h2).2.2.1 (kQ _ _ (h.2 h2).2.2.2))))))
theorem dj_p_Mo_may {I : Type} {w : MW} {a0 : Int32} {b0 : Int32} {Q1 : Int32 → MW → Prop} {Q3 : I → Int32 → MW → Prop}  (h : p_Mo_may w a0 b0 Q1) (kQ : ∀ x0 x1, Q1 x0 x1 → ∃ i : I, Q3 i x0 x1) : ∃ i : I, p_Mo_may w a0 b0 (Q3 i) := by
  have h := Eq.mp (p_Mo_may.eq_1 ..) h
  refine dj_eq (fun i => (p_Mo_may.eq_1 ..)) ?_
  exact (dj_if (fun h1 => (dj_q_Mo_may_46  kQ (h.1 h1))) (fun h2 => (dj_if (fun h3 => (dj_q_Mo_may_46  kQ ((h.2 h2).1 h3))) (fun h4 => (dj_if (fun h5 => (dj_q_Mo_may_46  kQ (((h.2 h2).2 h4).1 h5))) (fun h6 => (dj_if (fun h7 => (dj_q_Mo_may_46  kQ ((((h.2 h2).2 h4).2 h6).1 h7))) (fun h8 => (dj_if (fun h9 => (dj_q_Mo_may_46  kQ (((((h.2 h2).2 h4).2 h6).2 h8).1 h9))) (fun h10 => (dj_and (((((h.2 h2).2 h4).2 h6).2 h8).2 h10).1 (dj_if (fun h11 => (dj_q_Mo_may_46  kQ ((((((h.2 h2).2 h4).2 h6).2 h8).2 h10).2.1 h11))) (fun h12 => (dj_q_Mo_may_46  kQ ((((((h.2 h2).2 h4).2 h6).2 h8).2 h10).2.2 h12)))))))))))))))
theorem ex_p_Mo_may {w : MW} {a0 : Int32} {b0 : Int32} {Q : Int32 → MW → Prop} (h : p_Mo_may w a0 b0 Q) : ∃ (r1 : Int32) (w1 : MW), Q r1 w1 ∧ p_Mo_may w a0 b0 (fun r u => r = r1 ∧ u = w1) := by
  obtain ⟨i, hi⟩ := dj_p_Mo_may (I := {x : Int32 × MW // Q x.1 x.2}) (Q3 := fun i r u => r = i.1.1 ∧ u = i.1.2) h (fun r u q => ⟨⟨(r, u), q⟩, rfl, rfl⟩)
  exact ⟨i.1.1, i.1.2, i.2, hi⟩
theorem dj_p_Mo_need {I : Type} {w : MW} {a0 : Int32} {b0 : Int32} {c0 : Int32} {Q1 : Int32 → MW → Prop} {Q3 : I → Int32 → MW → Prop}  (h : p_Mo_need w a0 b0 c0 Q1) (kQ : ∀ x0 x1, Q1 x0 x1 → ∃ i : I, Q3 i x0 x1) : ∃ i : I, p_Mo_need w a0 b0 c0 (Q3 i) := by
  have h := Eq.mp (p_Mo_need.eq_1 ..) h
  refine dj_eq (fun i => (p_Mo_need.eq_1 ..)) ?_
  exact (dj_if (fun h1 => (kQ _ _ (h.1 h1))) (fun h2 => (dj_if (fun h3 => (kQ _ _ ((h.2 h2).1 h3))) (fun h4 => (dj_if (fun h5 => (kQ _ _ (((h.2 h2).2 h4).1 h5))) (fun h6 => (dj_if (fun h7 => (kQ _ _ ((((h.2 h2).2 h4).2 h6).1 h7))) (fun h8 => (dj_if (fun h9 => (kQ _ _ (((((h.2 h2).2 h4).2 h6).2 h8).1 h9))) (fun h10 => (dj_if (fun h11 => (dj_and ((((((h.2 h2).2 h4).2 h6).2 h8).2 h10).1 h11).1 (kQ _ _ ((((((h.2 h2).2 h4).2 h6).2 h8).2 h10).1 h11).2))) (fun h12 => (kQ _ _ ((((((h.2 h2).2 h4).2 h6).2 h8).2 h10).2 h12))))))))))))))
theorem ex_p_Mo_need {w : MW} {a0 : Int32} {b0 : Int32} {c0 : Int32} {Q : Int32 → MW → Prop} (h : p_Mo_need w a0 b0 c0 Q) : ∃ (r1 : Int32) (w1 : MW), Q r1 w1 ∧ p_Mo_need w a0 b0 c0 (fun r u => r = r1 ∧ u = w1) := by
  obtain ⟨i, hi⟩ := dj_p_Mo_need (I := {x : Int32 × MW // Q x.1 x.2}) (Q3 := fun i r u => r = i.1.1 ∧ u = i.1.2) h (fun r u q => ⟨⟨(r, u), q⟩, rfl, rfl⟩)
  exact ⟨i.1.1, i.1.2, i.2, hi⟩
theorem dj_p_Mo_lasts {I : Type} {w : MW} {a0 : Int32} {b0 : Int32} {Q1 : Int32 → MW → Prop} {Q3 : I → Int32 → MW → Prop}  (h : p_Mo_lasts w a0 b0 Q1) (kQ : ∀ x0 x1, Q1 x0 x1 → ∃ i : I, Q3 i x0 x1) : ∃ i : I, p_Mo_lasts w a0 b0 (Q3 i) := by
  have h := Eq.mp (p_Mo_lasts.eq_1 ..) h
  refine dj_eq (fun i => (p_Mo_lasts.eq_1 ..)) ?_
  exact (dj_if (fun h1 => (kQ _ _ (h.1 h1))) (fun h2 => (dj_if (fun h3 => (kQ _ _ ((h.2 h2).1 h3))) (fun h4 => (dj_if (fun h5 => (kQ _ _ (((h.2 h2).2 h4).1 h5))) (fun h6 => (dj_if (fun h7 => (dj_and ((((h.2 h2).2 h4).2 h6).1 h7).1 (kQ _ _ ((((h.2 h2).2 h4).2 h6).1 h7).2))) (fun h8 => (kQ _ _ ((((h.2 h2).2 h4).2 h6).2 h8))))))))))
theorem ex_p_Mo_lasts {w : MW} {a0 : Int32} {b0 : Int32} {Q : Int32 → MW → Prop} (h : p_Mo_lasts w a0 b0 Q) : ∃ (r1 : Int32) (w1 : MW), Q r1 w1 ∧ p_Mo_lasts w a0 b0 (fun r u => r = r1 ∧ u = w1) := by
  obtain ⟨i, hi⟩ := dj_p_Mo_lasts (I := {x : Int32 × MW // Q x.1 x.2}) (Q3 := fun i r u => r = i.1.1 ∧ u = i.1.2) h (fun r u q => ⟨⟨(r, u), q⟩, rfl, rfl⟩)
  exact ⟨i.1.1, i.1.2, i.2, hi⟩
theorem dj_p_Mr_pass {I : Type} {w : MW} {a0 : Int32} {b0 : Int32} {c0 : Int32} {e0 : Int32} {Q1 : Int32 → MW → Prop} {Q3 : I → Int32 → MW → Prop}  (h : p_Mr_pass w a0 b0 c0 e0 Q1) (kQ : ∀ x0 x1, Q1 x0 x1 → ∃ i : I, Q3 i x0 x1) : ∃ i : I, p_Mr_pass w a0 b0 c0 e0 (Q3 i) := by
  have h := Eq.mp (p_Mr_pass.eq_1 ..) h
  refine dj_eq (fun i => (p_Mr_pass.eq_1 ..)) ?_
  exact (dj_p_Mr_isRow h (fun _ _ h1 => (dj_if (fun h2 => (dj_if (fun h4 => (kQ _ _ ((h1.1 h2).1 h4))) (fun h5 => (dj_if (fun h6 => (kQ _ _ (((h1.1 h2).2 h5).1 h6))) (fun h7 => (dj_if (fun h8 => (kQ _ _ ((((h1.1 h2).2 h5).2 h7).1 h8))) (fun h9 => (dj_if (fun h10 => (kQ _ _ (((((h1.1 h2).2 h5).2 h7).2 h9).1 h10))) (fun h11 => (dj_if (fun h12 => (dj_if (fun h14 => (kQ _ _ (((((((h1.1 h2).2 h5).2 h7).2 h9).2 h11).1 h12).1 h14))) (fun h15 => (dj_if (fun h16 => (dj_and ((((((((h1.1 h2).2 h5).2 h7).2 h9).2 h11).1 h12).2 h15).1 h16).1 (dj_if (fun h18 => (dj_and (((((((((h1.1 h2).2 h5).2 h7).2 h9).2 h11).1 h12).2 h15).1 h16).2.1 h18).1 (kQ _ _ (((((((((h1.1 h2).2 h5).2 h7).2 h9).2 h11).1 h12).2 h15).1 h16).2.1 h18).2))) (fun h19 => (kQ _ _ (((((((((h1.1 h2).2 h5).2 h7).2 h9).2 h11).1 h12).2 h15).1 h16).2.2 h19)))))) (fun h17 => (kQ _ _ ((((((((h1.1 h2).2 h5).2 h7).2 h9).2 h11).1 h12).2 h15).2 h17))))))) (fun h13 => (kQ _ _ ((((((h1.1 h2).2 h5).2 h7).2 h9).2 h11).2 h13))))))))))))) (fun h3 => (kQ _ _ (h1.2 h3))))))
theorem ex_p_Mr_pass {w : MW} {a0 : Int32} {b0 : Int32} {c0 : Int32} {e0 : Int32} {Q : Int32 → MW → Prop} (h : p_Mr_pass w a0 b0 c0 e0 Q) : ∃ (r1 : Int32) (w1 : MW), Q r1 w1 ∧ p_Mr_pass w a0 b0 c0 e0 (fun r u => r = r1 ∧ u = w1) := by
  obtain ⟨i, hi⟩ := dj_p_Mr_pass (I := {x : Int32 × MW // Q x.1 x.2}) (Q3 := fun i r u => r = i.1.1 ∧ u = i.1.2) h (fun r u q => ⟨⟨(r, u), q⟩, rfl, rfl⟩)
  exact ⟨i.1.1, i.1.2, i.2, hi⟩
theorem dj_p_Mo_pass {I : Type} {w : MW} {a0 : Int32} {b0 : Int32} {c0 : Int32} {e0 : Int32} {Q1 : Int32 → MW → Prop} {Q3 : I → Int32 → MW → Prop}  (h : p_Mo_pass w a0 b0 c0 e0 Q1) (kQ : ∀ x0 x1, Q1 x0 x1 → ∃ i : I, Q3 i x0 x1) : ∃ i : I, p_Mo_pass w a0 b0 c0 e0 (Q3 i) := by
  have h := Eq.mp (p_Mo_pass.eq_1 ..) h
  refine dj_eq (fun i => (p_Mo_pass.eq_1 ..)) ?_
  exact (dj_p_Mr_pass h (fun _ _ h1 => (kQ _ _ h1)))
theorem ex_p_Mo_pass {w : MW} {a0 : Int32} {b0 : Int32} {c0 : Int32} {e0 : Int32} {Q : Int32 → MW → Prop} (h : p_Mo_pass w a0 b0 c0 e0 Q) : ∃ (r1 : Int32) (w1 : MW), Q r1 w1 ∧ p_Mo_pass w a0 b0 c0 e0 (fun r u => r = r1 ∧ u = w1) := by
  obtain ⟨i, hi⟩ := dj_p_Mo_pass (I := {x : Int32 × MW // Q x.1 x.2}) (Q3 := fun i r u => r = i.1.1 ∧ u = i.1.2) h (fun r u q => ⟨⟨(r, u), q⟩, rfl, rfl⟩)
  exact ⟨i.1.1, i.1.2, i.2, hi⟩
