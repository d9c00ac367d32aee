/-! two contracts hold together -/
theorem an_q_Ro_isOn_10 {x10_1 : Int32} {E1 E2 E3 : Int64 → MW → Prop} {Q1 Q2 Q3 : Int32 → MW → Prop}  (kE : ∀ x0 x1, E1 x0 x1 → E2 x0 x1 → E3 x0 x1) (kQ : ∀ x0 x1, Q1 x0 x1 → Q2 x0 x1 → Q3 x0 x1) : ∀ (m : Nat) (x10_2 : Int64) (x10_4 : Int32) (w : MW), q_Ro_isOn_10 x10_1 E1 Q1 m x10_2 x10_4 w → q_Ro_isOn_10 x10_1 E2 Q2 m x10_2 x10_4 w → q_Ro_isOn_10 x10_1 E3 Q3 m x10_2 x10_4 w := by
  intro m
  induction m with
  | zero => exact fun _ _ _ h _ => False.elim h
  | succ m ih =>
    intro x10_2 x10_4 w h g
    rw [q_Ro_isOn_10.eq_2] at h g ⊢
    exact ⟨h.1, ⟨(fun h1 => (kE _ _ (h.2.1 h1) (g.2.1 h1))), (fun h2 => ⟨(h.2.2 h2).1, ⟨(fun h3 => ⟨((h.2.2 h2).2.1 h3).1, ⟨(fun h4 => ⟨(((h.2.2 h2).2.1 h3).2.1 h4).1, ⟨(fun h5 => (ih _ _ _ ((((h.2.2 h2).2.1 h3).2.1 h4).2.1 h5) ((((g.2.2 h2).2.1 h3).2.1 h4).2.1 h5))), (fun h6 => (ih _ _ _ ((((h.2.2 h2).2.1 h3).2.1 h4).2.2 h6) ((((g.2.2 h2).2.1 h3).2.1 h4).2.2 h6)))⟩⟩), (fun h7 => (ih _ _ _ (((h.2.2 h2).2.1 h3).2.2 h7) (((g.2.2 h2).2.1 h3).2.2 h7)))⟩⟩), (fun h8 => ⟨((h.2.2 h2).2.2 h8).1, (ih _ _ _ ((h.2.2 h2).2.2 h8).2 ((g.2.2 h2).2.2 h8).2)⟩)⟩⟩)⟩⟩
theorem an_p_Ro_isOn {w : MW} {a0 : Int32} {Q1 Q2 Q3 : Int32 → MW → Prop}  (h : p_Ro_isOn w a0 Q1) (g : p_Ro_isOn w a0 Q2) (kQ : ∀ x0 x1, Q1 x0 x1 → Q2 x0 x1 → Q3 x0 x1) : p_Ro_isOn w a0 Q3 := by
  rw [p_Ro_isOn.eq_1] at h g ⊢
  exact ⟨h.1, (an_q_Ro_isOn_10  (fun _ _ h1 h2 => ⟨(fun h3 => (kQ _ _ (h1.1 h3) (h2.1 h3))), (fun h4 => (kQ _ _ (h1.2 h4) (h2.2 h4)))⟩) kQ _ _ _ _ h.2 g.2)⟩
theorem an_q_Ro_barring_37 {x2_1 : Int32} {y37_2 : Int32} {ys37_0 : Int32} {w : MW} {A1 A2 A3 : Int32 → MW → Prop} {E1 E2 E3 : MW → Prop} {Q1 Q2 Q3 : Int32 → MW → Prop}  (kA : ∀ x0 x1, A1 x0 x1 → A2 x0 x1 → A3 x0 x1) (kE : ∀ x0, E1 x0 → E2 x0 → E3 x0) (kQ : ∀ x0 x1, Q1 x0 x1 → Q2 x0 x1 → Q3 x0 x1) (h : q_Ro_barring_37 x2_1 y37_2 ys37_0 w A1 E1 Q1) (g : q_Ro_barring_37 x2_1 y37_2 ys37_0 w A2 E2 Q2) : q_Ro_barring_37 x2_1 y37_2 ys37_0 w A3 E3 Q3 := by
  rw [q_Ro_barring_37.eq_1] at h g ⊢
  exact ⟨(fun h1 => (kA _ _ (h.1 h1) (g.1 h1))), (fun h2 => ⟨(h.2 h2).1, ⟨(fun h3 => (kQ _ _ ((h.2 h2).2.1 h3) ((g.2 h2).2.1 h3))), (fun h4 => ⟨((h.2 h2).2.2 h4).1, ⟨((h.2 h2).2.2 h4).2.1, ⟨(fun h5 => (kA _ _ (((h.2 h2).2.2 h4).2.2.1 h5) (((g.2 h2).2.2 h4).2.2.1 h5))), (fun h6 => (an_p_Ro_isOn (((h.2 h2).2.2 h4).2.2.2 h6) (((g.2 h2).2.2 h4).2.2.2 h6) (fun _ _ h7 h8 => ⟨(fun h9 => (kA _ _ (h7.1 h9) (h8.1 h9))), (fun h10 => (kQ _ _ (h7.2 h10) (h8.2 h10)))⟩)))⟩⟩⟩)⟩⟩)⟩
theorem an_q_Ro_barring_2 {x2_1 : Int32} {E1 E2 E3 : MW → Prop} {Q1 Q2 Q3 : Int32 → MW → Prop}  (kE : ∀ x0, E1 x0 → E2 x0 → E3 x0) (kQ : ∀ x0 x1, Q1 x0 x1 → Q2 x0 x1 → Q3 x0 x1) : ∀ (m : Nat) (x2_2 : Int32) (w : MW), q_Ro_barring_2 x2_1 E1 Q1 m x2_2 w → q_Ro_barring_2 x2_1 E2 Q2 m x2_2 w → q_Ro_barring_2 x2_1 E3 Q3 m x2_2 w := by
  intro m
  induction m with
  | zero => exact fun _ _ h _ => False.elim h
  | succ m ih =>
    intro x2_2 w h g
    rw [q_Ro_barring_2.eq_2] at h g ⊢
    exact ⟨(fun h1 => (kE _ (h.1 h1) (g.1 h1))), (fun h2 => ⟨(h.2 h2).1, ⟨(fun h3 => (an_q_Ro_barring_37  (fun _ _ h4 h5 => (ih _ _ h4 h5)) kE kQ ((h.2 h2).2.1 h3) ((g.2 h2).2.1 h3))), (fun h6 => ⟨((h.2 h2).2.2 h6).1, ⟨(fun h7 => (an_q_Ro_barring_37  (fun _ _ h8 h9 => (ih _ _ h8 h9)) kE kQ (((h.2 h2).2.2 h6).2.1 h7) (((g.2 h2).2.2 h6).2.1 h7))), (fun h10 => (an_q_Ro_barring_37  (fun _ _ h11 h12 => (ih _ _ h11 h12)) kE kQ (((h.2 h2).2.2 h6).2.2 h10) (((g.2 h2).2.2 h6).2.2 h10)))⟩⟩)⟩⟩)⟩
theorem an_p_Ro_barring {w : MW} {a0 : Int32} {Q1 Q2 Q3 : Int32 → MW → Prop}  (h : p_Ro_barring w a0 Q1) (g : p_Ro_barring w a0 Q2) (kQ : ∀ x0 x1, Q1 x0 x1 → Q2 x0 x1 → Q3 x0 x1) : p_Ro_barring w a0 Q3 := by
  rw [p_Ro_barring.eq_1] at h g ⊢
  exact (an_q_Ro_barring_2  (fun _ h1 h2 => (kQ _ _ h1 h2)) kQ _ _ _ h g)
theorem an_pb_Mr_value {r_Mr_value : MW → Int32 → (Int32 → MW → Prop) → Prop} {w : MW} {a0 : Int32} {Q1 Q2 Q3 : Int32 → MW → Prop} (ir_Mr_value : ∀ {z0 : MW} {z1 : Int32} {R1 R2 R3 : Int32 → MW → Prop}, r_Mr_value z0 z1 R1 → r_Mr_value z0 z1 R2 → (∀ y0 y1, R1 y0 y1 → R2 y0 y1 → R3 y0 y1) → r_Mr_value z0 z1 R3) (h : pb_Mr_value r_Mr_value w a0 Q1) (g : pb_Mr_value r_Mr_value w a0 Q2) (kQ : ∀ x0 x1, Q1 x0 x1 → Q2 x0 x1 → Q3 x0 x1) : pb_Mr_value r_Mr_value w a0 Q3 := by
  rw [pb_Mr_value.eq_1] at h g ⊢
  exact ⟨h.1, ⟨(fun h1 => ⟨(h.2.1 h1).1, (ir_Mr_value (h.2.1 h1).2 (g.2.1 h1).2 (fun _ _ h2 h3 => ⟨(fun h4 => (kQ _ _ (h2.1 h4) (h3.1 h4))), (fun h5 => (kQ _ _ (h2.2 h5) (h3.2 h5)))⟩))⟩), (fun h6 => ⟨(fun h7 => ⟨((h.2.2 h6).1 h7).1, (ir_Mr_value ((h.2.2 h6).1 h7).2 ((g.2.2 h6).1 h7).2 (fun _ _ h8 h9 => ⟨(fun h10 => (kQ _ _ (h8.1 h10) (h9.1 h10))), (fun h11 => ⟨(h8.2 h11).1, (ir_Mr_value (h8.2 h11).2 (h9.2 h11).2 (fun _ _ h12 h13 => ⟨(fun h14 => (kQ _ _ (h12.1 h14) (h13.1 h14))), (fun h15 => (kQ _ _ (h12.2 h15) (h13.2 h15)))⟩))⟩)⟩))⟩), (fun h16 => ⟨(fun h17 => ⟨(((h.2.2 h6).2 h16).1 h17).1, (ir_Mr_value (((h.2.2 h6).2 h16).1 h17).2 (((g.2.2 h6).2 h16).1 h17).2 (fun _ _ h18 h19 => ⟨(fun h20 => (kQ _ _ (h18.1 h20) (h19.1 h20))), (fun h21 => ⟨(h18.2 h21).1, (ir_Mr_value (h18.2 h21).2 (h19.2 h21).2 (fun _ _ h22 h23 => ⟨(fun h24 => (kQ _ _ (h22.1 h24) (h23.1 h24))), (fun h25 => (kQ _ _ (h22.2 h25) (h23.2 h25)))⟩))⟩)⟩))⟩), (fun h26 => ⟨(((h.2.2 h6).2 h16).2 h26).1, ⟨(fun h27 => (kQ _ _ ((((h.2.2 h6).2 h16).2 h26).2.1 h27) ((((g.2.2 h6).2 h16).2 h26).2.1 h27))), (fun h28 => (kQ _ _ ((((h.2.2 h6).2 h16).2 h26).2.2 h28) ((((g.2.2 h6).2 h16).2 h26).2.2 h28)))⟩⟩)⟩)⟩)⟩⟩
theorem ag_Mr_value : ∀ n : Nat, (∀ (w : MW) (a0 : Int32) (R1 R2 R3 : Int32 → MW → Prop), pn_Mr_value n w a0 R1 → pn_Mr_value n w a0 R2 → (∀ y0 y1, R1 y0 y1 → R2 y0 y1 → R3 y0 y1) → pn_Mr_value n w a0 R3) := by
  intro n
  induction n with
  | zero =>
    exact fun _ _ _ _ _ h _ _ => False.elim h
  | succ n ih =>
    have i_Mr_value := ih
    exact fun v0 v1 _ _ _ h g k => by
      rw [pe_Mr_value] at h g ⊢
      exact an_pb_Mr_value (fun h g k => i_Mr_value _ _ _ _ _ h g k) h g k
theorem an_pn_Mr_value (n : Nat) {w : MW} {a0 : Int32} {Q1 Q2 Q3 : Int32 → MW → Prop} (h : pn_Mr_value n w a0 Q1) (g : pn_Mr_value n w a0 Q2) (kQ : ∀ x0 x1, Q1 x0 x1 → Q2 x0 x1 → Q3 x0 x1) : pn_Mr_value n w a0 Q3 := (ag_Mr_value n) _ _ _ _ _ h g kQ
theorem an_p_Mr_value {w : MW} {a0 : Int32} {Q1 Q2 Q3 : Int32 → MW → Prop} (h : p_Mr_value w a0 Q1) (g : p_Mr_value w a0 Q2) (kQ : ∀ x0 x1, Q1 x0 x1 → Q2 x0 x1 → Q3 x0 x1) : p_Mr_value w a0 Q3 := an_pn_Mr_value _ h g kQ
theorem an_p_Mr_isOn {w : MW} {a0 : Int32} {Q1 Q2 Q3 : Int32 → MW → Prop}  (h : p_Mr_isOn w a0 Q1) (g : p_Mr_isOn w a0 Q2) (kQ : ∀ x0 x1, Q1 x0 x1 → Q2 x0 x1 → Q3 x0 x1) : p_Mr_isOn w a0 Q3 := by
  rw [p_Mr_isOn.eq_1] at h g ⊢
  exact ⟨h.1, (an_p_Mr_value h.2 g.2 (fun _ _ h1 h2 => (kQ _ _ h1 h2)))⟩
theorem an_q_Mr_hasAct_16 {x16_2 : Int32} {x16_3 : Int32} {E1 E2 E3 : Int32 → MW → Prop} {Q1 Q2 Q3 : Int32 → MW → Prop}  (kE : ∀ x0 x1, E1 x0 x1 → E2 x0 x1 → E3 x0 x1) (kQ : ∀ x0 x1, Q1 x0 x1 → Q2 x0 x1 → Q3 x0 x1) : ∀ (m : Nat) (x16_4 : Int32) (x16_5 : Int32) (w : MW), q_Mr_hasAct_16 x16_2 x16_3 E1 Q1 m x16_4 x16_5 w → q_Mr_hasAct_16 x16_2 x16_3 E2 Q2 m x16_4 x16_5 w → q_Mr_hasAct_16 x16_2 x16_3 E3 Q3 m x16_4 x16_5 w := by
  intro m
  induction m with
  | zero => exact fun _ _ _ h _ => False.elim h
  | succ m ih =>
    intro x16_4 x16_5 w h g
    rw [q_Mr_hasAct_16.eq_2] at h g ⊢
    exact ⟨h.1, ⟨(fun h1 => (kE _ _ (h.2.1 h1) (g.2.1 h1))), (fun h2 => ⟨(fun h3 => (ih _ _ _ ((h.2.2 h2).1 h3) ((g.2.2 h2).1 h3))), (fun h4 => ⟨((h.2.2 h2).2 h4).1, ⟨(fun h5 => (ih _ _ _ (((h.2.2 h2).2 h4).2.1 h5) (((g.2.2 h2).2 h4).2.1 h5))), (fun h6 => (ih _ _ _ (((h.2.2 h2).2 h4).2.2 h6) (((g.2.2 h2).2 h4).2.2 h6)))⟩⟩)⟩)⟩⟩
theorem an_p_Mr_hasAct {w : MW} {a0 : Int32} {b0 : Int32} {Q1 Q2 Q3 : Int32 → MW → Prop}  (h : p_Mr_hasAct w a0 b0 Q1) (g : p_Mr_hasAct w a0 b0 Q2) (kQ : ∀ x0 x1, Q1 x0 x1 → Q2 x0 x1 → Q3 x0 x1) : p_Mr_hasAct w a0 b0 Q3 := by
  rw [p_Mr_hasAct.eq_1] at h g ⊢
  exact (an_q_Mr_hasAct_16  (fun _ _ h1 h2 => ⟨h1.1, (kQ _ _ h1.2 h2.2)⟩) kQ _ _ _ _ h g)
theorem an_q_Mr_act1_76 {x14_1 : Int32} {y76_2 : Int32} {ys76_0 : Int32} {w : MW} {A1 A2 A3 : Int32 → MW → Prop} {E1 E2 E3 : MW → Prop} {Q1 Q2 Q3 : Int32 → MW → Prop}  (kA : ∀ x0 x1, A1 x0 x1 → A2 x0 x1 → A3 x0 x1) (kE : ∀ x0, E1 x0 → E2 x0 → E3 x0) (kQ : ∀ x0 x1, Q1 x0 x1 → Q2 x0 x1 → Q3 x0 x1) (h : q_Mr_act1_76 x14_1 y76_2 ys76_0 w A1 E1 Q1) (g : q_Mr_act1_76 x14_1 y76_2 ys76_0 w A2 E2 Q2) : q_Mr_act1_76 x14_1 y76_2 ys76_0 w A3 E3 Q3 := by
  rw [q_Mr_act1_76.eq_1] at h g ⊢
  exact ⟨(fun h1 => (kA _ _ (h.1 h1) (g.1 h1))), (fun h2 => (an_p_Mr_hasAct (h.2 h2) (g.2 h2) (fun _ _ h3 h4 => ⟨(fun h5 => (kA _ _ (h3.1 h5) (h4.1 h5))), (fun h6 => (kQ _ _ (h3.2 h6) (h4.2 h6)))⟩)))⟩
theorem an_q_Mr_act1_14 {x14_1 : Int32} {E1 E2 E3 : MW → Prop} {Q1 Q2 Q3 : Int32 → MW → Prop}  (kE : ∀ x0, E1 x0 → E2 x0 → E3 x0) (kQ : ∀ x0 x1, Q1 x0 x1 → Q2 x0 x1 → Q3 x0 x1) : ∀ (m : Nat) (x14_2 : Int32) (w : MW), q_Mr_act1_14 x14_1 E1 Q1 m x14_2 w → q_Mr_act1_14 x14_1 E2 Q2 m x14_2 w → q_Mr_act1_14 x14_1 E3 Q3 m x14_2 w := by
  intro m
  induction m with
  | zero => exact fun _ _ h _ => False.elim h
  | succ m ih =>
    intro x14_2 w h g
    rw [q_Mr_act1_14.eq_2] at h g ⊢
    exact ⟨(fun h1 => (kE _ (h.1 h1) (g.1 h1))), (fun h2 => ⟨(h.2 h2).1, ⟨(fun h3 => (an_q_Mr_act1_76  (fun _ _ h4 h5 => (ih _ _ h4 h5)) kE kQ ((h.2 h2).2.1 h3) ((g.2 h2).2.1 h3))), (fun h6 => ⟨((h.2 h2).2.2 h6).1, ⟨(fun h7 => (an_q_Mr_act1_76  (fun _ _ h8 h9 => (ih _ _ h8 h9)) kE kQ (((h.2 h2).2.2 h6).2.1 h7) (((g.2 h2).2.2 h6).2.1 h7))), (fun h10 => (an_p_Mr_isOn (((h.2 h2).2.2 h6).2.2 h10) (((g.2 h2).2.2 h6).2.2 h10) (fun _ _ h11 h12 => ⟨(fun h13 => (an_q_Mr_act1_76  (fun _ _ h14 h15 => (ih _ _ h14 h15)) kE kQ (h11.1 h13) (h12.1 h13))), (fun h16 => ⟨(h11.2 h16).1, ⟨(h11.2 h16).2.1, ⟨(fun h17 => (an_q_Mr_act1_76  (fun _ _ h18 h19 => (ih _ _ h18 h19)) kE kQ ((h11.2 h16).2.2.1 h17) ((h12.2 h16).2.2.1 h17))), (fun h20 => (an_q_Mr_act1_76  (fun _ _ h21 h22 => (ih _ _ h21 h22)) kE kQ ((h11.2 h16).2.2.2 h20) ((h12.2 h16).2.2.2 h20)))⟩⟩⟩)⟩)))⟩⟩)⟩⟩)⟩
theorem an_p_Mr_act1 {w : MW} {a0 : Int32} {Q1 Q2 Q3 : Int32 → MW → Prop}  (h : p_Mr_act1 w a0 Q1) (g : p_Mr_act1 w a0 Q2) (kQ : ∀ x0 x1, Q1 x0 x1 → Q2 x0 x1 → Q3 x0 x1) : p_Mr_act1 w a0 Q3 := by
  rw [p_Mr_act1.eq_1] at h g ⊢
  exact ⟨(fun h1 => (kQ _ _ (h.1 h1) (g.1 h1))), (fun h2 => ⟨(fun h3 => (an_q_Mr_act1_14  (fun _ h4 h5 => (kQ _ _ h4 h5)) kQ _ _ _ ((h.2 h2).1 h3) ((g.2 h2).1 h3))), (fun h6 => (kQ _ _ ((h.2 h2).2 h6) ((g.2 h2).2 h6)))⟩)⟩
