/-! a contract is a function: its end is one -/
theorem dj_and {I : Type} {b : Prop} {P : I → Prop} (hb : b) (h : ∃ i, P i) : ∃ i, b ∧ P i := h.elim (fun i hi => ⟨i, hb, hi⟩)
theorem dj_if {I : Type} {c : Prop} {A B : I → Prop} (h1 : c → ∃ i, A i) (h2 : ¬ c → ∃ i, B i) : ∃ i, (c → A i) ∧ (¬ c → B i) := by
  by_cases hc : c
  · exact (h1 hc).elim (fun i hi => ⟨i, fun _ => hi, fun z => absurd hc z⟩)
  · exact (h2 hc).elim (fun i hi => ⟨i, fun z => absurd z hc, fun _ => hi⟩)
theorem dj_eq {I : Type} {A B : I → Prop} (e : ∀ i, A i = B i) (h : ∃ i, B i) : ∃ i, A i := h.elim (fun i hi => ⟨i, Eq.mpr (e i) hi⟩)
theorem dj_p_St_cleanSpace {I : Type} {w : MW} {a0 : Int32} {b0 : Int32} {Q1 : MW → Prop} {Q3 : I → MW → Prop}  (h : p_St_cleanSpace w a0 b0 Q1) (kQ : ∀ x0, Q1 x0 → ∃ i : I, Q3 i x0) : ∃ i : I, p_St_cleanSpace w a0 b0 (Q3 i) := by
  have h := Eq.mp (p_St_cleanSpace.eq_1 ..) h
  refine dj_eq (fun i => (p_St_cleanSpace.eq_1 ..)) ?_
  exact (dj_and h.1 (kQ _ h.2))
theorem ex_p_St_cleanSpace {w : MW} {a0 : Int32} {b0 : Int32} {Q : MW → Prop} (h : p_St_cleanSpace w a0 b0 Q) : ∃ w1 : MW, Q w1 ∧ p_St_cleanSpace w a0 b0 (fun u => u = w1) := by
  obtain ⟨i, hi⟩ := dj_p_St_cleanSpace (I := {x : MW // Q x}) (Q3 := fun i u => u = i.1) h (fun u q => ⟨⟨u, q⟩, rfl⟩)
  exact ⟨i.1, i.2, hi⟩
theorem dj_p_St_isPipe {I : Type} {w : MW} {a0 : Int32} {Q1 : Int32 → MW → Prop} {Q3 : I → Int32 → MW → Prop}  (h : p_St_isPipe w a0 Q1) (kQ : ∀ x0 x1, Q1 x0 x1 → ∃ i : I, Q3 i x0 x1) : ∃ i : I, p_St_isPipe w a0 (Q3 i) := by
  have h := Eq.mp (p_St_isPipe.eq_1 ..) h
  refine dj_eq (fun i => (p_St_isPipe.eq_1 ..)) ?_
  exact (dj_and h.1 (dj_if (fun h1 => (kQ _ _ (h.2.1 h1))) (fun h2 => (dj_and (h.2.2 h2).1 (dj_and (h.2.2 h2).2.1 (dj_if (fun h3 => (kQ _ _ ((h.2.2 h2).2.2.1 h3))) (fun h4 => (kQ _ _ ((h.2.2 h2).2.2.2 h4)))))))))
theorem ex_p_St_isPipe {w : MW} {a0 : Int32} {Q : Int32 → MW → Prop} (h : p_St_isPipe w a0 Q) : ∃ (r1 : Int32) (w1 : MW), Q r1 w1 ∧ p_St_isPipe w a0 (fun r u => r = r1 ∧ u = w1) := by
  obtain ⟨i, hi⟩ := dj_p_St_isPipe (I := {x : Int32 × MW // Q x.1 x.2}) (Q3 := fun i r u => r = i.1.1 ∧ u = i.1.2) h (fun r u q => ⟨⟨(r, u), q⟩, rfl, rfl⟩)
  exact ⟨i.1.1, i.1.2, i.2, hi⟩
theorem dj_q_Wa_hasSpace_31 {I : Type} {x31_1 : Int32} {E1 : MW → Prop} {E3 : I → MW → Prop} {Q1 : Int32 → MW → Prop} {Q3 : I → Int32 → MW → Prop}  (kE : ∀ x0, E1 x0 → ∃ i : I, E3 i x0) (kQ : ∀ x0 x1, Q1 x0 x1 → ∃ i : I, Q3 i x0 x1) : ∀ (m : Nat) (x31_2 : Int32) (w : MW), q_Wa_hasSpace_31 x31_1 E1 Q1 m x31_2 w → ∃ i : I, q_Wa_hasSpace_31 x31_1 (E3 i) (Q3 i) m x31_2 w := by
  intro m
  induction m with
  | zero => exact fun _ _ h => False.elim h
  | succ m ih =>
    intro x31_2 w h
    have h := Eq.mp (q_Wa_hasSpace_31.eq_2 ..) h
    refine dj_eq (fun i => (q_Wa_hasSpace_31.eq_2 ..)) ?_
    exact (dj_if (fun h1 => (kE _ (h.1 h1))) (fun h2 => (dj_and (h.2 h2).1 (dj_if (fun h3 => (kQ _ _ ((h.2 h2).2.1 h3))) (fun h4 => (dj_and ((h.2 h2).2.2 h4).1 (dj_if (fun h5 => (ih _ _ (((h.2 h2).2.2 h4).2.1 h5))) (fun h6 => (kQ _ _ (((h.2 h2).2.2 h4).2.2 h6))))))))))
theorem dj_p_Wa_hasSpace {I : Type} {w : MW} {a0 : Int32} {Q1 : Int32 → MW → Prop} {Q3 : I → Int32 → MW → Prop}  (h : p_Wa_hasSpace w a0 Q1) (kQ : ∀ x0 x1, Q1 x0 x1 → ∃ i : I, Q3 i x0 x1) : ∃ i : I, p_Wa_hasSpace w a0 (Q3 i) := by
  have h := Eq.mp (p_Wa_hasSpace.eq_1 ..) h
  refine dj_eq (fun i => (p_Wa_hasSpace.eq_1 ..)) ?_
  exact (dj_p_St_isPipe h (fun _ _ h1 => (dj_if (fun h2 => (dj_q_Wa_hasSpace_31  (fun _ h4 => (kQ _ _ h4)) kQ _ _ _ (h1.1 h2))) (fun h3 => (dj_and (h1.2 h3).1 (dj_and (h1.2 h3).2.1 (dj_and (h1.2 h3).2.2.1 (kQ _ _ (h1.2 h3).2.2.2))))))))
theorem ex_p_Wa_hasSpace {w : MW} {a0 : Int32} {Q : Int32 → MW → Prop} (h : p_Wa_hasSpace w a0 Q) : ∃ (r1 : Int32) (w1 : MW), Q r1 w1 ∧ p_Wa_hasSpace w a0 (fun r u => r = r1 ∧ u = w1) := by
  obtain ⟨i, hi⟩ := dj_p_Wa_hasSpace (I := {x : Int32 × MW // Q x.1 x.2}) (Q3 := fun i r u => r = i.1.1 ∧ u = i.1.2) h (fun r u q => ⟨⟨(r, u), q⟩, rfl, rfl⟩)
  exact ⟨i.1.1, i.1.2, i.2, hi⟩
theorem dj_p_Ac_cleanSpace {I : Type} {w : MW} {a0 : Int32} {b0 : Int32} {Q1 : Int32 → MW → Prop} {Q3 : I → Int32 → MW → Prop}  (h : p_Ac_cleanSpace w a0 b0 Q1) (kQ : ∀ x0 x1, Q1 x0 x1 → ∃ i : I, Q3 i x0 x1) : ∃ i : I, p_Ac_cleanSpace w a0 b0 (Q3 i) := by
  have h := Eq.mp (p_Ac_cleanSpace.eq_1 ..) h
  refine dj_eq (fun i => (p_Ac_cleanSpace.eq_1 ..)) ?_
  exact (dj_and h.1 (dj_if (fun h1 => (kQ _ _ (h.2.1 h1))) (fun h2 => (dj_p_Wa_hasSpace (h.2.2 h2) (fun _ _ h3 => (dj_if (fun h4 => (dj_p_St_cleanSpace (h3.1 h4) (fun _ h6 => (kQ _ _ h6)))) (fun h5 => (kQ _ _ (h3.2 h5)))))))))
theorem ex_p_Ac_cleanSpace {w : MW} {a0 : Int32} {b0 : Int32} {Q : Int32 → MW → Prop} (h : p_Ac_cleanSpace w a0 b0 Q) : ∃ (r1 : Int32) (w1 : MW), Q r1 w1 ∧ p_Ac_cleanSpace w a0 b0 (fun r u => r = r1 ∧ u = w1) := by
  obtain ⟨i, hi⟩ := dj_p_Ac_cleanSpace (I := {x : Int32 × MW // Q x.1 x.2}) (Q3 := fun i r u => r = i.1.1 ∧ u = i.1.2) h (fun r u q => ⟨⟨(r, u), q⟩, rfl, rfl⟩)
  exact ⟨i.1.1, i.1.2, i.2, hi⟩
theorem dj_q_Wa_remove_168 {I : Type}  {E1 : MW → Prop} {E3 : I → MW → Prop} {Q1 : MW → Prop} {Q3 : I → MW → Prop}  (kE : ∀ x0, E1 x0 → ∃ i : I, E3 i x0) (kQ : ∀ x0, Q1 x0 → ∃ i : I, Q3 i x0) : ∀ (m : Nat) (x168_5 : Int32) (w : MW), q_Wa_remove_168 E1 Q1 m x168_5 w → ∃ i : I, q_Wa_remove_168 (E3 i) (Q3 i) m x168_5 w := by
  intro m
  induction m with
  | zero => exact fun _ _ h => False.elim h
  | succ m ih =>
    intro x168_5 w h
    have h := Eq.mp (q_Wa_remove_168.eq_2 ..) h
    refine dj_eq (fun i => (q_Wa_remove_168.eq_2 ..)) ?_
    exact (dj_if (fun h1 => (kE _ (h.1 h1))) (fun h2 => (dj_and (h.2 h2).1 (dj_and (h.2 h2).2.1 (dj_and (h.2 h2).2.2.1 (dj_and (h.2 h2).2.2.2.1 (dj_and (h.2 h2).2.2.2.2.1 (dj_and (h.2 h2).2.2.2.2.2.1 (dj_and (h.2 h2).2.2.2.2.2.2.1 (dj_and (h.2 h2).2.2.2.2.2.2.2.1 (dj_and (h.2 h2).2.2.2.2.2.2.2.2.1 (dj_and (h.2 h2).2.2.2.2.2.2.2.2.2.1 (dj_and (h.2 h2).2.2.2.2.2.2.2.2.2.2.1 (dj_and (h.2 h2).2.2.2.2.2.2.2.2.2.2.2.1 (dj_and (h.2 h2).2.2.2.2.2.2.2.2.2.2.2.2.1 (dj_and (h.2 h2).2.2.2.2.2.2.2.2.2.2.2.2.2.1 (ih _ _ (h.2 h2).2.2.2.2.2.2.2.2.2.2.2.2.2.2)))))))))))))))))
theorem dj_q_Wa_remove_19 {I : Type} {x19_1 : Int32} {x19_2 : Int32} {E1 : MW → Prop} {E3 : I → MW → Prop} {Q1 : MW → Prop} {Q3 : I → MW → Prop}  (kE : ∀ x0, E1 x0 → ∃ i : I, E3 i x0) (kQ : ∀ x0, Q1 x0 → ∃ i : I, Q3 i x0) : ∀ (m : Nat) (x19_4 : Int32) (x19_5 : Int32) (w : MW), q_Wa_remove_19 x19_1 x19_2 E1 Q1 m x19_4 x19_5 w → ∃ i : I, q_Wa_remove_19 x19_1 x19_2 (E3 i) (Q3 i) m x19_4 x19_5 w := by
  intro m
  induction m with
  | zero => exact fun _ _ _ h => False.elim h
  | succ m ih =>
    intro x19_4 x19_5 w h
    have h := Eq.mp (q_Wa_remove_19.eq_2 ..) h
    refine dj_eq (fun i => (q_Wa_remove_19.eq_2 ..)) ?_
    exact (dj_and h.1 (dj_if (fun h1 => (kE _ (h.2.1 h1))) (fun h2 => (dj_if (fun h3 => (kE _ ((h.2.2 h2).1 h3))) (fun h4 => (dj_and ((h.2.2 h2).2 h4).1 (dj_and ((h.2.2 h2).2 h4).2.1 (dj_if (fun h5 => (dj_and (((h.2.2 h2).2 h4).2.2.1 h5).1 (ih _ _ _ (((h.2.2 h2).2 h4).2.2.1 h5).2))) (fun h6 => (dj_and (((h.2.2 h2).2 h4).2.2.2 h6).1 (dj_and (((h.2.2 h2).2 h4).2.2.2 h6).2.1 (dj_and (((h.2.2 h2).2 h4).2.2.2 h6).2.2.1 (dj_and (((h.2.2 h2).2 h4).2.2.2 h6).2.2.2.1 (dj_and (((h.2.2 h2).2 h4).2.2.2 h6).2.2.2.2.1 (dj_if (fun h7 => (dj_and ((((h.2.2 h2).2 h4).2.2.2 h6).2.2.2.2.2.1 h7).1 (ih _ _ _ ((((h.2.2 h2).2 h4).2.2.2 h6).2.2.2.2.2.1 h7).2))) (fun h8 => (dj_and ((((h.2.2 h2).2 h4).2.2.2 h6).2.2.2.2.2.2 h8).1 (dj_if (fun h9 => (dj_and (((((h.2.2 h2).2 h4).2.2.2 h6).2.2.2.2.2.2 h8).2.1 h9).1 (ih _ _ _ (((((h.2.2 h2).2 h4).2.2.2 h6).2.2.2.2.2.2 h8).2.1 h9).2))) (fun h10 => (dj_if (fun h11 => (dj_and ((((((h.2.2 h2).2 h4).2.2.2 h6).2.2.2.2.2.2 h8).2.2 h10).1 h11).1 (dj_if (fun h13 => (dj_and (((((((h.2.2 h2).2 h4).2.2.2 h6).2.2.2.2.2.2 h8).2.2 h10).1 h11).2.1 h13).1 (dj_and (((((((h.2.2 h2).2 h4).2.2.2 h6).2.2.2.2.2.2 h8).2.2 h10).1 h11).2.1 h13).2.1 (ih _ _ _ (((((((h.2.2 h2).2 h4).2.2.2 h6).2.2.2.2.2.2 h8).2.2 h10).1 h11).2.1 h13).2.2)))) (fun h14 => (dj_and (((((((h.2.2 h2).2 h4).2.2.2 h6).2.2.2.2.2.2 h8).2.2 h10).1 h11).2.2 h14).1 (dj_and (((((((h.2.2 h2).2 h4).2.2.2 h6).2.2.2.2.2.2 h8).2.2 h10).1 h11).2.2 h14).2.1 (ih _ _ _ (((((((h.2.2 h2).2 h4).2.2.2 h6).2.2.2.2.2.2 h8).2.2 h10).1 h11).2.2 h14).2.2))))))) (fun h12 => (dj_and ((((((h.2.2 h2).2 h4).2.2.2 h6).2.2.2.2.2.2 h8).2.2 h10).2 h12).1 (dj_and ((((((h.2.2 h2).2 h4).2.2.2 h6).2.2.2.2.2.2 h8).2.2 h10).2 h12).2.1 (dj_and ((((((h.2.2 h2).2 h4).2.2.2 h6).2.2.2.2.2.2 h8).2.2 h10).2 h12).2.2.1 (ih _ _ _ ((((((h.2.2 h2).2 h4).2.2.2 h6).2.2.2.2.2.2 h8).2.2 h10).2 h12).2.2.2)))))))))))))))))))))))))
theorem dj_p_Wa_remove {I : Type} {w : MW} {a0 : Int32} {b0 : Int32} {Q1 : MW → Prop} {Q3 : I → MW → Prop}  (h : p_Wa_remove w a0 b0 Q1) (kQ : ∀ x0, Q1 x0 → ∃ i : I, Q3 i x0) : ∃ i : I, p_Wa_remove w a0 b0 (Q3 i) := by
  have h := Eq.mp (p_Wa_remove.eq_1 ..) h
  refine dj_eq (fun i => (p_Wa_remove.eq_1 ..)) ?_
  exact (dj_and h.1 (dj_and h.2.1 (dj_q_Wa_remove_19  (fun _ h1 => (dj_q_Wa_remove_168  (fun _ h2 => (kQ _ h2)) kQ _ _ _ h1)) kQ _ _ _ _ h.2.2)))
theorem ex_p_Wa_remove {w : MW} {a0 : Int32} {b0 : Int32} {Q : MW → Prop} (h : p_Wa_remove w a0 b0 Q) : ∃ w1 : MW, Q w1 ∧ p_Wa_remove w a0 b0 (fun u => u = w1) := by
  obtain ⟨i, hi⟩ := dj_p_Wa_remove (I := {x : MW // Q x}) (Q3 := fun i u => u = i.1) h (fun u q => ⟨⟨u, q⟩, rfl⟩)
  exact ⟨i.1, i.2, hi⟩
theorem dj_p_Wa_closeOne {I : Type} {w : MW} {a0 : Int32} {Q1 : MW → Prop} {Q3 : I → MW → Prop}  (h : p_Wa_closeOne w a0 Q1) (kQ : ∀ x0, Q1 x0 → ∃ i : I, Q3 i x0) : ∃ i : I, p_Wa_closeOne w a0 (Q3 i) := by
  have h := Eq.mp (p_Wa_closeOne.eq_1 ..) h
  refine dj_eq (fun i => (p_Wa_closeOne.eq_1 ..)) ?_
  exact (dj_p_Wa_remove h (fun _ h1 => (kQ _ h1)))
theorem ex_p_Wa_closeOne {w : MW} {a0 : Int32} {Q : MW → Prop} (h : p_Wa_closeOne w a0 Q) : ∃ w1 : MW, Q w1 ∧ p_Wa_closeOne w a0 (fun u => u = w1) := by
  obtain ⟨i, hi⟩ := dj_p_Wa_closeOne (I := {x : MW // Q x}) (Q3 := fun i u => u = i.1) h (fun u q => ⟨⟨u, q⟩, rfl⟩)
  exact ⟨i.1, i.2, hi⟩
theorem dj_q_Wa_indexOf_2 {I : Type} {x2_1 : Int32} {x2_2 : Int32} {E1 : MW → Prop} {E3 : I → MW → Prop} {Q1 : Int32 → MW → Prop} {Q3 : I → Int32 → MW → Prop}  (kE : ∀ x0, E1 x0 → ∃ i : I, E3 i x0) (kQ : ∀ x0 x1, Q1 x0 x1 → ∃ i : I, Q3 i x0 x1) : ∀ (m : Nat) (x2_3 : Int32) (w : MW), q_Wa_indexOf_2 x2_1 x2_2 E1 Q1 m x2_3 w → ∃ i : I, q_Wa_indexOf_2 x2_1 x2_2 (E3 i) (Q3 i) m x2_3 w := by
  intro m
  induction m with
  | zero => exact fun _ _ h => False.elim h
  | succ m ih =>
    intro x2_3 w h
    have h := Eq.mp (q_Wa_indexOf_2.eq_2 ..) h
    refine dj_eq (fun i => (q_Wa_indexOf_2.eq_2 ..)) ?_
    exact (dj_if (fun h1 => (kE _ (h.1 h1))) (fun h2 => (dj_and (h.2 h2).1 (dj_if (fun h3 => (ih _ _ ((h.2 h2).2.1 h3))) (fun h4 => (dj_and ((h.2 h2).2.2 h4).1 (dj_if (fun h5 => (ih _ _ (((h.2 h2).2.2 h4).2.1 h5))) (fun h6 => (kQ _ _ (((h.2 h2).2.2 h4).2.2 h6))))))))))
theorem dj_p_Wa_indexOf {I : Type} {w : MW} {a0 : Int32} {b0 : Int32} {Q1 : Int32 → MW → Prop} {Q3 : I → Int32 → MW → Prop}  (h : p_Wa_indexOf w a0 b0 Q1) (kQ : ∀ x0 x1, Q1 x0 x1 → ∃ i : I, Q3 i x0 x1) : ∃ i : I, p_Wa_indexOf w a0 b0 (Q3 i) := by
  have h := Eq.mp (p_Wa_indexOf.eq_1 ..) h
  refine dj_eq (fun i => (p_Wa_indexOf.eq_1 ..)) ?_
  exact (dj_q_Wa_indexOf_2  (fun _ h1 => (kQ _ _ h1)) kQ _ _ _ h)
theorem ex_p_Wa_indexOf {w : MW} {a0 : Int32} {b0 : Int32} {Q : Int32 → MW → Prop} (h : p_Wa_indexOf w a0 b0 Q) : ∃ (r1 : Int32) (w1 : MW), Q r1 w1 ∧ p_Wa_indexOf w a0 b0 (fun r u => r = r1 ∧ u = w1) := by
  obtain ⟨i, hi⟩ := dj_p_Wa_indexOf (I := {x : Int32 × MW // Q x.1 x.2}) (Q3 := fun i r u => r = i.1.1 ∧ u = i.1.2) h (fun r u q => ⟨⟨(r, u), q⟩, rfl, rfl⟩)
  exact ⟨i.1.1, i.1.2, i.2, hi⟩
theorem dj_p_Ac_closeWay {I : Type} {w : MW} {a0 : Int32} {b0 : Int32} {Q1 : Int32 → MW → Prop} {Q3 : I → Int32 → MW → Prop}  (h : p_Ac_closeWay w a0 b0 Q1) (kQ : ∀ x0 x1, Q1 x0 x1 → ∃ i : I, Q3 i x0 x1) : ∃ i : I, p_Ac_closeWay w a0 b0 (Q3 i) := by
  have h := Eq.mp (p_Ac_closeWay.eq_1 ..) h
  refine dj_eq (fun i => (p_Ac_closeWay.eq_1 ..)) ?_
  exact (dj_p_Wa_indexOf h (fun _ _ h1 => (dj_if (fun h2 => (dj_p_Wa_closeOne (h1.1 h2) (fun _ h4 => (kQ _ _ h4)))) (fun h3 => (kQ _ _ (h1.2 h3))))))
theorem ex_p_Ac_closeWay {w : MW} {a0 : Int32} {b0 : Int32} {Q : Int32 → MW → Prop} (h : p_Ac_closeWay w a0 b0 Q) : ∃ (r1 : Int32) (w1 : MW), Q r1 w1 ∧ p_Ac_closeWay w a0 b0 (fun r u => r = r1 ∧ u = w1) := by
  obtain ⟨i, hi⟩ := dj_p_Ac_closeWay (I := {x : Int32 × MW // Q x.1 x.2}) (Q3 := fun i r u => r = i.1.1 ∧ u = i.1.2) h (fun r u q => ⟨⟨(r, u), q⟩, rfl, rfl⟩)
  exact ⟨i.1.1, i.1.2, i.2, hi⟩
theorem dj_q_St_emptyCells_12 {I : Type} {x12_2 : Int32} {E1 : MW → Prop} {E3 : I → MW → Prop} {Q1 : MW → Prop} {Q3 : I → MW → Prop}  (kE : ∀ x0, E1 x0 → ∃ i : I, E3 i x0) (kQ : ∀ x0, Q1 x0 → ∃ i : I, Q3 i x0) : ∀ (m : Nat) (x12_3 : Int32) (w : MW), q_St_emptyCells_12 x12_2 E1 Q1 m x12_3 w → ∃ i : I, q_St_emptyCells_12 x12_2 (E3 i) (Q3 i) m x12_3 w := by
  intro m
  induction m with
  | zero => exact fun _ _ h => False.elim h
  | succ m ih =>
    intro x12_3 w h
    have h := Eq.mp (q_St_emptyCells_12.eq_2 ..) h
    refine dj_eq (fun i => (q_St_emptyCells_12.eq_2 ..)) ?_
    exact (dj_if (fun h1 => (kE _ (h.1 h1))) (fun h2 => (dj_if (fun h3 => (kE _ ((h.2 h2).1 h3))) (fun h4 => (dj_and ((h.2 h2).2 h4).1 (ih _ _ ((h.2 h2).2 h4).2))))))
theorem dj_p_St_emptyCells {I : Type} {w : MW} {a0 : Int32} {Q1 : MW → Prop} {Q3 : I → MW → Prop}  (h : p_St_emptyCells w a0 Q1) (kQ : ∀ x0, Q1 x0 → ∃ i : I, Q3 i x0) : ∃ i : I, p_St_emptyCells w a0 (Q3 i) := by
  have h := Eq.mp (p_St_emptyCells.eq_1 ..) h
  refine dj_eq (fun i => (p_St_emptyCells.eq_1 ..)) ?_
  exact (dj_and h.1 (dj_q_St_emptyCells_12  (fun _ h1 => (kQ _ h1)) kQ _ _ _ h.2))
theorem ex_p_St_emptyCells {w : MW} {a0 : Int32} {Q : MW → Prop} (h : p_St_emptyCells w a0 Q) : ∃ w1 : MW, Q w1 ∧ p_St_emptyCells w a0 (fun u => u = w1) := by
  obtain ⟨i, hi⟩ := dj_p_St_emptyCells (I := {x : MW // Q x}) (Q3 := fun i u => u = i.1) h (fun u q => ⟨⟨u, q⟩, rfl⟩)
  exact ⟨i.1, i.2, hi⟩
theorem dj_p_Ma_max {I : Type} {w : MW} {a0 : Int32} {b0 : Int32} {Q1 : Int32 → MW → Prop} {Q3 : I → Int32 → MW → Prop}  (h : p_Ma_max w a0 b0 Q1) (kQ : ∀ x0 x1, Q1 x0 x1 → ∃ i : I, Q3 i x0 x1) : ∃ i : I, p_Ma_max w a0 b0 (Q3 i) := by
  have h := Eq.mp (p_Ma_max.eq_1 ..) h
  refine dj_eq (fun i => (p_Ma_max.eq_1 ..)) ?_
  exact (dj_if (fun h1 => (kQ _ _ (h.1 h1))) (fun h2 => (kQ _ _ (h.2 h2))))
theorem ex_p_Ma_max {w : MW} {a0 : Int32} {b0 : Int32} {Q : Int32 → MW → Prop} (h : p_Ma_max w a0 b0 Q) : ∃ (r1 : Int32) (w1 : MW), Q r1 w1 ∧ p_Ma_max w a0 b0 (fun r u => r = r1 ∧ u = w1) := by
  obtain ⟨i, hi⟩ := dj_p_Ma_max (I := {x : Int32 × MW // Q x.1 x.2}) (Q3 := fun i r u => r = i.1.1 ∧ u = i.1.2) h (fun r u q => ⟨⟨(r, u), q⟩, rfl, rfl⟩)
  exact ⟨i.1.1, i.1.2, i.2, hi⟩
theorem dj_q_St_forgetCleanings_2 {I : Type} {x2_1 : Int32} {E1 : MW → Prop} {E3 : I → MW → Prop} {Q1 : MW → Prop} {Q3 : I → MW → Prop}  (kE : ∀ x0, E1 x0 → ∃ i : I, E3 i x0) (kQ : ∀ x0, Q1 x0 → ∃ i : I, Q3 i x0) : ∀ (m : Nat) (x2_2 : Int32) (w : MW), q_St_forgetCleanings_2 x2_1 E1 Q1 m x2_2 w → ∃ i : I, q_St_forgetCleanings_2 x2_1 (E3 i) (Q3 i) m x2_2 w := by
  intro m
  induction m with
  | zero => exact fun _ _ h => False.elim h
  | succ m ih =>
    intro x2_2 w h
    have h := Eq.mp (q_St_forgetCleanings_2.eq_2 ..) h
    refine dj_eq (fun i => (q_St_forgetCleanings_2.eq_2 ..)) ?_
    exact (dj_if (fun h1 => (kE _ (h.1 h1))) (fun h2 => (dj_and (h.2 h2).1 (ih _ _ (h.2 h2).2))))
theorem dj_p_St_forgetCleanings {I : Type} {w : MW} {a0 : Int32} {Q1 : MW → Prop} {Q3 : I → MW → Prop}  (h : p_St_forgetCleanings w a0 Q1) (kQ : ∀ x0, Q1 x0 → ∃ i : I, Q3 i x0) : ∃ i : I, p_St_forgetCleanings w a0 (Q3 i) := by
  have h := Eq.mp (p_St_forgetCleanings.eq_1 ..) h
  refine dj_eq (fun i => (p_St_forgetCleanings.eq_1 ..)) ?_
  exact (dj_q_St_forgetCleanings_2  (fun _ h1 => (kQ _ h1)) kQ _ _ _ h)
theorem ex_p_St_forgetCleanings {w : MW} {a0 : Int32} {Q : MW → Prop} (h : p_St_forgetCleanings w a0 Q) : ∃ w1 : MW, Q w1 ∧ p_St_forgetCleanings w a0 (fun u => u = w1) := by
  obtain ⟨i, hi⟩ := dj_p_St_forgetCleanings (I := {x : MW // Q x}) (Q3 := fun i u => u = i.1) h (fun u q => ⟨⟨u, q⟩, rfl⟩)
  exact ⟨i.1, i.2, hi⟩
theorem dj_p_St_leave {I : Type} {w : MW} {a0 : Int32} {b0 : Int32} {Q1 : MW → Prop} {Q3 : I → MW → Prop}  (h : p_St_leave w a0 b0 Q1) (kQ : ∀ x0, Q1 x0 → ∃ i : I, Q3 i x0) : ∃ i : I, p_St_leave w a0 b0 (Q3 i) := by
  have h := Eq.mp (p_St_leave.eq_1 ..) h
  refine dj_eq (fun i => (p_St_leave.eq_1 ..)) ?_
  exact (dj_and h.1 (dj_if (fun h1 => (dj_and (h.2.1 h1).1 (dj_p_Ma_max (h.2.1 h1).2 (fun _ _ h3 => (dj_and h3.1 (dj_and h3.2.1 (dj_if (fun h4 => (kQ _ (h3.2.2.1 h4))) (fun h5 => (dj_and (h3.2.2.2 h5).1 (dj_and (h3.2.2.2 h5).2.1 (dj_and (h3.2.2.2 h5).2.2.1 (dj_p_St_forgetCleanings (h3.2.2.2 h5).2.2.2 (fun _ h6 => (kQ _ h6)))))))))))))) (fun h2 => (kQ _ (h.2.2 h2)))))
theorem ex_p_St_leave {w : MW} {a0 : Int32} {b0 : Int32} {Q : MW → Prop} (h : p_St_leave w a0 b0 Q) : ∃ w1 : MW, Q w1 ∧ p_St_leave w a0 b0 (fun u => u = w1) := by
  obtain ⟨i, hi⟩ := dj_p_St_leave (I := {x : MW // Q x}) (Q3 := fun i u => u = i.1) h (fun u q => ⟨⟨u, q⟩, rfl⟩)
  exact ⟨i.1, i.2, hi⟩
theorem dj_p_Ac_drainSpace {I : Type} {w : MW} {a0 : Int32} {Q1 : Int32 → MW → Prop} {Q3 : I → Int32 → MW → Prop}  (h : p_Ac_drainSpace w a0 Q1) (kQ : ∀ x0 x1, Q1 x0 x1 → ∃ i : I, Q3 i x0 x1) : ∃ i : I, p_Ac_drainSpace w a0 (Q3 i) := by
  have h := Eq.mp (p_Ac_drainSpace.eq_1 ..) h
  refine dj_eq (fun i => (p_Ac_drainSpace.eq_1 ..)) ?_
  exact (dj_p_Wa_hasSpace h (fun _ _ h1 => (dj_if (fun h2 => (dj_and (h1.1 h2).1 (dj_p_St_leave (h1.1 h2).2 (fun _ h4 => (dj_p_St_emptyCells h4 (fun _ h5 => (kQ _ _ h5))))))) (fun h3 => (kQ _ _ (h1.2 h3))))))
theorem ex_p_Ac_drainSpace {w : MW} {a0 : Int32} {Q : Int32 → MW → Prop} (h : p_Ac_drainSpace w a0 Q) : ∃ (r1 : Int32) (w1 : MW), Q r1 w1 ∧ p_Ac_drainSpace w a0 (fun r u => r = r1 ∧ u = w1) := by
  obtain ⟨i, hi⟩ := dj_p_Ac_drainSpace (I := {x : Int32 × MW // Q x.1 x.2}) (Q3 := fun i r u => r = i.1.1 ∧ u = i.1.2) h (fun r u q => ⟨⟨(r, u), q⟩, rfl, rfl⟩)
  exact ⟨i.1.1, i.1.2, i.2, hi⟩
theorem dj_p_Ac_isAct {I : Type} {w : MW} {a0 : Int32} {Q1 : Int32 → MW → Prop} {Q3 : I → Int32 → MW → Prop}  (h : p_Ac_isAct w a0 Q1) (kQ : ∀ x0 x1, Q1 x0 x1 → ∃ i : I, Q3 i x0 x1) : ∃ i : I, p_Ac_isAct w a0 (Q3 i) := by
  have h := Eq.mp (p_Ac_isAct.eq_1 ..) h
  refine dj_eq (fun i => (p_Ac_isAct.eq_1 ..)) ?_
  exact (dj_if (fun h1 => (kQ _ _ (h.1 h1))) (fun h2 => (dj_if (fun h3 => (kQ _ _ ((h.2 h2).1 h3))) (fun h4 => (kQ _ _ ((h.2 h2).2 h4))))))
theorem ex_p_Ac_isAct {w : MW} {a0 : Int32} {Q : Int32 → MW → Prop} (h : p_Ac_isAct w a0 Q) : ∃ (r1 : Int32) (w1 : MW), Q r1 w1 ∧ p_Ac_isAct w a0 (fun r u => r = r1 ∧ u = w1) := by
  obtain ⟨i, hi⟩ := dj_p_Ac_isAct (I := {x : Int32 × MW // Q x.1 x.2}) (Q3 := fun i r u => r = i.1.1 ∧ u = i.1.2) h (fun r u q => ⟨⟨(r, u), q⟩, rfl, rfl⟩)
  exact ⟨i.1.1, i.1.2, i.2, hi⟩
theorem dj_p_St_isTank {I : Type} {w : MW} {a0 : Int32} {Q1 : Int32 → MW → Prop} {Q3 : I → Int32 → MW → Prop}  (h : p_St_isTank w a0 Q1) (kQ : ∀ x0 x1, Q1 x0 x1 → ∃ i : I, Q3 i x0 x1) : ∃ i : I, p_St_isTank w a0 (Q3 i) := by
  have h := Eq.mp (p_St_isTank.eq_1 ..) h
  refine dj_eq (fun i => (p_St_isTank.eq_1 ..)) ?_
  exact (dj_if (fun h1 => (kQ _ _ (h.1 h1))) (fun h2 => (dj_and (h.2 h2).1 (dj_if (fun h3 => (kQ _ _ ((h.2 h2).2.1 h3))) (fun h4 => (dj_and ((h.2 h2).2.2 h4).1 (dj_and ((h.2 h2).2.2 h4).2.1 (dj_if (fun h5 => (kQ _ _ (((h.2 h2).2.2 h4).2.2.1 h5))) (fun h6 => (kQ _ _ (((h.2 h2).2.2 h4).2.2.2 h6)))))))))))
theorem ex_p_St_isTank {w : MW} {a0 : Int32} {Q : Int32 → MW → Prop} (h : p_St_isTank w a0 Q) : ∃ (r1 : Int32) (w1 : MW), Q r1 w1 ∧ p_St_isTank w a0 (fun r u => r = r1 ∧ u = w1) := by
  obtain ⟨i, hi⟩ := dj_p_St_isTank (I := {x : Int32 × MW // Q x.1 x.2}) (Q3 := fun i r u => r = i.1.1 ∧ u = i.1.2) h (fun r u q => ⟨⟨(r, u), q⟩, rfl, rfl⟩)
  exact ⟨i.1.1, i.1.2, i.2, hi⟩
theorem dj_p_St_isHolder {I : Type} {w : MW} {a0 : Int32} {Q1 : Int32 → MW → Prop} {Q3 : I → Int32 → MW → Prop}  (h : p_St_isHolder w a0 Q1) (kQ : ∀ x0 x1, Q1 x0 x1 → ∃ i : I, Q3 i x0 x1) : ∃ i : I, p_St_isHolder w a0 (Q3 i) := by
  have h := Eq.mp (p_St_isHolder.eq_1 ..) h
  refine dj_eq (fun i => (p_St_isHolder.eq_1 ..)) ?_
  exact (dj_p_St_isTank h (fun _ _ h1 => (dj_if (fun h2 => (kQ _ _ (h1.1 h2))) (fun h3 => (dj_p_St_isPipe (h1.2 h3) (fun _ _ h4 => (dj_if (fun h5 => (kQ _ _ (h4.1 h5))) (fun h6 => (kQ _ _ (h4.2 h6))))))))))
theorem ex_p_St_isHolder {w : MW} {a0 : Int32} {Q : Int32 → MW → Prop} (h : p_St_isHolder w a0 Q) : ∃ (r1 : Int32) (w1 : MW), Q r1 w1 ∧ p_St_isHolder w a0 (fun r u => r = r1 ∧ u = w1) := by
  obtain ⟨i, hi⟩ := dj_p_St_isHolder (I := {x : Int32 × MW // Q x.1 x.2}) (Q3 := fun i r u => r = i.1.1 ∧ u = i.1.2) h (fun r u q => ⟨⟨(r, u), q⟩, rfl, rfl⟩)
  exact ⟨i.1.1, i.1.2, i.2, hi⟩
theorem dj_p_St_isValve {I : Type} {w : MW} {a0 : Int32} {Q1 : Int32 → MW → Prop} {Q3 : I → Int32 → MW → Prop}  (h : p_St_isValve w a0 Q1) (kQ : ∀ x0 x1, Q1 x0 x1 → ∃ i : I, Q3 i x0 x1) : ∃ i : I, p_St_isValve w a0 (Q3 i) := by
  have h := Eq.mp (p_St_isValve.eq_1 ..) h
  refine dj_eq (fun i => (p_St_isValve.eq_1 ..)) ?_
  exact (dj_if (fun h1 => (kQ _ _ (h.1 h1))) (fun h2 => (dj_and (h.2 h2).1 (dj_if (fun h3 => (kQ _ _ ((h.2 h2).2.1 h3))) (fun h4 => (dj_and ((h.2 h2).2.2 h4).1 (dj_and ((h.2 h2).2.2 h4).2.1 (dj_if (fun h5 => (kQ _ _ (((h.2 h2).2.2 h4).2.2.1 h5))) (fun h6 => (kQ _ _ (((h.2 h2).2.2 h4).2.2.2 h6)))))))))))
theorem ex_p_St_isValve {w : MW} {a0 : Int32} {Q : Int32 → MW → Prop} (h : p_St_isValve w a0 Q) : ∃ (r1 : Int32) (w1 : MW), Q r1 w1 ∧ p_St_isValve w a0 (fun r u => r = r1 ∧ u = w1) := by
  obtain ⟨i, hi⟩ := dj_p_St_isValve (I := {x : Int32 × MW // Q x.1 x.2}) (Q3 := fun i r u => r = i.1.1 ∧ u = i.1.2) h (fun r u q => ⟨⟨(r, u), q⟩, rfl, rfl⟩)
  exact ⟨i.1.1, i.1.2, i.2, hi⟩
theorem dj_p_Ac_isBound {I : Type} {w : MW} {a0 : Int32} {Q1 : Int32 → MW → Prop} {Q3 : I → Int32 → MW → Prop}  (h : p_Ac_isBound w a0 Q1) (kQ : ∀ x0 x1, Q1 x0 x1 → ∃ i : I, Q3 i x0 x1) : ∃ i : I, p_Ac_isBound w a0 (Q3 i) := by
  have h := Eq.mp (p_Ac_isBound.eq_1 ..) h
  refine dj_eq (fun i => (p_Ac_isBound.eq_1 ..)) ?_
  exact (dj_and h.1 (dj_if (fun h1 => (dj_and (h.2.1 h1).1 (dj_p_St_isTank (h.2.1 h1).2 (fun _ _ h3 => (dj_if (fun h4 => (kQ _ _ (h3.1 h4))) (fun h5 => (dj_and (h3.2 h5).1 (dj_p_St_isTank (h3.2 h5).2 (fun _ _ h6 => (dj_if (fun h7 => (kQ _ _ (h6.1 h7))) (fun h8 => (dj_and (h6.2 h8).1 (dj_and (h6.2 h8).2.1 (dj_if (fun h9 => (kQ _ _ ((h6.2 h8).2.2.1 h9))) (fun h10 => (kQ _ _ ((h6.2 h8).2.2.2 h10))))))))))))))))) (fun h2 => (dj_if (fun h11 => (dj_and ((h.2.2 h2).1 h11).1 (dj_p_St_isTank ((h.2.2 h2).1 h11).2 (fun _ _ h13 => (dj_if (fun h14 => (kQ _ _ (h13.1 h14))) (fun h15 => (dj_and (h13.2 h15).1 (dj_p_St_isTank (h13.2 h15).2 (fun _ _ h16 => (dj_if (fun h17 => (kQ _ _ (h16.1 h17))) (fun h18 => (dj_and (h16.2 h18).1 (dj_and (h16.2 h18).2.1 (dj_if (fun h19 => (kQ _ _ ((h16.2 h18).2.2.1 h19))) (fun h20 => (kQ _ _ ((h16.2 h18).2.2.2 h20))))))))))))))))) (fun h12 => (dj_if (fun h21 => (dj_and (((h.2.2 h2).2 h12).1 h21).1 (dj_p_St_isValve (((h.2.2 h2).2 h12).1 h21).2 (fun _ _ h23 => (kQ _ _ h23))))) (fun h22 => (dj_if (fun h24 => (dj_and ((((h.2.2 h2).2 h12).2 h22).1 h24).1 (dj_p_St_isHolder ((((h.2.2 h2).2 h12).2 h22).1 h24).2 (fun _ _ h26 => (kQ _ _ h26))))) (fun h25 => (dj_if (fun h27 => (dj_and (((((h.2.2 h2).2 h12).2 h22).2 h25).1 h27).1 (dj_p_St_isHolder (((((h.2.2 h2).2 h12).2 h22).2 h25).1 h27).2 (fun _ _ h29 => (kQ _ _ h29))))) (fun h28 => (kQ _ _ (((((h.2.2 h2).2 h12).2 h22).2 h25).2 h28)))))))))))))
theorem ex_p_Ac_isBound {w : MW} {a0 : Int32} {Q : Int32 → MW → Prop} (h : p_Ac_isBound w a0 Q) : ∃ (r1 : Int32) (w1 : MW), Q r1 w1 ∧ p_Ac_isBound w a0 (fun r u => r = r1 ∧ u = w1) := by
  obtain ⟨i, hi⟩ := dj_p_Ac_isBound (I := {x : Int32 × MW // Q x.1 x.2}) (Q3 := fun i r u => r = i.1.1 ∧ u = i.1.2) h (fun r u q => ⟨⟨(r, u), q⟩, rfl, rfl⟩)
  exact ⟨i.1.1, i.1.2, i.2, hi⟩
theorem dj_q_Ar_fill1_43_6 {I : Type} {x6_1 : Int64} {x6_4 : Int32} {E1 : MW → Prop} {E3 : I → MW → Prop} {Q1 : MW → Prop} {Q3 : I → MW → Prop}  (kE : ∀ x0, E1 x0 → ∃ i : I, E3 i x0) (kQ : ∀ x0, Q1 x0 → ∃ i : I, Q3 i x0) : ∀ (m : Nat) (x6_3 : Int32) (w : MW), q_Ar_fill1_43_6 x6_1 x6_4 E1 Q1 m x6_3 w → ∃ i : I, q_Ar_fill1_43_6 x6_1 x6_4 (E3 i) (Q3 i) m x6_3 w := by
  intro m
  induction m with
  | zero => exact fun _ _ h => False.elim h
  | succ m ih =>
    intro x6_3 w h
    have h := Eq.mp (q_Ar_fill1_43_6.eq_2 ..) h
    refine dj_eq (fun i => (q_Ar_fill1_43_6.eq_2 ..)) ?_
    exact (dj_if (fun h1 => (kE _ (h.1 h1))) (fun h2 => (dj_and (h.2 h2).1 (ih _ _ (h.2 h2).2))))
theorem dj_p_Ar_fill1_43 {I : Type} {w : MW} {a0 : Int64} {Q1 : MW → Prop} {Q3 : I → MW → Prop}  (h : p_Ar_fill1_43 w a0 Q1) (kQ : ∀ x0, Q1 x0 → ∃ i : I, Q3 i x0) : ∃ i : I, p_Ar_fill1_43 w a0 (Q3 i) := by
  have h := Eq.mp (p_Ar_fill1_43.eq_1 ..) h
  refine dj_eq (fun i => (p_Ar_fill1_43.eq_1 ..)) ?_
  exact (dj_q_Ar_fill1_43_6  (fun _ h1 => (kQ _ h1)) kQ _ _ _ h)
theorem ex_p_Ar_fill1_43 {w : MW} {a0 : Int64} {Q : MW → Prop} (h : p_Ar_fill1_43 w a0 Q) : ∃ w1 : MW, Q w1 ∧ p_Ar_fill1_43 w a0 (fun u => u = w1) := by
  obtain ⟨i, hi⟩ := dj_p_Ar_fill1_43 (I := {x : MW // Q x}) (Q3 := fun i u => u = i.1) h (fun u q => ⟨⟨u, q⟩, rfl⟩)
  exact ⟨i.1, i.2, hi⟩
theorem dj_q_Sf_findRivals_2 {I : Type}  {E1 : MW → Prop} {E3 : I → MW → Prop} {Q1 : Int32 → MW → Prop} {Q3 : I → Int32 → MW → Prop}  (kE : ∀ x0, E1 x0 → ∃ i : I, E3 i x0) (kQ : ∀ x0 x1, Q1 x0 x1 → ∃ i : I, Q3 i x0 x1) : ∀ (m : Nat) (x2_1 : Int32) (w : MW), q_Sf_findRivals_2 E1 Q1 m x2_1 w → ∃ i : I, q_Sf_findRivals_2 (E3 i) (Q3 i) m x2_1 w := by
  intro m
  induction m with
  | zero => exact fun _ _ h => False.elim h
  | succ m ih =>
    intro x2_1 w h
    have h := Eq.mp (q_Sf_findRivals_2.eq_2 ..) h
    refine dj_eq (fun i => (q_Sf_findRivals_2.eq_2 ..)) ?_
    exact (dj_and h.1 (dj_and h.2.1 (dj_if (fun h1 => (kE _ (h.2.2.1 h1))) (fun h2 => (dj_and (h.2.2.2 h2).1 (dj_and (h.2.2.2 h2).2.1 (dj_and (h.2.2.2 h2).2.2.1 (ih _ _ (h.2.2.2 h2).2.2.2))))))))
theorem dj_q_Sf_findRivals_57 {I : Type}  {E1 : Int32 → MW → Prop} {E3 : I → Int32 → MW → Prop} {Q1 : Int32 → MW → Prop} {Q3 : I → Int32 → MW → Prop}  (kE : ∀ x0 x1, E1 x0 x1 → ∃ i : I, E3 i x0 x1) (kQ : ∀ x0 x1, Q1 x0 x1 → ∃ i : I, Q3 i x0 x1) : ∀ (m : Nat) (x57_1 : Int32) (x57_2 : Int32) (w : MW), q_Sf_findRivals_57 E1 Q1 m x57_1 x57_2 w → ∃ i : I, q_Sf_findRivals_57 (E3 i) (Q3 i) m x57_1 x57_2 w := by
  intro m
  induction m with
  | zero => exact fun _ _ _ h => False.elim h
  | succ m ih =>
    intro x57_1 x57_2 w h
    have h := Eq.mp (q_Sf_findRivals_57.eq_2 ..) h
    refine dj_eq (fun i => (q_Sf_findRivals_57.eq_2 ..)) ?_
    exact (dj_if (fun h1 => (kE _ _ (h.1 h1))) (fun h2 => (dj_and (h.2 h2).1 (dj_if (fun h3 => (ih _ _ _ ((h.2 h2).2.1 h3))) (fun h4 => (ih _ _ _ ((h.2 h2).2.2 h4)))))))
theorem dj_q_Sf_findRivals_143 {I : Type} {x94_1 : Int32} {y143_2 : Int32} {y143_3 : Int32} {ys143_0 : Int32} {ys143_1 : Int32} {w : MW} {A1 : Int32 → Int32 → MW → Prop} {A3 : I → Int32 → Int32 → MW → Prop} {E1 : Int32 → MW → Prop} {E3 : I → Int32 → MW → Prop} {Q1 : Int32 → MW → Prop} {Q3 : I → Int32 → MW → Prop}  (kA : ∀ x0 x1 x2, A1 x0 x1 x2 → ∃ i : I, A3 i x0 x1 x2) (kE : ∀ x0 x1, E1 x0 x1 → ∃ i : I, E3 i x0 x1) (kQ : ∀ x0 x1, Q1 x0 x1 → ∃ i : I, Q3 i x0 x1) (h : q_Sf_findRivals_143 x94_1 y143_2 y143_3 ys143_0 ys143_1 w A1 E1 Q1) : ∃ i : I, q_Sf_findRivals_143 x94_1 y143_2 y143_3 ys143_0 ys143_1 w (A3 i) (E3 i) (Q3 i) := by
  have h := Eq.mp (q_Sf_findRivals_143.eq_1 ..) h
  refine dj_eq (fun i => (q_Sf_findRivals_143.eq_1 ..)) ?_
  exact (dj_and h.1 (dj_if (fun h1 => (kA _ _ _ (h.2.1 h1))) (fun h2 => (dj_and (h.2.2 h2).1 (dj_if (fun h3 => (kA _ _ _ ((h.2.2 h2).2.1 h3))) (fun h4 => (kA _ _ _ ((h.2.2 h2).2.2 h4))))))))
theorem dj_q_Sf_findRivals_94 {I : Type} {x94_1 : Int32} {E1 : Int32 → MW → Prop} {E3 : I → Int32 → MW → Prop} {Q1 : Int32 → MW → Prop} {Q3 : I → Int32 → MW → Prop}  (kE : ∀ x0 x1, E1 x0 x1 → ∃ i : I, E3 i x0 x1) (kQ : ∀ x0 x1, Q1 x0 x1 → ∃ i : I, Q3 i x0 x1) : ∀ (m : Nat) (x94_2 : Int32) (x94_3 : Int32) (w : MW), q_Sf_findRivals_94 x94_1 E1 Q1 m x94_2 x94_3 w → ∃ i : I, q_Sf_findRivals_94 x94_1 (E3 i) (Q3 i) m x94_2 x94_3 w := by
  intro m
  induction m with
  | zero => exact fun _ _ _ h => False.elim h
  | succ m ih =>
    intro x94_2 x94_3 w h
    have h := Eq.mp (q_Sf_findRivals_94.eq_2 ..) h
    refine dj_eq (fun i => (q_Sf_findRivals_94.eq_2 ..)) ?_
    exact (dj_if (fun h1 => (kE _ _ (h.1 h1))) (fun h2 => (dj_and (h.2 h2).1 (dj_and (h.2 h2).2.1 (dj_if (fun h3 => (dj_q_Sf_findRivals_143  (fun _ _ _ h5 => (ih _ _ _ h5)) kE kQ ((h.2 h2).2.2.1 h3))) (fun h4 => (dj_q_Sf_findRivals_143  (fun _ _ _ h6 => (ih _ _ _ h6)) kE kQ ((h.2 h2).2.2.2 h4))))))))
theorem dj_p_Sf_findRivals {I : Type} {w : MW} {Q1 : Int32 → MW → Prop} {Q3 : I → Int32 → MW → Prop}  (h : p_Sf_findRivals w Q1) (kQ : ∀ x0 x1, Q1 x0 x1 → ∃ i : I, Q3 i x0 x1) : ∃ i : I, p_Sf_findRivals w (Q3 i) := by
  have h := Eq.mp (p_Sf_findRivals.eq_1 ..) h
  refine dj_eq (fun i => (p_Sf_findRivals.eq_1 ..)) ?_
  exact (dj_q_Sf_findRivals_2  (fun _ h1 => (dj_q_Sf_findRivals_57  (fun _ _ h2 => (dj_q_Sf_findRivals_94  (fun _ _ h3 => (dj_and h3.1 (kQ _ _ h3.2))) kQ _ _ _ _ h2)) kQ _ _ _ _ h1)) kQ _ _ _ h)
theorem ex_p_Sf_findRivals {w : MW} {Q : Int32 → MW → Prop} (h : p_Sf_findRivals w Q) : ∃ (r1 : Int32) (w1 : MW), Q r1 w1 ∧ p_Sf_findRivals w (fun r u => r = r1 ∧ u = w1) := by
  obtain ⟨i, hi⟩ := dj_p_Sf_findRivals (I := {x : Int32 × MW // Q x.1 x.2}) (Q3 := fun i r u => r = i.1.1 ∧ u = i.1.2) h (fun r u q => ⟨⟨(r, u), q⟩, rfl, rfl⟩)
  exact ⟨i.1.1, i.1.2, i.2, hi⟩
theorem dj_q_Ar_fill1_46_6 {I : Type} {x6_1 : Int64} {x6_4 : Int32} {E1 : MW → Prop} {E3 : I → MW → Prop} {Q1 : MW → Prop} {Q3 : I → MW → Prop}  (kE : ∀ x0, E1 x0 → ∃ i : I, E3 i x0) (kQ : ∀ x0, Q1 x0 → ∃ i : I, Q3 i x0) : ∀ (m : Nat) (x6_3 : Int32) (w : MW), q_Ar_fill1_46_6 x6_1 x6_4 E1 Q1 m x6_3 w → ∃ i : I, q_Ar_fill1_46_6 x6_1 x6_4 (E3 i) (Q3 i) m x6_3 w := by
  intro m
  induction m with
  | zero => exact fun _ _ h => False.elim h
  | succ m ih =>
    intro x6_3 w h
    have h := Eq.mp (q_Ar_fill1_46_6.eq_2 ..) h
    refine dj_eq (fun i => (q_Ar_fill1_46_6.eq_2 ..)) ?_
    exact (dj_if (fun h1 => (kE _ (h.1 h1))) (fun h2 => (dj_and (h.2 h2).1 (ih _ _ (h.2 h2).2))))
theorem dj_p_Ar_fill1_46 {I : Type} {w : MW} {a0 : Int64} {Q1 : MW → Prop} {Q3 : I → MW → Prop}  (h : p_Ar_fill1_46 w a0 Q1) (kQ : ∀ x0, Q1 x0 → ∃ i : I, Q3 i x0) : ∃ i : I, p_Ar_fill1_46 w a0 (Q3 i) := by
  have h := Eq.mp (p_Ar_fill1_46.eq_1 ..) h
  refine dj_eq (fun i => (p_Ar_fill1_46.eq_1 ..)) ?_
  exact (dj_q_Ar_fill1_46_6  (fun _ h1 => (kQ _ h1)) kQ _ _ _ h)
theorem ex_p_Ar_fill1_46 {w : MW} {a0 : Int64} {Q : MW → Prop} (h : p_Ar_fill1_46 w a0 Q) : ∃ w1 : MW, Q w1 ∧ p_Ar_fill1_46 w a0 (fun u => u = w1) := by
  obtain ⟨i, hi⟩ := dj_p_Ar_fill1_46 (I := {x : MW // Q x}) (Q3 := fun i u => u = i.1) h (fun u q => ⟨⟨u, q⟩, rfl⟩)
  exact ⟨i.1, i.2, hi⟩
theorem dj_q_Sf_link_160 {I : Type} {x160_1 : Int32} {x160_2 : Int32} {x160_4 : Int32} {x160_5 : Int32} {x160_6 : Int32} {x160_8 : Int32} {E1 : MW → Prop} {E3 : I → MW → Prop} {Q1 : MW → Prop} {Q3 : I → MW → Prop}  (kE : ∀ x0, E1 x0 → ∃ i : I, E3 i x0) (kQ : ∀ x0, Q1 x0 → ∃ i : I, Q3 i x0) : ∀ (m : Nat) (x160_9 : Int32) (w : MW), q_Sf_link_160 x160_1 x160_2 x160_4 x160_5 x160_6 x160_8 E1 Q1 m x160_9 w → ∃ i : I, q_Sf_link_160 x160_1 x160_2 x160_4 x160_5 x160_6 x160_8 (E3 i) (Q3 i) m x160_9 w := by
  intro m
  induction m with
  | zero => exact fun _ _ h => False.elim h
  | succ m ih =>
    intro x160_9 w h
    have h := Eq.mp (q_Sf_link_160.eq_2 ..) h
    refine dj_eq (fun i => (q_Sf_link_160.eq_2 ..)) ?_
    exact (dj_if (fun h1 => (kE _ (h.1 h1))) (fun h2 => (dj_and (h.2 h2).1 (dj_if (fun h3 => (ih _ _ ((h.2 h2).2.1 h3))) (fun h4 => (dj_if (fun h5 => (ih _ _ (((h.2 h2).2.2 h4).1 h5))) (fun h6 => (dj_and (((h.2 h2).2.2 h4).2 h6).1 (dj_and (((h.2 h2).2.2 h4).2 h6).2.1 (ih _ _ (((h.2 h2).2.2 h4).2 h6).2.2))))))))))
theorem dj_q_Sf_link_142 {I : Type} {x19_1 : Int32} {x19_2 : Int32} {y142_4 : Int32} {y142_5 : Int32} {y142_6 : Int32} {ys142_0 : Int32} {w : MW} {A1 : Int32 → MW → Prop} {A3 : I → Int32 → MW → Prop} {E1 : MW → Prop} {E3 : I → MW → Prop} {Q1 : MW → Prop} {Q3 : I → MW → Prop}  (kA : ∀ x0 x1, A1 x0 x1 → ∃ i : I, A3 i x0 x1) (kE : ∀ x0, E1 x0 → ∃ i : I, E3 i x0) (kQ : ∀ x0, Q1 x0 → ∃ i : I, Q3 i x0) (h : q_Sf_link_142 x19_1 x19_2 y142_4 y142_5 y142_6 ys142_0 w A1 E1 Q1) : ∃ i : I, q_Sf_link_142 x19_1 x19_2 y142_4 y142_5 y142_6 ys142_0 w (A3 i) (E3 i) (Q3 i) := by
  have h := Eq.mp (q_Sf_link_142.eq_1 ..) h
  refine dj_eq (fun i => (q_Sf_link_142.eq_1 ..)) ?_
  exact (dj_and h.1 (dj_q_Sf_link_160  (fun _ h1 => (kA _ _ h1)) kQ _ _ _ h.2))
theorem dj_q_Sf_link_98 {I : Type} {x19_1 : Int32} {x19_2 : Int32} {y98_4 : Int32} {y98_5 : Int32} {y98_6 : Int32} {w : MW} {A1 : Int32 → MW → Prop} {A3 : I → Int32 → MW → Prop} {E1 : MW → Prop} {E3 : I → MW → Prop} {Q1 : MW → Prop} {Q3 : I → MW → Prop}  (kA : ∀ x0 x1, A1 x0 x1 → ∃ i : I, A3 i x0 x1) (kE : ∀ x0, E1 x0 → ∃ i : I, E3 i x0) (kQ : ∀ x0, Q1 x0 → ∃ i : I, Q3 i x0) (h : q_Sf_link_98 x19_1 x19_2 y98_4 y98_5 y98_6 w A1 E1 Q1) : ∃ i : I, q_Sf_link_98 x19_1 x19_2 y98_4 y98_5 y98_6 w (A3 i) (E3 i) (Q3 i) := by
  have h := Eq.mp (q_Sf_link_98.eq_1 ..) h
  refine dj_eq (fun i => (q_Sf_link_98.eq_1 ..)) ?_
  exact (dj_if (fun h1 => (kA _ _ (h.1 h1))) (fun h2 => (dj_and (h.2 h2).1 (dj_and (h.2 h2).2.1 (dj_and (h.2 h2).2.2.1 (dj_if (fun h3 => (dj_q_Sf_link_142  kA kE kQ ((h.2 h2).2.2.2.1 h3))) (fun h4 => (dj_q_Sf_link_142  kA kE kQ ((h.2 h2).2.2.2.2 h4)))))))))
theorem dj_q_Sf_link_19 {I : Type} {x19_1 : Int32} {x19_2 : Int32} {E1 : MW → Prop} {E3 : I → MW → Prop} {Q1 : MW → Prop} {Q3 : I → MW → Prop}  (kE : ∀ x0, E1 x0 → ∃ i : I, E3 i x0) (kQ : ∀ x0, Q1 x0 → ∃ i : I, Q3 i x0) : ∀ (m : Nat) (x19_4 : Int32) (w : MW), q_Sf_link_19 x19_1 x19_2 E1 Q1 m x19_4 w → ∃ i : I, q_Sf_link_19 x19_1 x19_2 (E3 i) (Q3 i) m x19_4 w := by
  intro m
  induction m with
  | zero => exact fun _ _ h => False.elim h
  | succ m ih =>
    intro x19_4 w h
    have h := Eq.mp (q_Sf_link_19.eq_2 ..) h
    refine dj_eq (fun i => (q_Sf_link_19.eq_2 ..)) ?_
    exact (dj_if (fun h1 => (kE _ (h.1 h1))) (fun h2 => (dj_and (h.2 h2).1 (dj_if (fun h3 => (dj_q_Sf_link_98  (fun _ _ h5 => (ih _ _ h5)) kE kQ ((h.2 h2).2.1 h3))) (fun h4 => (dj_and ((h.2 h2).2.2 h4).1 (dj_if (fun h6 => (dj_q_Sf_link_98  (fun _ _ h8 => (ih _ _ h8)) kE kQ (((h.2 h2).2.2 h4).2.1 h6))) (fun h7 => (dj_and (((h.2 h2).2.2 h4).2.2 h7).1 (dj_and (((h.2 h2).2.2 h4).2.2 h7).2.1 (dj_and (((h.2 h2).2.2 h4).2.2 h7).2.2.1 (dj_and (((h.2 h2).2.2 h4).2.2 h7).2.2.2.1 (ih _ _ (((h.2 h2).2.2 h4).2.2 h7).2.2.2.2)))))))))))))
theorem dj_p_Sf_link {I : Type} {w : MW} {a0 : Int32} {b0 : Int32} {Q1 : MW → Prop} {Q3 : I → MW → Prop}  (h : p_Sf_link w a0 b0 Q1) (kQ : ∀ x0, Q1 x0 → ∃ i : I, Q3 i x0) : ∃ i : I, p_Sf_link w a0 b0 (Q3 i) := by
  have h := Eq.mp (p_Sf_link.eq_1 ..) h
  refine dj_eq (fun i => (p_Sf_link.eq_1 ..)) ?_
  exact (dj_and h.1 (dj_p_Ar_fill1_46 h.2 (fun _ h1 => (dj_q_Sf_link_19  (fun _ h2 => (kQ _ h2)) kQ _ _ _ h1))))
theorem ex_p_Sf_link {w : MW} {a0 : Int32} {b0 : Int32} {Q : MW → Prop} (h : p_Sf_link w a0 b0 Q) : ∃ w1 : MW, Q w1 ∧ p_Sf_link w a0 b0 (fun u => u = w1) := by
  obtain ⟨i, hi⟩ := dj_p_Sf_link (I := {x : MW // Q x}) (Q3 := fun i u => u = i.1) h (fun u q => ⟨⟨u, q⟩, rfl⟩)
  exact ⟨i.1, i.2, hi⟩
theorem dj_q_In_numberOfTrailingZeros_62 {I : Type} {y62_0 : Int32} {y62_1 : Int32} {w : MW} {Q1 : Int32 → MW → Prop} {Q3 : I → Int32 → MW → Prop}  (kQ : ∀ x0 x1, Q1 x0 x1 → ∃ i : I, Q3 i x0 x1) (h : q_In_numberOfTrailingZeros_62 y62_0 y62_1 w Q1) : ∃ i : I, q_In_numberOfTrailingZeros_62 y62_0 y62_1 w (Q3 i) := by
  have h := Eq.mp (q_In_numberOfTrailingZeros_62.eq_1 ..) h
  refine dj_eq (fun i => (q_In_numberOfTrailingZeros_62.eq_1 ..)) ?_
  exact (dj_if (fun h1 => (kQ _ _ (h.1 h1))) (fun h2 => (kQ _ _ (h.2 h2))))
theorem dj_q_In_numberOfTrailingZeros_34 {I : Type} {y34_0 : Int32} {y34_1 : Int32} {w : MW} {Q1 : Int32 → MW → Prop} {Q3 : I → Int32 → MW → Prop}  (kQ : ∀ x0 x1, Q1 x0 x1 → ∃ i : I, Q3 i x0 x1) (h : q_In_numberOfTrailingZeros_34 y34_0 y34_1 w Q1) : ∃ i : I, q_In_numberOfTrailingZeros_34 y34_0 y34_1 w (Q3 i) := by
  have h := Eq.mp (q_In_numberOfTrailingZeros_34.eq_1 ..) h
  refine dj_eq (fun i => (q_In_numberOfTrailingZeros_34.eq_1 ..)) ?_
  exact (dj_if (fun h1 => (dj_if (fun h3 => (dj_q_In_numberOfTrailingZeros_62  kQ ((h.1 h1).1 h3))) (fun h4 => (dj_q_In_numberOfTrailingZeros_62  kQ ((h.1 h1).2 h4))))) (fun h2 => (dj_if (fun h5 => (dj_q_In_numberOfTrailingZeros_62  kQ ((h.2 h2).1 h5))) (fun h6 => (dj_q_In_numberOfTrailingZeros_62  kQ ((h.2 h2).2 h6))))))
theorem dj_p_In_numberOfTrailingZeros {I : Type} {w : MW} {a0 : Int32} {Q1 : Int32 → MW → Prop} {Q3 : I → Int32 → MW → Prop}  (h : p_In_numberOfTrailingZeros w a0 Q1) (kQ : ∀ x0 x1, Q1 x0 x1 → ∃ i : I, Q3 i x0 x1) : ∃ i : I, p_In_numberOfTrailingZeros w a0 (Q3 i) := by
  have h := Eq.mp (p_In_numberOfTrailingZeros.eq_1 ..) h
  refine dj_eq (fun i => (p_In_numberOfTrailingZeros.eq_1 ..)) ?_
  exact (dj_if (fun h1 => (dj_if (fun h3 => (dj_q_In_numberOfTrailingZeros_34  kQ ((h.1 h1).1 h3))) (fun h4 => (dj_q_In_numberOfTrailingZeros_34  kQ ((h.1 h1).2 h4))))) (fun h2 => (kQ _ _ (h.2 h2))))
theorem ex_p_In_numberOfTrailingZeros {w : MW} {a0 : Int32} {Q : Int32 → MW → Prop} (h : p_In_numberOfTrailingZeros w a0 Q) : ∃ (r1 : Int32) (w1 : MW), Q r1 w1 ∧ p_In_numberOfTrailingZeros w a0 (fun r u => r = r1 ∧ u = w1) := by
  obtain ⟨i, hi⟩ := dj_p_In_numberOfTrailingZeros (I := {x : Int32 × MW // Q x.1 x.2}) (Q3 := fun i r u => r = i.1.1 ∧ u = i.1.2) h (fun r u q => ⟨⟨(r, u), q⟩, rfl, rfl⟩)
  exact ⟨i.1.1, i.1.2, i.2, hi⟩
theorem dj_p_Lo_numberOfTrailingZeros {I : Type} {w : MW} {a0 : Int64} {Q1 : Int32 → MW → Prop} {Q3 : I → Int32 → MW → Prop}  (h : p_Lo_numberOfTrailingZeros w a0 Q1) (kQ : ∀ x0 x1, Q1 x0 x1 → ∃ i : I, Q3 i x0 x1) : ∃ i : I, p_Lo_numberOfTrailingZeros w a0 (Q3 i) := by
  have h := Eq.mp (p_Lo_numberOfTrailingZeros.eq_1 ..) h
  refine dj_eq (fun i => (p_Lo_numberOfTrailingZeros.eq_1 ..)) ?_
  exact (dj_if (fun h1 => (dj_p_In_numberOfTrailingZeros (h.1 h1) (fun _ _ h3 => (kQ _ _ h3)))) (fun h2 => (dj_p_In_numberOfTrailingZeros (h.2 h2) (fun _ _ h4 => (kQ _ _ h4)))))
theorem ex_p_Lo_numberOfTrailingZeros {w : MW} {a0 : Int64} {Q : Int32 → MW → Prop} (h : p_Lo_numberOfTrailingZeros w a0 Q) : ∃ (r1 : Int32) (w1 : MW), Q r1 w1 ∧ p_Lo_numberOfTrailingZeros w a0 (fun r u => r = r1 ∧ u = w1) := by
  obtain ⟨i, hi⟩ := dj_p_Lo_numberOfTrailingZeros (I := {x : Int32 × MW // Q x.1 x.2}) (Q3 := fun i r u => r = i.1.1 ∧ u = i.1.2) h (fun r u q => ⟨⟨(r, u), q⟩, rfl, rfl⟩)
  exact ⟨i.1.1, i.1.2, i.2, hi⟩
theorem dj_q_Sf_meet_173 {I : Type} {x116_1 : Int32} {y173_4 : Int32} {ys173_0 : Int32} {w : MW} {A1 : Int32 → MW → Prop} {A3 : I → Int32 → MW → Prop} {E1 : MW → Prop} {E3 : I → MW → Prop} {Q1 : Int32 → MW → Prop} {Q3 : I → Int32 → MW → Prop}  (kA : ∀ x0 x1, A1 x0 x1 → ∃ i : I, A3 i x0 x1) (kE : ∀ x0, E1 x0 → ∃ i : I, E3 i x0) (kQ : ∀ x0 x1, Q1 x0 x1 → ∃ i : I, Q3 i x0 x1) (h : q_Sf_meet_173 x116_1 y173_4 ys173_0 w A1 E1 Q1) : ∃ i : I, q_Sf_meet_173 x116_1 y173_4 ys173_0 w (A3 i) (E3 i) (Q3 i) := by
  have h := Eq.mp (q_Sf_meet_173.eq_1 ..) h
  refine dj_eq (fun i => (q_Sf_meet_173.eq_1 ..)) ?_
  exact (dj_if (fun h1 => (kA _ _ (h.1 h1))) (fun h2 => (dj_if (fun h3 => (kA _ _ ((h.2 h2).1 h3))) (fun h4 => (dj_if (fun h5 => (kA _ _ (((h.2 h2).2 h4).1 h5))) (fun h6 => (dj_if (fun h7 => (kA _ _ ((((h.2 h2).2 h4).2 h6).1 h7))) (fun h8 => (kA _ _ ((((h.2 h2).2 h4).2 h6).2 h8))))))))))
theorem dj_q_Sf_meet_116 {I : Type} {x116_1 : Int32} {E1 : MW → Prop} {E3 : I → MW → Prop} {Q1 : Int32 → MW → Prop} {Q3 : I → Int32 → MW → Prop}  (kE : ∀ x0, E1 x0 → ∃ i : I, E3 i x0) (kQ : ∀ x0 x1, Q1 x0 x1 → ∃ i : I, Q3 i x0 x1) : ∀ (m : Nat) (x116_4 : Int32) (w : MW), q_Sf_meet_116 x116_1 E1 Q1 m x116_4 w → ∃ i : I, q_Sf_meet_116 x116_1 (E3 i) (Q3 i) m x116_4 w := by
  intro m
  induction m with
  | zero => exact fun _ _ h => False.elim h
  | succ m ih =>
    intro x116_4 w h
    have h := Eq.mp (q_Sf_meet_116.eq_2 ..) h
    refine dj_eq (fun i => (q_Sf_meet_116.eq_2 ..)) ?_
    exact (dj_if (fun h1 => (kE _ (h.1 h1))) (fun h2 => (dj_and (h.2 h2).1 (dj_if (fun h3 => (dj_q_Sf_meet_173  (fun _ _ h5 => (ih _ _ h5)) kE kQ ((h.2 h2).2.1 h3))) (fun h4 => (dj_and ((h.2 h2).2.2 h4).1 (dj_and ((h.2 h2).2.2 h4).2.1 (dj_if (fun h6 => (dj_p_Lo_numberOfTrailingZeros (((h.2 h2).2.2 h4).2.2.1 h6) (fun _ _ h8 => (dj_q_Sf_meet_173  (fun _ _ h9 => (ih _ _ h9)) kE kQ h8)))) (fun h7 => (dj_q_Sf_meet_173  (fun _ _ h10 => (ih _ _ h10)) kE kQ (((h.2 h2).2.2 h4).2.2.2 h7)))))))))))
theorem dj_q_Sf_meet_49 {I : Type} {x49_1 : Int32} {E1 : MW → Prop} {E3 : I → MW → Prop} {Q1 : Int32 → MW → Prop} {Q3 : I → Int32 → MW → Prop}  (kE : ∀ x0, E1 x0 → ∃ i : I, E3 i x0) (kQ : ∀ x0 x1, Q1 x0 x1 → ∃ i : I, Q3 i x0 x1) : ∀ (m : Nat) (x49_2 : Int64) (x49_4 : Int32) (w : MW), q_Sf_meet_49 x49_1 E1 Q1 m x49_2 x49_4 w → ∃ i : I, q_Sf_meet_49 x49_1 (E3 i) (Q3 i) m x49_2 x49_4 w := by
  intro m
  induction m with
  | zero => exact fun _ _ _ h => False.elim h
  | succ m ih =>
    intro x49_2 x49_4 w h
    have h := Eq.mp (q_Sf_meet_49.eq_2 ..) h
    refine dj_eq (fun i => (q_Sf_meet_49.eq_2 ..)) ?_
    exact (dj_if (fun h1 => (kE _ (h.1 h1))) (fun h2 => (dj_if (fun h3 => (kE _ ((h.2 h2).1 h3))) (fun h4 => (dj_p_Lo_numberOfTrailingZeros ((h.2 h2).2 h4) (fun _ _ h5 => (dj_and h5.1 (dj_and h5.2.1 (dj_and h5.2.2.1 (dj_and h5.2.2.2.1 (ih _ _ _ h5.2.2.2.2)))))))))))
theorem dj_q_Sf_meet_8 {I : Type}  {E1 : MW → Prop} {E3 : I → MW → Prop} {Q1 : Int32 → MW → Prop} {Q3 : I → Int32 → MW → Prop}  (kE : ∀ x0, E1 x0 → ∃ i : I, E3 i x0) (kQ : ∀ x0 x1, Q1 x0 x1 → ∃ i : I, Q3 i x0 x1) : ∀ (m : Nat) (x8_1 : Int32) (w : MW), q_Sf_meet_8 E1 Q1 m x8_1 w → ∃ i : I, q_Sf_meet_8 (E3 i) (Q3 i) m x8_1 w := by
  intro m
  induction m with
  | zero => exact fun _ _ h => False.elim h
  | succ m ih =>
    intro x8_1 w h
    have h := Eq.mp (q_Sf_meet_8.eq_2 ..) h
    refine dj_eq (fun i => (q_Sf_meet_8.eq_2 ..)) ?_
    exact (dj_if (fun h1 => (kE _ (h.1 h1))) (fun h2 => (dj_and (h.2 h2).1 (dj_and (h.2 h2).2.1 (dj_and (h.2 h2).2.2.1 (dj_if (fun h3 => (dj_and ((h.2 h2).2.2.2.1 h3).1 (dj_q_Sf_meet_49  (fun _ h5 => (dj_q_Sf_meet_116  (fun _ h6 => (ih _ _ h6)) kQ _ _ _ h5)) kQ _ _ _ _ ((h.2 h2).2.2.2.1 h3).2))) (fun h4 => (dj_q_Sf_meet_49  (fun _ h7 => (dj_q_Sf_meet_116  (fun _ h8 => (ih _ _ h8)) kQ _ _ _ h7)) kQ _ _ _ _ ((h.2 h2).2.2.2.2 h4)))))))))
theorem dj_p_Sf_meet {I : Type} {w : MW} {Q1 : Int32 → MW → Prop} {Q3 : I → Int32 → MW → Prop}  (h : p_Sf_meet w Q1) (kQ : ∀ x0 x1, Q1 x0 x1 → ∃ i : I, Q3 i x0 x1) : ∃ i : I, p_Sf_meet w (Q3 i) := by
  have h := Eq.mp (p_Sf_meet.eq_1 ..) h
  refine dj_eq (fun i => (p_Sf_meet.eq_1 ..)) ?_
  exact (dj_q_Sf_meet_8  (fun _ h1 => (dj_if (fun h2 => (kQ _ _ (h1.1 h2))) (fun h3 => (kQ _ _ (h1.2 h3))))) kQ _ _ _ h)
theorem ex_p_Sf_meet {w : MW} {Q : Int32 → MW → Prop} (h : p_Sf_meet w Q) : ∃ (r1 : Int32) (w1 : MW), Q r1 w1 ∧ p_Sf_meet w (fun r u => r = r1 ∧ u = w1) := by
  obtain ⟨i, hi⟩ := dj_p_Sf_meet (I := {x : Int32 × MW // Q x.1 x.2}) (Q3 := fun i r u => r = i.1.1 ∧ u = i.1.2) h (fun r u q => ⟨⟨(r, u), q⟩, rfl, rfl⟩)
  exact ⟨i.1.1, i.1.2, i.2, hi⟩
theorem dj_q_Wa_addSources_43_42 {I : Type} {x42_2 : Int32} {x42_3 : Int32} {E1 : Int64 → MW → Prop} {E3 : I → Int64 → MW → Prop} {Q1 : MW → Prop} {Q3 : I → MW → Prop}  (kE : ∀ x0 x1, E1 x0 x1 → ∃ i : I, E3 i x0 x1) (kQ : ∀ x0, Q1 x0 → ∃ i : I, Q3 i x0) : ∀ (m : Nat) (x42_4 : Int64) (x42_6 : Int32) (x42_7 : Int32) (w : MW), q_Wa_addSources_43_42 x42_2 x42_3 E1 Q1 m x42_4 x42_6 x42_7 w → ∃ i : I, q_Wa_addSources_43_42 x42_2 x42_3 (E3 i) (Q3 i) m x42_4 x42_6 x42_7 w := by
  intro m
  induction m with
  | zero => exact fun _ _ _ _ h => False.elim h
  | succ m ih =>
    intro x42_4 x42_6 x42_7 w h
    have h := Eq.mp (q_Wa_addSources_43_42.eq_2 ..) h
    refine dj_eq (fun i => (q_Wa_addSources_43_42.eq_2 ..)) ?_
    exact (dj_and h.1 (dj_if (fun h1 => (kE _ _ (h.2.1 h1))) (fun h2 => (dj_if (fun h3 => (kE _ _ ((h.2.2 h2).1 h3))) (fun h4 => (dj_and ((h.2.2 h2).2 h4).1 (ih _ _ _ _ ((h.2.2 h2).2 h4).2)))))))
theorem dj_q_Wa_addSources_43_13 {I : Type} {x13_2 : Int32} {E1 : MW → Prop} {E3 : I → MW → Prop} {Q1 : MW → Prop} {Q3 : I → MW → Prop}  (kE : ∀ x0, E1 x0 → ∃ i : I, E3 i x0) (kQ : ∀ x0, Q1 x0 → ∃ i : I, Q3 i x0) : ∀ (m : Nat) (x13_3 : Int32) (w : MW), q_Wa_addSources_43_13 x13_2 E1 Q1 m x13_3 w → ∃ i : I, q_Wa_addSources_43_13 x13_2 (E3 i) (Q3 i) m x13_3 w := by
  intro m
  induction m with
  | zero => exact fun _ _ h => False.elim h
  | succ m ih =>
    intro x13_3 w h
    have h := Eq.mp (q_Wa_addSources_43_13.eq_2 ..) h
    refine dj_eq (fun i => (q_Wa_addSources_43_13.eq_2 ..)) ?_
    exact (dj_if (fun h1 => (kE _ (h.1 h1))) (fun h2 => (dj_and (h.2 h2).1 (dj_and (h.2 h2).2.1 (dj_q_Wa_addSources_43_42  (fun _ _ h3 => (dj_and h3.1 (dj_and h3.2.1 (dj_and h3.2.2.1 (ih _ _ h3.2.2.2))))) kQ _ _ _ _ _ (h.2 h2).2.2)))))
theorem dj_p_Wa_addSources_43 {I : Type} {w : MW} {Q1 : MW → Prop} {Q3 : I → MW → Prop}  (h : p_Wa_addSources_43 w Q1) (kQ : ∀ x0, Q1 x0 → ∃ i : I, Q3 i x0) : ∃ i : I, p_Wa_addSources_43 w (Q3 i) := by
  have h := Eq.mp (p_Wa_addSources_43.eq_1 ..) h
  refine dj_eq (fun i => (p_Wa_addSources_43.eq_1 ..)) ?_
  exact (dj_and h.1 (dj_q_Wa_addSources_43_13  (fun _ h1 => (kQ _ h1)) kQ _ _ _ h.2))
theorem ex_p_Wa_addSources_43 {w : MW} {Q : MW → Prop} (h : p_Wa_addSources_43 w Q) : ∃ w1 : MW, Q w1 ∧ p_Wa_addSources_43 w (fun u => u = w1) := by
  obtain ⟨i, hi⟩ := dj_p_Wa_addSources_43 (I := {x : MW // Q x}) (Q3 := fun i u => u = i.1) h (fun u q => ⟨⟨u, q⟩, rfl⟩)
  exact ⟨i.1, i.2, hi⟩
theorem dj_p_Ma_min {I : Type} {w : MW} {a0 : Int32} {b0 : Int32} {Q1 : Int32 → MW → Prop} {Q3 : I → Int32 → MW → Prop}  (h : p_Ma_min w a0 b0 Q1) (kQ : ∀ x0 x1, Q1 x0 x1 → ∃ i : I, Q3 i x0 x1) : ∃ i : I, p_Ma_min w a0 b0 (Q3 i) := by
  have h := Eq.mp (p_Ma_min.eq_1 ..) h
  refine dj_eq (fun i => (p_Ma_min.eq_1 ..)) ?_
  exact (dj_if (fun h1 => (kQ _ _ (h.1 h1))) (fun h2 => (kQ _ _ (h.2 h2))))
theorem ex_p_Ma_min {w : MW} {a0 : Int32} {b0 : Int32} {Q : Int32 → MW → Prop} (h : p_Ma_min w a0 b0 Q) : ∃ (r1 : Int32) (w1 : MW), Q r1 w1 ∧ p_Ma_min w a0 b0 (fun r u => r = r1 ∧ u = w1) := by
  obtain ⟨i, hi⟩ := dj_p_Ma_min (I := {x : Int32 × MW // Q x.1 x.2}) (Q3 := fun i r u => r = i.1.1 ∧ u = i.1.2) h (fun r u q => ⟨⟨(r, u), q⟩, rfl, rfl⟩)
  exact ⟨i.1.1, i.1.2, i.2, hi⟩
theorem dj_q_Sf_otherPasses_31 {I : Type} {y31_1 : Int32} {y31_2 : Int32} {y31_3 : Int32} {w : MW} {Q1 : Int32 → MW → Prop} {Q3 : I → Int32 → MW → Prop}  (kQ : ∀ x0 x1, Q1 x0 x1 → ∃ i : I, Q3 i x0 x1) (h : q_Sf_otherPasses_31 y31_1 y31_2 y31_3 w Q1) : ∃ i : I, q_Sf_otherPasses_31 y31_1 y31_2 y31_3 w (Q3 i) := by
  have h := Eq.mp (q_Sf_otherPasses_31.eq_1 ..) h
  refine dj_eq (fun i => (q_Sf_otherPasses_31.eq_1 ..)) ?_
  exact (dj_and h.1 (dj_and h.2.1 (dj_and h.2.2.1 (dj_and h.2.2.2.1 (dj_and h.2.2.2.2.1 (dj_p_Ma_min h.2.2.2.2.2 (fun _ _ h1 => (dj_and h1.1 (dj_if (fun h2 => (kQ _ _ (h1.2.1 h2))) (fun h3 => (kQ _ _ (h1.2.2 h3))))))))))))
theorem dj_p_Sf_otherPasses {I : Type} {w : MW} {a0 : Int32} {b0 : Int32} {Q1 : Int32 → MW → Prop} {Q3 : I → Int32 → MW → Prop}  (h : p_Sf_otherPasses w a0 b0 Q1) (kQ : ∀ x0 x1, Q1 x0 x1 → ∃ i : I, Q3 i x0 x1) : ∃ i : I, p_Sf_otherPasses w a0 b0 (Q3 i) := by
  have h := Eq.mp (p_Sf_otherPasses.eq_1 ..) h
  refine dj_eq (fun i => (p_Sf_otherPasses.eq_1 ..)) ?_
  exact (dj_and h.1 (dj_and h.2.1 (dj_if (fun h1 => (kQ _ _ (h.2.2.1 h1))) (fun h2 => (dj_if (fun h3 => (dj_q_Sf_otherPasses_31  kQ ((h.2.2.2 h2).1 h3))) (fun h4 => (dj_if (fun h5 => (dj_q_Sf_otherPasses_31  kQ (((h.2.2.2 h2).2 h4).1 h5))) (fun h6 => (kQ _ _ (((h.2.2.2 h2).2 h4).2 h6))))))))))
theorem ex_p_Sf_otherPasses {w : MW} {a0 : Int32} {b0 : Int32} {Q : Int32 → MW → Prop} (h : p_Sf_otherPasses w a0 b0 Q) : ∃ (r1 : Int32) (w1 : MW), Q r1 w1 ∧ p_Sf_otherPasses w a0 b0 (fun r u => r = r1 ∧ u = w1) := by
  obtain ⟨i, hi⟩ := dj_p_Sf_otherPasses (I := {x : Int32 × MW // Q x.1 x.2}) (Q3 := fun i r u => r = i.1.1 ∧ u = i.1.2) h (fun r u q => ⟨⟨(r, u), q⟩, rfl, rfl⟩)
  exact ⟨i.1.1, i.1.2, i.2, hi⟩
theorem dj_q_Sf_isSafe_103 {I : Type} {y103_2 : Int32} {y103_3 : Int32} {w : MW} {A1 : Int32 → Int32 → MW → Prop} {A3 : I → Int32 → Int32 → MW → Prop} {E1 : MW → Prop} {E3 : I → MW → Prop} {Q1 : Int32 → MW → Prop} {Q3 : I → Int32 → MW → Prop}  (kA : ∀ x0 x1 x2, A1 x0 x1 x2 → ∃ i : I, A3 i x0 x1 x2) (kE : ∀ x0, E1 x0 → ∃ i : I, E3 i x0) (kQ : ∀ x0 x1, Q1 x0 x1 → ∃ i : I, Q3 i x0 x1) (h : q_Sf_isSafe_103 y103_2 y103_3 w A1 E1 Q1) : ∃ i : I, q_Sf_isSafe_103 y103_2 y103_3 w (A3 i) (E3 i) (Q3 i) := by
  have h := Eq.mp (q_Sf_isSafe_103.eq_1 ..) h
  refine dj_eq (fun i => (q_Sf_isSafe_103.eq_1 ..)) ?_
  exact (dj_p_Sf_link h (fun _ h1 => (dj_p_Sf_meet h1 (fun _ _ h2 => (dj_if (fun h3 => (kA _ _ _ (h2.1 h3))) (fun h4 => (kQ _ _ (h2.2 h4))))))))
theorem dj_q_Sf_isSafe_57 {I : Type}  {E1 : MW → Prop} {E3 : I → MW → Prop} {Q1 : Int32 → MW → Prop} {Q3 : I → Int32 → MW → Prop}  (kE : ∀ x0, E1 x0 → ∃ i : I, E3 i x0) (kQ : ∀ x0 x1, Q1 x0 x1 → ∃ i : I, Q3 i x0 x1) : ∀ (m : Nat) (x57_1 : Int32) (x57_2 : Int32) (w : MW), q_Sf_isSafe_57 E1 Q1 m x57_1 x57_2 w → ∃ i : I, q_Sf_isSafe_57 (E3 i) (Q3 i) m x57_1 x57_2 w := by
  intro m
  induction m with
  | zero => exact fun _ _ _ h => False.elim h
  | succ m ih =>
    intro x57_1 x57_2 w h
    have h := Eq.mp (q_Sf_isSafe_57.eq_2 ..) h
    refine dj_eq (fun i => (q_Sf_isSafe_57.eq_2 ..)) ?_
    exact (dj_and h.1 (dj_if (fun h1 => (kE _ (h.2.1 h1))) (fun h2 => (dj_p_Sf_otherPasses (h.2.2 h2) (fun _ _ h3 => (dj_if (fun h4 => (ih _ _ _ (h3.1 h4))) (fun h5 => (dj_if (fun h6 => (dj_q_Sf_isSafe_103  (fun _ _ _ h8 => (ih _ _ _ h8)) kE kQ ((h3.2 h5).1 h6))) (fun h7 => (dj_if (fun h9 => (ih _ _ _ (((h3.2 h5).2 h7).1 h9))) (fun h10 => (dj_q_Sf_isSafe_103  (fun _ _ _ h11 => (ih _ _ _ h11)) kE kQ (((h3.2 h5).2 h7).2 h10)))))))))))))
theorem dj_p_Sf_isSafe {I : Type} {w : MW} {Q1 : Int32 → MW → Prop} {Q3 : I → Int32 → MW → Prop}  (h : p_Sf_isSafe w Q1) (kQ : ∀ x0 x1, Q1 x0 x1 → ∃ i : I, Q3 i x0 x1) : ∃ i : I, p_Sf_isSafe w (Q3 i) := by
  have h := Eq.mp (p_Sf_isSafe.eq_1 ..) h
  refine dj_eq (fun i => (p_Sf_isSafe.eq_1 ..)) ?_
  exact (dj_p_Ar_fill1_43 h (fun _ h1 => (dj_p_Wa_addSources_43 h1 (fun _ h2 => (dj_p_Sf_findRivals h2 (fun _ _ h3 => (dj_if (fun h4 => (dj_p_Sf_link (h3.1 h4) (fun _ h6 => (dj_p_Sf_meet h6 (fun _ _ h7 => (dj_if (fun h8 => (dj_q_Sf_isSafe_57  (fun _ h10 => (kQ _ _ h10)) kQ _ _ _ _ (h7.1 h8))) (fun h9 => (kQ _ _ (h7.2 h9))))))))) (fun h5 => (kQ _ _ (h3.2 h5))))))))))
theorem ex_p_Sf_isSafe {w : MW} {Q : Int32 → MW → Prop} (h : p_Sf_isSafe w Q) : ∃ (r1 : Int32) (w1 : MW), Q r1 w1 ∧ p_Sf_isSafe w (fun r u => r = r1 ∧ u = w1) := by
  obtain ⟨i, hi⟩ := dj_p_Sf_isSafe (I := {x : Int32 × MW // Q x.1 x.2}) (Q3 := fun i r u => r = i.1.1 ∧ u = i.1.2) h (fun r u q => ⟨⟨(r, u), q⟩, rfl, rfl⟩)
  exact ⟨i.1.1, i.1.2, i.2, hi⟩
theorem dj_q_St_heldLevel_4 {I : Type} {x4_1 : Int32} {E1 : MW → Prop} {E3 : I → MW → Prop} {Q1 : Int32 → MW → Prop} {Q3 : I → Int32 → MW → Prop}  (kE : ∀ x0, E1 x0 → ∃ i : I, E3 i x0) (kQ : ∀ x0 x1, Q1 x0 x1 → ∃ i : I, Q3 i x0 x1) : ∀ (m : Nat) (x4_2 : Int32) (x4_3 : Int32) (w : MW), q_St_heldLevel_4 x4_1 E1 Q1 m x4_2 x4_3 w → ∃ i : I, q_St_heldLevel_4 x4_1 (E3 i) (Q3 i) m x4_2 x4_3 w := by
  intro m
  induction m with
  | zero => exact fun _ _ _ h => False.elim h
  | succ m ih =>
    intro x4_2 x4_3 w h
    have h := Eq.mp (q_St_heldLevel_4.eq_2 ..) h
    refine dj_eq (fun i => (q_St_heldLevel_4.eq_2 ..)) ?_
    exact (dj_if (fun h1 => (kE _ (h.1 h1))) (fun h2 => (dj_and (h.2 h2).1 (dj_p_Ma_max (h.2 h2).2 (fun _ _ h3 => (dj_if (fun h4 => (ih _ _ _ (h3.1 h4))) (fun h5 => (dj_and (h3.2 h5).1 (dj_if (fun h6 => (ih _ _ _ ((h3.2 h5).2.1 h6))) (fun h7 => (kQ _ _ ((h3.2 h5).2.2 h7))))))))))))
theorem dj_p_St_heldLevel {I : Type} {w : MW} {a0 : Int32} {Q1 : Int32 → MW → Prop} {Q3 : I → Int32 → MW → Prop}  (h : p_St_heldLevel w a0 Q1) (kQ : ∀ x0 x1, Q1 x0 x1 → ∃ i : I, Q3 i x0 x1) : ∃ i : I, p_St_heldLevel w a0 (Q3 i) := by
  have h := Eq.mp (p_St_heldLevel.eq_1 ..) h
  refine dj_eq (fun i => (p_St_heldLevel.eq_1 ..)) ?_
  exact (dj_q_St_heldLevel_4  (fun _ h1 => (kQ _ _ h1)) kQ _ _ _ _ h)
theorem ex_p_St_heldLevel {w : MW} {a0 : Int32} {Q : Int32 → MW → Prop} (h : p_St_heldLevel w a0 Q) : ∃ (r1 : Int32) (w1 : MW), Q r1 w1 ∧ p_St_heldLevel w a0 (fun r u => r = r1 ∧ u = w1) := by
  obtain ⟨i, hi⟩ := dj_p_St_heldLevel (I := {x : Int32 × MW // Q x.1 x.2}) (Q3 := fun i r u => r = i.1.1 ∧ u = i.1.2) h (fun r u q => ⟨⟨(r, u), q⟩, rfl, rfl⟩)
  exact ⟨i.1.1, i.1.2, i.2, hi⟩
theorem dj_p_St_mayCome {I : Type} {w : MW} {a0 : Int32} {b0 : Int32} {Q1 : Int32 → MW → Prop} {Q3 : I → Int32 → MW → Prop}  (h : p_St_mayCome w a0 b0 Q1) (kQ : ∀ x0 x1, Q1 x0 x1 → ∃ i : I, Q3 i x0 x1) : ∃ i : I, p_St_mayCome w a0 b0 (Q3 i) := by
  have h := Eq.mp (p_St_mayCome.eq_1 ..) h
  refine dj_eq (fun i => (p_St_mayCome.eq_1 ..)) ?_
  exact (dj_and h.1 (dj_if (fun h1 => (dj_and (h.2.1 h1).1 (dj_if (fun h3 => (dj_and ((h.2.1 h1).2.1 h3).1 (dj_and ((h.2.1 h1).2.1 h3).2.1 (dj_if (fun h5 => (kQ _ _ (((h.2.1 h1).2.1 h3).2.2.1 h5))) (fun h6 => (dj_p_St_heldLevel (((h.2.1 h1).2.1 h3).2.2.2 h6) (fun _ _ h7 => (dj_if (fun h8 => (kQ _ _ (h7.1 h8))) (fun h9 => (kQ _ _ (h7.2 h9))))))))))) (fun h4 => (kQ _ _ ((h.2.1 h1).2.2 h4)))))) (fun h2 => (dj_and (h.2.2 h2).1 (dj_if (fun h10 => (kQ _ _ ((h.2.2 h2).2.1 h10))) (fun h11 => (kQ _ _ ((h.2.2 h2).2.2 h11))))))))
theorem ex_p_St_mayCome {w : MW} {a0 : Int32} {b0 : Int32} {Q : Int32 → MW → Prop} (h : p_St_mayCome w a0 b0 Q) : ∃ (r1 : Int32) (w1 : MW), Q r1 w1 ∧ p_St_mayCome w a0 b0 (fun r u => r = r1 ∧ u = w1) := by
  obtain ⟨i, hi⟩ := dj_p_St_mayCome (I := {x : Int32 × MW // Q x.1 x.2}) (Q3 := fun i r u => r = i.1.1 ∧ u = i.1.2) h (fun r u q => ⟨⟨(r, u), q⟩, rfl, rfl⟩)
  exact ⟨i.1.1, i.1.2, i.2, hi⟩
theorem dj_q_Wa_cheapestEntry_8 {I : Type} {x8_1 : Int32} {E1 : Int32 → MW → Prop} {E3 : I → Int32 → MW → Prop} {Q1 : Int32 → MW → Prop} {Q3 : I → Int32 → MW → Prop}  (kE : ∀ x0 x1, E1 x0 x1 → ∃ i : I, E3 i x0 x1) (kQ : ∀ x0 x1, Q1 x0 x1 → ∃ i : I, Q3 i x0 x1) : ∀ (m : Nat) (x8_2 : Int32) (x8_3 : Int32) (x8_4 : Int32) (w : MW), q_Wa_cheapestEntry_8 x8_1 E1 Q1 m x8_2 x8_3 x8_4 w → ∃ i : I, q_Wa_cheapestEntry_8 x8_1 (E3 i) (Q3 i) m x8_2 x8_3 x8_4 w := by
  intro m
  induction m with
  | zero => exact fun _ _ _ _ h => False.elim h
  | succ m ih =>
    intro x8_2 x8_3 x8_4 w h
    have h := Eq.mp (q_Wa_cheapestEntry_8.eq_2 ..) h
    refine dj_eq (fun i => (q_Wa_cheapestEntry_8.eq_2 ..)) ?_
    exact (dj_and h.1 (dj_if (fun h1 => (kE _ _ (h.2.1 h1))) (fun h2 => (dj_and (h.2.2 h2).1 (dj_and (h.2.2 h2).2.1 (dj_if (fun h3 => (ih _ _ _ _ ((h.2.2 h2).2.2.1 h3))) (fun h4 => (dj_and ((h.2.2 h2).2.2.2 h4).1 (dj_if (fun h5 => (ih _ _ _ _ (((h.2.2 h2).2.2.2 h4).2.1 h5))) (fun h6 => (dj_and (((h.2.2 h2).2.2.2 h4).2.2 h6).1 (ih _ _ _ _ (((h.2.2 h2).2.2.2 h4).2.2 h6).2))))))))))))
theorem dj_p_Wa_cheapestEntry {I : Type} {w : MW} {a0 : Int32} {Q1 : Int32 → MW → Prop} {Q3 : I → Int32 → MW → Prop}  (h : p_Wa_cheapestEntry w a0 Q1) (kQ : ∀ x0 x1, Q1 x0 x1 → ∃ i : I, Q3 i x0 x1) : ∃ i : I, p_Wa_cheapestEntry w a0 (Q3 i) := by
  have h := Eq.mp (p_Wa_cheapestEntry.eq_1 ..) h
  refine dj_eq (fun i => (p_Wa_cheapestEntry.eq_1 ..)) ?_
  exact (dj_q_Wa_cheapestEntry_8  (fun _ _ h1 => (kQ _ _ h1)) kQ _ _ _ _ _ h)
theorem ex_p_Wa_cheapestEntry {w : MW} {a0 : Int32} {Q : Int32 → MW → Prop} (h : p_Wa_cheapestEntry w a0 Q) : ∃ (r1 : Int32) (w1 : MW), Q r1 w1 ∧ p_Wa_cheapestEntry w a0 (fun r u => r = r1 ∧ u = w1) := by
  obtain ⟨i, hi⟩ := dj_p_Wa_cheapestEntry (I := {x : Int32 × MW // Q x.1 x.2}) (Q3 := fun i r u => r = i.1.1 ∧ u = i.1.2) h (fun r u q => ⟨⟨(r, u), q⟩, rfl, rfl⟩)
  exact ⟨i.1.1, i.1.2, i.2, hi⟩
theorem dj_q_Wa_onward_132 {I : Type} {x25_1 : Int32} {x25_3 : Int32} {y132_4 : Int32} {y132_5 : Int32} {y132_6 : Int32} {y132_7 : Int32} {y132_8 : Int32} {ys132_0 : Int32} {w : MW} {A1 : Int32 → Int32 → Int32 → MW → Prop} {A3 : I → Int32 → Int32 → Int32 → MW → Prop} {E1 : Int32 → MW → Prop} {E3 : I → Int32 → MW → Prop} {Q1 : Int32 → MW → Prop} {Q3 : I → Int32 → MW → Prop}  (kA : ∀ x0 x1 x2 x3, A1 x0 x1 x2 x3 → ∃ i : I, A3 i x0 x1 x2 x3) (kE : ∀ x0 x1, E1 x0 x1 → ∃ i : I, E3 i x0 x1) (kQ : ∀ x0 x1, Q1 x0 x1 → ∃ i : I, Q3 i x0 x1) (h : q_Wa_onward_132 x25_1 x25_3 y132_4 y132_5 y132_6 y132_7 y132_8 ys132_0 w A1 E1 Q1) : ∃ i : I, q_Wa_onward_132 x25_1 x25_3 y132_4 y132_5 y132_6 y132_7 y132_8 ys132_0 w (A3 i) (E3 i) (Q3 i) := by
  have h := Eq.mp (q_Wa_onward_132.eq_1 ..) h
  refine dj_eq (fun i => (q_Wa_onward_132.eq_1 ..)) ?_
  exact (dj_if (fun h1 => (kA _ _ _ _ (h.1 h1))) (fun h2 => (dj_if (fun h3 => (kA _ _ _ _ ((h.2 h2).1 h3))) (fun h4 => (dj_and ((h.2 h2).2 h4).1 (kA _ _ _ _ ((h.2 h2).2 h4).2))))))
theorem dj_q_Wa_onward_25 {I : Type} {x25_1 : Int32} {x25_3 : Int32} {E1 : Int32 → MW → Prop} {E3 : I → Int32 → MW → Prop} {Q1 : Int32 → MW → Prop} {Q3 : I → Int32 → MW → Prop}  (kE : ∀ x0 x1, E1 x0 x1 → ∃ i : I, E3 i x0 x1) (kQ : ∀ x0 x1, Q1 x0 x1 → ∃ i : I, Q3 i x0 x1) : ∀ (m : Nat) (x25_4 : Int32) (x25_5 : Int32) (x25_6 : Int32) (w : MW), q_Wa_onward_25 x25_1 x25_3 E1 Q1 m x25_4 x25_5 x25_6 w → ∃ i : I, q_Wa_onward_25 x25_1 x25_3 (E3 i) (Q3 i) m x25_4 x25_5 x25_6 w := by
  intro m
  induction m with
  | zero => exact fun _ _ _ _ h => False.elim h
  | succ m ih =>
    intro x25_4 x25_5 x25_6 w h
    have h := Eq.mp (q_Wa_onward_25.eq_2 ..) h
    refine dj_eq (fun i => (q_Wa_onward_25.eq_2 ..)) ?_
    exact (dj_if (fun h1 => (kE _ _ (h.1 h1))) (fun h2 => (dj_if (fun h3 => (kE _ _ ((h.2 h2).1 h3))) (fun h4 => (dj_and ((h.2 h2).2 h4).1 (dj_if (fun h5 => (ih _ _ _ _ (((h.2 h2).2 h4).2.1 h5))) (fun h6 => (dj_and (((h.2 h2).2 h4).2.2 h6).1 (dj_if (fun h7 => (ih _ _ _ _ ((((h.2 h2).2 h4).2.2 h6).2.1 h7))) (fun h8 => (dj_and ((((h.2 h2).2 h4).2.2 h6).2.2 h8).1 (dj_and ((((h.2 h2).2 h4).2.2 h6).2.2 h8).2.1 (dj_and ((((h.2 h2).2 h4).2.2 h6).2.2 h8).2.2.1 (dj_and ((((h.2 h2).2 h4).2.2 h6).2.2 h8).2.2.2.1 (dj_if (fun h9 => (dj_q_Wa_onward_132  (fun _ _ _ _ h11 => (ih _ _ _ _ h11)) kE kQ (((((h.2 h2).2 h4).2.2 h6).2.2 h8).2.2.2.2.1 h9))) (fun h10 => (dj_and (((((h.2 h2).2 h4).2.2 h6).2.2 h8).2.2.2.2.2 h10).1 (dj_if (fun h12 => (dj_q_Wa_onward_132  (fun _ _ _ _ h14 => (ih _ _ _ _ h14)) kE kQ ((((((h.2 h2).2 h4).2.2 h6).2.2 h8).2.2.2.2.2 h10).2.1 h12))) (fun h13 => (dj_and ((((((h.2 h2).2 h4).2.2 h6).2.2 h8).2.2.2.2.2 h10).2.2 h13).1 (dj_if (fun h15 => (dj_q_Wa_onward_132  (fun _ _ _ _ h17 => (ih _ _ _ _ h17)) kE kQ (((((((h.2 h2).2 h4).2.2 h6).2.2 h8).2.2.2.2.2 h10).2.2 h13).2.1 h15))) (fun h16 => (dj_q_Wa_onward_132  (fun _ _ _ _ h18 => (ih _ _ _ _ h18)) kE kQ (((((((h.2 h2).2 h4).2.2 h6).2.2 h8).2.2.2.2.2 h10).2.2 h13).2.2 h16))))))))))))))))))))))))
theorem dj_p_Wa_onward {I : Type} {w : MW} {a0 : Int32} {Q1 : Int32 → MW → Prop} {Q3 : I → Int32 → MW → Prop}  (h : p_Wa_onward w a0 Q1) (kQ : ∀ x0 x1, Q1 x0 x1 → ∃ i : I, Q3 i x0 x1) : ∃ i : I, p_Wa_onward w a0 (Q3 i) := by
  have h := Eq.mp (p_Wa_onward.eq_1 ..) h
  refine dj_eq (fun i => (p_Wa_onward.eq_1 ..)) ?_
  exact (dj_and h.1 (dj_and h.2.1 (dj_q_Wa_onward_25  (fun _ _ h1 => (kQ _ _ h1)) kQ _ _ _ _ _ h.2.2)))
theorem ex_p_Wa_onward {w : MW} {a0 : Int32} {Q : Int32 → MW → Prop} (h : p_Wa_onward w a0 Q) : ∃ (r1 : Int32) (w1 : MW), Q r1 w1 ∧ p_Wa_onward w a0 (fun r u => r = r1 ∧ u = w1) := by
  obtain ⟨i, hi⟩ := dj_p_Wa_onward (I := {x : Int32 × MW // Q x.1 x.2}) (Q3 := fun i r u => r = i.1.1 ∧ u = i.1.2) h (fun r u q => ⟨⟨(r, u), q⟩, rfl, rfl⟩)
  exact ⟨i.1.1, i.1.2, i.2, hi⟩
theorem dj_q_Wa_find_184 {I : Type} {x119_1 : Int32} {x119_2 : Int32} {x119_4 : Int32} {y184_5 : Int32} {x119_6 : Int32} {y184_7 : Int32} {ys184_0 : Int32} {w : MW} {A1 : Int32 → Int32 → MW → Prop} {A3 : I → Int32 → Int32 → MW → Prop} {E1 : Int32 → MW → Prop} {E3 : I → Int32 → MW → Prop} {Q1 : Int32 → MW → Prop} {Q3 : I → Int32 → MW → Prop}  (kA : ∀ x0 x1 x2, A1 x0 x1 x2 → ∃ i : I, A3 i x0 x1 x2) (kE : ∀ x0 x1, E1 x0 x1 → ∃ i : I, E3 i x0 x1) (kQ : ∀ x0 x1, Q1 x0 x1 → ∃ i : I, Q3 i x0 x1) (h : q_Wa_find_184 x119_1 x119_2 x119_4 y184_5 x119_6 y184_7 ys184_0 w A1 E1 Q1) : ∃ i : I, q_Wa_find_184 x119_1 x119_2 x119_4 y184_5 x119_6 y184_7 ys184_0 w (A3 i) (E3 i) (Q3 i) := by
  have h := Eq.mp (q_Wa_find_184.eq_1 ..) h
  refine dj_eq (fun i => (q_Wa_find_184.eq_1 ..)) ?_
  exact (dj_and h.1 (dj_if (fun h1 => (kA _ _ _ (h.2.1 h1))) (fun h2 => (dj_and (h.2.2 h2).1 (kA _ _ _ (h.2.2 h2).2)))))
theorem dj_q_Wa_find_150 {I : Type} {x119_1 : Int32} {x119_2 : Int32} {x119_4 : Int32} {y150_5 : Int32} {x119_6 : Int32} {y150_7 : Int32} {ys150_0 : Int32} {w : MW} {A1 : Int32 → Int32 → MW → Prop} {A3 : I → Int32 → Int32 → MW → Prop} {E1 : Int32 → MW → Prop} {E3 : I → Int32 → MW → Prop} {Q1 : Int32 → MW → Prop} {Q3 : I → Int32 → MW → Prop}  (kA : ∀ x0 x1 x2, A1 x0 x1 x2 → ∃ i : I, A3 i x0 x1 x2) (kE : ∀ x0 x1, E1 x0 x1 → ∃ i : I, E3 i x0 x1) (kQ : ∀ x0 x1, Q1 x0 x1 → ∃ i : I, Q3 i x0 x1) (h : q_Wa_find_150 x119_1 x119_2 x119_4 y150_5 x119_6 y150_7 ys150_0 w A1 E1 Q1) : ∃ i : I, q_Wa_find_150 x119_1 x119_2 x119_4 y150_5 x119_6 y150_7 ys150_0 w (A3 i) (E3 i) (Q3 i) := by
  have h := Eq.mp (q_Wa_find_150.eq_1 ..) h
  refine dj_eq (fun i => (q_Wa_find_150.eq_1 ..)) ?_
  exact (dj_if (fun h1 => (dj_and (h.1 h1).1 (dj_and (h.1 h1).2.1 (dj_q_Wa_find_184  kA kE kQ (h.1 h1).2.2)))) (fun h2 => (dj_q_Wa_find_184  kA kE kQ (h.2 h2))))
theorem dj_q_Wa_find_119 {I : Type} {x119_1 : Int32} {x119_2 : Int32} {x119_4 : Int32} {x119_6 : Int32} {E1 : Int32 → MW → Prop} {E3 : I → Int32 → MW → Prop} {Q1 : Int32 → MW → Prop} {Q3 : I → Int32 → MW → Prop}  (kE : ∀ x0 x1, E1 x0 x1 → ∃ i : I, E3 i x0 x1) (kQ : ∀ x0 x1, Q1 x0 x1 → ∃ i : I, Q3 i x0 x1) : ∀ (m : Nat) (x119_5 : Int32) (x119_7 : Int32) (w : MW), q_Wa_find_119 x119_1 x119_2 x119_4 x119_6 E1 Q1 m x119_5 x119_7 w → ∃ i : I, q_Wa_find_119 x119_1 x119_2 x119_4 x119_6 (E3 i) (Q3 i) m x119_5 x119_7 w := by
  intro m
  induction m with
  | zero => exact fun _ _ _ h => False.elim h
  | succ m ih =>
    intro x119_5 x119_7 w h
    have h := Eq.mp (q_Wa_find_119.eq_2 ..) h
    refine dj_eq (fun i => (q_Wa_find_119.eq_2 ..)) ?_
    exact (dj_if (fun h1 => (kE _ _ (h.1 h1))) (fun h2 => (dj_and (h.2 h2).1 (dj_if (fun h3 => (dj_p_Wa_onward ((h.2 h2).2.1 h3) (fun _ _ h5 => (dj_q_Wa_find_150  (fun _ _ _ h6 => (ih _ _ _ h6)) kE kQ h5)))) (fun h4 => (dj_q_Wa_find_150  (fun _ _ _ h7 => (ih _ _ _ h7)) kE kQ ((h.2 h2).2.2 h4)))))))
theorem dj_q_Wa_find_101 {I : Type} {x101_1 : Int32} {x101_2 : Int32} {x101_4 : Int32} {E1 : MW → Prop} {E3 : I → MW → Prop} {Q1 : Int32 → MW → Prop} {Q3 : I → Int32 → MW → Prop}  (kE : ∀ x0, E1 x0 → ∃ i : I, E3 i x0) (kQ : ∀ x0 x1, Q1 x0 x1 → ∃ i : I, Q3 i x0 x1) : ∀ (m : Nat) (x101_5 : Int32) (x101_6 : Int32) (w : MW), q_Wa_find_101 x101_1 x101_2 x101_4 E1 Q1 m x101_5 x101_6 w → ∃ i : I, q_Wa_find_101 x101_1 x101_2 x101_4 (E3 i) (Q3 i) m x101_5 x101_6 w := by
  intro m
  induction m with
  | zero => exact fun _ _ _ h => False.elim h
  | succ m ih =>
    intro x101_5 x101_6 w h
    have h := Eq.mp (q_Wa_find_101.eq_2 ..) h
    refine dj_eq (fun i => (q_Wa_find_101.eq_2 ..)) ?_
    exact (dj_if (fun h1 => (kE _ (h.1 h1))) (fun h2 => (dj_if (fun h3 => (kE _ ((h.2 h2).1 h3))) (fun h4 => (dj_q_Wa_find_119  (fun _ _ h5 => (ih _ _ _ h5)) kQ _ _ _ _ ((h.2 h2).2 h4))))))
theorem dj_q_Wa_find_56 {I : Type} {x19_1 : Int32} {x19_2 : Int32} {x19_4 : Int32} {y56_5 : Int32} {ys56_0 : Int32} {w : MW} {A1 : Int32 → MW → Prop} {A3 : I → Int32 → MW → Prop} {E1 : MW → Prop} {E3 : I → MW → Prop} {Q1 : Int32 → MW → Prop} {Q3 : I → Int32 → MW → Prop}  (kA : ∀ x0 x1, A1 x0 x1 → ∃ i : I, A3 i x0 x1) (kE : ∀ x0, E1 x0 → ∃ i : I, E3 i x0) (kQ : ∀ x0 x1, Q1 x0 x1 → ∃ i : I, Q3 i x0 x1) (h : q_Wa_find_56 x19_1 x19_2 x19_4 y56_5 ys56_0 w A1 E1 Q1) : ∃ i : I, q_Wa_find_56 x19_1 x19_2 x19_4 y56_5 ys56_0 w (A3 i) (E3 i) (Q3 i) := by
  have h := Eq.mp (q_Wa_find_56.eq_1 ..) h
  refine dj_eq (fun i => (q_Wa_find_56.eq_1 ..)) ?_
  exact (dj_if (fun h1 => (dj_and (h.1 h1).1 (kA _ _ (h.1 h1).2))) (fun h2 => (dj_and (h.2 h2).1 (dj_and (h.2 h2).2.1 (kA _ _ (h.2 h2).2.2)))))
theorem dj_q_Wa_find_19 {I : Type} {x19_1 : Int32} {x19_2 : Int32} {x19_4 : Int32} {E1 : MW → Prop} {E3 : I → MW → Prop} {Q1 : Int32 → MW → Prop} {Q3 : I → Int32 → MW → Prop}  (kE : ∀ x0, E1 x0 → ∃ i : I, E3 i x0) (kQ : ∀ x0 x1, Q1 x0 x1 → ∃ i : I, Q3 i x0 x1) : ∀ (m : Nat) (x19_5 : Int32) (w : MW), q_Wa_find_19 x19_1 x19_2 x19_4 E1 Q1 m x19_5 w → ∃ i : I, q_Wa_find_19 x19_1 x19_2 x19_4 (E3 i) (Q3 i) m x19_5 w := by
  intro m
  induction m with
  | zero => exact fun _ _ h => False.elim h
  | succ m ih =>
    intro x19_5 w h
    have h := Eq.mp (q_Wa_find_19.eq_2 ..) h
    refine dj_eq (fun i => (q_Wa_find_19.eq_2 ..)) ?_
    exact (dj_if (fun h1 => (kE _ (h.1 h1))) (fun h2 => (dj_and (h.2 h2).1 (dj_if (fun h3 => (dj_q_Wa_find_56  (fun _ _ h5 => (ih _ _ h5)) kE kQ ((h.2 h2).2.1 h3))) (fun h4 => (dj_and ((h.2 h2).2.2 h4).1 (dj_if (fun h6 => (dj_q_Wa_find_56  (fun _ _ h8 => (ih _ _ h8)) kE kQ (((h.2 h2).2.2 h4).2.1 h6))) (fun h7 => (dj_q_Wa_find_56  (fun _ _ h9 => (ih _ _ h9)) kE kQ (((h.2 h2).2.2 h4).2.2 h7))))))))))
theorem dj_q_Wa_find_234 {I : Type} {x234_2 : Int32} {E1 : MW → Prop} {E3 : I → MW → Prop} {Q1 : Int32 → MW → Prop} {Q3 : I → Int32 → MW → Prop}  (kE : ∀ x0, E1 x0 → ∃ i : I, E3 i x0) (kQ : ∀ x0 x1, Q1 x0 x1 → ∃ i : I, Q3 i x0 x1) : ∀ (m : Nat) (x234_6 : Int32) (w : MW), q_Wa_find_234 x234_2 E1 Q1 m x234_6 w → ∃ i : I, q_Wa_find_234 x234_2 (E3 i) (Q3 i) m x234_6 w := by
  intro m
  induction m with
  | zero => exact fun _ _ h => False.elim h
  | succ m ih =>
    intro x234_6 w h
    have h := Eq.mp (q_Wa_find_234.eq_2 ..) h
    refine dj_eq (fun i => (q_Wa_find_234.eq_2 ..)) ?_
    exact (dj_if (fun h1 => (kE _ (h.1 h1))) (fun h2 => (dj_if (fun h3 => (kE _ ((h.2 h2).1 h3))) (fun h4 => (dj_and ((h.2 h2).2 h4).1 (dj_and ((h.2 h2).2 h4).2.1 (dj_if (fun h5 => (dj_p_Wa_onward (((h.2 h2).2 h4).2.2.1 h5) (fun _ _ h7 => (ih _ _ h7)))) (fun h6 => (ih _ _ (((h.2 h2).2 h4).2.2.2 h6))))))))))
theorem dj_p_Wa_find {I : Type} {w : MW} {a0 : Int32} {b0 : Int32} {Q1 : Int32 → MW → Prop} {Q3 : I → Int32 → MW → Prop}  (h : p_Wa_find w a0 b0 Q1) (kQ : ∀ x0 x1, Q1 x0 x1 → ∃ i : I, Q3 i x0 x1) : ∃ i : I, p_Wa_find w a0 b0 (Q3 i) := by
  have h := Eq.mp (p_Wa_find.eq_1 ..) h
  refine dj_eq (fun i => (p_Wa_find.eq_1 ..)) ?_
  exact (dj_and h.1 (dj_q_Wa_find_19  (fun _ h1 => (dj_q_Wa_find_101  (fun _ h2 => (dj_p_Wa_cheapestEntry h2 (fun _ _ h3 => (dj_q_Wa_find_234  (fun _ h4 => (dj_if (fun h5 => (kQ _ _ (h4.1 h5))) (fun h6 => (kQ _ _ (h4.2 h6))))) kQ _ _ _ h3)))) kQ _ _ _ _ h1)) kQ _ _ _ h.2))
theorem ex_p_Wa_find {w : MW} {a0 : Int32} {b0 : Int32} {Q : Int32 → MW → Prop} (h : p_Wa_find w a0 b0 Q) : ∃ (r1 : Int32) (w1 : MW), Q r1 w1 ∧ p_Wa_find w a0 b0 (fun r u => r = r1 ∧ u = w1) := by
  obtain ⟨i, hi⟩ := dj_p_Wa_find (I := {x : Int32 × MW // Q x.1 x.2}) (Q3 := fun i r u => r = i.1.1 ∧ u = i.1.2) h (fun r u q => ⟨⟨(r, u), q⟩, rfl, rfl⟩)
  exact ⟨i.1.1, i.1.2, i.2, hi⟩
theorem dj_q_Wa_openFound_86 {I : Type} {x12_1 : Int32} {x12_2 : Int32} {x12_3 : Int32} {y86_5 : Int32} {ys86_0 : Int32} {ys86_1 : Int32} {w : MW} {A1 : Int32 → MW → Prop} {A3 : I → Int32 → MW → Prop} {E1 : MW → Prop} {E3 : I → MW → Prop} {Q1 : MW → Prop} {Q3 : I → MW → Prop}  (kA : ∀ x0 x1, A1 x0 x1 → ∃ i : I, A3 i x0 x1) (kE : ∀ x0, E1 x0 → ∃ i : I, E3 i x0) (kQ : ∀ x0, Q1 x0 → ∃ i : I, Q3 i x0) (h : q_Wa_openFound_86 x12_1 x12_2 x12_3 y86_5 ys86_0 ys86_1 w A1 E1 Q1) : ∃ i : I, q_Wa_openFound_86 x12_1 x12_2 x12_3 y86_5 ys86_0 ys86_1 w (A3 i) (E3 i) (Q3 i) := by
  have h := Eq.mp (q_Wa_openFound_86.eq_1 ..) h
  refine dj_eq (fun i => (q_Wa_openFound_86.eq_1 ..)) ?_
  exact (dj_and h.1 (dj_if (fun h1 => (kA _ _ (h.2.1 h1))) (fun h2 => (dj_and (h.2.2 h2).1 (dj_and (h.2.2 h2).2.1 (dj_and (h.2.2 h2).2.2.1 (dj_and (h.2.2 h2).2.2.2.1 (dj_and (h.2.2 h2).2.2.2.2.1 (dj_if (fun h3 => (dj_and ((h.2.2 h2).2.2.2.2.2.1 h3).1 (dj_and ((h.2.2 h2).2.2.2.2.2.1 h3).2.1 (kA _ _ ((h.2.2 h2).2.2.2.2.2.1 h3).2.2)))) (fun h4 => (dj_and ((h.2.2 h2).2.2.2.2.2.2 h4).1 (dj_and ((h.2.2 h2).2.2.2.2.2.2 h4).2.1 (dj_and ((h.2.2 h2).2.2.2.2.2.2 h4).2.2.1 (dj_and ((h.2.2 h2).2.2.2.2.2.2 h4).2.2.2.1 (dj_and ((h.2.2 h2).2.2.2.2.2.2 h4).2.2.2.2.1 (dj_and ((h.2.2 h2).2.2.2.2.2.2 h4).2.2.2.2.2.1 (dj_and ((h.2.2 h2).2.2.2.2.2.2 h4).2.2.2.2.2.2.1 (dj_and ((h.2.2 h2).2.2.2.2.2.2 h4).2.2.2.2.2.2.2.1 (dj_and ((h.2.2 h2).2.2.2.2.2.2 h4).2.2.2.2.2.2.2.2.1 (kA _ _ ((h.2.2 h2).2.2.2.2.2.2 h4).2.2.2.2.2.2.2.2.2))))))))))))))))))))
theorem dj_q_Wa_openFound_12 {I : Type} {x12_1 : Int32} {x12_2 : Int32} {x12_3 : Int32} {E1 : MW → Prop} {E3 : I → MW → Prop} {Q1 : MW → Prop} {Q3 : I → MW → Prop}  (kE : ∀ x0, E1 x0 → ∃ i : I, E3 i x0) (kQ : ∀ x0, Q1 x0 → ∃ i : I, Q3 i x0) : ∀ (m : Nat) (x12_5 : Int32) (w : MW), q_Wa_openFound_12 x12_1 x12_2 x12_3 E1 Q1 m x12_5 w → ∃ i : I, q_Wa_openFound_12 x12_1 x12_2 x12_3 (E3 i) (Q3 i) m x12_5 w := by
  intro m
  induction m with
  | zero => exact fun _ _ h => False.elim h
  | succ m ih =>
    intro x12_5 w h
    have h := Eq.mp (q_Wa_openFound_12.eq_2 ..) h
    refine dj_eq (fun i => (q_Wa_openFound_12.eq_2 ..)) ?_
    exact (dj_if (fun h1 => (kE _ (h.1 h1))) (fun h2 => (dj_and (h.2 h2).1 (dj_and (h.2 h2).2.1 (dj_and (h.2 h2).2.2.1 (dj_and (h.2 h2).2.2.2.1 (dj_if (fun h3 => (dj_q_Wa_openFound_86  (fun _ _ h5 => (ih _ _ h5)) kE kQ ((h.2 h2).2.2.2.2.1 h3))) (fun h4 => (dj_and ((h.2 h2).2.2.2.2.2 h4).1 (dj_q_Wa_openFound_86  (fun _ _ h6 => (ih _ _ h6)) kE kQ ((h.2 h2).2.2.2.2.2 h4).2))))))))))
theorem dj_p_Wa_openFound {I : Type} {w : MW} {a0 : Int32} {b0 : Int32} {c0 : Int32} {Q1 : MW → Prop} {Q3 : I → MW → Prop}  (h : p_Wa_openFound w a0 b0 c0 Q1) (kQ : ∀ x0, Q1 x0 → ∃ i : I, Q3 i x0) : ∃ i : I, p_Wa_openFound w a0 b0 c0 (Q3 i) := by
  have h := Eq.mp (p_Wa_openFound.eq_1 ..) h
  refine dj_eq (fun i => (p_Wa_openFound.eq_1 ..)) ?_
  exact (dj_and h.1 (dj_q_Wa_openFound_12  (fun _ h1 => (dj_and h1.1 (dj_and h1.2.1 (dj_and h1.2.2.1 (dj_and h1.2.2.2.1 (dj_and h1.2.2.2.2.1 (dj_and h1.2.2.2.2.2.1 (dj_and h1.2.2.2.2.2.2.1 (dj_and h1.2.2.2.2.2.2.2.1 (dj_and h1.2.2.2.2.2.2.2.2.1 (kQ _ h1.2.2.2.2.2.2.2.2.2))))))))))) kQ _ _ _ h.2))
theorem ex_p_Wa_openFound {w : MW} {a0 : Int32} {b0 : Int32} {c0 : Int32} {Q : MW → Prop} (h : p_Wa_openFound w a0 b0 c0 Q) : ∃ w1 : MW, Q w1 ∧ p_Wa_openFound w a0 b0 c0 (fun u => u = w1) := by
  obtain ⟨i, hi⟩ := dj_p_Wa_openFound (I := {x : MW // Q x}) (Q3 := fun i u => u = i.1) h (fun u q => ⟨⟨u, q⟩, rfl⟩)
  exact ⟨i.1, i.2, hi⟩
theorem dj_p_Wa_undoOpening {I : Type} {w : MW} {Q1 : MW → Prop} {Q3 : I → MW → Prop}  (h : p_Wa_undoOpening w Q1) (kQ : ∀ x0, Q1 x0 → ∃ i : I, Q3 i x0) : ∃ i : I, p_Wa_undoOpening w (Q3 i) := by
  have h := Eq.mp (p_Wa_undoOpening.eq_1 ..) h
  refine dj_eq (fun i => (p_Wa_undoOpening.eq_1 ..)) ?_
  exact (dj_p_Wa_remove h (fun _ h1 => (kQ _ h1)))
theorem ex_p_Wa_undoOpening {w : MW} {Q : MW → Prop} (h : p_Wa_undoOpening w Q) : ∃ w1 : MW, Q w1 ∧ p_Wa_undoOpening w (fun u => u = w1) := by
  obtain ⟨i, hi⟩ := dj_p_Wa_undoOpening (I := {x : MW // Q x}) (Q3 := fun i u => u = i.1) h (fun u q => ⟨⟨u, q⟩, rfl⟩)
  exact ⟨i.1, i.2, hi⟩
theorem dj_q_Ac_openWay_45 {I : Type} {x45_1 : Int32} {x45_2 : Int32} {x45_3 : Int32} {E1 : MW → Prop} {E3 : I → MW → Prop} {Q1 : Int32 → MW → Prop} {Q3 : I → Int32 → MW → Prop}  (kE : ∀ x0, E1 x0 → ∃ i : I, E3 i x0) (kQ : ∀ x0 x1, Q1 x0 x1 → ∃ i : I, Q3 i x0 x1) : ∀ (m : Nat) (x45_4 : Int32) (w : MW), q_Ac_openWay_45 x45_1 x45_2 x45_3 E1 Q1 m x45_4 w → ∃ i : I, q_Ac_openWay_45 x45_1 x45_2 x45_3 (E3 i) (Q3 i) m x45_4 w := by
  intro m
  induction m with
  | zero => exact fun _ _ h => False.elim h
  | succ m ih =>
    intro x45_4 w h
    have h := Eq.mp (q_Ac_openWay_45.eq_2 ..) h
    refine dj_eq (fun i => (q_Ac_openWay_45.eq_2 ..)) ?_
    exact (dj_if (fun h1 => (kE _ (h.1 h1))) (fun h2 => (dj_and (h.2 h2).1 (dj_and (h.2 h2).2.1 (dj_and (h.2 h2).2.2.1 (dj_p_St_mayCome (h.2 h2).2.2.2 (fun _ _ h3 => (dj_if (fun h4 => (ih _ _ (h3.1 h4))) (fun h5 => (kQ _ _ (h3.2 h5)))))))))))
theorem dj_p_Ac_openWay {I : Type} {w : MW} {a0 : Int32} {b0 : Int32} {c0 : Int32} {Q1 : Int32 → MW → Prop} {Q3 : I → Int32 → MW → Prop}  (h : p_Ac_openWay w a0 b0 c0 Q1) (kQ : ∀ x0 x1, Q1 x0 x1 → ∃ i : I, Q3 i x0 x1) : ∃ i : I, p_Ac_openWay w a0 b0 c0 (Q3 i) := by
  have h := Eq.mp (p_Ac_openWay.eq_1 ..) h
  refine dj_eq (fun i => (p_Ac_openWay.eq_1 ..)) ?_
  exact (dj_p_Wa_indexOf h (fun _ _ h1 => (dj_if (fun h2 => (dj_and (h1.1 h2).1 (dj_if (fun h4 => (dj_p_Wa_find ((h1.1 h2).2.1 h4) (fun _ _ h6 => (dj_if (fun h7 => (dj_q_Ac_openWay_45  (fun _ h9 => (dj_and h9.1 (dj_p_St_mayCome h9.2 (fun _ _ h10 => (dj_if (fun h11 => (dj_p_Wa_openFound (h10.1 h11) (fun _ h13 => (dj_p_Sf_isSafe h13 (fun _ _ h14 => (dj_if (fun h15 => (dj_p_Wa_undoOpening (h14.1 h15) (fun _ h17 => (kQ _ _ h17)))) (fun h16 => (kQ _ _ (h14.2 h16))))))))) (fun h12 => (kQ _ _ (h10.2 h12)))))))) kQ _ _ _ (h6.1 h7))) (fun h8 => (kQ _ _ (h6.2 h8))))))) (fun h5 => (kQ _ _ ((h1.1 h2).2.2 h5)))))) (fun h3 => (kQ _ _ (h1.2 h3))))))
theorem ex_p_Ac_openWay {w : MW} {a0 : Int32} {b0 : Int32} {c0 : Int32} {Q : Int32 → MW → Prop} (h : p_Ac_openWay w a0 b0 c0 Q) : ∃ (r1 : Int32) (w1 : MW), Q r1 w1 ∧ p_Ac_openWay w a0 b0 c0 (fun r u => r = r1 ∧ u = w1) := by
  obtain ⟨i, hi⟩ := dj_p_Ac_openWay (I := {x : Int32 × MW // Q x.1 x.2}) (Q3 := fun i r u => r = i.1.1 ∧ u = i.1.2) h (fun r u q => ⟨⟨(r, u), q⟩, rfl, rfl⟩)
  exact ⟨i.1.1, i.1.2, i.2, hi⟩
theorem dj_p_Wa_goesOver {I : Type} {w : MW} {a0 : Int32} {Q1 : Int32 → MW → Prop} {Q3 : I → Int32 → MW → Prop}  (h : p_Wa_goesOver w a0 Q1) (kQ : ∀ x0 x1, Q1 x0 x1 → ∃ i : I, Q3 i x0 x1) : ∃ i : I, p_Wa_goesOver w a0 (Q3 i) := by
  have h := Eq.mp (p_Wa_goesOver.eq_1 ..) h
  refine dj_eq (fun i => (p_Wa_goesOver.eq_1 ..)) ?_
  exact (dj_and h.1 (dj_if (fun h1 => (kQ _ _ (h.2.1 h1))) (fun h2 => (kQ _ _ (h.2.2 h2)))))
theorem ex_p_Wa_goesOver {w : MW} {a0 : Int32} {Q : Int32 → MW → Prop} (h : p_Wa_goesOver w a0 Q) : ∃ (r1 : Int32) (w1 : MW), Q r1 w1 ∧ p_Wa_goesOver w a0 (fun r u => r = r1 ∧ u = w1) := by
  obtain ⟨i, hi⟩ := dj_p_Wa_goesOver (I := {x : Int32 × MW // Q x.1 x.2}) (Q3 := fun i r u => r = i.1.1 ∧ u = i.1.2) h (fun r u q => ⟨⟨(r, u), q⟩, rfl, rfl⟩)
  exact ⟨i.1.1, i.1.2, i.2, hi⟩
theorem dj_p_Ac_setPosition {I : Type} {w : MW} {a0 : Int32} {b0 : Int32} {Q1 : Int32 → MW → Prop} {Q3 : I → Int32 → MW → Prop}  (h : p_Ac_setPosition w a0 b0 Q1) (kQ : ∀ x0 x1, Q1 x0 x1 → ∃ i : I, Q3 i x0 x1) : ∃ i : I, p_Ac_setPosition w a0 b0 (Q3 i) := by
  have h := Eq.mp (p_Ac_setPosition.eq_1 ..) h
  refine dj_eq (fun i => (p_Ac_setPosition.eq_1 ..)) ?_
  exact (dj_p_Wa_goesOver h (fun _ _ h1 => (dj_if (fun h2 => (dj_and (h1.1 h2).1 (dj_and (h1.1 h2).2.1 (dj_p_Sf_isSafe (h1.1 h2).2.2 (fun _ _ h4 => (dj_if (fun h5 => (dj_and (h4.1 h5).1 (kQ _ _ (h4.1 h5).2))) (fun h6 => (kQ _ _ (h4.2 h6))))))))) (fun h3 => (kQ _ _ (h1.2 h3))))))
theorem ex_p_Ac_setPosition {w : MW} {a0 : Int32} {b0 : Int32} {Q : Int32 → MW → Prop} (h : p_Ac_setPosition w a0 b0 Q) : ∃ (r1 : Int32) (w1 : MW), Q r1 w1 ∧ p_Ac_setPosition w a0 b0 (fun r u => r = r1 ∧ u = w1) := by
  obtain ⟨i, hi⟩ := dj_p_Ac_setPosition (I := {x : Int32 × MW // Q x.1 x.2}) (Q3 := fun i r u => r = i.1.1 ∧ u = i.1.2) h (fun r u q => ⟨⟨(r, u), q⟩, rfl, rfl⟩)
  exact ⟨i.1.1, i.1.2, i.2, hi⟩
theorem dj_q_Ro_isOn_10 {I : Type} {x10_1 : Int32} {E1 : Int64 → MW → Prop} {E3 : I → Int64 → MW → Prop} {Q1 : Int32 → MW → Prop} {Q3 : I → Int32 → MW → Prop}  (kE : ∀ x0 x1, E1 x0 x1 → ∃ i : I, E3 i x0 x1) (kQ : ∀ x0 x1, Q1 x0 x1 → ∃ i : I, Q3 i x0 x1) : ∀ (m : Nat) (x10_2 : Int64) (x10_4 : Int32) (w : MW), q_Ro_isOn_10 x10_1 E1 Q1 m x10_2 x10_4 w → ∃ i : I, q_Ro_isOn_10 x10_1 (E3 i) (Q3 i) m x10_2 x10_4 w := by
  intro m
  induction m with
  | zero => exact fun _ _ _ h => False.elim h
  | succ m ih =>
    intro x10_2 x10_4 w h
    have h := Eq.mp (q_Ro_isOn_10.eq_2 ..) h
    refine dj_eq (fun i => (q_Ro_isOn_10.eq_2 ..)) ?_
    exact (dj_and h.1 (dj_if (fun h1 => (kE _ _ (h.2.1 h1))) (fun h2 => (dj_and (h.2.2 h2).1 (dj_if (fun h3 => (dj_and ((h.2.2 h2).2.1 h3).1 (dj_if (fun h5 => (dj_and (((h.2.2 h2).2.1 h3).2.1 h5).1 (dj_if (fun h7 => (ih _ _ _ ((((h.2.2 h2).2.1 h3).2.1 h5).2.1 h7))) (fun h8 => (ih _ _ _ ((((h.2.2 h2).2.1 h3).2.1 h5).2.2 h8)))))) (fun h6 => (ih _ _ _ (((h.2.2 h2).2.1 h3).2.2 h6)))))) (fun h4 => (dj_and ((h.2.2 h2).2.2 h4).1 (ih _ _ _ ((h.2.2 h2).2.2 h4).2))))))))
theorem dj_p_Ro_isOn {I : Type} {w : MW} {a0 : Int32} {Q1 : Int32 → MW → Prop} {Q3 : I → Int32 → MW → Prop}  (h : p_Ro_isOn w a0 Q1) (kQ : ∀ x0 x1, Q1 x0 x1 → ∃ i : I, Q3 i x0 x1) : ∃ i : I, p_Ro_isOn w a0 (Q3 i) := by
  have h := Eq.mp (p_Ro_isOn.eq_1 ..) h
  refine dj_eq (fun i => (p_Ro_isOn.eq_1 ..)) ?_
  exact (dj_and h.1 (dj_q_Ro_isOn_10  (fun _ _ h1 => (dj_if (fun h2 => (kQ _ _ (h1.1 h2))) (fun h3 => (kQ _ _ (h1.2 h3))))) kQ _ _ _ _ h.2))
theorem ex_p_Ro_isOn {w : MW} {a0 : Int32} {Q : Int32 → MW → Prop} (h : p_Ro_isOn w a0 Q) : ∃ (r1 : Int32) (w1 : MW), Q r1 w1 ∧ p_Ro_isOn w a0 (fun r u => r = r1 ∧ u = w1) := by
  obtain ⟨i, hi⟩ := dj_p_Ro_isOn (I := {x : Int32 × MW // Q x.1 x.2}) (Q3 := fun i r u => r = i.1.1 ∧ u = i.1.2) h (fun r u q => ⟨⟨(r, u), q⟩, rfl, rfl⟩)
  exact ⟨i.1.1, i.1.2, i.2, hi⟩
theorem dj_q_Ro_barring_37 {I : Type} {x2_1 : Int32} {y37_2 : Int32} {ys37_0 : Int32} {w : MW} {A1 : Int32 → MW → Prop} {A3 : I → Int32 → MW → Prop} {E1 : MW → Prop} {E3 : I → MW → Prop} {Q1 : Int32 → MW → Prop} {Q3 : I → Int32 → MW → Prop}  (kA : ∀ x0 x1, A1 x0 x1 → ∃ i : I, A3 i x0 x1) (kE : ∀ x0, E1 x0 → ∃ i : I, E3 i x0) (kQ : ∀ x0 x1, Q1 x0 x1 → ∃ i : I, Q3 i x0 x1) (h : q_Ro_barring_37 x2_1 y37_2 ys37_0 w A1 E1 Q1) : ∃ i : I, q_Ro_barring_37 x2_1 y37_2 ys37_0 w (A3 i) (E3 i) (Q3 i) := by
  have h := Eq.mp (q_Ro_barring_37.eq_1 ..) h
  refine dj_eq (fun i => (q_Ro_barring_37.eq_1 ..)) ?_
  exact (dj_if (fun h1 => (kA _ _ (h.1 h1))) (fun h2 => (dj_and (h.2 h2).1 (dj_if (fun h3 => (kQ _ _ ((h.2 h2).2.1 h3))) (fun h4 => (dj_and ((h.2 h2).2.2 h4).1 (dj_and ((h.2 h2).2.2 h4).2.1 (dj_if (fun h5 => (kA _ _ (((h.2 h2).2.2 h4).2.2.1 h5))) (fun h6 => (dj_p_Ro_isOn (((h.2 h2).2.2 h4).2.2.2 h6) (fun _ _ h7 => (dj_if (fun h8 => (kA _ _ (h7.1 h8))) (fun h9 => (kQ _ _ (h7.2 h9)))))))))))))))
theorem dj_q_Ro_barring_2 {I : Type} {x2_1 : Int32} {E1 : MW → Prop} {E3 : I → MW → Prop} {Q1 : Int32 → MW → Prop} {Q3 : I → Int32 → MW → Prop}  (kE : ∀ x0, E1 x0 → ∃ i : I, E3 i x0) (kQ : ∀ x0 x1, Q1 x0 x1 → ∃ i : I, Q3 i x0 x1) : ∀ (m : Nat) (x2_2 : Int32) (w : MW), q_Ro_barring_2 x2_1 E1 Q1 m x2_2 w → ∃ i : I, q_Ro_barring_2 x2_1 (E3 i) (Q3 i) m x2_2 w := by
  intro m
  induction m with
  | zero => exact fun _ _ h => False.elim h
  | succ m ih =>
    intro x2_2 w h
    have h := Eq.mp (q_Ro_barring_2.eq_2 ..) h
    refine dj_eq (fun i => (q_Ro_barring_2.eq_2 ..)) ?_
    exact (dj_if (fun h1 => (kE _ (h.1 h1))) (fun h2 => (dj_and (h.2 h2).1 (dj_if (fun h3 => (dj_q_Ro_barring_37  (fun _ _ h5 => (ih _ _ h5)) kE kQ ((h.2 h2).2.1 h3))) (fun h4 => (dj_and ((h.2 h2).2.2 h4).1 (dj_if (fun h6 => (dj_q_Ro_barring_37  (fun _ _ h8 => (ih _ _ h8)) kE kQ (((h.2 h2).2.2 h4).2.1 h6))) (fun h7 => (dj_q_Ro_barring_37  (fun _ _ h9 => (ih _ _ h9)) kE kQ (((h.2 h2).2.2 h4).2.2 h7))))))))))
theorem dj_p_Ro_barring {I : Type} {w : MW} {a0 : Int32} {Q1 : Int32 → MW → Prop} {Q3 : I → Int32 → MW → Prop}  (h : p_Ro_barring w a0 Q1) (kQ : ∀ x0 x1, Q1 x0 x1 → ∃ i : I, Q3 i x0 x1) : ∃ i : I, p_Ro_barring w a0 (Q3 i) := by
  have h := Eq.mp (p_Ro_barring.eq_1 ..) h
  refine dj_eq (fun i => (p_Ro_barring.eq_1 ..)) ?_
  exact (dj_q_Ro_barring_2  (fun _ h1 => (kQ _ _ h1)) kQ _ _ _ h)
theorem ex_p_Ro_barring {w : MW} {a0 : Int32} {Q : Int32 → MW → Prop} (h : p_Ro_barring w a0 Q) : ∃ (r1 : Int32) (w1 : MW), Q r1 w1 ∧ p_Ro_barring w a0 (fun r u => r = r1 ∧ u = w1) := by
  obtain ⟨i, hi⟩ := dj_p_Ro_barring (I := {x : Int32 × MW // Q x.1 x.2}) (Q3 := fun i r u => r = i.1.1 ∧ u = i.1.2) h (fun r u q => ⟨⟨(r, u), q⟩, rfl, rfl⟩)
  exact ⟨i.1.1, i.1.2, i.2, hi⟩
theorem dj_p_Ac_perform {I : Type} {w : MW} {a0 : Int32} {Q1 : Int32 → MW → Prop} {Q3 : I → Int32 → MW → Prop}  (h : p_Ac_perform w a0 Q1) (kQ : ∀ x0 x1, Q1 x0 x1 → ∃ i : I, Q3 i x0 x1) : ∃ i : I, p_Ac_perform w a0 (Q3 i) := by
  have h := Eq.mp (p_Ac_perform.eq_1 ..) h
  refine dj_eq (fun i => (p_Ac_perform.eq_1 ..)) ?_
  exact (dj_p_Ac_isAct h (fun _ _ h1 => (dj_if (fun h2 => (kQ _ _ (h1.1 h2))) (fun h3 => (dj_p_Ac_isBound (h1.2 h3) (fun _ _ h4 => (dj_if (fun h5 => (dj_and (h4.1 h5).1 (dj_p_Ro_barring (h4.1 h5).2 (fun _ _ h7 => (dj_if (fun h8 => (dj_and (h7.1 h8).1 (dj_if (fun h10 => (dj_and ((h7.1 h8).2.1 h10).1 (dj_and ((h7.1 h8).2.1 h10).2.1 (dj_and ((h7.1 h8).2.1 h10).2.2.1 (dj_p_Ac_openWay ((h7.1 h8).2.1 h10).2.2.2 (fun _ _ h12 => (kQ _ _ h12))))))) (fun h11 => (dj_if (fun h13 => (dj_and (((h7.1 h8).2.2 h11).1 h13).1 (dj_and (((h7.1 h8).2.2 h11).1 h13).2.1 (dj_p_Ac_closeWay (((h7.1 h8).2.2 h11).1 h13).2.2 (fun _ _ h15 => (kQ _ _ h15)))))) (fun h14 => (dj_if (fun h16 => (dj_and ((((h7.1 h8).2.2 h11).2 h14).1 h16).1 (dj_and ((((h7.1 h8).2.2 h11).2 h14).1 h16).2.1 (dj_p_Ac_setPosition ((((h7.1 h8).2.2 h11).2 h14).1 h16).2.2 (fun _ _ h18 => (kQ _ _ h18)))))) (fun h17 => (dj_if (fun h19 => (dj_and (((((h7.1 h8).2.2 h11).2 h14).2 h17).1 h19).1 (dj_and (((((h7.1 h8).2.2 h11).2 h14).2 h17).1 h19).2.1 (dj_p_Ac_cleanSpace (((((h7.1 h8).2.2 h11).2 h14).2 h17).1 h19).2.2 (fun _ _ h21 => (kQ _ _ h21)))))) (fun h20 => (dj_and (((((h7.1 h8).2.2 h11).2 h14).2 h17).2 h20).1 (dj_p_Ac_drainSpace (((((h7.1 h8).2.2 h11).2 h14).2 h17).2 h20).2 (fun _ _ h22 => (kQ _ _ h22)))))))))))))) (fun h9 => (kQ _ _ (h7.2 h9)))))))) (fun h6 => (kQ _ _ (h4.2 h6))))))))))
theorem ex_p_Ac_perform {w : MW} {a0 : Int32} {Q : Int32 → MW → Prop} (h : p_Ac_perform w a0 Q) : ∃ (r1 : Int32) (w1 : MW), Q r1 w1 ∧ p_Ac_perform w a0 (fun r u => r = r1 ∧ u = w1) := by
  obtain ⟨i, hi⟩ := dj_p_Ac_perform (I := {x : Int32 × MW // Q x.1 x.2}) (Q3 := fun i r u => r = i.1.1 ∧ u = i.1.2) h (fun r u q => ⟨⟨(r, u), q⟩, rfl, rfl⟩)
  exact ⟨i.1.1, i.1.2, i.2, hi⟩
theorem dj_p_Mo_isPipe {I : Type} {w : MW} {a0 : Int32} {Q1 : Int32 → MW → Prop} {Q3 : I → Int32 → MW → Prop}  (h : p_Mo_isPipe w a0 Q1) (kQ : ∀ x0 x1, Q1 x0 x1 → ∃ i : I, Q3 i x0 x1) : ∃ i : I, p_Mo_isPipe w a0 (Q3 i) := by
  have h := Eq.mp (p_Mo_isPipe.eq_1 ..) h
  refine dj_eq (fun i => (p_Mo_isPipe.eq_1 ..)) ?_
  exact (dj_if (fun h1 => (kQ _ _ (h.1 h1))) (fun h2 => (dj_if (fun h3 => (kQ _ _ ((h.2 h2).1 h3))) (fun h4 => (kQ _ _ ((h.2 h2).2 h4))))))
theorem ex_p_Mo_isPipe {w : MW} {a0 : Int32} {Q : Int32 → MW → Prop} (h : p_Mo_isPipe w a0 Q) : ∃ (r1 : Int32) (w1 : MW), Q r1 w1 ∧ p_Mo_isPipe w a0 (fun r u => r = r1 ∧ u = w1) := by
  obtain ⟨i, hi⟩ := dj_p_Mo_isPipe (I := {x : Int32 × MW // Q x.1 x.2}) (Q3 := fun i r u => r = i.1.1 ∧ u = i.1.2) h (fun r u q => ⟨⟨(r, u), q⟩, rfl, rfl⟩)
  exact ⟨i.1.1, i.1.2, i.2, hi⟩
theorem dj_p_Mo_isThing {I : Type} {w : MW} {a0 : Int32} {Q1 : Int32 → MW → Prop} {Q3 : I → Int32 → MW → Prop}  (h : p_Mo_isThing w a0 Q1) (kQ : ∀ x0 x1, Q1 x0 x1 → ∃ i : I, Q3 i x0 x1) : ∃ i : I, p_Mo_isThing w a0 (Q3 i) := by
  have h := Eq.mp (p_Mo_isThing.eq_1 ..) h
  refine dj_eq (fun i => (p_Mo_isThing.eq_1 ..)) ?_
  exact (dj_if (fun h1 => (kQ _ _ (h.1 h1))) (fun h2 => (dj_if (fun h3 => (kQ _ _ ((h.2 h2).1 h3))) (fun h4 => (kQ _ _ ((h.2 h2).2 h4))))))
theorem ex_p_Mo_isThing {w : MW} {a0 : Int32} {Q : Int32 → MW → Prop} (h : p_Mo_isThing w a0 Q) : ∃ (r1 : Int32) (w1 : MW), Q r1 w1 ∧ p_Mo_isThing w a0 (fun r u => r = r1 ∧ u = w1) := by
  obtain ⟨i, hi⟩ := dj_p_Mo_isThing (I := {x : Int32 × MW // Q x.1 x.2}) (Q3 := fun i r u => r = i.1.1 ∧ u = i.1.2) h (fun r u q => ⟨⟨(r, u), q⟩, rfl, rfl⟩)
  exact ⟨i.1.1, i.1.2, i.2, hi⟩
theorem dj_p_Mo_isTank {I : Type} {w : MW} {a0 : Int32} {Q1 : Int32 → MW → Prop} {Q3 : I → Int32 → MW → Prop}  (h : p_Mo_isTank w a0 Q1) (kQ : ∀ x0 x1, Q1 x0 x1 → ∃ i : I, Q3 i x0 x1) : ∃ i : I, p_Mo_isTank w a0 (Q3 i) := by
  have h := Eq.mp (p_Mo_isTank.eq_1 ..) h
  refine dj_eq (fun i => (p_Mo_isTank.eq_1 ..)) ?_
  exact (dj_p_Mo_isThing h (fun _ _ h1 => (dj_if (fun h2 => (kQ _ _ (h1.1 h2))) (fun h3 => (dj_and (h1.2 h3).1 (dj_if (fun h4 => (kQ _ _ ((h1.2 h3).2.1 h4))) (fun h5 => (kQ _ _ ((h1.2 h3).2.2 h5)))))))))
theorem ex_p_Mo_isTank {w : MW} {a0 : Int32} {Q : Int32 → MW → Prop} (h : p_Mo_isTank w a0 Q) : ∃ (r1 : Int32) (w1 : MW), Q r1 w1 ∧ p_Mo_isTank w a0 (fun r u => r = r1 ∧ u = w1) := by
  obtain ⟨i, hi⟩ := dj_p_Mo_isTank (I := {x : Int32 × MW // Q x.1 x.2}) (Q3 := fun i r u => r = i.1.1 ∧ u = i.1.2) h (fun r u q => ⟨⟨(r, u), q⟩, rfl, rfl⟩)
  exact ⟨i.1.1, i.1.2, i.2, hi⟩
theorem dj_p_Mo_holdsLiquid {I : Type} {w : MW} {a0 : Int32} {Q1 : Int32 → MW → Prop} {Q3 : I → Int32 → MW → Prop}  (h : p_Mo_holdsLiquid w a0 Q1) (kQ : ∀ x0 x1, Q1 x0 x1 → ∃ i : I, Q3 i x0 x1) : ∃ i : I, p_Mo_holdsLiquid w a0 (Q3 i) := by
  have h := Eq.mp (p_Mo_holdsLiquid.eq_1 ..) h
  refine dj_eq (fun i => (p_Mo_holdsLiquid.eq_1 ..)) ?_
  exact (dj_p_Mo_isTank h (fun _ _ h1 => (dj_if (fun h2 => (kQ _ _ (h1.1 h2))) (fun h3 => (dj_p_Mo_isPipe (h1.2 h3) (fun _ _ h4 => (dj_if (fun h5 => (kQ _ _ (h4.1 h5))) (fun h6 => (kQ _ _ (h4.2 h6))))))))))
theorem ex_p_Mo_holdsLiquid {w : MW} {a0 : Int32} {Q : Int32 → MW → Prop} (h : p_Mo_holdsLiquid w a0 Q) : ∃ (r1 : Int32) (w1 : MW), Q r1 w1 ∧ p_Mo_holdsLiquid w a0 (fun r u => r = r1 ∧ u = w1) := by
  obtain ⟨i, hi⟩ := dj_p_Mo_holdsLiquid (I := {x : Int32 × MW // Q x.1 x.2}) (Q3 := fun i r u => r = i.1.1 ∧ u = i.1.2) h (fun r u q => ⟨⟨(r, u), q⟩, rfl, rfl⟩)
  exact ⟨i.1.1, i.1.2, i.2, hi⟩
theorem dj_p_Mo_isValve {I : Type} {w : MW} {a0 : Int32} {Q1 : Int32 → MW → Prop} {Q3 : I → Int32 → MW → Prop}  (h : p_Mo_isValve w a0 Q1) (kQ : ∀ x0 x1, Q1 x0 x1 → ∃ i : I, Q3 i x0 x1) : ∃ i : I, p_Mo_isValve w a0 (Q3 i) := by
  have h := Eq.mp (p_Mo_isValve.eq_1 ..) h
  refine dj_eq (fun i => (p_Mo_isValve.eq_1 ..)) ?_
  exact (dj_p_Mo_isThing h (fun _ _ h1 => (dj_if (fun h2 => (kQ _ _ (h1.1 h2))) (fun h3 => (dj_and (h1.2 h3).1 (dj_if (fun h4 => (kQ _ _ ((h1.2 h3).2.1 h4))) (fun h5 => (kQ _ _ ((h1.2 h3).2.2 h5)))))))))
theorem ex_p_Mo_isValve {w : MW} {a0 : Int32} {Q : Int32 → MW → Prop} (h : p_Mo_isValve w a0 Q) : ∃ (r1 : Int32) (w1 : MW), Q r1 w1 ∧ p_Mo_isValve w a0 (fun r u => r = r1 ∧ u = w1) := by
  obtain ⟨i, hi⟩ := dj_p_Mo_isValve (I := {x : Int32 × MW // Q x.1 x.2}) (Q3 := fun i r u => r = i.1.1 ∧ u = i.1.2) h (fun r u q => ⟨⟨(r, u), q⟩, rfl, rfl⟩)
  exact ⟨i.1.1, i.1.2, i.2, hi⟩
theorem dj_q_Mo_held_2 {I : Type} {x2_1 : Int32} {E1 : MW → Prop} {E3 : I → MW → Prop} {Q1 : Int32 → MW → Prop} {Q3 : I → Int32 → MW → Prop}  (kE : ∀ x0, E1 x0 → ∃ i : I, E3 i x0) (kQ : ∀ x0 x1, Q1 x0 x1 → ∃ i : I, Q3 i x0 x1) : ∀ (m : Nat) (x2_2 : Int32) (w : MW), q_Mo_held_2 x2_1 E1 Q1 m x2_2 w → ∃ i : I, q_Mo_held_2 x2_1 (E3 i) (Q3 i) m x2_2 w := by
  intro m
  induction m with
  | zero => exact fun _ _ h => False.elim h
  | succ m ih =>
    intro x2_2 w h
    have h := Eq.mp (q_Mo_held_2.eq_2 ..) h
    refine dj_eq (fun i => (q_Mo_held_2.eq_2 ..)) ?_
    exact (dj_if (fun h1 => (kE _ (h.1 h1))) (fun h2 => (dj_and (h.2 h2).1 (dj_if (fun h3 => (ih _ _ ((h.2 h2).2.1 h3))) (fun h4 => (dj_and ((h.2 h2).2.2 h4).1 (kQ _ _ ((h.2 h2).2.2 h4).2)))))))
theorem dj_p_Mo_held {I : Type} {w : MW} {a0 : Int32} {Q1 : Int32 → MW → Prop} {Q3 : I → Int32 → MW → Prop}  (h : p_Mo_held w a0 Q1) (kQ : ∀ x0 x1, Q1 x0 x1 → ∃ i : I, Q3 i x0 x1) : ∃ i : I, p_Mo_held w a0 (Q3 i) := by
  have h := Eq.mp (p_Mo_held.eq_1 ..) h
  refine dj_eq (fun i => (p_Mo_held.eq_1 ..)) ?_
  exact (dj_q_Mo_held_2  (fun _ h1 => (kQ _ _ h1)) kQ _ _ _ h)
theorem ex_p_Mo_held {w : MW} {a0 : Int32} {Q : Int32 → MW → Prop} (h : p_Mo_held w a0 Q) : ∃ (r1 : Int32) (w1 : MW), Q r1 w1 ∧ p_Mo_held w a0 (fun r u => r = r1 ∧ u = w1) := by
  obtain ⟨i, hi⟩ := dj_p_Mo_held (I := {x : Int32 × MW // Q x.1 x.2}) (Q3 := fun i r u => r = i.1.1 ∧ u = i.1.2) h (fun r u q => ⟨⟨(r, u), q⟩, rfl, rfl⟩)
  exact ⟨i.1.1, i.1.2, i.2, hi⟩
theorem dj_q_Mo_close_40 {I : Type} {x2_1 : Int32} {y40_2 : Int32} {ys40_0 : Int32} {w : MW} {A1 : Int32 → MW → Prop} {A3 : I → Int32 → MW → Prop} {E1 : MW → Prop} {E3 : I → MW → Prop} {Q1 : MW → Prop} {Q3 : I → MW → Prop}  (kA : ∀ x0 x1, A1 x0 x1 → ∃ i : I, A3 i x0 x1) (kE : ∀ x0, E1 x0 → ∃ i : I, E3 i x0) (kQ : ∀ x0, Q1 x0 → ∃ i : I, Q3 i x0) (h : q_Mo_close_40 x2_1 y40_2 ys40_0 w A1 E1 Q1) : ∃ i : I, q_Mo_close_40 x2_1 y40_2 ys40_0 w (A3 i) (E3 i) (Q3 i) := by
  have h := Eq.mp (q_Mo_close_40.eq_1 ..) h
  refine dj_eq (fun i => (q_Mo_close_40.eq_1 ..)) ?_
  exact (dj_and h.1 (dj_if (fun h1 => (kA _ _ (h.2.1 h1))) (fun h2 => (dj_p_Mo_held (h.2.2 h2) (fun _ _ h3 => (dj_if (fun h4 => (kA _ _ (h3.1 h4))) (fun h5 => (dj_and (h3.2 h5).1 (dj_if (fun h6 => (dj_and ((h3.2 h5).2.1 h6).1 (kA _ _ ((h3.2 h5).2.1 h6).2))) (fun h7 => (dj_and ((h3.2 h5).2.2 h7).1 (kA _ _ ((h3.2 h5).2.2 h7).2))))))))))))
theorem dj_q_Mo_close_2 {I : Type} {x2_1 : Int32} {E1 : MW → Prop} {E3 : I → MW → Prop} {Q1 : MW → Prop} {Q3 : I → MW → Prop}  (kE : ∀ x0, E1 x0 → ∃ i : I, E3 i x0) (kQ : ∀ x0, Q1 x0 → ∃ i : I, Q3 i x0) : ∀ (m : Nat) (x2_2 : Int32) (w : MW), q_Mo_close_2 x2_1 E1 Q1 m x2_2 w → ∃ i : I, q_Mo_close_2 x2_1 (E3 i) (Q3 i) m x2_2 w := by
  intro m
  induction m with
  | zero => exact fun _ _ h => False.elim h
  | succ m ih =>
    intro x2_2 w h
    have h := Eq.mp (q_Mo_close_2.eq_2 ..) h
    refine dj_eq (fun i => (q_Mo_close_2.eq_2 ..)) ?_
    exact (dj_if (fun h1 => (kE _ (h.1 h1))) (fun h2 => (dj_and (h.2 h2).1 (dj_if (fun h3 => (dj_q_Mo_close_40  (fun _ _ h5 => (ih _ _ h5)) kE kQ ((h.2 h2).2.1 h3))) (fun h4 => (dj_and ((h.2 h2).2.2 h4).1 (dj_if (fun h6 => (dj_q_Mo_close_40  (fun _ _ h8 => (ih _ _ h8)) kE kQ (((h.2 h2).2.2 h4).2.1 h6))) (fun h7 => (dj_q_Mo_close_40  (fun _ _ h9 => (ih _ _ h9)) kE kQ (((h.2 h2).2.2 h4).2.2 h7))))))))))
theorem dj_q_Mo_close_177 {I : Type} {x177_2 : Int32} {E1 : MW → Prop} {E3 : I → MW → Prop} {Q1 : MW → Prop} {Q3 : I → MW → Prop}  (kE : ∀ x0, E1 x0 → ∃ i : I, E3 i x0) (kQ : ∀ x0, Q1 x0 → ∃ i : I, Q3 i x0) : ∀ (m : Nat) (x177_3 : Int32) (w : MW), q_Mo_close_177 x177_2 E1 Q1 m x177_3 w → ∃ i : I, q_Mo_close_177 x177_2 (E3 i) (Q3 i) m x177_3 w := by
  intro m
  induction m with
  | zero => exact fun _ _ h => False.elim h
  | succ m ih =>
    intro x177_3 w h
    have h := Eq.mp (q_Mo_close_177.eq_2 ..) h
    refine dj_eq (fun i => (q_Mo_close_177.eq_2 ..)) ?_
    exact (dj_if (fun h1 => (kE _ (h.1 h1))) (fun h2 => (dj_and (h.2 h2).1 (dj_and (h.2 h2).2.1 (ih _ _ (h.2 h2).2.2)))))
theorem dj_q_Mo_close_215 {I : Type} {x215_2 : Int32} {E1 : MW → Prop} {E3 : I → MW → Prop} {Q1 : MW → Prop} {Q3 : I → MW → Prop}  (kE : ∀ x0, E1 x0 → ∃ i : I, E3 i x0) (kQ : ∀ x0, Q1 x0 → ∃ i : I, Q3 i x0) : ∀ (m : Nat) (x215_3 : Int32) (w : MW), q_Mo_close_215 x215_2 E1 Q1 m x215_3 w → ∃ i : I, q_Mo_close_215 x215_2 (E3 i) (Q3 i) m x215_3 w := by
  intro m
  induction m with
  | zero => exact fun _ _ h => False.elim h
  | succ m ih =>
    intro x215_3 w h
    have h := Eq.mp (q_Mo_close_215.eq_2 ..) h
    refine dj_eq (fun i => (q_Mo_close_215.eq_2 ..)) ?_
    exact (dj_if (fun h1 => (kE _ (h.1 h1))) (fun h2 => (dj_and (h.2 h2).1 (dj_and (h.2 h2).2.1 (ih _ _ (h.2 h2).2.2)))))
theorem dj_q_Mo_close_95 {I : Type}  {E1 : MW → Prop} {E3 : I → MW → Prop} {Q1 : MW → Prop} {Q3 : I → MW → Prop}  (kE : ∀ x0, E1 x0 → ∃ i : I, E3 i x0) (kQ : ∀ x0, Q1 x0 → ∃ i : I, Q3 i x0) : ∀ (m : Nat) (x95_2 : Int32) (w : MW), q_Mo_close_95 E1 Q1 m x95_2 w → ∃ i : I, q_Mo_close_95 (E3 i) (Q3 i) m x95_2 w := by
  intro m
  induction m with
  | zero => exact fun _ _ h => False.elim h
  | succ m ih =>
    intro x95_2 w h
    have h := Eq.mp (q_Mo_close_95.eq_2 ..) h
    refine dj_eq (fun i => (q_Mo_close_95.eq_2 ..)) ?_
    exact (dj_if (fun h1 => (kE _ (h.1 h1))) (fun h2 => (dj_and (h.2 h2).1 (dj_and (h.2 h2).2.1 (dj_and (h.2 h2).2.2.1 (dj_and (h.2 h2).2.2.2.1 (dj_and (h.2 h2).2.2.2.2.1 (dj_and (h.2 h2).2.2.2.2.2.1 (dj_and (h.2 h2).2.2.2.2.2.2.1 (dj_and (h.2 h2).2.2.2.2.2.2.2.1 (dj_and (h.2 h2).2.2.2.2.2.2.2.2.1 (dj_and (h.2 h2).2.2.2.2.2.2.2.2.2.1 (dj_q_Mo_close_177  (fun _ h3 => (dj_q_Mo_close_215  (fun _ h4 => (ih _ _ h4)) kQ _ _ _ h3)) kQ _ _ _ (h.2 h2).2.2.2.2.2.2.2.2.2.2)))))))))))))
theorem dj_p_Mo_close {I : Type} {w : MW} {a0 : Int32} {Q1 : MW → Prop} {Q3 : I → MW → Prop}  (h : p_Mo_close w a0 Q1) (kQ : ∀ x0, Q1 x0 → ∃ i : I, Q3 i x0) : ∃ i : I, p_Mo_close w a0 (Q3 i) := by
  have h := Eq.mp (p_Mo_close.eq_1 ..) h
  refine dj_eq (fun i => (p_Mo_close.eq_1 ..)) ?_
  exact (dj_q_Mo_close_2  (fun _ h1 => (dj_q_Mo_close_95  (fun _ h2 => (kQ _ h2)) kQ _ _ _ h1)) kQ _ _ _ h)
theorem ex_p_Mo_close {w : MW} {a0 : Int32} {Q : MW → Prop} (h : p_Mo_close w a0 Q) : ∃ w1 : MW, Q w1 ∧ p_Mo_close w a0 (fun u => u = w1) := by
  obtain ⟨i, hi⟩ := dj_p_Mo_close (I := {x : MW // Q x}) (Q3 := fun i u => u = i.1) h (fun u q => ⟨⟨u, q⟩, rfl⟩)
  exact ⟨i.1, i.2, hi⟩
theorem dj_q_Mo_isOnWay_34 {I : Type} {x34_1 : Int32} {x34_2 : Int32} {E1 : MW → Prop} {E3 : I → MW → Prop} {Q1 : Int32 → MW → Prop} {Q3 : I → Int32 → MW → Prop}  (kE : ∀ x0, E1 x0 → ∃ i : I, E3 i x0) (kQ : ∀ x0 x1, Q1 x0 x1 → ∃ i : I, Q3 i x0 x1) : ∀ (m : Nat) (x34_3 : Int32) (w : MW), q_Mo_isOnWay_34 x34_1 x34_2 E1 Q1 m x34_3 w → ∃ i : I, q_Mo_isOnWay_34 x34_1 x34_2 (E3 i) (Q3 i) m x34_3 w := by
  intro m
  induction m with
  | zero => exact fun _ _ h => False.elim h
  | succ m ih =>
    intro x34_3 w h
    have h := Eq.mp (q_Mo_isOnWay_34.eq_2 ..) h
    refine dj_eq (fun i => (q_Mo_isOnWay_34.eq_2 ..)) ?_
    exact (dj_and h.1 (dj_if (fun h1 => (kE _ (h.2.1 h1))) (fun h2 => (dj_and (h.2.2 h2).1 (dj_if (fun h3 => (ih _ _ ((h.2.2 h2).2.1 h3))) (fun h4 => (kQ _ _ ((h.2.2 h2).2.2 h4))))))))
theorem dj_q_Mo_isOnWay_2 {I : Type} {x2_1 : Int32} {E1 : MW → Prop} {E3 : I → MW → Prop} {Q1 : Int32 → MW → Prop} {Q3 : I → Int32 → MW → Prop}  (kE : ∀ x0, E1 x0 → ∃ i : I, E3 i x0) (kQ : ∀ x0 x1, Q1 x0 x1 → ∃ i : I, Q3 i x0 x1) : ∀ (m : Nat) (x2_2 : Int32) (w : MW), q_Mo_isOnWay_2 x2_1 E1 Q1 m x2_2 w → ∃ i : I, q_Mo_isOnWay_2 x2_1 (E3 i) (Q3 i) m x2_2 w := by
  intro m
  induction m with
  | zero => exact fun _ _ h => False.elim h
  | succ m ih =>
    intro x2_2 w h
    have h := Eq.mp (q_Mo_isOnWay_2.eq_2 ..) h
    refine dj_eq (fun i => (q_Mo_isOnWay_2.eq_2 ..)) ?_
    exact (dj_if (fun h1 => (kE _ (h.1 h1))) (fun h2 => (dj_and (h.2 h2).1 (dj_if (fun h3 => (kQ _ _ ((h.2 h2).2.1 h3))) (fun h4 => (dj_and ((h.2 h2).2.2 h4).1 (dj_if (fun h5 => (dj_q_Mo_isOnWay_34  (fun _ h7 => (ih _ _ h7)) kQ _ _ _ (((h.2 h2).2.2 h4).2.1 h5))) (fun h6 => (kQ _ _ (((h.2 h2).2.2 h4).2.2 h6))))))))))
theorem dj_p_Mo_isOnWay {I : Type} {w : MW} {a0 : Int32} {Q1 : Int32 → MW → Prop} {Q3 : I → Int32 → MW → Prop}  (h : p_Mo_isOnWay w a0 Q1) (kQ : ∀ x0 x1, Q1 x0 x1 → ∃ i : I, Q3 i x0 x1) : ∃ i : I, p_Mo_isOnWay w a0 (Q3 i) := by
  have h := Eq.mp (p_Mo_isOnWay.eq_1 ..) h
  refine dj_eq (fun i => (p_Mo_isOnWay.eq_1 ..)) ?_
  exact (dj_q_Mo_isOnWay_2  (fun _ h1 => (kQ _ _ h1)) kQ _ _ _ h)
theorem ex_p_Mo_isOnWay {w : MW} {a0 : Int32} {Q : Int32 → MW → Prop} (h : p_Mo_isOnWay w a0 Q) : ∃ (r1 : Int32) (w1 : MW), Q r1 w1 ∧ p_Mo_isOnWay w a0 (fun r u => r = r1 ∧ u = w1) := by
  obtain ⟨i, hi⟩ := dj_p_Mo_isOnWay (I := {x : Int32 × MW // Q x.1 x.2}) (Q3 := fun i r u => r = i.1.1 ∧ u = i.1.2) h (fun r u q => ⟨⟨(r, u), q⟩, rfl, rfl⟩)
  exact ⟨i.1.1, i.1.2, i.2, hi⟩
theorem dj_q_Mo_join_2 {I : Type}  {E1 : MW → Prop} {E3 : I → MW → Prop} {Q1 : MW → Prop} {Q3 : I → MW → Prop}  (kE : ∀ x0, E1 x0 → ∃ i : I, E3 i x0) (kQ : ∀ x0, Q1 x0 → ∃ i : I, Q3 i x0) : ∀ (m : Nat) (x2_1 : Int32) (w : MW), q_Mo_join_2 E1 Q1 m x2_1 w → ∃ i : I, q_Mo_join_2 (E3 i) (Q3 i) m x2_1 w := by
  intro m
  induction m with
  | zero => exact fun _ _ h => False.elim h
  | succ m ih =>
    intro x2_1 w h
    have h := Eq.mp (q_Mo_join_2.eq_2 ..) h
    refine dj_eq (fun i => (q_Mo_join_2.eq_2 ..)) ?_
    exact (dj_if (fun h1 => (kE _ (h.1 h1))) (fun h2 => (dj_and (h.2 h2).1 (ih _ _ (h.2 h2).2))))
theorem dj_q_Mo_passes_122 {I : Type} {y122_1 : Int32} {y122_4 : Int32} {y122_5 : Int32} {w : MW} {Q1 : Int32 → MW → Prop} {Q3 : I → Int32 → MW → Prop}  (kQ : ∀ x0 x1, Q1 x0 x1 → ∃ i : I, Q3 i x0 x1) (h : q_Mo_passes_122 y122_1 y122_4 y122_5 w Q1) : ∃ i : I, q_Mo_passes_122 y122_1 y122_4 y122_5 w (Q3 i) := by
  have h := Eq.mp (q_Mo_passes_122.eq_1 ..) h
  refine dj_eq (fun i => (q_Mo_passes_122.eq_1 ..)) ?_
  exact (dj_if (fun h1 => (dj_if (fun h3 => (kQ _ _ ((h.1 h1).1 h3))) (fun h4 => (dj_if (fun h5 => (kQ _ _ (((h.1 h1).2 h4).1 h5))) (fun h6 => (kQ _ _ (((h.1 h1).2 h4).2 h6))))))) (fun h2 => (dj_if (fun h7 => (kQ _ _ ((h.2 h2).1 h7))) (fun h8 => (dj_if (fun h9 => (kQ _ _ (((h.2 h2).2 h8).1 h9))) (fun h10 => (dj_if (fun h11 => (kQ _ _ ((((h.2 h2).2 h8).2 h10).1 h11))) (fun h12 => (kQ _ _ ((((h.2 h2).2 h8).2 h10).2 h12))))))))))
theorem dj_q_Mo_passes_166 {I : Type} {y166_1 : Int32} {y166_4 : Int32} {y166_5 : Int32} {w : MW} {Q1 : Int32 → MW → Prop} {Q3 : I → Int32 → MW → Prop}  (kQ : ∀ x0 x1, Q1 x0 x1 → ∃ i : I, Q3 i x0 x1) (h : q_Mo_passes_166 y166_1 y166_4 y166_5 w Q1) : ∃ i : I, q_Mo_passes_166 y166_1 y166_4 y166_5 w (Q3 i) := by
  have h := Eq.mp (q_Mo_passes_166.eq_1 ..) h
  refine dj_eq (fun i => (q_Mo_passes_166.eq_1 ..)) ?_
  exact (dj_if (fun h1 => (dj_if (fun h3 => (kQ _ _ ((h.1 h1).1 h3))) (fun h4 => (dj_if (fun h5 => (kQ _ _ (((h.1 h1).2 h4).1 h5))) (fun h6 => (kQ _ _ (((h.1 h1).2 h4).2 h6))))))) (fun h2 => (dj_if (fun h7 => (dj_if (fun h9 => (kQ _ _ (((h.2 h2).1 h7).1 h9))) (fun h10 => (dj_if (fun h11 => (kQ _ _ ((((h.2 h2).1 h7).2 h10).1 h11))) (fun h12 => (kQ _ _ ((((h.2 h2).1 h7).2 h10).2 h12))))))) (fun h8 => (dj_if (fun h13 => (kQ _ _ (((h.2 h2).2 h8).1 h13))) (fun h14 => (dj_if (fun h15 => (kQ _ _ ((((h.2 h2).2 h8).2 h14).1 h15))) (fun h16 => (dj_if (fun h17 => (kQ _ _ (((((h.2 h2).2 h8).2 h14).2 h16).1 h17))) (fun h18 => (kQ _ _ (((((h.2 h2).2 h8).2 h14).2 h16).2 h18))))))))))))
theorem dj_q_Mo_passes_45 {I : Type} {y45_0 : Int32} {y45_1 : Int32} {y45_2 : Int32} {y45_4 : Int32} {y45_5 : Int32} {ys45_0 : Int32} {w : MW} {Q1 : Int32 → MW → Prop} {Q3 : I → Int32 → MW → Prop}  (kQ : ∀ x0 x1, Q1 x0 x1 → ∃ i : I, Q3 i x0 x1) (h : q_Mo_passes_45 y45_0 y45_1 y45_2 y45_4 y45_5 ys45_0 w Q1) : ∃ i : I, q_Mo_passes_45 y45_0 y45_1 y45_2 y45_4 y45_5 ys45_0 w (Q3 i) := by
  have h := Eq.mp (q_Mo_passes_45.eq_1 ..) h
  refine dj_eq (fun i => (q_Mo_passes_45.eq_1 ..)) ?_
  exact (dj_if (fun h1 => (dj_if (fun h3 => (kQ _ _ ((h.1 h1).1 h3))) (fun h4 => (kQ _ _ ((h.1 h1).2 h4))))) (fun h2 => (dj_if (fun h5 => (dj_if (fun h7 => (dj_if (fun h9 => (kQ _ _ ((((h.2 h2).1 h5).1 h7).1 h9))) (fun h10 => (dj_if (fun h11 => (kQ _ _ (((((h.2 h2).1 h5).1 h7).2 h10).1 h11))) (fun h12 => (kQ _ _ (((((h.2 h2).1 h5).1 h7).2 h10).2 h12))))))) (fun h8 => (dj_if (fun h13 => (dj_q_Mo_passes_122  kQ ((((h.2 h2).1 h5).2 h8).1 h13))) (fun h14 => (dj_if (fun h15 => (kQ _ _ (((((h.2 h2).1 h5).2 h8).2 h14).1 h15))) (fun h16 => (dj_q_Mo_passes_122  kQ (((((h.2 h2).1 h5).2 h8).2 h14).2 h16))))))))) (fun h6 => (dj_if (fun h17 => (dj_if (fun h19 => (kQ _ _ ((((h.2 h2).2 h6).1 h17).1 h19))) (fun h20 => (dj_if (fun h21 => (dj_q_Mo_passes_166  kQ (((((h.2 h2).2 h6).1 h17).2 h20).1 h21))) (fun h22 => (dj_if (fun h23 => (kQ _ _ ((((((h.2 h2).2 h6).1 h17).2 h20).2 h22).1 h23))) (fun h24 => (dj_q_Mo_passes_166  kQ ((((((h.2 h2).2 h6).1 h17).2 h20).2 h22).2 h24))))))))) (fun h18 => (dj_if (fun h25 => (dj_if (fun h27 => (kQ _ _ (((((h.2 h2).2 h6).2 h18).1 h25).1 h27))) (fun h28 => (kQ _ _ (((((h.2 h2).2 h6).2 h18).1 h25).2 h28))))) (fun h26 => (dj_if (fun h29 => (dj_if (fun h31 => (dj_if (fun h33 => (kQ _ _ (((((((h.2 h2).2 h6).2 h18).2 h26).1 h29).1 h31).1 h33))) (fun h34 => (kQ _ _ (((((((h.2 h2).2 h6).2 h18).2 h26).1 h29).1 h31).2 h34))))) (fun h32 => (dj_if (fun h35 => (kQ _ _ (((((((h.2 h2).2 h6).2 h18).2 h26).1 h29).2 h32).1 h35))) (fun h36 => (dj_if (fun h37 => (kQ _ _ ((((((((h.2 h2).2 h6).2 h18).2 h26).1 h29).2 h32).2 h36).1 h37))) (fun h38 => (kQ _ _ ((((((((h.2 h2).2 h6).2 h18).2 h26).1 h29).2 h32).2 h36).2 h38))))))))) (fun h30 => (dj_if (fun h39 => (kQ _ _ ((((((h.2 h2).2 h6).2 h18).2 h26).2 h30).1 h39))) (fun h40 => (dj_if (fun h41 => (dj_if (fun h43 => (kQ _ _ ((((((((h.2 h2).2 h6).2 h18).2 h26).2 h30).2 h40).1 h41).1 h43))) (fun h44 => (kQ _ _ ((((((((h.2 h2).2 h6).2 h18).2 h26).2 h30).2 h40).1 h41).2 h44))))) (fun h42 => (dj_if (fun h45 => (dj_if (fun h47 => (kQ _ _ (((((((((h.2 h2).2 h6).2 h18).2 h26).2 h30).2 h40).2 h42).1 h45).1 h47))) (fun h48 => (dj_if (fun h49 => (kQ _ _ ((((((((((h.2 h2).2 h6).2 h18).2 h26).2 h30).2 h40).2 h42).1 h45).2 h48).1 h49))) (fun h50 => (kQ _ _ ((((((((((h.2 h2).2 h6).2 h18).2 h26).2 h30).2 h40).2 h42).1 h45).2 h48).2 h50))))))) (fun h46 => (kQ _ _ ((((((((h.2 h2).2 h6).2 h18).2 h26).2 h30).2 h40).2 h42).2 h46))))))))))))))))))
theorem dj_q_Mo_passes_22 {I : Type} {y22_0 : Int32} {y22_1 : Int32} {y22_2 : Int32} {y22_4 : Int32} {ys22_0 : Int32} {w : MW} {Q1 : Int32 → MW → Prop} {Q3 : I → Int32 → MW → Prop}  (kQ : ∀ x0 x1, Q1 x0 x1 → ∃ i : I, Q3 i x0 x1) (h : q_Mo_passes_22 y22_0 y22_1 y22_2 y22_4 ys22_0 w Q1) : ∃ i : I, q_Mo_passes_22 y22_0 y22_1 y22_2 y22_4 ys22_0 w (Q3 i) := by
  have h := Eq.mp (q_Mo_passes_22.eq_1 ..) h
  refine dj_eq (fun i => (q_Mo_passes_22.eq_1 ..)) ?_
  exact (dj_if (fun h1 => (dj_q_Mo_passes_45  kQ (h.1 h1))) (fun h2 => (dj_if (fun h3 => (dj_q_Mo_passes_45  kQ ((h.2 h2).1 h3))) (fun h4 => (dj_q_Mo_passes_45  kQ ((h.2 h2).2 h4))))))
theorem dj_p_Mo_passes {I : Type} {w : MW} {a0 : Int32} {b0 : Int32} {c0 : Int32} {e0 : Int32} {Q1 : Int32 → MW → Prop} {Q3 : I → Int32 → MW → Prop}  (h : p_Mo_passes w a0 b0 c0 e0 Q1) (kQ : ∀ x0 x1, Q1 x0 x1 → ∃ i : I, Q3 i x0 x1) : ∃ i : I, p_Mo_passes w a0 b0 c0 e0 (Q3 i) := by
  have h := Eq.mp (p_Mo_passes.eq_1 ..) h
  refine dj_eq (fun i => (p_Mo_passes.eq_1 ..)) ?_
  exact (dj_if (fun h1 => (dj_q_Mo_passes_22  kQ (h.1 h1))) (fun h2 => (dj_q_Mo_passes_22  kQ (h.2 h2))))
theorem ex_p_Mo_passes {w : MW} {a0 : Int32} {b0 : Int32} {c0 : Int32} {e0 : Int32} {Q : Int32 → MW → Prop} (h : p_Mo_passes w a0 b0 c0 e0 Q) : ∃ (r1 : Int32) (w1 : MW), Q r1 w1 ∧ p_Mo_passes w a0 b0 c0 e0 (fun r u => r = r1 ∧ u = w1) := by
  obtain ⟨i, hi⟩ := dj_p_Mo_passes (I := {x : Int32 × MW // Q x.1 x.2}) (Q3 := fun i r u => r = i.1.1 ∧ u = i.1.2) h (fun r u q => ⟨⟨(r, u), q⟩, rfl, rfl⟩)
  exact ⟨i.1.1, i.1.2, i.2, hi⟩
theorem dj_q_Mo_join_197 {I : Type} {x96_1 : Int32} {x96_2 : Int32} {x96_3 : Int32} {y197_4 : Int32} {ys197_0 : Int32} {w : MW} {A1 : Int32 → MW → Prop} {A3 : I → Int32 → MW → Prop} {E1 : MW → Prop} {E3 : I → MW → Prop} {Q1 : MW → Prop} {Q3 : I → MW → Prop}  (kA : ∀ x0 x1, A1 x0 x1 → ∃ i : I, A3 i x0 x1) (kE : ∀ x0, E1 x0 → ∃ i : I, E3 i x0) (kQ : ∀ x0, Q1 x0 → ∃ i : I, Q3 i x0) (h : q_Mo_join_197 x96_1 x96_2 x96_3 y197_4 ys197_0 w A1 E1 Q1) : ∃ i : I, q_Mo_join_197 x96_1 x96_2 x96_3 y197_4 ys197_0 w (A3 i) (E3 i) (Q3 i) := by
  have h := Eq.mp (q_Mo_join_197.eq_1 ..) h
  refine dj_eq (fun i => (q_Mo_join_197.eq_1 ..)) ?_
  exact (dj_if (fun h1 => (kA _ _ (h.1 h1))) (fun h2 => (dj_and (h.2 h2).1 (dj_and (h.2 h2).2.1 (kA _ _ (h.2 h2).2.2)))))
theorem dj_q_Mo_join_96 {I : Type} {x96_1 : Int32} {x96_2 : Int32} {x96_3 : Int32} {E1 : MW → Prop} {E3 : I → MW → Prop} {Q1 : MW → Prop} {Q3 : I → MW → Prop}  (kE : ∀ x0, E1 x0 → ∃ i : I, E3 i x0) (kQ : ∀ x0, Q1 x0 → ∃ i : I, Q3 i x0) : ∀ (m : Nat) (x96_4 : Int32) (w : MW), q_Mo_join_96 x96_1 x96_2 x96_3 E1 Q1 m x96_4 w → ∃ i : I, q_Mo_join_96 x96_1 x96_2 x96_3 (E3 i) (Q3 i) m x96_4 w := by
  intro m
  induction m with
  | zero => exact fun _ _ h => False.elim h
  | succ m ih =>
    intro x96_4 w h
    have h := Eq.mp (q_Mo_join_96.eq_2 ..) h
    refine dj_eq (fun i => (q_Mo_join_96.eq_2 ..)) ?_
    exact (dj_if (fun h1 => (kE _ (h.1 h1))) (fun h2 => (dj_if (fun h3 => (kE _ ((h.2 h2).1 h3))) (fun h4 => (dj_and ((h.2 h2).2 h4).1 (dj_if (fun h5 => (kE _ (((h.2 h2).2 h4).2.1 h5))) (fun h6 => (dj_and (((h.2 h2).2 h4).2.2 h6).1 (dj_if (fun h7 => (dj_q_Mo_join_197  (fun _ _ h9 => (ih _ _ h9)) kE kQ ((((h.2 h2).2 h4).2.2 h6).2.1 h7))) (fun h8 => (dj_if (fun h10 => (dj_q_Mo_join_197  (fun _ _ h12 => (ih _ _ h12)) kE kQ (((((h.2 h2).2 h4).2.2 h6).2.2 h8).1 h10))) (fun h11 => (dj_and (((((h.2 h2).2 h4).2.2 h6).2.2 h8).2 h11).1 (dj_if (fun h13 => (dj_and ((((((h.2 h2).2 h4).2.2 h6).2.2 h8).2 h11).2.1 h13).1 (dj_and ((((((h.2 h2).2 h4).2.2 h6).2.2 h8).2 h11).2.1 h13).2.1 (dj_and ((((((h.2 h2).2 h4).2.2 h6).2.2 h8).2 h11).2.1 h13).2.2.1 (dj_and ((((((h.2 h2).2 h4).2.2 h6).2.2 h8).2 h11).2.1 h13).2.2.2.1 (dj_p_Mo_passes ((((((h.2 h2).2 h4).2.2 h6).2.2 h8).2 h11).2.1 h13).2.2.2.2 (fun _ _ h15 => (dj_if (fun h16 => (dj_q_Mo_join_197  (fun _ _ h18 => (ih _ _ h18)) kE kQ (h15.1 h16))) (fun h17 => (dj_q_Mo_join_197  (fun _ _ h19 => (ih _ _ h19)) kE kQ (h15.2 h17))))))))))) (fun h14 => (dj_and ((((((h.2 h2).2 h4).2.2 h6).2.2 h8).2 h11).2.2 h14).1 (dj_if (fun h20 => (dj_q_Mo_join_197  (fun _ _ h22 => (ih _ _ h22)) kE kQ (((((((h.2 h2).2 h4).2.2 h6).2.2 h8).2 h11).2.2 h14).2.1 h20))) (fun h21 => (dj_q_Mo_join_197  (fun _ _ h23 => (ih _ _ h23)) kE kQ (((((((h.2 h2).2 h4).2.2 h6).2.2 h8).2 h11).2.2 h14).2.2 h21))))))))))))))))))))
theorem dj_q_Mo_join_30 {I : Type}  {E1 : MW → Prop} {E3 : I → MW → Prop} {Q1 : MW → Prop} {Q3 : I → MW → Prop}  (kE : ∀ x0, E1 x0 → ∃ i : I, E3 i x0) (kQ : ∀ x0, Q1 x0 → ∃ i : I, Q3 i x0) : ∀ (m : Nat) (x30_1 : Int32) (w : MW), q_Mo_join_30 E1 Q1 m x30_1 w → ∃ i : I, q_Mo_join_30 (E3 i) (Q3 i) m x30_1 w := by
  intro m
  induction m with
  | zero => exact fun _ _ h => False.elim h
  | succ m ih =>
    intro x30_1 w h
    have h := Eq.mp (q_Mo_join_30.eq_2 ..) h
    refine dj_eq (fun i => (q_Mo_join_30.eq_2 ..)) ?_
    exact (dj_if (fun h1 => (kE _ (h.1 h1))) (fun h2 => (dj_and (h.2 h2).1 (dj_if (fun h3 => (dj_q_Mo_join_96  (fun _ h5 => (ih _ _ h5)) kQ _ _ _ ((h.2 h2).2.1 h3))) (fun h4 => (dj_and ((h.2 h2).2.2 h4).1 (dj_if (fun h6 => (dj_q_Mo_join_96  (fun _ h8 => (ih _ _ h8)) kQ _ _ _ (((h.2 h2).2.2 h4).2.1 h6))) (fun h7 => (dj_and (((h.2 h2).2.2 h4).2.2 h7).1 (dj_and (((h.2 h2).2.2 h4).2.2 h7).2.1 (dj_and (((h.2 h2).2.2 h4).2.2 h7).2.2.1 (dj_and (((h.2 h2).2.2 h4).2.2 h7).2.2.2.1 (dj_q_Mo_join_96  (fun _ h9 => (ih _ _ h9)) kQ _ _ _ (((h.2 h2).2.2 h4).2.2 h7).2.2.2.2)))))))))))))
theorem dj_p_Mo_join {I : Type} {w : MW} {Q1 : MW → Prop} {Q3 : I → MW → Prop}  (h : p_Mo_join w Q1) (kQ : ∀ x0, Q1 x0 → ∃ i : I, Q3 i x0) : ∃ i : I, p_Mo_join w (Q3 i) := by
  have h := Eq.mp (p_Mo_join.eq_1 ..) h
  refine dj_eq (fun i => (p_Mo_join.eq_1 ..)) ?_
  exact (dj_q_Mo_join_2  (fun _ h1 => (dj_q_Mo_join_30  (fun _ h2 => (kQ _ h2)) kQ _ _ _ h1)) kQ _ _ _ h)
theorem ex_p_Mo_join {w : MW} {Q : MW → Prop} (h : p_Mo_join w Q) : ∃ w1 : MW, Q w1 ∧ p_Mo_join w (fun u => u = w1) := by
  obtain ⟨i, hi⟩ := dj_p_Mo_join (I := {x : MW // Q x}) (Q3 := fun i u => u = i.1) h (fun u q => ⟨⟨u, q⟩, rfl⟩)
  exact ⟨i.1, i.2, hi⟩
theorem dj_p_Mo_mayMeet {I : Type} {w : MW} {a0 : Int32} {b0 : Int32} {Q1 : Int32 → MW → Prop} {Q3 : I → Int32 → MW → Prop}  (h : p_Mo_mayMeet w a0 b0 Q1) (kQ : ∀ x0 x1, Q1 x0 x1 → ∃ i : I, Q3 i x0 x1) : ∃ i : I, p_Mo_mayMeet w a0 b0 (Q3 i) := by
  have h := Eq.mp (p_Mo_mayMeet.eq_1 ..) h
  refine dj_eq (fun i => (p_Mo_mayMeet.eq_1 ..)) ?_
  exact (dj_if (fun h1 => (kQ _ _ (h.1 h1))) (fun h2 => (dj_if (fun h3 => (kQ _ _ ((h.2 h2).1 h3))) (fun h4 => (dj_if (fun h5 => (kQ _ _ (((h.2 h2).2 h4).1 h5))) (fun h6 => (dj_and (((h.2 h2).2 h4).2 h6).1 (dj_if (fun h7 => (kQ _ _ ((((h.2 h2).2 h4).2 h6).2.1 h7))) (fun h8 => (kQ _ _ ((((h.2 h2).2 h4).2 h6).2.2 h8)))))))))))
theorem ex_p_Mo_mayMeet {w : MW} {a0 : Int32} {b0 : Int32} {Q : Int32 → MW → Prop} (h : p_Mo_mayMeet w a0 b0 Q) : ∃ (r1 : Int32) (w1 : MW), Q r1 w1 ∧ p_Mo_mayMeet w a0 b0 (fun r u => r = r1 ∧ u = w1) := by
  obtain ⟨i, hi⟩ := dj_p_Mo_mayMeet (I := {x : Int32 × MW // Q x.1 x.2}) (Q3 := fun i r u => r = i.1.1 ∧ u = i.1.2) h (fun r u q => ⟨⟨(r, u), q⟩, rfl, rfl⟩)
  exact ⟨i.1.1, i.1.2, i.2, hi⟩
theorem dj_q_Mo_isCalm_57 {I : Type} {x57_1 : Int32} {x57_2 : Int32} {x57_3 : Int32} {E1 : MW → Prop} {E3 : I → MW → Prop} {Q1 : Int32 → MW → Prop} {Q3 : I → Int32 → MW → Prop}  (kE : ∀ x0, E1 x0 → ∃ i : I, E3 i x0) (kQ : ∀ x0 x1, Q1 x0 x1 → ∃ i : I, Q3 i x0 x1) : ∀ (m : Nat) (x57_4 : Int32) (w : MW), q_Mo_isCalm_57 x57_1 x57_2 x57_3 E1 Q1 m x57_4 w → ∃ i : I, q_Mo_isCalm_57 x57_1 x57_2 x57_3 (E3 i) (Q3 i) m x57_4 w := by
  intro m
  induction m with
  | zero => exact fun _ _ h => False.elim h
  | succ m ih =>
    intro x57_4 w h
    have h := Eq.mp (q_Mo_isCalm_57.eq_2 ..) h
    refine dj_eq (fun i => (q_Mo_isCalm_57.eq_2 ..)) ?_
    exact (dj_if (fun h1 => (kE _ (h.1 h1))) (fun h2 => (dj_and (h.2 h2).1 (dj_and (h.2 h2).2.1 (dj_if (fun h3 => (ih _ _ ((h.2 h2).2.2.1 h3))) (fun h4 => (dj_p_Mo_mayMeet ((h.2 h2).2.2.2 h4) (fun _ _ h5 => (dj_if (fun h6 => (ih _ _ (h5.1 h6))) (fun h7 => (kQ _ _ (h5.2 h7))))))))))))
theorem dj_q_Mo_isCalm_46 {I : Type} {x46_1 : Int32} {x46_2 : Int32} {E1 : MW → Prop} {E3 : I → MW → Prop} {Q1 : Int32 → MW → Prop} {Q3 : I → Int32 → MW → Prop}  (kE : ∀ x0, E1 x0 → ∃ i : I, E3 i x0) (kQ : ∀ x0 x1, Q1 x0 x1 → ∃ i : I, Q3 i x0 x1) : ∀ (m : Nat) (x46_3 : Int32) (w : MW), q_Mo_isCalm_46 x46_1 x46_2 E1 Q1 m x46_3 w → ∃ i : I, q_Mo_isCalm_46 x46_1 x46_2 (E3 i) (Q3 i) m x46_3 w := by
  intro m
  induction m with
  | zero => exact fun _ _ h => False.elim h
  | succ m ih =>
    intro x46_3 w h
    have h := Eq.mp (q_Mo_isCalm_46.eq_2 ..) h
    refine dj_eq (fun i => (q_Mo_isCalm_46.eq_2 ..)) ?_
    exact (dj_if (fun h1 => (kE _ (h.1 h1))) (fun h2 => (dj_q_Mo_isCalm_57  (fun _ h3 => (ih _ _ h3)) kQ _ _ _ (h.2 h2))))
theorem dj_q_Mo_isCalm_31 {I : Type} {x31_1 : Int32} {E1 : MW → Prop} {E3 : I → MW → Prop} {Q1 : Int32 → MW → Prop} {Q3 : I → Int32 → MW → Prop}  (kE : ∀ x0, E1 x0 → ∃ i : I, E3 i x0) (kQ : ∀ x0 x1, Q1 x0 x1 → ∃ i : I, Q3 i x0 x1) : ∀ (m : Nat) (x31_2 : Int32) (w : MW), q_Mo_isCalm_31 x31_1 E1 Q1 m x31_2 w → ∃ i : I, q_Mo_isCalm_31 x31_1 (E3 i) (Q3 i) m x31_2 w := by
  intro m
  induction m with
  | zero => exact fun _ _ h => False.elim h
  | succ m ih =>
    intro x31_2 w h
    have h := Eq.mp (q_Mo_isCalm_31.eq_2 ..) h
    refine dj_eq (fun i => (q_Mo_isCalm_31.eq_2 ..)) ?_
    exact (dj_if (fun h1 => (kE _ (h.1 h1))) (fun h2 => (dj_q_Mo_isCalm_46  (fun _ h3 => (ih _ _ h3)) kQ _ _ _ (h.2 h2))))
theorem dj_q_Mo_flood_5 {I : Type} {x5_1 : Int32} {E1 : Int64 → MW → Prop} {E3 : I → Int64 → MW → Prop} {Q1 : Int64 → MW → Prop} {Q3 : I → Int64 → MW → Prop}  (kE : ∀ x0 x1, E1 x0 x1 → ∃ i : I, E3 i x0 x1) (kQ : ∀ x0 x1, Q1 x0 x1 → ∃ i : I, Q3 i x0 x1) : ∀ (m : Nat) (x5_2 : Int64) (x5_4 : Int32) (w : MW), q_Mo_flood_5 x5_1 E1 Q1 m x5_2 x5_4 w → ∃ i : I, q_Mo_flood_5 x5_1 (E3 i) (Q3 i) m x5_2 x5_4 w := by
  intro m
  induction m with
  | zero => exact fun _ _ _ h => False.elim h
  | succ m ih =>
    intro x5_2 x5_4 w h
    have h := Eq.mp (q_Mo_flood_5.eq_2 ..) h
    refine dj_eq (fun i => (q_Mo_flood_5.eq_2 ..)) ?_
    exact (dj_if (fun h1 => (kE _ _ (h.1 h1))) (fun h2 => (dj_and (h.2 h2).1 (dj_if (fun h3 => (ih _ _ _ ((h.2 h2).2.1 h3))) (fun h4 => (ih _ _ _ ((h.2 h2).2.2 h4)))))))
theorem dj_q_Mo_flood_71 {I : Type} {x71_5 : Int64} {E1 : Int64 → MW → Prop} {E3 : I → Int64 → MW → Prop} {Q1 : Int64 → MW → Prop} {Q3 : I → Int64 → MW → Prop}  (kE : ∀ x0 x1, E1 x0 x1 → ∃ i : I, E3 i x0 x1) (kQ : ∀ x0 x1, Q1 x0 x1 → ∃ i : I, Q3 i x0 x1) : ∀ (m : Nat) (x71_2 : Int64) (x71_7 : Int32) (w : MW), q_Mo_flood_71 x71_5 E1 Q1 m x71_2 x71_7 w → ∃ i : I, q_Mo_flood_71 x71_5 (E3 i) (Q3 i) m x71_2 x71_7 w := by
  intro m
  induction m with
  | zero => exact fun _ _ _ h => False.elim h
  | succ m ih =>
    intro x71_2 x71_7 w h
    have h := Eq.mp (q_Mo_flood_71.eq_2 ..) h
    refine dj_eq (fun i => (q_Mo_flood_71.eq_2 ..)) ?_
    exact (dj_if (fun h1 => (kE _ _ (h.1 h1))) (fun h2 => (dj_if (fun h3 => (ih _ _ _ ((h.2 h2).1 h3))) (fun h4 => (dj_and ((h.2 h2).2 h4).1 (ih _ _ _ ((h.2 h2).2 h4).2))))))
theorem dj_q_Mo_flood_60 {I : Type}  {E1 : Int64 → MW → Prop} {E3 : I → Int64 → MW → Prop} {Q1 : Int64 → MW → Prop} {Q3 : I → Int64 → MW → Prop}  (kE : ∀ x0 x1, E1 x0 x1 → ∃ i : I, E3 i x0 x1) (kQ : ∀ x0 x1, Q1 x0 x1 → ∃ i : I, Q3 i x0 x1) : ∀ (m : Nat) (x60_2 : Int64) (x60_4 : Int32) (w : MW), q_Mo_flood_60 E1 Q1 m x60_2 x60_4 w → ∃ i : I, q_Mo_flood_60 (E3 i) (Q3 i) m x60_2 x60_4 w := by
  intro m
  induction m with
  | zero => exact fun _ _ _ h => False.elim h
  | succ m ih =>
    intro x60_2 x60_4 w h
    have h := Eq.mp (q_Mo_flood_60.eq_2 ..) h
    refine dj_eq (fun i => (q_Mo_flood_60.eq_2 ..)) ?_
    exact (dj_if (fun h1 => (kE _ _ (h.1 h1))) (fun h2 => (dj_q_Mo_flood_71  (fun _ _ h3 => (dj_if (fun h4 => (ih _ _ _ (h3.1 h4))) (fun h5 => (ih _ _ _ (h3.2 h5))))) kQ _ _ _ _ (h.2 h2))))
theorem dj_p_Mo_flood {I : Type} {w : MW} {a0 : Int32} {Q1 : Int64 → MW → Prop} {Q3 : I → Int64 → MW → Prop}  (h : p_Mo_flood w a0 Q1) (kQ : ∀ x0 x1, Q1 x0 x1 → ∃ i : I, Q3 i x0 x1) : ∃ i : I, p_Mo_flood w a0 (Q3 i) := by
  have h := Eq.mp (p_Mo_flood.eq_1 ..) h
  refine dj_eq (fun i => (p_Mo_flood.eq_1 ..)) ?_
  exact (dj_q_Mo_flood_5  (fun _ _ h1 => (dj_if (fun h2 => (dj_q_Mo_flood_60  (fun _ _ h4 => (kQ _ _ h4)) kQ _ _ _ _ (h1.1 h2))) (fun h3 => (dj_q_Mo_flood_60  (fun _ _ h5 => (kQ _ _ h5)) kQ _ _ _ _ (h1.2 h3))))) kQ _ _ _ _ h)
theorem ex_p_Mo_flood {w : MW} {a0 : Int32} {Q : Int64 → MW → Prop} (h : p_Mo_flood w a0 Q) : ∃ (r1 : Int64) (w1 : MW), Q r1 w1 ∧ p_Mo_flood w a0 (fun r u => r = r1 ∧ u = w1) := by
  obtain ⟨i, hi⟩ := dj_p_Mo_flood (I := {x : Int64 × MW // Q x.1 x.2}) (Q3 := fun i r u => r = i.1.1 ∧ u = i.1.2) h (fun r u q => ⟨⟨(r, u), q⟩, rfl, rfl⟩)
  exact ⟨i.1.1, i.1.2, i.2, hi⟩
theorem dj_q_Mo_isCalm_6 {I : Type} {x6_1 : Int32} {E1 : MW → Prop} {E3 : I → MW → Prop} {Q1 : Int32 → MW → Prop} {Q3 : I → Int32 → MW → Prop}  (kE : ∀ x0, E1 x0 → ∃ i : I, E3 i x0) (kQ : ∀ x0 x1, Q1 x0 x1 → ∃ i : I, Q3 i x0 x1) : ∀ (m : Nat) (x6_2 : Int32) (w : MW), q_Mo_isCalm_6 x6_1 E1 Q1 m x6_2 w → ∃ i : I, q_Mo_isCalm_6 x6_1 (E3 i) (Q3 i) m x6_2 w := by
  intro m
  induction m with
  | zero => exact fun _ _ h => False.elim h
  | succ m ih =>
    intro x6_2 w h
    have h := Eq.mp (q_Mo_isCalm_6.eq_2 ..) h
    refine dj_eq (fun i => (q_Mo_isCalm_6.eq_2 ..)) ?_
    exact (dj_if (fun h1 => (kE _ (h.1 h1))) (fun h2 => (dj_p_Mo_flood (h.2 h2) (fun _ _ h3 => (dj_and h3.1 (ih _ _ h3.2))))))
theorem dj_p_Mo_isCalm {I : Type} {w : MW} {a0 : Int32} {Q1 : Int32 → MW → Prop} {Q3 : I → Int32 → MW → Prop}  (h : p_Mo_isCalm w a0 Q1) (kQ : ∀ x0 x1, Q1 x0 x1 → ∃ i : I, Q3 i x0 x1) : ∃ i : I, p_Mo_isCalm w a0 (Q3 i) := by
  have h := Eq.mp (p_Mo_isCalm.eq_1 ..) h
  refine dj_eq (fun i => (p_Mo_isCalm.eq_1 ..)) ?_
  exact (dj_p_Mo_join h (fun _ h1 => (dj_q_Mo_isCalm_6  (fun _ h2 => (dj_q_Mo_isCalm_31  (fun _ h3 => (kQ _ _ h3)) kQ _ _ _ h2)) kQ _ _ _ h1)))
theorem ex_p_Mo_isCalm {w : MW} {a0 : Int32} {Q : Int32 → MW → Prop} (h : p_Mo_isCalm w a0 Q) : ∃ (r1 : Int32) (w1 : MW), Q r1 w1 ∧ p_Mo_isCalm w a0 (fun r u => r = r1 ∧ u = w1) := by
  obtain ⟨i, hi⟩ := dj_p_Mo_isCalm (I := {x : Int32 × MW // Q x.1 x.2}) (Q3 := fun i r u => r = i.1.1 ∧ u = i.1.2) h (fun r u q => ⟨⟨(r, u), q⟩, rfl, rfl⟩)
  exact ⟨i.1.1, i.1.2, i.2, hi⟩
theorem dj_q_Mo_isSafe_73 {I : Type} {x30_2 : Int32} {x30_3 : Int32} {y73_4 : Int32} {w : MW} {A1 : Int32 → Int32 → MW → Prop} {A3 : I → Int32 → Int32 → MW → Prop} {E1 : Int32 → MW → Prop} {E3 : I → Int32 → MW → Prop} {Q1 : Int32 → MW → Prop} {Q3 : I → Int32 → MW → Prop}  (kA : ∀ x0 x1 x2, A1 x0 x1 x2 → ∃ i : I, A3 i x0 x1 x2) (kE : ∀ x0 x1, E1 x0 x1 → ∃ i : I, E3 i x0 x1) (kQ : ∀ x0 x1, Q1 x0 x1 → ∃ i : I, Q3 i x0 x1) (h : q_Mo_isSafe_73 x30_2 x30_3 y73_4 w A1 E1 Q1) : ∃ i : I, q_Mo_isSafe_73 x30_2 x30_3 y73_4 w (A3 i) (E3 i) (Q3 i) := by
  have h := Eq.mp (q_Mo_isSafe_73.eq_1 ..) h
  refine dj_eq (fun i => (q_Mo_isSafe_73.eq_1 ..)) ?_
  exact (dj_and h.1 (dj_p_Mo_isCalm h.2 (fun _ _ h1 => (kA _ _ _ h1))))
theorem dj_q_Mo_isSafe_30 {I : Type} {x30_2 : Int32} {x30_3 : Int32} {E1 : Int32 → MW → Prop} {E3 : I → Int32 → MW → Prop} {Q1 : Int32 → MW → Prop} {Q3 : I → Int32 → MW → Prop}  (kE : ∀ x0 x1, E1 x0 x1 → ∃ i : I, E3 i x0 x1) (kQ : ∀ x0 x1, Q1 x0 x1 → ∃ i : I, Q3 i x0 x1) : ∀ (m : Nat) (x30_1 : Int32) (x30_4 : Int32) (w : MW), q_Mo_isSafe_30 x30_2 x30_3 E1 Q1 m x30_1 x30_4 w → ∃ i : I, q_Mo_isSafe_30 x30_2 x30_3 (E3 i) (Q3 i) m x30_1 x30_4 w := by
  intro m
  induction m with
  | zero => exact fun _ _ _ h => False.elim h
  | succ m ih =>
    intro x30_1 x30_4 w h
    have h := Eq.mp (q_Mo_isSafe_30.eq_2 ..) h
    refine dj_eq (fun i => (q_Mo_isSafe_30.eq_2 ..)) ?_
    exact (dj_if (fun h1 => (kE _ _ (h.1 h1))) (fun h2 => (dj_and (h.2 h2).1 (dj_if (fun h3 => (kE _ _ ((h.2 h2).2.1 h3))) (fun h4 => (dj_if (fun h5 => (kE _ _ (((h.2 h2).2.2 h4).1 h5))) (fun h6 => (dj_if (fun h7 => (ih _ _ _ ((((h.2 h2).2.2 h4).2 h6).1 h7))) (fun h8 => (dj_and ((((h.2 h2).2.2 h4).2 h6).2 h8).1 (dj_if (fun h9 => (dj_q_Mo_isSafe_73  (fun _ _ _ h11 => (ih _ _ _ h11)) kE kQ (((((h.2 h2).2.2 h4).2 h6).2 h8).2.1 h9))) (fun h10 => (dj_if (fun h12 => (ih _ _ _ ((((((h.2 h2).2.2 h4).2 h6).2 h8).2.2 h10).1 h12))) (fun h13 => (dj_q_Mo_isSafe_73  (fun _ _ _ h14 => (ih _ _ _ h14)) kE kQ ((((((h.2 h2).2.2 h4).2 h6).2 h8).2.2 h10).2 h13))))))))))))))))
theorem dj_q_Mo_isSafe_8 {I : Type}  {E1 : Int32 → MW → Prop} {E3 : I → Int32 → MW → Prop} {Q1 : Int32 → MW → Prop} {Q3 : I → Int32 → MW → Prop}  (kE : ∀ x0 x1, E1 x0 x1 → ∃ i : I, E3 i x0 x1) (kQ : ∀ x0 x1, Q1 x0 x1 → ∃ i : I, Q3 i x0 x1) : ∀ (m : Nat) (x8_1 : Int32) (x8_2 : Int32) (w : MW), q_Mo_isSafe_8 E1 Q1 m x8_1 x8_2 w → ∃ i : I, q_Mo_isSafe_8 (E3 i) (Q3 i) m x8_1 x8_2 w := by
  intro m
  induction m with
  | zero => exact fun _ _ _ h => False.elim h
  | succ m ih =>
    intro x8_1 x8_2 w h
    have h := Eq.mp (q_Mo_isSafe_8.eq_2 ..) h
    refine dj_eq (fun i => (q_Mo_isSafe_8.eq_2 ..)) ?_
    exact (dj_if (fun h1 => (kE _ _ (h.1 h1))) (fun h2 => (dj_if (fun h3 => (kE _ _ ((h.2 h2).1 h3))) (fun h4 => (dj_and ((h.2 h2).2 h4).1 (dj_q_Mo_isSafe_30  (fun _ _ h5 => (dj_and h5.1 (ih _ _ _ h5.2))) kQ _ _ _ _ ((h.2 h2).2 h4).2))))))
theorem dj_p_Mo_isSafe {I : Type} {w : MW} {Q1 : Int32 → MW → Prop} {Q3 : I → Int32 → MW → Prop}  (h : p_Mo_isSafe w Q1) (kQ : ∀ x0 x1, Q1 x0 x1 → ∃ i : I, Q3 i x0 x1) : ∃ i : I, p_Mo_isSafe w (Q3 i) := by
  have h := Eq.mp (p_Mo_isSafe.eq_1 ..) h
  refine dj_eq (fun i => (p_Mo_isSafe.eq_1 ..)) ?_
  exact (dj_p_Mo_isCalm h (fun _ _ h1 => (dj_q_Mo_isSafe_8  (fun _ _ h2 => (dj_and h2.1 (kQ _ _ h2.2))) kQ _ _ _ _ h1)))
theorem ex_p_Mo_isSafe {w : MW} {Q : Int32 → MW → Prop} (h : p_Mo_isSafe w Q) : ∃ (r1 : Int32) (w1 : MW), Q r1 w1 ∧ p_Mo_isSafe w (fun r u => r = r1 ∧ u = w1) := by
  obtain ⟨i, hi⟩ := dj_p_Mo_isSafe (I := {x : Int32 × MW // Q x.1 x.2}) (Q3 := fun i r u => r = i.1.1 ∧ u = i.1.2) h (fun r u q => ⟨⟨(r, u), q⟩, rfl, rfl⟩)
  exact ⟨i.1.1, i.1.2, i.2, hi⟩
theorem dj_q_Mo_liquidIn_49 {I : Type} {x49_2 : Int32} {E1 : Int32 → MW → Prop} {E3 : I → Int32 → MW → Prop} {Q1 : Int32 → MW → Prop} {Q3 : I → Int32 → MW → Prop}  (kE : ∀ x0 x1, E1 x0 x1 → ∃ i : I, E3 i x0 x1) (kQ : ∀ x0 x1, Q1 x0 x1 → ∃ i : I, Q3 i x0 x1) : ∀ (m : Nat) (x49_3 : Int32) (x49_4 : Int32) (w : MW), q_Mo_liquidIn_49 x49_2 E1 Q1 m x49_3 x49_4 w → ∃ i : I, q_Mo_liquidIn_49 x49_2 (E3 i) (Q3 i) m x49_3 x49_4 w := by
  intro m
  induction m with
  | zero => exact fun _ _ _ h => False.elim h
  | succ m ih =>
    intro x49_3 x49_4 w h
    have h := Eq.mp (q_Mo_liquidIn_49.eq_2 ..) h
    refine dj_eq (fun i => (q_Mo_liquidIn_49.eq_2 ..)) ?_
    exact (dj_and h.1 (dj_if (fun h1 => (kE _ _ (h.2.1 h1))) (fun h2 => (dj_and (h.2.2 h2).1 (dj_if (fun h3 => (ih _ _ _ ((h.2.2 h2).2.1 h3))) (fun h4 => (dj_if (fun h5 => (dj_if (fun h7 => (ih _ _ _ ((((h.2.2 h2).2.2 h4).1 h5).1 h7))) (fun h8 => (ih _ _ _ ((((h.2.2 h2).2.2 h4).1 h5).2 h8))))) (fun h6 => (ih _ _ _ (((h.2.2 h2).2.2 h4).2 h6))))))))))
theorem dj_p_Mo_liquidIn {I : Type} {w : MW} {a0 : Int32} {Q1 : Int32 → MW → Prop} {Q3 : I → Int32 → MW → Prop}  (h : p_Mo_liquidIn w a0 Q1) (kQ : ∀ x0 x1, Q1 x0 x1 → ∃ i : I, Q3 i x0 x1) : ∃ i : I, p_Mo_liquidIn w a0 (Q3 i) := by
  have h := Eq.mp (p_Mo_liquidIn.eq_1 ..) h
  refine dj_eq (fun i => (p_Mo_liquidIn.eq_1 ..)) ?_
  exact (dj_if (fun h1 => (dj_q_Mo_liquidIn_49  (fun _ _ h3 => (kQ _ _ h3)) kQ _ _ _ _ (h.1 h1))) (fun h2 => (dj_and (h.2 h2).1 (dj_if (fun h4 => (kQ _ _ ((h.2 h2).2.1 h4))) (fun h5 => (dj_and ((h.2 h2).2.2 h5).1 (dj_if (fun h6 => (kQ _ _ (((h.2 h2).2.2 h5).2.1 h6))) (fun h7 => (dj_and (((h.2 h2).2.2 h5).2.2 h7).1 (kQ _ _ (((h.2 h2).2.2 h5).2.2 h7).2))))))))))
theorem ex_p_Mo_liquidIn {w : MW} {a0 : Int32} {Q : Int32 → MW → Prop} (h : p_Mo_liquidIn w a0 Q) : ∃ (r1 : Int32) (w1 : MW), Q r1 w1 ∧ p_Mo_liquidIn w a0 (fun r u => r = r1 ∧ u = w1) := by
  obtain ⟨i, hi⟩ := dj_p_Mo_liquidIn (I := {x : Int32 × MW // Q x.1 x.2}) (Q3 := fun i r u => r = i.1.1 ∧ u = i.1.2) h (fun r u q => ⟨⟨(r, u), q⟩, rfl, rfl⟩)
  exact ⟨i.1.1, i.1.2, i.2, hi⟩
theorem dj_q_Mo_look_2 {I : Type}  {E1 : MW → Prop} {E3 : I → MW → Prop} {Q1 : MW → Prop} {Q3 : I → MW → Prop}  (kE : ∀ x0, E1 x0 → ∃ i : I, E3 i x0) (kQ : ∀ x0, Q1 x0 → ∃ i : I, Q3 i x0) : ∀ (m : Nat) (x2_1 : Int32) (w : MW), q_Mo_look_2 E1 Q1 m x2_1 w → ∃ i : I, q_Mo_look_2 (E3 i) (Q3 i) m x2_1 w := by
  intro m
  induction m with
  | zero => exact fun _ _ h => False.elim h
  | succ m ih =>
    intro x2_1 w h
    have h := Eq.mp (q_Mo_look_2.eq_2 ..) h
    refine dj_eq (fun i => (q_Mo_look_2.eq_2 ..)) ?_
    exact (dj_if (fun h1 => (kE _ (h.1 h1))) (fun h2 => (dj_p_Mo_liquidIn (h.2 h2) (fun _ _ h3 => (dj_and h3.1 (ih _ _ h3.2))))))
theorem dj_p_Mo_carry {I : Type} {w : MW} {a0 : Int32} {b0 : Int32} {Q1 : MW → Prop} {Q3 : I → MW → Prop}  (h : p_Mo_carry w a0 b0 Q1) (kQ : ∀ x0, Q1 x0 → ∃ i : I, Q3 i x0) : ∃ i : I, p_Mo_carry w a0 b0 (Q3 i) := by
  have h := Eq.mp (p_Mo_carry.eq_1 ..) h
  refine dj_eq (fun i => (p_Mo_carry.eq_1 ..)) ?_
  exact (dj_and h.1 (dj_if (fun h1 => (dj_and (h.2.1 h1).1 (dj_and (h.2.1 h1).2.1 (kQ _ (h.2.1 h1).2.2)))) (fun h2 => (dj_and (h.2.2 h2).1 (kQ _ (h.2.2 h2).2)))))
theorem ex_p_Mo_carry {w : MW} {a0 : Int32} {b0 : Int32} {Q : MW → Prop} (h : p_Mo_carry w a0 b0 Q) : ∃ w1 : MW, Q w1 ∧ p_Mo_carry w a0 b0 (fun u => u = w1) := by
  obtain ⟨i, hi⟩ := dj_p_Mo_carry (I := {x : MW // Q x}) (Q3 := fun i u => u = i.1) h (fun u q => ⟨⟨u, q⟩, rfl⟩)
  exact ⟨i.1, i.2, hi⟩
theorem dj_q_Mo_look_60 {I : Type} {x60_1 : Int32} {E1 : MW → Prop} {E3 : I → MW → Prop} {Q1 : MW → Prop} {Q3 : I → MW → Prop}  (kE : ∀ x0, E1 x0 → ∃ i : I, E3 i x0) (kQ : ∀ x0, Q1 x0 → ∃ i : I, Q3 i x0) : ∀ (m : Nat) (x60_2 : Int32) (w : MW), q_Mo_look_60 x60_1 E1 Q1 m x60_2 w → ∃ i : I, q_Mo_look_60 x60_1 (E3 i) (Q3 i) m x60_2 w := by
  intro m
  induction m with
  | zero => exact fun _ _ h => False.elim h
  | succ m ih =>
    intro x60_2 w h
    have h := Eq.mp (q_Mo_look_60.eq_2 ..) h
    refine dj_eq (fun i => (q_Mo_look_60.eq_2 ..)) ?_
    exact (dj_and h.1 (dj_if (fun h1 => (kE _ (h.2.1 h1))) (fun h2 => (dj_and (h.2.2 h2).1 (dj_and (h.2.2 h2).2.1 (dj_p_Mo_carry (h.2.2 h2).2.2 (fun _ h3 => (ih _ _ h3))))))))
theorem dj_q_Mo_look_34 {I : Type}  {E1 : MW → Prop} {E3 : I → MW → Prop} {Q1 : MW → Prop} {Q3 : I → MW → Prop}  (kE : ∀ x0, E1 x0 → ∃ i : I, E3 i x0) (kQ : ∀ x0, Q1 x0 → ∃ i : I, Q3 i x0) : ∀ (m : Nat) (x34_1 : Int32) (w : MW), q_Mo_look_34 E1 Q1 m x34_1 w → ∃ i : I, q_Mo_look_34 (E3 i) (Q3 i) m x34_1 w := by
  intro m
  induction m with
  | zero => exact fun _ _ h => False.elim h
  | succ m ih =>
    intro x34_1 w h
    have h := Eq.mp (q_Mo_look_34.eq_2 ..) h
    refine dj_eq (fun i => (q_Mo_look_34.eq_2 ..)) ?_
    exact (dj_if (fun h1 => (kE _ (h.1 h1))) (fun h2 => (dj_and (h.2 h2).1 (dj_and (h.2 h2).2.1 (dj_p_Mo_carry (h.2 h2).2.2 (fun _ h3 => (dj_q_Mo_look_60  (fun _ h4 => (ih _ _ h4)) kQ _ _ _ h3)))))))
theorem dj_p_Mo_look {I : Type} {w : MW} {Q1 : MW → Prop} {Q3 : I → MW → Prop}  (h : p_Mo_look w Q1) (kQ : ∀ x0, Q1 x0 → ∃ i : I, Q3 i x0) : ∃ i : I, p_Mo_look w (Q3 i) := by
  have h := Eq.mp (p_Mo_look.eq_1 ..) h
  refine dj_eq (fun i => (p_Mo_look.eq_1 ..)) ?_
  exact (dj_q_Mo_look_2  (fun _ h1 => (dj_q_Mo_look_34  (fun _ h2 => (kQ _ h2)) kQ _ _ _ h1)) kQ _ _ _ h)
theorem ex_p_Mo_look {w : MW} {Q : MW → Prop} (h : p_Mo_look w Q) : ∃ w1 : MW, Q w1 ∧ p_Mo_look w (fun u => u = w1) := by
  obtain ⟨i, hi⟩ := dj_p_Mo_look (I := {x : MW // Q x}) (Q3 := fun i u => u = i.1) h (fun u q => ⟨⟨u, q⟩, rfl⟩)
  exact ⟨i.1, i.2, hi⟩
theorem dj_q_Mo_measure_66 {I : Type} {x2_1 : Int32} {y66_2 : Int32} {y66_3 : Int32} {ys66_0 : Int32} {ys66_1 : Int32} {w : MW} {A1 : Int32 → MW → Prop} {A3 : I → Int32 → MW → Prop} {E1 : MW → Prop} {E3 : I → MW → Prop} {Q1 : MW → Prop} {Q3 : I → MW → Prop}  (kA : ∀ x0 x1, A1 x0 x1 → ∃ i : I, A3 i x0 x1) (kE : ∀ x0, E1 x0 → ∃ i : I, E3 i x0) (kQ : ∀ x0, Q1 x0 → ∃ i : I, Q3 i x0) (h : q_Mo_measure_66 x2_1 y66_2 y66_3 ys66_0 ys66_1 w A1 E1 Q1) : ∃ i : I, q_Mo_measure_66 x2_1 y66_2 y66_3 ys66_0 ys66_1 w (A3 i) (E3 i) (Q3 i) := by
  have h := Eq.mp (q_Mo_measure_66.eq_1 ..) h
  refine dj_eq (fun i => (q_Mo_measure_66.eq_1 ..)) ?_
  exact (dj_and h.1 (dj_if (fun h1 => (dj_and (h.2.1 h1).1 (kA _ _ (h.2.1 h1).2))) (fun h2 => (dj_and (h.2.2 h2).1 (kA _ _ (h.2.2 h2).2)))))
theorem dj_q_Mo_measure_44 {I : Type} {x2_1 : Int32} {y44_2 : Int32} {ys44_0 : Int32} {w : MW} {A1 : Int32 → MW → Prop} {A3 : I → Int32 → MW → Prop} {E1 : MW → Prop} {E3 : I → MW → Prop} {Q1 : MW → Prop} {Q3 : I → MW → Prop}  (kA : ∀ x0 x1, A1 x0 x1 → ∃ i : I, A3 i x0 x1) (kE : ∀ x0, E1 x0 → ∃ i : I, E3 i x0) (kQ : ∀ x0, Q1 x0 → ∃ i : I, Q3 i x0) (h : q_Mo_measure_44 x2_1 y44_2 ys44_0 w A1 E1 Q1) : ∃ i : I, q_Mo_measure_44 x2_1 y44_2 ys44_0 w (A3 i) (E3 i) (Q3 i) := by
  have h := Eq.mp (q_Mo_measure_44.eq_1 ..) h
  refine dj_eq (fun i => (q_Mo_measure_44.eq_1 ..)) ?_
  exact (dj_if (fun h1 => (dj_q_Mo_measure_66  kA kE kQ (h.1 h1))) (fun h2 => (dj_and (h.2 h2).1 (dj_q_Mo_measure_66  kA kE kQ (h.2 h2).2))))
theorem dj_q_Mo_measure_2 {I : Type} {x2_1 : Int32} {E1 : MW → Prop} {E3 : I → MW → Prop} {Q1 : MW → Prop} {Q3 : I → MW → Prop}  (kE : ∀ x0, E1 x0 → ∃ i : I, E3 i x0) (kQ : ∀ x0, Q1 x0 → ∃ i : I, Q3 i x0) : ∀ (m : Nat) (x2_2 : Int32) (w : MW), q_Mo_measure_2 x2_1 E1 Q1 m x2_2 w → ∃ i : I, q_Mo_measure_2 x2_1 (E3 i) (Q3 i) m x2_2 w := by
  intro m
  induction m with
  | zero => exact fun _ _ h => False.elim h
  | succ m ih =>
    intro x2_2 w h
    have h := Eq.mp (q_Mo_measure_2.eq_2 ..) h
    refine dj_eq (fun i => (q_Mo_measure_2.eq_2 ..)) ?_
    exact (dj_if (fun h1 => (kE _ (h.1 h1))) (fun h2 => (dj_and (h.2 h2).1 (dj_if (fun h3 => (dj_q_Mo_measure_44  (fun _ _ h5 => (ih _ _ h5)) kE kQ ((h.2 h2).2.1 h3))) (fun h4 => (dj_if (fun h6 => (dj_q_Mo_measure_44  (fun _ _ h8 => (ih _ _ h8)) kE kQ (((h.2 h2).2.2 h4).1 h6))) (fun h7 => (dj_q_Mo_measure_44  (fun _ _ h9 => (ih _ _ h9)) kE kQ (((h.2 h2).2.2 h4).2 h7)))))))))
theorem dj_q_Mo_least_2 {I : Type} {x2_0 : Int32} {x2_1 : Int32} {x2_2 : Int32} {E1 : MW → Prop} {E3 : I → MW → Prop} {Q1 : Int32 → MW → Prop} {Q3 : I → Int32 → MW → Prop}  (kE : ∀ x0, E1 x0 → ∃ i : I, E3 i x0) (kQ : ∀ x0 x1, Q1 x0 x1 → ∃ i : I, Q3 i x0 x1) : ∀ (m : Nat) (x2_3 : Int32) (w : MW), q_Mo_least_2 x2_0 x2_1 x2_2 E1 Q1 m x2_3 w → ∃ i : I, q_Mo_least_2 x2_0 x2_1 x2_2 (E3 i) (Q3 i) m x2_3 w := by
  intro m
  induction m with
  | zero => exact fun _ _ h => False.elim h
  | succ m ih =>
    intro x2_3 w h
    have h := Eq.mp (q_Mo_least_2.eq_2 ..) h
    refine dj_eq (fun i => (q_Mo_least_2.eq_2 ..)) ?_
    exact (dj_if (fun h1 => (kE _ (h.1 h1))) (fun h2 => (dj_p_Mo_passes (h.2 h2) (fun _ _ h3 => (dj_if (fun h4 => (ih _ _ (h3.1 h4))) (fun h5 => (kQ _ _ (h3.2 h5))))))))
theorem dj_p_Mo_least {I : Type} {w : MW} {a0 : Int32} {b0 : Int32} {c0 : Int32} {Q1 : Int32 → MW → Prop} {Q3 : I → Int32 → MW → Prop}  (h : p_Mo_least w a0 b0 c0 Q1) (kQ : ∀ x0 x1, Q1 x0 x1 → ∃ i : I, Q3 i x0 x1) : ∃ i : I, p_Mo_least w a0 b0 c0 (Q3 i) := by
  have h := Eq.mp (p_Mo_least.eq_1 ..) h
  refine dj_eq (fun i => (p_Mo_least.eq_1 ..)) ?_
  exact (dj_q_Mo_least_2  (fun _ h1 => (kQ _ _ h1)) kQ _ _ _ h)
theorem ex_p_Mo_least {w : MW} {a0 : Int32} {b0 : Int32} {c0 : Int32} {Q : Int32 → MW → Prop} (h : p_Mo_least w a0 b0 c0 Q) : ∃ (r1 : Int32) (w1 : MW), Q r1 w1 ∧ p_Mo_least w a0 b0 c0 (fun r u => r = r1 ∧ u = w1) := by
  obtain ⟨i, hi⟩ := dj_p_Mo_least (I := {x : Int32 × MW // Q x.1 x.2}) (Q3 := fun i r u => r = i.1.1 ∧ u = i.1.2) h (fun r u q => ⟨⟨(r, u), q⟩, rfl, rfl⟩)
  exact ⟨i.1.1, i.1.2, i.2, hi⟩
theorem dj_p_Mo_needOf {I : Type} {w : MW} {a0 : Int32} {b0 : Int32} {Q1 : Int32 → MW → Prop} {Q3 : I → Int32 → MW → Prop}  (h : p_Mo_needOf w a0 b0 Q1) (kQ : ∀ x0 x1, Q1 x0 x1 → ∃ i : I, Q3 i x0 x1) : ∃ i : I, p_Mo_needOf w a0 b0 (Q3 i) := by
  have h := Eq.mp (p_Mo_needOf.eq_1 ..) h
  refine dj_eq (fun i => (p_Mo_needOf.eq_1 ..)) ?_
  exact (dj_and h.1 (dj_if (fun h1 => (kQ _ _ (h.2.1 h1))) (fun h2 => (dj_and (h.2.2 h2).1 (dj_if (fun h3 => (kQ _ _ ((h.2.2 h2).2.1 h3))) (fun h4 => (dj_if (fun h5 => (kQ _ _ (((h.2.2 h2).2.2 h4).1 h5))) (fun h6 => (dj_and (((h.2.2 h2).2.2 h4).2 h6).1 (dj_if (fun h7 => (kQ _ _ ((((h.2.2 h2).2.2 h4).2 h6).2.1 h7))) (fun h8 => (dj_if (fun h9 => (dj_and (((((h.2.2 h2).2.2 h4).2 h6).2.2 h8).1 h9).1 (dj_if (fun h11 => (dj_and ((((((h.2.2 h2).2.2 h4).2 h6).2.2 h8).1 h9).2.1 h11).1 (dj_and ((((((h.2.2 h2).2.2 h4).2 h6).2.2 h8).1 h9).2.1 h11).2.1 (dj_and ((((((h.2.2 h2).2.2 h4).2 h6).2.2 h8).1 h9).2.1 h11).2.2.1 (dj_p_Mo_least ((((((h.2.2 h2).2.2 h4).2 h6).2.2 h8).1 h9).2.1 h11).2.2.2 (fun _ _ h13 => (dj_p_Mo_held h13 (fun _ _ h14 => (dj_if (fun h15 => (kQ _ _ (h14.1 h15))) (fun h16 => (dj_p_Mo_held (h14.2 h16) (fun _ _ h17 => (dj_if (fun h18 => (kQ _ _ (h17.1 h18))) (fun h19 => (kQ _ _ (h17.2 h19)))))))))))))))) (fun h12 => (dj_and ((((((h.2.2 h2).2.2 h4).2 h6).2.2 h8).1 h9).2.2 h12).1 (dj_if (fun h20 => (kQ _ _ (((((((h.2.2 h2).2.2 h4).2 h6).2.2 h8).1 h9).2.2 h12).2.1 h20))) (fun h21 => (dj_p_Mo_held (((((((h.2.2 h2).2.2 h4).2 h6).2.2 h8).1 h9).2.2 h12).2.2 h21) (fun _ _ h22 => (dj_if (fun h23 => (kQ _ _ (h22.1 h23))) (fun h24 => (kQ _ _ (h22.2 h24))))))))))))) (fun h10 => (kQ _ _ (((((h.2.2 h2).2.2 h4).2 h6).2.2 h8).2 h10)))))))))))))))
theorem ex_p_Mo_needOf {w : MW} {a0 : Int32} {b0 : Int32} {Q : Int32 → MW → Prop} (h : p_Mo_needOf w a0 b0 Q) : ∃ (r1 : Int32) (w1 : MW), Q r1 w1 ∧ p_Mo_needOf w a0 b0 (fun r u => r = r1 ∧ u = w1) := by
  obtain ⟨i, hi⟩ := dj_p_Mo_needOf (I := {x : Int32 × MW // Q x.1 x.2}) (Q3 := fun i r u => r = i.1.1 ∧ u = i.1.2) h (fun r u q => ⟨⟨(r, u), q⟩, rfl, rfl⟩)
  exact ⟨i.1.1, i.1.2, i.2, hi⟩
theorem dj_q_Mo_measure_283 {I : Type} {y283_2 : Int32} {x111_3 : Int32} {y283_4 : Int32} {y283_7 : Int32} {ys283_0 : Int32} {ys283_1 : Int32} {w : MW} {A1 : Int32 → Int32 → MW → Prop} {A3 : I → Int32 → Int32 → MW → Prop} {E1 : Int32 → MW → Prop} {E3 : I → Int32 → MW → Prop} {Q1 : MW → Prop} {Q3 : I → MW → Prop}  (kA : ∀ x0 x1 x2, A1 x0 x1 x2 → ∃ i : I, A3 i x0 x1 x2) (kE : ∀ x0 x1, E1 x0 x1 → ∃ i : I, E3 i x0 x1) (kQ : ∀ x0, Q1 x0 → ∃ i : I, Q3 i x0) (h : q_Mo_measure_283 y283_2 x111_3 y283_4 y283_7 ys283_0 ys283_1 w A1 E1 Q1) : ∃ i : I, q_Mo_measure_283 y283_2 x111_3 y283_4 y283_7 ys283_0 ys283_1 w (A3 i) (E3 i) (Q3 i) := by
  have h := Eq.mp (q_Mo_measure_283.eq_1 ..) h
  refine dj_eq (fun i => (q_Mo_measure_283.eq_1 ..)) ?_
  exact (dj_and h.1 (dj_if (fun h1 => (kA _ _ _ (h.2.1 h1))) (fun h2 => (dj_if (fun h3 => (kA _ _ _ ((h.2.2 h2).1 h3))) (fun h4 => (kA _ _ _ ((h.2.2 h2).2 h4)))))))
theorem dj_q_Mo_measure_261 {I : Type} {y261_2 : Int32} {x111_3 : Int32} {y261_4 : Int32} {y261_6 : Int32} {y261_7 : Int32} {ys261_0 : Int32} {ys261_1 : Int32} {w : MW} {A1 : Int32 → Int32 → MW → Prop} {A3 : I → Int32 → Int32 → MW → Prop} {E1 : Int32 → MW → Prop} {E3 : I → Int32 → MW → Prop} {Q1 : MW → Prop} {Q3 : I → MW → Prop}  (kA : ∀ x0 x1 x2, A1 x0 x1 x2 → ∃ i : I, A3 i x0 x1 x2) (kE : ∀ x0 x1, E1 x0 x1 → ∃ i : I, E3 i x0 x1) (kQ : ∀ x0, Q1 x0 → ∃ i : I, Q3 i x0) (h : q_Mo_measure_261 y261_2 x111_3 y261_4 y261_6 y261_7 ys261_0 ys261_1 w A1 E1 Q1) : ∃ i : I, q_Mo_measure_261 y261_2 x111_3 y261_4 y261_6 y261_7 ys261_0 ys261_1 w (A3 i) (E3 i) (Q3 i) := by
  have h := Eq.mp (q_Mo_measure_261.eq_1 ..) h
  refine dj_eq (fun i => (q_Mo_measure_261.eq_1 ..)) ?_
  exact (dj_and h.1 (dj_if (fun h1 => (dj_and (h.2.1 h1).1 (dj_q_Mo_measure_283  kA kE kQ (h.2.1 h1).2))) (fun h2 => (dj_q_Mo_measure_283  kA kE kQ (h.2.2 h2)))))
theorem dj_q_Mo_measure_238 {I : Type} {y238_2 : Int32} {x111_3 : Int32} {y238_4 : Int32} {y238_5 : Int32} {y238_6 : Int32} {ys238_0 : Int32} {w : MW} {A1 : Int32 → Int32 → MW → Prop} {A3 : I → Int32 → Int32 → MW → Prop} {E1 : Int32 → MW → Prop} {E3 : I → Int32 → MW → Prop} {Q1 : MW → Prop} {Q3 : I → MW → Prop}  (kA : ∀ x0 x1 x2, A1 x0 x1 x2 → ∃ i : I, A3 i x0 x1 x2) (kE : ∀ x0 x1, E1 x0 x1 → ∃ i : I, E3 i x0 x1) (kQ : ∀ x0, Q1 x0 → ∃ i : I, Q3 i x0) (h : q_Mo_measure_238 y238_2 x111_3 y238_4 y238_5 y238_6 ys238_0 w A1 E1 Q1) : ∃ i : I, q_Mo_measure_238 y238_2 x111_3 y238_4 y238_5 y238_6 ys238_0 w (A3 i) (E3 i) (Q3 i) := by
  have h := Eq.mp (q_Mo_measure_238.eq_1 ..) h
  refine dj_eq (fun i => (q_Mo_measure_238.eq_1 ..)) ?_
  exact (dj_if (fun h1 => (dj_and (h.1 h1).1 (dj_q_Mo_measure_261  kA kE kQ (h.1 h1).2))) (fun h2 => (dj_q_Mo_measure_261  kA kE kQ (h.2 h2))))
theorem dj_q_Mo_measure_111 {I : Type} {x111_3 : Int32} {E1 : Int32 → MW → Prop} {E3 : I → Int32 → MW → Prop} {Q1 : MW → Prop} {Q3 : I → MW → Prop}  (kE : ∀ x0 x1, E1 x0 x1 → ∃ i : I, E3 i x0 x1) (kQ : ∀ x0, Q1 x0 → ∃ i : I, Q3 i x0) : ∀ (m : Nat) (x111_2 : Int32) (x111_4 : Int32) (w : MW), q_Mo_measure_111 x111_3 E1 Q1 m x111_2 x111_4 w → ∃ i : I, q_Mo_measure_111 x111_3 (E3 i) (Q3 i) m x111_2 x111_4 w := by
  intro m
  induction m with
  | zero => exact fun _ _ _ h => False.elim h
  | succ m ih =>
    intro x111_2 x111_4 w h
    have h := Eq.mp (q_Mo_measure_111.eq_2 ..) h
    refine dj_eq (fun i => (q_Mo_measure_111.eq_2 ..)) ?_
    exact (dj_if (fun h1 => (kE _ _ (h.1 h1))) (fun h2 => (dj_if (fun h3 => (kE _ _ ((h.2 h2).1 h3))) (fun h4 => (dj_and ((h.2 h2).2 h4).1 (dj_if (fun h5 => (ih _ _ _ (((h.2 h2).2 h4).2.1 h5))) (fun h6 => (dj_p_Mo_needOf (((h.2 h2).2 h4).2.2 h6) (fun _ _ h7 => (dj_if (fun h8 => (ih _ _ _ (h7.1 h8))) (fun h9 => (dj_and (h7.2 h9).1 (dj_and (h7.2 h9).2.1 (dj_and (h7.2 h9).2.2.1 (dj_and (h7.2 h9).2.2.2.1 (dj_if (fun h10 => (dj_q_Mo_measure_238  (fun _ _ _ h12 => (ih _ _ _ h12)) kE kQ ((h7.2 h9).2.2.2.2.1 h10))) (fun h11 => (dj_and ((h7.2 h9).2.2.2.2.2 h11).1 (dj_if (fun h13 => (dj_q_Mo_measure_238  (fun _ _ _ h15 => (ih _ _ _ h15)) kE kQ (((h7.2 h9).2.2.2.2.2 h11).2.1 h13))) (fun h14 => (dj_and (((h7.2 h9).2.2.2.2.2 h11).2.2 h14).1 (dj_if (fun h16 => (dj_q_Mo_measure_238  (fun _ _ _ h18 => (ih _ _ _ h18)) kE kQ ((((h7.2 h9).2.2.2.2.2 h11).2.2 h14).2.1 h16))) (fun h17 => (dj_and ((((h7.2 h9).2.2.2.2.2 h11).2.2 h14).2.2 h17).1 (dj_if (fun h19 => (dj_q_Mo_measure_238  (fun _ _ _ h21 => (ih _ _ _ h21)) kE kQ (((((h7.2 h9).2.2.2.2.2 h11).2.2 h14).2.2 h17).2.1 h19))) (fun h20 => (dj_q_Mo_measure_238  (fun _ _ _ h22 => (ih _ _ _ h22)) kE kQ (((((h7.2 h9).2.2.2.2.2 h11).2.2 h14).2.2 h17).2.2 h20))))))))))))))))))))))))))))
theorem dj_q_Mo_measure_98 {I : Type}  {E1 : Int32 → MW → Prop} {E3 : I → Int32 → MW → Prop} {Q1 : MW → Prop} {Q3 : I → MW → Prop}  (kE : ∀ x0 x1, E1 x0 x1 → ∃ i : I, E3 i x0 x1) (kQ : ∀ x0, Q1 x0 → ∃ i : I, Q3 i x0) : ∀ (m : Nat) (x98_2 : Int32) (x98_3 : Int32) (w : MW), q_Mo_measure_98 E1 Q1 m x98_2 x98_3 w → ∃ i : I, q_Mo_measure_98 (E3 i) (Q3 i) m x98_2 x98_3 w := by
  intro m
  induction m with
  | zero => exact fun _ _ _ h => False.elim h
  | succ m ih =>
    intro x98_2 x98_3 w h
    have h := Eq.mp (q_Mo_measure_98.eq_2 ..) h
    refine dj_eq (fun i => (q_Mo_measure_98.eq_2 ..)) ?_
    exact (dj_if (fun h1 => (kE _ _ (h.1 h1))) (fun h2 => (dj_q_Mo_measure_111  (fun _ _ h3 => (ih _ _ _ h3)) kQ _ _ _ _ (h.2 h2))))
theorem dj_q_Mo_measure_90 {I : Type}  {E1 : MW → Prop} {E3 : I → MW → Prop} {Q1 : MW → Prop} {Q3 : I → MW → Prop}  (kE : ∀ x0, E1 x0 → ∃ i : I, E3 i x0) (kQ : ∀ x0, Q1 x0 → ∃ i : I, Q3 i x0) : ∀ (m : Nat) (x90_2 : Int32) (w : MW), q_Mo_measure_90 E1 Q1 m x90_2 w → ∃ i : I, q_Mo_measure_90 (E3 i) (Q3 i) m x90_2 w := by
  intro m
  induction m with
  | zero => exact fun _ _ h => False.elim h
  | succ m ih =>
    intro x90_2 w h
    have h := Eq.mp (q_Mo_measure_90.eq_2 ..) h
    refine dj_eq (fun i => (q_Mo_measure_90.eq_2 ..)) ?_
    exact (dj_if (fun h1 => (kE _ (h.1 h1))) (fun h2 => (dj_q_Mo_measure_98  (fun _ _ h3 => (ih _ _ h3)) kQ _ _ _ _ (h.2 h2))))
theorem dj_p_Mo_measure {I : Type} {w : MW} {a0 : Int32} {Q1 : MW → Prop} {Q3 : I → MW → Prop}  (h : p_Mo_measure w a0 Q1) (kQ : ∀ x0, Q1 x0 → ∃ i : I, Q3 i x0) : ∃ i : I, p_Mo_measure w a0 (Q3 i) := by
  have h := Eq.mp (p_Mo_measure.eq_1 ..) h
  refine dj_eq (fun i => (p_Mo_measure.eq_1 ..)) ?_
  exact (dj_q_Mo_measure_2  (fun _ h1 => (dj_q_Mo_measure_90  (fun _ h2 => (kQ _ h2)) kQ _ _ _ h1)) kQ _ _ _ h)
theorem ex_p_Mo_measure {w : MW} {a0 : Int32} {Q : MW → Prop} (h : p_Mo_measure w a0 Q) : ∃ w1 : MW, Q w1 ∧ p_Mo_measure w a0 (fun u => u = w1) := by
  obtain ⟨i, hi⟩ := dj_p_Mo_measure (I := {x : MW // Q x}) (Q3 := fun i u => u = i.1) h (fun u q => ⟨⟨u, q⟩, rfl⟩)
  exact ⟨i.1, i.2, hi⟩
theorem dj_q_Mo_find_140 {I : Type} {x102_1 : Int32} {y140_3 : Int32} {y140_4 : Int32} {ys140_0 : Int32} {w : MW} {A1 : Int32 → Int32 → MW → Prop} {A3 : I → Int32 → Int32 → MW → Prop} {E1 : Int32 → MW → Prop} {E3 : I → Int32 → MW → Prop} {Q1 : Int32 → MW → Prop} {Q3 : I → Int32 → MW → Prop}  (kA : ∀ x0 x1 x2, A1 x0 x1 x2 → ∃ i : I, A3 i x0 x1 x2) (kE : ∀ x0 x1, E1 x0 x1 → ∃ i : I, E3 i x0 x1) (kQ : ∀ x0 x1, Q1 x0 x1 → ∃ i : I, Q3 i x0 x1) (h : q_Mo_find_140 x102_1 y140_3 y140_4 ys140_0 w A1 E1 Q1) : ∃ i : I, q_Mo_find_140 x102_1 y140_3 y140_4 ys140_0 w (A3 i) (E3 i) (Q3 i) := by
  have h := Eq.mp (q_Mo_find_140.eq_1 ..) h
  refine dj_eq (fun i => (q_Mo_find_140.eq_1 ..)) ?_
  exact (dj_if (fun h1 => (kA _ _ _ (h.1 h1))) (fun h2 => (dj_if (fun h3 => (kA _ _ _ ((h.2 h2).1 h3))) (fun h4 => (dj_and ((h.2 h2).2 h4).1 (dj_and ((h.2 h2).2 h4).2.1 (dj_if (fun h5 => (kA _ _ _ (((h.2 h2).2 h4).2.2.1 h5))) (fun h6 => (dj_and (((h.2 h2).2 h4).2.2.2 h6).1 (dj_and (((h.2 h2).2 h4).2.2.2 h6).2.1 (dj_if (fun h7 => (kA _ _ _ ((((h.2 h2).2 h4).2.2.2 h6).2.2.1 h7))) (fun h8 => (dj_and ((((h.2 h2).2 h4).2.2.2 h6).2.2.2 h8).1 (dj_and ((((h.2 h2).2 h4).2.2.2 h6).2.2.2 h8).2.1 (dj_if (fun h9 => (kA _ _ _ (((((h.2 h2).2 h4).2.2.2 h6).2.2.2 h8).2.2.1 h9))) (fun h10 => (kA _ _ _ (((((h.2 h2).2 h4).2.2.2 h6).2.2.2 h8).2.2.2 h10))))))))))))))))))
theorem dj_q_Mo_find_102 {I : Type} {x102_1 : Int32} {E1 : Int32 → MW → Prop} {E3 : I → Int32 → MW → Prop} {Q1 : Int32 → MW → Prop} {Q3 : I → Int32 → MW → Prop}  (kE : ∀ x0 x1, E1 x0 x1 → ∃ i : I, E3 i x0 x1) (kQ : ∀ x0 x1, Q1 x0 x1 → ∃ i : I, Q3 i x0 x1) : ∀ (m : Nat) (x102_3 : Int32) (x102_4 : Int32) (w : MW), q_Mo_find_102 x102_1 E1 Q1 m x102_3 x102_4 w → ∃ i : I, q_Mo_find_102 x102_1 (E3 i) (Q3 i) m x102_3 x102_4 w := by
  intro m
  induction m with
  | zero => exact fun _ _ _ h => False.elim h
  | succ m ih =>
    intro x102_3 x102_4 w h
    have h := Eq.mp (q_Mo_find_102.eq_2 ..) h
    refine dj_eq (fun i => (q_Mo_find_102.eq_2 ..)) ?_
    exact (dj_if (fun h1 => (kE _ _ (h.1 h1))) (fun h2 => (dj_and (h.2 h2).1 (dj_if (fun h3 => (dj_q_Mo_find_140  (fun _ _ _ h5 => (ih _ _ _ h5)) kE kQ ((h.2 h2).2.1 h3))) (fun h4 => (dj_and ((h.2 h2).2.2 h4).1 (dj_if (fun h6 => (dj_q_Mo_find_140  (fun _ _ _ h8 => (ih _ _ _ h8)) kE kQ (((h.2 h2).2.2 h4).2.1 h6))) (fun h7 => (dj_q_Mo_find_140  (fun _ _ _ h9 => (ih _ _ _ h9)) kE kQ (((h.2 h2).2.2 h4).2.2 h7))))))))))
theorem dj_q_Mo_find_257 {I : Type} {x257_3 : Int32} {x257_4 : Int32} {E1 : Int32 → MW → Prop} {E3 : I → Int32 → MW → Prop} {Q1 : Int32 → MW → Prop} {Q3 : I → Int32 → MW → Prop}  (kE : ∀ x0 x1, E1 x0 x1 → ∃ i : I, E3 i x0 x1) (kQ : ∀ x0 x1, Q1 x0 x1 → ∃ i : I, Q3 i x0 x1) : ∀ (m : Nat) (x257_5 : Int32) (x257_6 : Int32) (w : MW), q_Mo_find_257 x257_3 x257_4 E1 Q1 m x257_5 x257_6 w → ∃ i : I, q_Mo_find_257 x257_3 x257_4 (E3 i) (Q3 i) m x257_5 x257_6 w := by
  intro m
  induction m with
  | zero => exact fun _ _ _ h => False.elim h
  | succ m ih =>
    intro x257_5 x257_6 w h
    have h := Eq.mp (q_Mo_find_257.eq_2 ..) h
    refine dj_eq (fun i => (q_Mo_find_257.eq_2 ..)) ?_
    exact (dj_if (fun h1 => (kE _ _ (h.1 h1))) (fun h2 => (dj_if (fun h3 => (kE _ _ ((h.2 h2).1 h3))) (fun h4 => (dj_if (fun h5 => (kE _ _ (((h.2 h2).2 h4).1 h5))) (fun h6 => (dj_and (((h.2 h2).2 h4).2 h6).1 (dj_if (fun h7 => (ih _ _ _ ((((h.2 h2).2 h4).2 h6).2.1 h7))) (fun h8 => (dj_and ((((h.2 h2).2 h4).2 h6).2.2 h8).1 (dj_and ((((h.2 h2).2 h4).2 h6).2.2 h8).2.1 (dj_if (fun h9 => (ih _ _ _ (((((h.2 h2).2 h4).2 h6).2.2 h8).2.2.1 h9))) (fun h10 => (dj_p_Mo_needOf (((((h.2 h2).2 h4).2 h6).2.2 h8).2.2.2 h10) (fun _ _ h11 => (dj_if (fun h12 => (ih _ _ _ (h11.1 h12))) (fun h13 => (ih _ _ _ (h11.2 h13)))))))))))))))))))
theorem dj_q_Mo_find_209 {I : Type}  {E1 : MW → Prop} {E3 : I → MW → Prop} {Q1 : Int32 → MW → Prop} {Q3 : I → Int32 → MW → Prop}  (kE : ∀ x0, E1 x0 → ∃ i : I, E3 i x0) (kQ : ∀ x0 x1, Q1 x0 x1 → ∃ i : I, Q3 i x0 x1) : ∀ (m : Nat) (x209_3 : Int32) (w : MW), q_Mo_find_209 E1 Q1 m x209_3 w → ∃ i : I, q_Mo_find_209 (E3 i) (Q3 i) m x209_3 w := by
  intro m
  induction m with
  | zero => exact fun _ _ h => False.elim h
  | succ m ih =>
    intro x209_3 w h
    have h := Eq.mp (q_Mo_find_209.eq_2 ..) h
    refine dj_eq (fun i => (q_Mo_find_209.eq_2 ..)) ?_
    exact (dj_if (fun h1 => (kE _ (h.1 h1))) (fun h2 => (dj_and (h.2 h2).1 (dj_and (h.2 h2).2.1 (dj_and (h.2 h2).2.2.1 (dj_q_Mo_find_257  (fun _ _ h3 => (dj_if (fun h4 => (ih _ _ (h3.1 h4))) (fun h5 => (dj_and (h3.2 h5).1 (dj_p_Mo_needOf (h3.2 h5).2 (fun _ _ h6 => (dj_and h6.1 (ih _ _ h6.2)))))))) kQ _ _ _ _ (h.2 h2).2.2.2))))))
theorem dj_q_Mo_find_18 {I : Type} {x18_1 : Int32} {x18_2 : Int32} {x18_3 : Int32} {E1 : MW → Prop} {E3 : I → MW → Prop} {Q1 : Int32 → MW → Prop} {Q3 : I → Int32 → MW → Prop}  (kE : ∀ x0, E1 x0 → ∃ i : I, E3 i x0) (kQ : ∀ x0 x1, Q1 x0 x1 → ∃ i : I, Q3 i x0 x1) : ∀ (m : Nat) (x18_4 : Int32) (w : MW), q_Mo_find_18 x18_1 x18_2 x18_3 E1 Q1 m x18_4 w → ∃ i : I, q_Mo_find_18 x18_1 x18_2 x18_3 (E3 i) (Q3 i) m x18_4 w := by
  intro m
  induction m with
  | zero => exact fun _ _ h => False.elim h
  | succ m ih =>
    intro x18_4 w h
    have h := Eq.mp (q_Mo_find_18.eq_2 ..) h
    refine dj_eq (fun i => (q_Mo_find_18.eq_2 ..)) ?_
    exact (dj_and h.1 (dj_if (fun h1 => (kE _ (h.2.1 h1))) (fun h2 => (dj_and (h.2.2 h2).1 (ih _ _ (h.2.2 h2).2)))))
theorem dj_q_Mo_find_7 {I : Type} {x7_1 : Int32} {x7_2 : Int32} {E1 : MW → Prop} {E3 : I → MW → Prop} {Q1 : Int32 → MW → Prop} {Q3 : I → Int32 → MW → Prop}  (kE : ∀ x0, E1 x0 → ∃ i : I, E3 i x0) (kQ : ∀ x0 x1, Q1 x0 x1 → ∃ i : I, Q3 i x0 x1) : ∀ (m : Nat) (x7_3 : Int32) (w : MW), q_Mo_find_7 x7_1 x7_2 E1 Q1 m x7_3 w → ∃ i : I, q_Mo_find_7 x7_1 x7_2 (E3 i) (Q3 i) m x7_3 w := by
  intro m
  induction m with
  | zero => exact fun _ _ h => False.elim h
  | succ m ih =>
    intro x7_3 w h
    have h := Eq.mp (q_Mo_find_7.eq_2 ..) h
    refine dj_eq (fun i => (q_Mo_find_7.eq_2 ..)) ?_
    exact (dj_if (fun h1 => (kE _ (h.1 h1))) (fun h2 => (dj_q_Mo_find_18  (fun _ h3 => (ih _ _ h3)) kQ _ _ _ (h.2 h2))))
theorem dj_q_Mo_find_78 {I : Type} {x78_1 : Int32} {E1 : MW → Prop} {E3 : I → MW → Prop} {Q1 : Int32 → MW → Prop} {Q3 : I → Int32 → MW → Prop}  (kE : ∀ x0, E1 x0 → ∃ i : I, E3 i x0) (kQ : ∀ x0 x1, Q1 x0 x1 → ∃ i : I, Q3 i x0 x1) : ∀ (m : Nat) (x78_3 : Int32) (w : MW), q_Mo_find_78 x78_1 E1 Q1 m x78_3 w → ∃ i : I, q_Mo_find_78 x78_1 (E3 i) (Q3 i) m x78_3 w := by
  intro m
  induction m with
  | zero => exact fun _ _ h => False.elim h
  | succ m ih =>
    intro x78_3 w h
    have h := Eq.mp (q_Mo_find_78.eq_2 ..) h
    refine dj_eq (fun i => (q_Mo_find_78.eq_2 ..)) ?_
    exact (dj_if (fun h1 => (kE _ (h.1 h1))) (fun h2 => (dj_and (h.2 h2).1 (ih _ _ (h.2 h2).2))))
theorem dj_p_Mo_find {I : Type} {w : MW} {a0 : Int32} {b0 : Int32} {Q1 : Int32 → MW → Prop} {Q3 : I → Int32 → MW → Prop}  (h : p_Mo_find w a0 b0 Q1) (kQ : ∀ x0 x1, Q1 x0 x1 → ∃ i : I, Q3 i x0 x1) : ∃ i : I, p_Mo_find w a0 b0 (Q3 i) := by
  have h := Eq.mp (p_Mo_find.eq_1 ..) h
  refine dj_eq (fun i => (p_Mo_find.eq_1 ..)) ?_
  exact (dj_q_Mo_find_7  (fun _ h1 => (dj_p_Mo_measure h1 (fun _ h2 => (dj_q_Mo_find_78  (fun _ h3 => (dj_q_Mo_find_102  (fun _ _ h4 => (dj_q_Mo_find_209  (fun _ h5 => (dj_if (fun h6 => (kQ _ _ (h5.1 h6))) (fun h7 => (kQ _ _ (h5.2 h7))))) kQ _ _ _ h4)) kQ _ _ _ _ h3)) kQ _ _ _ h2)))) kQ _ _ _ h)
theorem ex_p_Mo_find {w : MW} {a0 : Int32} {b0 : Int32} {Q : Int32 → MW → Prop} (h : p_Mo_find w a0 b0 Q) : ∃ (r1 : Int32) (w1 : MW), Q r1 w1 ∧ p_Mo_find w a0 b0 (fun r u => r = r1 ∧ u = w1) := by
  obtain ⟨i, hi⟩ := dj_p_Mo_find (I := {x : Int32 × MW // Q x.1 x.2}) (Q3 := fun i r u => r = i.1.1 ∧ u = i.1.2) h (fun r u q => ⟨⟨(r, u), q⟩, rfl, rfl⟩)
  exact ⟨i.1.1, i.1.2, i.2, hi⟩
theorem dj_q_Mo_level_57 {I : Type} {x23_1 : Int32} {y57_3 : Int32} {ys57_0 : Int32} {w : MW} {A1 : Int32 → Int32 → MW → Prop} {A3 : I → Int32 → Int32 → MW → Prop} {E1 : MW → Prop} {E3 : I → MW → Prop} {Q1 : Int32 → MW → Prop} {Q3 : I → Int32 → MW → Prop}  (kA : ∀ x0 x1 x2, A1 x0 x1 x2 → ∃ i : I, A3 i x0 x1 x2) (kE : ∀ x0, E1 x0 → ∃ i : I, E3 i x0) (kQ : ∀ x0 x1, Q1 x0 x1 → ∃ i : I, Q3 i x0 x1) (h : q_Mo_level_57 x23_1 y57_3 ys57_0 w A1 E1 Q1) : ∃ i : I, q_Mo_level_57 x23_1 y57_3 ys57_0 w (A3 i) (E3 i) (Q3 i) := by
  have h := Eq.mp (q_Mo_level_57.eq_1 ..) h
  refine dj_eq (fun i => (q_Mo_level_57.eq_1 ..)) ?_
  exact (dj_if (fun h1 => (kA _ _ _ (h.1 h1))) (fun h2 => (dj_and (h.2 h2).1 (dj_if (fun h3 => (kA _ _ _ ((h.2 h2).2.1 h3))) (fun h4 => (kQ _ _ ((h.2 h2).2.2 h4)))))))
theorem dj_q_Mo_level_23 {I : Type} {x23_1 : Int32} {E1 : MW → Prop} {E3 : I → MW → Prop} {Q1 : Int32 → MW → Prop} {Q3 : I → Int32 → MW → Prop}  (kE : ∀ x0, E1 x0 → ∃ i : I, E3 i x0) (kQ : ∀ x0 x1, Q1 x0 x1 → ∃ i : I, Q3 i x0 x1) : ∀ (m : Nat) (x23_2 : Int32) (x23_3 : Int32) (w : MW), q_Mo_level_23 x23_1 E1 Q1 m x23_2 x23_3 w → ∃ i : I, q_Mo_level_23 x23_1 (E3 i) (Q3 i) m x23_2 x23_3 w := by
  intro m
  induction m with
  | zero => exact fun _ _ _ h => False.elim h
  | succ m ih =>
    intro x23_2 x23_3 w h
    have h := Eq.mp (q_Mo_level_23.eq_2 ..) h
    refine dj_eq (fun i => (q_Mo_level_23.eq_2 ..)) ?_
    exact (dj_if (fun h1 => (kE _ (h.1 h1))) (fun h2 => (dj_and (h.2 h2).1 (dj_if (fun h3 => (dj_q_Mo_level_57  (fun _ _ _ h5 => (ih _ _ _ h5)) kE kQ ((h.2 h2).2.1 h3))) (fun h4 => (dj_and ((h.2 h2).2.2 h4).1 (dj_q_Mo_level_57  (fun _ _ _ h6 => (ih _ _ _ h6)) kE kQ ((h.2 h2).2.2 h4).2)))))))
theorem dj_p_Mo_level {I : Type} {w : MW} {a0 : Int32} {Q1 : Int32 → MW → Prop} {Q3 : I → Int32 → MW → Prop}  (h : p_Mo_level w a0 Q1) (kQ : ∀ x0 x1, Q1 x0 x1 → ∃ i : I, Q3 i x0 x1) : ∃ i : I, p_Mo_level w a0 (Q3 i) := by
  have h := Eq.mp (p_Mo_level.eq_1 ..) h
  refine dj_eq (fun i => (p_Mo_level.eq_1 ..)) ?_
  exact (dj_p_Mo_liquidIn h (fun _ _ h1 => (dj_if (fun h2 => (kQ _ _ (h1.1 h2))) (fun h3 => (dj_and (h1.2 h3).1 (dj_if (fun h4 => (dj_q_Mo_level_23  (fun _ h6 => (kQ _ _ h6)) kQ _ _ _ _ ((h1.2 h3).2.1 h4))) (fun h5 => (kQ _ _ ((h1.2 h3).2.2 h5)))))))))
theorem ex_p_Mo_level {w : MW} {a0 : Int32} {Q : Int32 → MW → Prop} (h : p_Mo_level w a0 Q) : ∃ (r1 : Int32) (w1 : MW), Q r1 w1 ∧ p_Mo_level w a0 (fun r u => r = r1 ∧ u = w1) := by
  obtain ⟨i, hi⟩ := dj_p_Mo_level (I := {x : Int32 × MW // Q x.1 x.2}) (Q3 := fun i r u => r = i.1.1 ∧ u = i.1.2) h (fun r u q => ⟨⟨(r, u), q⟩, rfl, rfl⟩)
  exact ⟨i.1.1, i.1.2, i.2, hi⟩
theorem dj_q_Mo_mayCome_69 {I : Type} {y69_2 : Int32} {ys69_0 : Int32} {w : MW} {Q1 : Int32 → MW → Prop} {Q3 : I → Int32 → MW → Prop}  (kQ : ∀ x0 x1, Q1 x0 x1 → ∃ i : I, Q3 i x0 x1) (h : q_Mo_mayCome_69 y69_2 ys69_0 w Q1) : ∃ i : I, q_Mo_mayCome_69 y69_2 ys69_0 w (Q3 i) := by
  have h := Eq.mp (q_Mo_mayCome_69.eq_1 ..) h
  refine dj_eq (fun i => (q_Mo_mayCome_69.eq_1 ..)) ?_
  exact (dj_if (fun h1 => (kQ _ _ (h.1 h1))) (fun h2 => (dj_p_Mo_level (h.2 h2) (fun _ _ h3 => (dj_if (fun h4 => (kQ _ _ (h3.1 h4))) (fun h5 => (kQ _ _ (h3.2 h5))))))))
theorem dj_p_Mo_mayCome {I : Type} {w : MW} {a0 : Int32} {b0 : Int32} {Q1 : Int32 → MW → Prop} {Q3 : I → Int32 → MW → Prop}  (h : p_Mo_mayCome w a0 b0 Q1) (kQ : ∀ x0 x1, Q1 x0 x1 → ∃ i : I, Q3 i x0 x1) : ∃ i : I, p_Mo_mayCome w a0 b0 (Q3 i) := by
  have h := Eq.mp (p_Mo_mayCome.eq_1 ..) h
  refine dj_eq (fun i => (p_Mo_mayCome.eq_1 ..)) ?_
  exact (dj_p_Mo_liquidIn h (fun _ _ h1 => (dj_if (fun h2 => (dj_and (h1.1 h2).1 (dj_if (fun h4 => (dj_and ((h1.1 h2).2.1 h4).1 (dj_if (fun h6 => (dj_q_Mo_mayCome_69  kQ (((h1.1 h2).2.1 h4).2.1 h6))) (fun h7 => (dj_if (fun h8 => (dj_and ((((h1.1 h2).2.1 h4).2.2 h7).1 h8).1 (dj_and ((((h1.1 h2).2.1 h4).2.2 h7).1 h8).2.1 (dj_q_Mo_mayCome_69  kQ ((((h1.1 h2).2.1 h4).2.2 h7).1 h8).2.2)))) (fun h9 => (dj_q_Mo_mayCome_69  kQ ((((h1.1 h2).2.1 h4).2.2 h7).2 h9)))))))) (fun h5 => (kQ _ _ ((h1.1 h2).2.2 h5)))))) (fun h3 => (dj_if (fun h10 => (kQ _ _ ((h1.2 h3).1 h10))) (fun h11 => (kQ _ _ ((h1.2 h3).2 h11))))))))
theorem ex_p_Mo_mayCome {w : MW} {a0 : Int32} {b0 : Int32} {Q : Int32 → MW → Prop} (h : p_Mo_mayCome w a0 b0 Q) : ∃ (r1 : Int32) (w1 : MW), Q r1 w1 ∧ p_Mo_mayCome w a0 b0 (fun r u => r = r1 ∧ u = w1) := by
  obtain ⟨i, hi⟩ := dj_p_Mo_mayCome (I := {x : Int32 × MW // Q x.1 x.2}) (Q3 := fun i r u => r = i.1.1 ∧ u = i.1.2) h (fun r u q => ⟨⟨(r, u), q⟩, rfl, rfl⟩)
  exact ⟨i.1.1, i.1.2, i.2, hi⟩
theorem dj_q_Mo_openWay_2 {I : Type} {x2_1 : Int32} {x2_2 : Int32} {E1 : MW → Prop} {E3 : I → MW → Prop} {Q1 : Int32 → MW → Prop} {Q3 : I → Int32 → MW → Prop}  (kE : ∀ x0, E1 x0 → ∃ i : I, E3 i x0) (kQ : ∀ x0 x1, Q1 x0 x1 → ∃ i : I, Q3 i x0 x1) : ∀ (m : Nat) (x2_3 : Int32) (w : MW), q_Mo_openWay_2 x2_1 x2_2 E1 Q1 m x2_3 w → ∃ i : I, q_Mo_openWay_2 x2_1 x2_2 (E3 i) (Q3 i) m x2_3 w := by
  intro m
  induction m with
  | zero => exact fun _ _ h => False.elim h
  | succ m ih =>
    intro x2_3 w h
    have h := Eq.mp (q_Mo_openWay_2.eq_2 ..) h
    refine dj_eq (fun i => (q_Mo_openWay_2.eq_2 ..)) ?_
    exact (dj_if (fun h1 => (kE _ (h.1 h1))) (fun h2 => (dj_and (h.2 h2).1 (dj_if (fun h3 => (ih _ _ ((h.2 h2).2.1 h3))) (fun h4 => (dj_and ((h.2 h2).2.2 h4).1 (dj_if (fun h5 => (ih _ _ (((h.2 h2).2.2 h4).2.1 h5))) (fun h6 => (kQ _ _ (((h.2 h2).2.2 h4).2.2 h6))))))))))
theorem dj_p_Mo_openWay {I : Type} {w : MW} {a0 : Int32} {b0 : Int32} {Q1 : Int32 → MW → Prop} {Q3 : I → Int32 → MW → Prop}  (h : p_Mo_openWay w a0 b0 Q1) (kQ : ∀ x0 x1, Q1 x0 x1 → ∃ i : I, Q3 i x0 x1) : ∃ i : I, p_Mo_openWay w a0 b0 (Q3 i) := by
  have h := Eq.mp (p_Mo_openWay.eq_1 ..) h
  refine dj_eq (fun i => (p_Mo_openWay.eq_1 ..)) ?_
  exact (dj_q_Mo_openWay_2  (fun _ h1 => (kQ _ _ h1)) kQ _ _ _ h)
theorem ex_p_Mo_openWay {w : MW} {a0 : Int32} {b0 : Int32} {Q : Int32 → MW → Prop} (h : p_Mo_openWay w a0 b0 Q) : ∃ (r1 : Int32) (w1 : MW), Q r1 w1 ∧ p_Mo_openWay w a0 b0 (fun r u => r = r1 ∧ u = w1) := by
  obtain ⟨i, hi⟩ := dj_p_Mo_openWay (I := {x : Int32 × MW // Q x.1 x.2}) (Q3 := fun i r u => r = i.1.1 ∧ u = i.1.2) h (fun r u q => ⟨⟨(r, u), q⟩, rfl, rfl⟩)
  exact ⟨i.1.1, i.1.2, i.2, hi⟩
theorem dj_q_Mo_open_127 {I : Type} {x127_1 : Int32} {x127_2 : Int32} {x127_3 : Int32} {x127_4 : Int32} {E1 : MW → Prop} {E3 : I → MW → Prop} {Q1 : Int32 → MW → Prop} {Q3 : I → Int32 → MW → Prop}  (kE : ∀ x0, E1 x0 → ∃ i : I, E3 i x0) (kQ : ∀ x0 x1, Q1 x0 x1 → ∃ i : I, Q3 i x0 x1) : ∀ (m : Nat) (x127_6 : Int32) (w : MW), q_Mo_open_127 x127_1 x127_2 x127_3 x127_4 E1 Q1 m x127_6 w → ∃ i : I, q_Mo_open_127 x127_1 x127_2 x127_3 x127_4 (E3 i) (Q3 i) m x127_6 w := by
  intro m
  induction m with
  | zero => exact fun _ _ h => False.elim h
  | succ m ih =>
    intro x127_6 w h
    have h := Eq.mp (q_Mo_open_127.eq_2 ..) h
    refine dj_eq (fun i => (q_Mo_open_127.eq_2 ..)) ?_
    exact (dj_if (fun h1 => (kE _ (h.1 h1))) (fun h2 => (dj_and (h.2 h2).1 (dj_and (h.2 h2).2.1 (ih _ _ (h.2 h2).2.2)))))
theorem dj_q_Mo_open_166 {I : Type} {x166_1 : Int32} {x166_2 : Int32} {x166_3 : Int32} {x166_4 : Int32} {E1 : MW → Prop} {E3 : I → MW → Prop} {Q1 : Int32 → MW → Prop} {Q3 : I → Int32 → MW → Prop}  (kE : ∀ x0, E1 x0 → ∃ i : I, E3 i x0) (kQ : ∀ x0 x1, Q1 x0 x1 → ∃ i : I, Q3 i x0 x1) : ∀ (m : Nat) (x166_6 : Int32) (w : MW), q_Mo_open_166 x166_1 x166_2 x166_3 x166_4 E1 Q1 m x166_6 w → ∃ i : I, q_Mo_open_166 x166_1 x166_2 x166_3 x166_4 (E3 i) (Q3 i) m x166_6 w := by
  intro m
  induction m with
  | zero => exact fun _ _ h => False.elim h
  | succ m ih =>
    intro x166_6 w h
    have h := Eq.mp (q_Mo_open_166.eq_2 ..) h
    refine dj_eq (fun i => (q_Mo_open_166.eq_2 ..)) ?_
    exact (dj_if (fun h1 => (kE _ (h.1 h1))) (fun h2 => (dj_and (h.2 h2).1 (dj_and (h.2 h2).2.1 (dj_and (h.2 h2).2.2.1 (dj_if (fun h3 => (dj_and ((h.2 h2).2.2.2.1 h3).1 (dj_and ((h.2 h2).2.2.2.1 h3).2.1 (ih _ _ ((h.2 h2).2.2.2.1 h3).2.2)))) (fun h4 => (dj_and ((h.2 h2).2.2.2.2 h4).1 (dj_if (fun h5 => (dj_and (((h.2 h2).2.2.2.2 h4).2.1 h5).1 (dj_and (((h.2 h2).2.2.2.2 h4).2.1 h5).2.1 (ih _ _ (((h.2 h2).2.2.2.2 h4).2.1 h5).2.2)))) (fun h6 => (dj_and (((h.2 h2).2.2.2.2 h4).2.2 h6).1 (dj_and (((h.2 h2).2.2.2.2 h4).2.2 h6).2.1 (ih _ _ (((h.2 h2).2.2.2.2 h4).2.2 h6).2.2)))))))))))))
theorem dj_q_Mo_open_251 {I : Type}  {E1 : MW → Prop} {E3 : I → MW → Prop} {Q1 : Int32 → MW → Prop} {Q3 : I → Int32 → MW → Prop}  (kE : ∀ x0, E1 x0 → ∃ i : I, E3 i x0) (kQ : ∀ x0 x1, Q1 x0 x1 → ∃ i : I, Q3 i x0 x1) : ∀ (m : Nat) (x251_6 : Int32) (w : MW), q_Mo_open_251 E1 Q1 m x251_6 w → ∃ i : I, q_Mo_open_251 (E3 i) (Q3 i) m x251_6 w := by
  intro m
  induction m with
  | zero => exact fun _ _ h => False.elim h
  | succ m ih =>
    intro x251_6 w h
    have h := Eq.mp (q_Mo_open_251.eq_2 ..) h
    refine dj_eq (fun i => (q_Mo_open_251.eq_2 ..)) ?_
    exact (dj_if (fun h1 => (kE _ (h.1 h1))) (fun h2 => (dj_and (h.2 h2).1 (dj_and (h.2 h2).2.1 (ih _ _ (h.2 h2).2.2)))))
theorem dj_q_Mo_open_340 {I : Type}  {E1 : MW → Prop} {E3 : I → MW → Prop} {Q1 : Int32 → MW → Prop} {Q3 : I → Int32 → MW → Prop}  (kE : ∀ x0, E1 x0 → ∃ i : I, E3 i x0) (kQ : ∀ x0 x1, Q1 x0 x1 → ∃ i : I, Q3 i x0 x1) : ∀ (m : Nat) (x340_6 : Int32) (w : MW), q_Mo_open_340 E1 Q1 m x340_6 w → ∃ i : I, q_Mo_open_340 (E3 i) (Q3 i) m x340_6 w := by
  intro m
  induction m with
  | zero => exact fun _ _ h => False.elim h
  | succ m ih =>
    intro x340_6 w h
    have h := Eq.mp (q_Mo_open_340.eq_2 ..) h
    refine dj_eq (fun i => (q_Mo_open_340.eq_2 ..)) ?_
    exact (dj_if (fun h1 => (kE _ (h.1 h1))) (fun h2 => (dj_and (h.2 h2).1 (dj_and (h.2 h2).2.1 (ih _ _ (h.2 h2).2.2)))))
theorem dj_q_Mo_open_380 {I : Type}  {E1 : MW → Prop} {E3 : I → MW → Prop} {Q1 : Int32 → MW → Prop} {Q3 : I → Int32 → MW → Prop}  (kE : ∀ x0, E1 x0 → ∃ i : I, E3 i x0) (kQ : ∀ x0 x1, Q1 x0 x1 → ∃ i : I, Q3 i x0 x1) : ∀ (m : Nat) (x380_6 : Int32) (w : MW), q_Mo_open_380 E1 Q1 m x380_6 w → ∃ i : I, q_Mo_open_380 (E3 i) (Q3 i) m x380_6 w := by
  intro m
  induction m with
  | zero => exact fun _ _ h => False.elim h
  | succ m ih =>
    intro x380_6 w h
    have h := Eq.mp (q_Mo_open_380.eq_2 ..) h
    refine dj_eq (fun i => (q_Mo_open_380.eq_2 ..)) ?_
    exact (dj_if (fun h1 => (kE _ (h.1 h1))) (fun h2 => (dj_if (fun h3 => (dj_and ((h.2 h2).1 h3).1 (ih _ _ ((h.2 h2).1 h3).2))) (fun h4 => (dj_and ((h.2 h2).2 h4).1 (dj_and ((h.2 h2).2 h4).2.1 (ih _ _ ((h.2 h2).2 h4).2.2)))))))
theorem dj_q_Mo_open_54 {I : Type} {x54_1 : Int32} {x54_2 : Int32} {x54_3 : Int32} {x54_4 : Int32} {E1 : Int32 → MW → Prop} {E3 : I → Int32 → MW → Prop} {Q1 : Int32 → MW → Prop} {Q3 : I → Int32 → MW → Prop}  (kE : ∀ x0 x1, E1 x0 x1 → ∃ i : I, E3 i x0 x1) (kQ : ∀ x0 x1, Q1 x0 x1 → ∃ i : I, Q3 i x0 x1) : ∀ (m : Nat) (x54_5 : Int32) (x54_6 : Int32) (w : MW), q_Mo_open_54 x54_1 x54_2 x54_3 x54_4 E1 Q1 m x54_5 x54_6 w → ∃ i : I, q_Mo_open_54 x54_1 x54_2 x54_3 x54_4 (E3 i) (Q3 i) m x54_5 x54_6 w := by
  intro m
  induction m with
  | zero => exact fun _ _ _ h => False.elim h
  | succ m ih =>
    intro x54_5 x54_6 w h
    have h := Eq.mp (q_Mo_open_54.eq_2 ..) h
    refine dj_eq (fun i => (q_Mo_open_54.eq_2 ..)) ?_
    exact (dj_if (fun h1 => (kE _ _ (h.1 h1))) (fun h2 => (dj_if (fun h3 => (ih _ _ _ ((h.2 h2).1 h3))) (fun h4 => (dj_and ((h.2 h2).2 h4).1 (dj_p_Mo_mayCome ((h.2 h2).2 h4).2 (fun _ _ h5 => (dj_if (fun h6 => (ih _ _ _ (h5.1 h6))) (fun h7 => (ih _ _ _ (h5.2 h7)))))))))))
theorem dj_p_Mo_open {I : Type} {w : MW} {a0 : Int32} {b0 : Int32} {c0 : Int32} {Q1 : Int32 → MW → Prop} {Q3 : I → Int32 → MW → Prop}  (h : p_Mo_open w a0 b0 c0 Q1) (kQ : ∀ x0 x1, Q1 x0 x1 → ∃ i : I, Q3 i x0 x1) : ∃ i : I, p_Mo_open w a0 b0 c0 (Q3 i) := by
  have h := Eq.mp (p_Mo_open.eq_1 ..) h
  refine dj_eq (fun i => (p_Mo_open.eq_1 ..)) ?_
  exact (dj_p_Mo_openWay h (fun _ _ h1 => (dj_if (fun h2 => (dj_and (h1.1 h2).1 (dj_if (fun h4 => (dj_p_Mo_find ((h1.1 h2).2.1 h4) (fun _ _ h6 => (dj_if (fun h7 => (dj_and (h6.1 h7).1 (dj_p_Mo_mayCome (h6.1 h7).2 (fun _ _ h9 => (dj_q_Mo_open_54  (fun _ _ h10 => (dj_if (fun h11 => (dj_p_Mo_look (h10.1 h11) (fun _ h13 => (dj_and h13.1 (dj_q_Mo_open_127  (fun _ h14 => (dj_q_Mo_open_166  (fun _ h15 => (dj_p_Mo_isSafe h15 (fun _ _ h16 => (dj_if (fun h17 => (dj_and (h16.1 h17).1 (dj_and (h16.1 h17).2.1 (dj_and (h16.1 h17).2.2.1 (dj_and (h16.1 h17).2.2.2.1 (dj_and (h16.1 h17).2.2.2.2.1 (dj_q_Mo_open_340  (fun _ h19 => (dj_q_Mo_open_380  (fun _ h20 => (kQ _ _ h20)) kQ _ _ _ h19)) kQ _ _ _ (h16.1 h17).2.2.2.2.2))))))) (fun h18 => (dj_q_Mo_open_251  (fun _ h21 => (kQ _ _ h21)) kQ _ _ _ (h16.2 h18))))))) kQ _ _ _ h14)) kQ _ _ _ h13.2))))) (fun h12 => (kQ _ _ (h10.2 h12))))) kQ _ _ _ _ h9))))) (fun h8 => (kQ _ _ (h6.2 h8))))))) (fun h5 => (kQ _ _ ((h1.1 h2).2.2 h5)))))) (fun h3 => (kQ _ _ (h1.2 h3))))))
theorem ex_p_Mo_open {w : MW} {a0 : Int32} {b0 : Int32} {c0 : Int32} {Q : Int32 → MW → Prop} (h : p_Mo_open w a0 b0 c0 Q) : ∃ (r1 : Int32) (w1 : MW), Q r1 w1 ∧ p_Mo_open w a0 b0 c0 (fun r u => r = r1 ∧ u = w1) := by
  obtain ⟨i, hi⟩ := dj_p_Mo_open (I := {x : Int32 × MW // Q x.1 x.2}) (Q3 := fun i r u => r = i.1.1 ∧ u = i.1.2) h (fun r u q => ⟨⟨(r, u), q⟩, rfl, rfl⟩)
  exact ⟨i.1.1, i.1.2, i.2, hi⟩
theorem dj_pb_Mr_value {I : Type} {r_Mr_value : MW → Int32 → (Int32 → MW → Prop) → Prop} {w : MW} {a0 : Int32} {Q1 : Int32 → MW → Prop} {Q3 : I → Int32 → MW → Prop} (ir_Mr_value : ∀ {z0 : MW} {z1 : Int32} {R1 : Int32 → MW → Prop} {R3 : I → Int32 → MW → Prop}, r_Mr_value z0 z1 R1 → (∀ y0 y1, R1 y0 y1 → ∃ i : I, R3 i y0 y1) → ∃ i : I, r_Mr_value z0 z1 (R3 i)) (h : pb_Mr_value r_Mr_value w a0 Q1) (kQ : ∀ x0 x1, Q1 x0 x1 → ∃ i : I, Q3 i x0 x1) : ∃ i : I, pb_Mr_value r_Mr_value w a0 (Q3 i) := by
  have h := Eq.mp (pb_Mr_value.eq_1 ..) h
  refine dj_eq (fun i => (pb_Mr_value.eq_1 ..)) ?_
  exact (dj_and h.1 (dj_if (fun h1 => (dj_and (h.2.1 h1).1 (ir_Mr_value (h.2.1 h1).2 (fun _ _ h3 => (dj_if (fun h4 => (kQ _ _ (h3.1 h4))) (fun h5 => (kQ _ _ (h3.2 h5)))))))) (fun h2 => (dj_if (fun h6 => (dj_and ((h.2.2 h2).1 h6).1 (ir_Mr_value ((h.2.2 h2).1 h6).2 (fun _ _ h8 => (dj_if (fun h9 => (kQ _ _ (h8.1 h9))) (fun h10 => (dj_and (h8.2 h10).1 (ir_Mr_value (h8.2 h10).2 (fun _ _ h11 => (dj_if (fun h12 => (kQ _ _ (h11.1 h12))) (fun h13 => (kQ _ _ (h11.2 h13))))))))))))) (fun h7 => (dj_if (fun h14 => (dj_and (((h.2.2 h2).2 h7).1 h14).1 (ir_Mr_value (((h.2.2 h2).2 h7).1 h14).2 (fun _ _ h16 => (dj_if (fun h17 => (kQ _ _ (h16.1 h17))) (fun h18 => (dj_and (h16.2 h18).1 (ir_Mr_value (h16.2 h18).2 (fun _ _ h19 => (dj_if (fun h20 => (kQ _ _ (h19.1 h20))) (fun h21 => (kQ _ _ (h19.2 h21))))))))))))) (fun h15 => (dj_and (((h.2.2 h2).2 h7).2 h15).1 (dj_if (fun h22 => (kQ _ _ ((((h.2.2 h2).2 h7).2 h15).2.1 h22))) (fun h23 => (kQ _ _ ((((h.2.2 h2).2 h7).2 h15).2.2 h23))))))))))))
theorem djg_Mr_value {I : Type} : ∀ n : Nat, (∀ (w : MW) (a0 : Int32) (R1 : Int32 → MW → Prop) (R3 : I → Int32 → MW → Prop), pn_Mr_value n w a0 R1 → (∀ y0 y1, R1 y0 y1 → ∃ i : I, R3 i y0 y1) → ∃ i : I, pn_Mr_value n w a0 (R3 i)) := by
  intro n
  induction n with
  | zero =>
    exact fun _ _ _ _ h _ => False.elim h
  | succ n ih =>
    have i_Mr_value := ih
    exact fun v0 v1 _ _ h k => by
      have h := Eq.mp (pe_Mr_value ..) h
      refine dj_eq (fun i => (pe_Mr_value ..)) ?_
      exact dj_pb_Mr_value (fun h k => i_Mr_value _ _ _ _ h k) h k
theorem dj_pn_Mr_value {I : Type} (n : Nat) {w : MW} {a0 : Int32} {Q1 : Int32 → MW → Prop} {Q3 : I → Int32 → MW → Prop} (h : pn_Mr_value n w a0 Q1) (kQ : ∀ x0 x1, Q1 x0 x1 → ∃ i : I, Q3 i x0 x1) : ∃ i : I, pn_Mr_value n w a0 (Q3 i) := (djg_Mr_value n) _ _ _ _ h kQ
theorem ex_pn_Mr_value (n : Nat) {w : MW} {a0 : Int32} {Q : Int32 → MW → Prop} (h : pn_Mr_value n w a0 Q) : ∃ (r1 : Int32) (w1 : MW), Q r1 w1 ∧ pn_Mr_value n w a0 (fun r u => r = r1 ∧ u = w1) := by
  obtain ⟨i, hi⟩ := dj_pn_Mr_value (I := {x : Int32 × MW // Q x.1 x.2}) (Q3 := fun i r u => r = i.1.1 ∧ u = i.1.2) n h (fun r u q => ⟨⟨(r, u), q⟩, rfl, rfl⟩)
  exact ⟨i.1.1, i.1.2, i.2, hi⟩
theorem dj_p_Mr_value {I : Type} {w : MW} {a0 : Int32} {Q1 : Int32 → MW → Prop} {Q3 : I → Int32 → MW → Prop} (h : p_Mr_value w a0 Q1) (kQ : ∀ x0 x1, Q1 x0 x1 → ∃ i : I, Q3 i x0 x1) : ∃ i : I, p_Mr_value w a0 (Q3 i) := dj_pn_Mr_value _ h kQ
theorem ex_p_Mr_value {w : MW} {a0 : Int32} {Q : Int32 → MW → Prop} (h : p_Mr_value w a0 Q) : ∃ (r1 : Int32) (w1 : MW), Q r1 w1 ∧ p_Mr_value w a0 (fun r u => r = r1 ∧ u = w1) := by
  obtain ⟨i, hi⟩ := dj_p_Mr_value (I := {x : Int32 × MW // Q x.1 x.2}) (Q3 := fun i r u => r = i.1.1 ∧ u = i.1.2) h (fun r u q => ⟨⟨(r, u), q⟩, rfl, rfl⟩)
  exact ⟨i.1.1, i.1.2, i.2, hi⟩
theorem dj_p_Mr_isOn {I : Type} {w : MW} {a0 : Int32} {Q1 : Int32 → MW → Prop} {Q3 : I → Int32 → MW → Prop}  (h : p_Mr_isOn w a0 Q1) (kQ : ∀ x0 x1, Q1 x0 x1 → ∃ i : I, Q3 i x0 x1) : ∃ i : I, p_Mr_isOn w a0 (Q3 i) := by
  have h := Eq.mp (p_Mr_isOn.eq_1 ..) h
  refine dj_eq (fun i => (p_Mr_isOn.eq_1 ..)) ?_
  exact (dj_and h.1 (dj_p_Mr_value h.2 (fun _ _ h1 => (kQ _ _ h1))))
theorem ex_p_Mr_isOn {w : MW} {a0 : Int32} {Q : Int32 → MW → Prop} (h : p_Mr_isOn w a0 Q) : ∃ (r1 : Int32) (w1 : MW), Q r1 w1 ∧ p_Mr_isOn w a0 (fun r u => r = r1 ∧ u = w1) := by
  obtain ⟨i, hi⟩ := dj_p_Mr_isOn (I := {x : Int32 × MW // Q x.1 x.2}) (Q3 := fun i r u => r = i.1.1 ∧ u = i.1.2) h (fun r u q => ⟨⟨(r, u), q⟩, rfl, rfl⟩)
  exact ⟨i.1.1, i.1.2, i.2, hi⟩
theorem dj_q_Mr_hasAct_16 {I : Type} {x16_2 : Int32} {x16_3 : Int32} {E1 : Int32 → MW → Prop} {E3 : I → Int32 → MW → Prop} {Q1 : Int32 → MW → Prop} {Q3 : I → Int32 → MW → Prop}  (kE : ∀ x0 x1, E1 x0 x1 → ∃ i : I, E3 i x0 x1) (kQ : ∀ x0 x1, Q1 x0 x1 → ∃ i : I, Q3 i x0 x1) : ∀ (m : Nat) (x16_4 : Int32) (x16_5 : Int32) (w : MW), q_Mr_hasAct_16 x16_2 x16_3 E1 Q1 m x16_4 x16_5 w → ∃ i : I, q_Mr_hasAct_16 x16_2 x16_3 (E3 i) (Q3 i) m x16_4 x16_5 w := by
  intro m
  induction m with
  | zero => exact fun _ _ _ h => False.elim h
  | succ m ih =>
    intro x16_4 x16_5 w h
    have h := Eq.mp (q_Mr_hasAct_16.eq_2 ..) h
    refine dj_eq (fun i => (q_Mr_hasAct_16.eq_2 ..)) ?_
    exact (dj_and h.1 (dj_if (fun h1 => (kE _ _ (h.2.1 h1))) (fun h2 => (dj_if (fun h3 => (ih _ _ _ ((h.2.2 h2).1 h3))) (fun h4 => (dj_and ((h.2.2 h2).2 h4).1 (dj_if (fun h5 => (ih _ _ _ (((h.2.2 h2).2 h4).2.1 h5))) (fun h6 => (ih _ _ _ (((h.2.2 h2).2 h4).2.2 h6))))))))))
theorem dj_p_Mr_hasAct {I : Type} {w : MW} {a0 : Int32} {b0 : Int32} {Q1 : Int32 → MW → Prop} {Q3 : I → Int32 → MW → Prop}  (h : p_Mr_hasAct w a0 b0 Q1) (kQ : ∀ x0 x1, Q1 x0 x1 → ∃ i : I, Q3 i x0 x1) : ∃ i : I, p_Mr_hasAct w a0 b0 (Q3 i) := by
  have h := Eq.mp (p_Mr_hasAct.eq_1 ..) h
  refine dj_eq (fun i => (p_Mr_hasAct.eq_1 ..)) ?_
  exact (dj_q_Mr_hasAct_16  (fun _ _ h1 => (dj_and h1.1 (kQ _ _ h1.2))) kQ _ _ _ _ h)
theorem ex_p_Mr_hasAct {w : MW} {a0 : Int32} {b0 : Int32} {Q : Int32 → MW → Prop} (h : p_Mr_hasAct w a0 b0 Q) : ∃ (r1 : Int32) (w1 : MW), Q r1 w1 ∧ p_Mr_hasAct w a0 b0 (fun r u => r = r1 ∧ u = w1) := by
  obtain ⟨i, hi⟩ := dj_p_Mr_hasAct (I := {x : Int32 × MW // Q x.1 x.2}) (Q3 := fun i r u => r = i.1.1 ∧ u = i.1.2) h (fun r u q => ⟨⟨(r, u), q⟩, rfl, rfl⟩)
  exact ⟨i.1.1, i.1.2, i.2, hi⟩
theorem dj_q_Mr_act1_76 {I : Type} {x14_1 : Int32} {y76_2 : Int32} {ys76_0 : Int32} {w : MW} {A1 : Int32 → MW → Prop} {A3 : I → Int32 → MW → Prop} {E1 : MW → Prop} {E3 : I → MW → Prop} {Q1 : Int32 → MW → Prop} {Q3 : I → Int32 → MW → Prop}  (kA : ∀ x0 x1, A1 x0 x1 → ∃ i : I, A3 i x0 x1) (kE : ∀ x0, E1 x0 → ∃ i : I, E3 i x0) (kQ : ∀ x0 x1, Q1 x0 x1 → ∃ i : I, Q3 i x0 x1) (h : q_Mr_act1_76 x14_1 y76_2 ys76_0 w A1 E1 Q1) : ∃ i : I, q_Mr_act1_76 x14_1 y76_2 ys76_0 w (A3 i) (E3 i) (Q3 i) := by
  have h := Eq.mp (q_Mr_act1_76.eq_1 ..) h
  refine dj_eq (fun i => (q_Mr_act1_76.eq_1 ..)) ?_
  exact (dj_if (fun h1 => (kA _ _ (h.1 h1))) (fun h2 => (dj_p_Mr_hasAct (h.2 h2) (fun _ _ h3 => (dj_if (fun h4 => (kA _ _ (h3.1 h4))) (fun h5 => (kQ _ _ (h3.2 h5))))))))
theorem dj_q_Mr_act1_14 {I : Type} {x14_1 : Int32} {E1 : MW → Prop} {E3 : I → MW → Prop} {Q1 : Int32 → MW → Prop} {Q3 : I → Int32 → MW → Prop}  (kE : ∀ x0, E1 x0 → ∃ i : I, E3 i x0) (kQ : ∀ x0 x1, Q1 x0 x1 → ∃ i : I, Q3 i x0 x1) : ∀ (m : Nat) (x14_2 : Int32) (w : MW), q_Mr_act1_14 x14_1 E1 Q1 m x14_2 w → ∃ i : I, q_Mr_act1_14 x14_1 (E3 i) (Q3 i) m x14_2 w := by
  intro m
  induction m with
  | zero => exact fun _ _ h => False.elim h
  | succ m ih =>
    intro x14_2 w h
    have h := Eq.mp (q_Mr_act1_14.eq_2 ..) h
    refine dj_eq (fun i => (q_Mr_act1_14.eq_2 ..)) ?_
    exact (dj_if (fun h1 => (kE _ (h.1 h1))) (fun h2 => (dj_and (h.2 h2).1 (dj_if (fun h3 => (dj_q_Mr_act1_76  (fun _ _ h5 => (ih _ _ h5)) kE kQ ((h.2 h2).2.1 h3))) (fun h4 => (dj_and ((h.2 h2).2.2 h4).1 (dj_if (fun h6 => (dj_q_Mr_act1_76  (fun _ _ h8 => (ih _ _ h8)) kE kQ (((h.2 h2).2.2 h4).2.1 h6))) (fun h7 => (dj_p_Mr_isOn (((h.2 h2).2.2 h4).2.2 h7) (fun _ _ h9 => (dj_if (fun h10 => (dj_q_Mr_act1_76  (fun _ _ h12 => (ih _ _ h12)) kE kQ (h9.1 h10))) (fun h11 => (dj_and (h9.2 h11).1 (dj_and (h9.2 h11).2.1 (dj_if (fun h13 => (dj_q_Mr_act1_76  (fun _ _ h15 => (ih _ _ h15)) kE kQ ((h9.2 h11).2.2.1 h13))) (fun h14 => (dj_q_Mr_act1_76  (fun _ _ h16 => (ih _ _ h16)) kE kQ ((h9.2 h11).2.2.2 h14))))))))))))))))))
theorem dj_p_Mr_act1 {I : Type} {w : MW} {a0 : Int32} {Q1 : Int32 → MW → Prop} {Q3 : I → Int32 → MW → Prop}  (h : p_Mr_act1 w a0 Q1) (kQ : ∀ x0 x1, Q1 x0 x1 → ∃ i : I, Q3 i x0 x1) : ∃ i : I, p_Mr_act1 w a0 (Q3 i) := by
  have h := Eq.mp (p_Mr_act1.eq_1 ..) h
  refine dj_eq (fun i => (p_Mr_act1.eq_1 ..)) ?_
  exact (dj_if (fun h1 => (kQ _ _ (h.1 h1))) (fun h2 => (dj_if (fun h3 => (dj_q_Mr_act1_14  (fun _ h5 => (kQ _ _ h5)) kQ _ _ _ ((h.2 h2).1 h3))) (fun h4 => (kQ _ _ ((h.2 h2).2 h4))))))
theorem ex_p_Mr_act1 {w : MW} {a0 : Int32} {Q : Int32 → MW → Prop} (h : p_Mr_act1 w a0 Q) : ∃ (r1 : Int32) (w1 : MW), Q r1 w1 ∧ p_Mr_act1 w a0 (fun r u => r = r1 ∧ u = w1) := by
  obtain ⟨i, hi⟩ := dj_p_Mr_act1 (I := {x : Int32 × MW // Q x.1 x.2}) (Q3 := fun i r u => r = i.1.1 ∧ u = i.1.2) h (fun r u q => ⟨⟨(r, u), q⟩, rfl, rfl⟩)
  exact ⟨i.1.1, i.1.2, i.2, hi⟩
theorem dj_q_Mo_perform_296 {I : Type} {x296_2 : Int32} {E1 : MW → Prop} {E3 : I → MW → Prop} {Q1 : Int32 → MW → Prop} {Q3 : I → Int32 → MW → Prop}  (kE : ∀ x0, E1 x0 → ∃ i : I, E3 i x0) (kQ : ∀ x0 x1, Q1 x0 x1 → ∃ i : I, Q3 i x0 x1) : ∀ (m : Nat) (x296_6 : Int32) (w : MW), q_Mo_perform_296 x296_2 E1 Q1 m x296_6 w → ∃ i : I, q_Mo_perform_296 x296_2 (E3 i) (Q3 i) m x296_6 w := by
  intro m
  induction m with
  | zero => exact fun _ _ h => False.elim h
  | succ m ih =>
    intro x296_6 w h
    have h := Eq.mp (q_Mo_perform_296.eq_2 ..) h
    refine dj_eq (fun i => (q_Mo_perform_296.eq_2 ..)) ?_
    exact (dj_if (fun h1 => (kE _ (h.1 h1))) (fun h2 => (dj_and (h.2 h2).1 (ih _ _ (h.2 h2).2))))
theorem dj_q_Mo_perform_245 {I : Type} {y245_2 : Int32} {y245_3 : Int32} {y245_4 : Int32} {w : MW} {Q1 : Int32 → MW → Prop} {Q3 : I → Int32 → MW → Prop}  (kQ : ∀ x0 x1, Q1 x0 x1 → ∃ i : I, Q3 i x0 x1) (h : q_Mo_perform_245 y245_2 y245_3 y245_4 w Q1) : ∃ i : I, q_Mo_perform_245 y245_2 y245_3 y245_4 w (Q3 i) := by
  have h := Eq.mp (q_Mo_perform_245.eq_1 ..) h
  refine dj_eq (fun i => (q_Mo_perform_245.eq_1 ..)) ?_
  exact (dj_if (fun h1 => (dj_if (fun h3 => (dj_q_Mo_perform_296  (fun _ h5 => (kQ _ _ h5)) kQ _ _ _ ((h.1 h1).1 h3))) (fun h4 => (dj_and ((h.1 h1).2 h4).1 (dj_and ((h.1 h1).2 h4).2.1 (kQ _ _ ((h.1 h1).2 h4).2.2)))))) (fun h2 => (dj_and (h.2 h2).1 (kQ _ _ (h.2 h2).2))))
theorem dj_q_Mo_perform_95 {I : Type} {y95_1 : Int32} {y95_2 : Int32} {y95_3 : Int32} {y95_4 : Int32} {ys95_0 : Int32} {w : MW} {Q1 : Int32 → MW → Prop} {Q3 : I → Int32 → MW → Prop}  (kQ : ∀ x0 x1, Q1 x0 x1 → ∃ i : I, Q3 i x0 x1) (h : q_Mo_perform_95 y95_1 y95_2 y95_3 y95_4 ys95_0 w Q1) : ∃ i : I, q_Mo_perform_95 y95_1 y95_2 y95_3 y95_4 ys95_0 w (Q3 i) := by
  have h := Eq.mp (q_Mo_perform_95.eq_1 ..) h
  refine dj_eq (fun i => (q_Mo_perform_95.eq_1 ..)) ?_
  exact (dj_if (fun h1 => (dj_p_Mr_act1 (h.1 h1) (fun _ _ h3 => (dj_if (fun h4 => (dj_if (fun h6 => (dj_if (fun h8 => (dj_if (fun h10 => (dj_p_Mo_isOnWay ((((h3.1 h4).1 h6).1 h8).1 h10) (fun _ _ h12 => (dj_if (fun h13 => (kQ _ _ (h12.1 h13))) (fun h14 => (dj_if (fun h15 => (dj_q_Mo_perform_245  kQ ((h12.2 h14).1 h15))) (fun h16 => (dj_p_Mo_liquidIn ((h12.2 h14).2 h16) (fun _ _ h17 => (dj_if (fun h18 => (dj_q_Mo_perform_245  kQ (h17.1 h18))) (fun h19 => (kQ _ _ (h17.2 h19))))))))))))) (fun h11 => (dj_p_Mo_held ((((h3.1 h4).1 h6).1 h8).2 h11) (fun _ _ h20 => (dj_if (fun h21 => (dj_and (h20.1 h21).1 (dj_and (h20.1 h21).2.1 (dj_p_Mo_look (h20.1 h21).2.2 (fun _ h23 => (dj_p_Mo_isSafe h23 (fun _ _ h24 => (dj_if (fun h25 => (kQ _ _ (h24.1 h25))) (fun h26 => (dj_and (h24.2 h26).1 (kQ _ _ (h24.2 h26).2))))))))))) (fun h22 => (kQ _ _ (h20.2 h22))))))))) (fun h9 => (dj_p_Mo_openWay (((h3.1 h4).1 h6).2 h9) (fun _ _ h27 => (dj_if (fun h28 => (dj_p_Mo_close (h27.1 h28) (fun _ h30 => (kQ _ _ h30)))) (fun h29 => (kQ _ _ (h27.2 h29))))))))) (fun h7 => (dj_and ((h3.1 h4).2 h7).1 (dj_p_Mo_open ((h3.1 h4).2 h7).2 (fun _ _ h31 => (kQ _ _ h31))))))) (fun h5 => (kQ _ _ (h3.2 h5))))))) (fun h2 => (kQ _ _ (h.2 h2))))
theorem dj_q_Mo_perform_33 {I : Type} {y33_1 : Int32} {y33_2 : Int32} {y33_3 : Int32} {y33_4 : Int32} {w : MW} {Q1 : Int32 → MW → Prop} {Q3 : I → Int32 → MW → Prop}  (kQ : ∀ x0 x1, Q1 x0 x1 → ∃ i : I, Q3 i x0 x1) (h : q_Mo_perform_33 y33_1 y33_2 y33_3 y33_4 w Q1) : ∃ i : I, q_Mo_perform_33 y33_1 y33_2 y33_3 y33_4 w (Q3 i) := by
  have h := Eq.mp (q_Mo_perform_33.eq_1 ..) h
  refine dj_eq (fun i => (q_Mo_perform_33.eq_1 ..)) ?_
  exact (dj_p_Mo_isTank h (fun _ _ h1 => (dj_if (fun h2 => (dj_q_Mo_perform_95  kQ (h1.1 h2))) (fun h3 => (dj_p_Mo_isTank (h1.2 h3) (fun _ _ h4 => (dj_if (fun h5 => (dj_q_Mo_perform_95  kQ (h4.1 h5))) (fun h6 => (dj_if (fun h7 => (dj_q_Mo_perform_95  kQ ((h4.2 h6).1 h7))) (fun h8 => (dj_q_Mo_perform_95  kQ ((h4.2 h6).2 h8))))))))))))
theorem dj_p_Mo_perform {I : Type} {w : MW} {a0 : Int32} {Q1 : Int32 → MW → Prop} {Q3 : I → Int32 → MW → Prop}  (h : p_Mo_perform w a0 Q1) (kQ : ∀ x0 x1, Q1 x0 x1 → ∃ i : I, Q3 i x0 x1) : ∃ i : I, p_Mo_perform w a0 (Q3 i) := by
  have h := Eq.mp (p_Mo_perform.eq_1 ..) h
  refine dj_eq (fun i => (p_Mo_perform.eq_1 ..)) ?_
  exact (dj_and h.1 (dj_and h.2.1 (dj_and h.2.2.1 (dj_if (fun h1 => (dj_q_Mo_perform_33  kQ (h.2.2.2.1 h1))) (fun h2 => (dj_if (fun h3 => (dj_if (fun h5 => (dj_if (fun h7 => (dj_q_Mo_perform_95  kQ ((((h.2.2.2.2 h2).1 h3).1 h5).1 h7))) (fun h8 => (dj_p_Mo_holdsLiquid ((((h.2.2.2.2 h2).1 h3).1 h5).2 h8) (fun _ _ h9 => (dj_if (fun h10 => (dj_q_Mo_perform_95  kQ (h9.1 h10))) (fun h11 => (dj_q_Mo_perform_95  kQ (h9.2 h11))))))))) (fun h6 => (dj_p_Mo_isValve (((h.2.2.2.2 h2).1 h3).2 h6) (fun _ _ h12 => (dj_q_Mo_perform_95  kQ h12)))))) (fun h4 => (dj_q_Mo_perform_33  kQ ((h.2.2.2.2 h2).2 h4)))))))))
theorem ex_p_Mo_perform {w : MW} {a0 : Int32} {Q : Int32 → MW → Prop} (h : p_Mo_perform w a0 Q) : ∃ (r1 : Int32) (w1 : MW), Q r1 w1 ∧ p_Mo_perform w a0 (fun r u => r = r1 ∧ u = w1) := by
  obtain ⟨i, hi⟩ := dj_p_Mo_perform (I := {x : Int32 × MW // Q x.1 x.2}) (Q3 := fun i r u => r = i.1.1 ∧ u = i.1.2) h (fun r u q => ⟨⟨(r, u), q⟩, rfl, rfl⟩)
  exact ⟨i.1.1, i.1.2, i.2, hi⟩
theorem dj_q_Wa_closeAll_7 {I : Type}  {E1 : MW → Prop} {E3 : I → MW → Prop} {Q1 : MW → Prop} {Q3 : I → MW → Prop}  (kE : ∀ x0, E1 x0 → ∃ i : I, E3 i x0) (kQ : ∀ x0, Q1 x0 → ∃ i : I, Q3 i x0) : ∀ (m : Nat) (x7_1 : Int32) (w : MW), q_Wa_closeAll_7 E1 Q1 m x7_1 w → ∃ i : I, q_Wa_closeAll_7 (E3 i) (Q3 i) m x7_1 w := by
  intro m
  induction m with
  | zero => exact fun _ _ h => False.elim h
  | succ m ih =>
    intro x7_1 w h
    have h := Eq.mp (q_Wa_closeAll_7.eq_2 ..) h
    refine dj_eq (fun i => (q_Wa_closeAll_7.eq_2 ..)) ?_
    exact (dj_if (fun h1 => (kE _ (h.1 h1))) (fun h2 => (dj_p_Wa_remove (h.2 h2) (fun _ h3 => (ih _ _ h3)))))
theorem dj_p_Wa_closeAll {I : Type} {w : MW} {Q1 : MW → Prop} {Q3 : I → MW → Prop}  (h : p_Wa_closeAll w Q1) (kQ : ∀ x0, Q1 x0 → ∃ i : I, Q3 i x0) : ∃ i : I, p_Wa_closeAll w (Q3 i) := by
  have h := Eq.mp (p_Wa_closeAll.eq_1 ..) h
  refine dj_eq (fun i => (p_Wa_closeAll.eq_1 ..)) ?_
  exact (dj_q_Wa_closeAll_7  (fun _ h1 => (kQ _ h1)) kQ _ _ _ h)
theorem ex_p_Wa_closeAll {w : MW} {Q : MW → Prop} (h : p_Wa_closeAll w Q) : ∃ w1 : MW, Q w1 ∧ p_Wa_closeAll w (fun u => u = w1) := by
  obtain ⟨i, hi⟩ := dj_p_Wa_closeAll (I := {x : MW // Q x}) (Q3 := fun i u => u = i.1) h (fun u q => ⟨⟨u, q⟩, rfl⟩)
  exact ⟨i.1, i.2, hi⟩
theorem dj_q_Mo_closeAll_0 {I : Type}  {E1 : MW → Prop} {E3 : I → MW → Prop} {Q1 : MW → Prop} {Q3 : I → MW → Prop}  (kE : ∀ x0, E1 x0 → ∃ i : I, E3 i x0) (kQ : ∀ x0, Q1 x0 → ∃ i : I, Q3 i x0) : ∀ (m : Nat) (w : MW), q_Mo_closeAll_0 E1 Q1 m w → ∃ i : I, q_Mo_closeAll_0 (E3 i) (Q3 i) m w := by
  intro m
  induction m with
  | zero => exact fun _ h => False.elim h
  | succ m ih =>
    intro w h
    have h := Eq.mp (q_Mo_closeAll_0.eq_2 ..) h
    refine dj_eq (fun i => (q_Mo_closeAll_0.eq_2 ..)) ?_
    exact (dj_if (fun h1 => (kE _ (h.1 h1))) (fun h2 => (dj_p_Mo_close (h.2 h2) (fun _ h3 => (ih _ h3)))))
theorem dj_p_Mo_closeAll {I : Type} {w : MW} {Q1 : MW → Prop} {Q3 : I → MW → Prop}  (h : p_Mo_closeAll w Q1) (kQ : ∀ x0, Q1 x0 → ∃ i : I, Q3 i x0) : ∃ i : I, p_Mo_closeAll w (Q3 i) := by
  have h := Eq.mp (p_Mo_closeAll.eq_1 ..) h
  refine dj_eq (fun i => (p_Mo_closeAll.eq_1 ..)) ?_
  exact (dj_q_Mo_closeAll_0  (fun _ h1 => (kQ _ h1)) kQ _ _ h)
theorem ex_p_Mo_closeAll {w : MW} {Q : MW → Prop} (h : p_Mo_closeAll w Q) : ∃ w1 : MW, Q w1 ∧ p_Mo_closeAll w (fun u => u = w1) := by
  obtain ⟨i, hi⟩ := dj_p_Mo_closeAll (I := {x : MW // Q x}) (Q3 := fun i u => u = i.1) h (fun u q => ⟨⟨u, q⟩, rfl⟩)
  exact ⟨i.1, i.2, hi⟩
theorem dj_p_St_isFull {I : Type} {w : MW} {a0 : Int32} {b0 : Int32} {Q1 : Int32 → MW → Prop} {Q3 : I → Int32 → MW → Prop}  (h : p_St_isFull w a0 b0 Q1) (kQ : ∀ x0 x1, Q1 x0 x1 → ∃ i : I, Q3 i x0 x1) : ∃ i : I, p_St_isFull w a0 b0 (Q3 i) := by
  have h := Eq.mp (p_St_isFull.eq_1 ..) h
  refine dj_eq (fun i => (p_St_isFull.eq_1 ..)) ?_
  exact (dj_and h.1 (dj_if (fun h1 => (kQ _ _ (h.2.1 h1))) (fun h2 => (kQ _ _ (h.2.2 h2)))))
theorem ex_p_St_isFull {w : MW} {a0 : Int32} {b0 : Int32} {Q : Int32 → MW → Prop} (h : p_St_isFull w a0 b0 Q) : ∃ (r1 : Int32) (w1 : MW), Q r1 w1 ∧ p_St_isFull w a0 b0 (fun r u => r = r1 ∧ u = w1) := by
  obtain ⟨i, hi⟩ := dj_p_St_isFull (I := {x : Int32 × MW // Q x.1 x.2}) (Q3 := fun i r u => r = i.1.1 ∧ u = i.1.2) h (fun r u q => ⟨⟨(r, u), q⟩, rfl, rfl⟩)
  exact ⟨i.1.1, i.1.2, i.2, hi⟩
theorem dj_p_St_leavingCell {I : Type} {w : MW} {a0 : Int32} {b0 : Int32} {Q1 : Int32 → MW → Prop} {Q3 : I → Int32 → MW → Prop}  (h : p_St_leavingCell w a0 b0 Q1) (kQ : ∀ x0 x1, Q1 x0 x1 → ∃ i : I, Q3 i x0 x1) : ∃ i : I, p_St_leavingCell w a0 b0 (Q3 i) := by
  have h := Eq.mp (p_St_leavingCell.eq_1 ..) h
  refine dj_eq (fun i => (p_St_leavingCell.eq_1 ..)) ?_
  exact (dj_and h.1 (dj_and h.2.1 (dj_if (fun h1 => (dj_and (h.2.2.1 h1).1 (kQ _ _ (h.2.2.1 h1).2))) (fun h2 => (dj_if (fun h3 => (dj_and ((h.2.2.2 h2).1 h3).1 (kQ _ _ ((h.2.2.2 h2).1 h3).2))) (fun h4 => (dj_and ((h.2.2.2 h2).2 h4).1 (dj_and ((h.2.2.2 h2).2 h4).2.1 (kQ _ _ ((h.2.2.2 h2).2 h4).2.2)))))))))
theorem ex_p_St_leavingCell {w : MW} {a0 : Int32} {b0 : Int32} {Q : Int32 → MW → Prop} (h : p_St_leavingCell w a0 b0 Q) : ∃ (r1 : Int32) (w1 : MW), Q r1 w1 ∧ p_St_leavingCell w a0 b0 (fun r u => r = r1 ∧ u = w1) := by
  obtain ⟨i, hi⟩ := dj_p_St_leavingCell (I := {x : Int32 × MW // Q x.1 x.2}) (Q3 := fun i r u => r = i.1.1 ∧ u = i.1.2) h (fun r u q => ⟨⟨(r, u), q⟩, rfl, rfl⟩)
  exact ⟨i.1.1, i.1.2, i.2, hi⟩
theorem dj_p_St_wouldLeave {I : Type} {w : MW} {a0 : Int32} {b0 : Int32} {Q1 : Int32 → MW → Prop} {Q3 : I → Int32 → MW → Prop}  (h : p_St_wouldLeave w a0 b0 Q1) (kQ : ∀ x0 x1, Q1 x0 x1 → ∃ i : I, Q3 i x0 x1) : ∃ i : I, p_St_wouldLeave w a0 b0 (Q3 i) := by
  have h := Eq.mp (p_St_wouldLeave.eq_1 ..) h
  refine dj_eq (fun i => (p_St_wouldLeave.eq_1 ..)) ?_
  exact (dj_p_St_leavingCell h (fun _ _ h1 => (dj_p_St_isFull h1 (fun _ _ h2 => (kQ _ _ h2)))))
theorem ex_p_St_wouldLeave {w : MW} {a0 : Int32} {b0 : Int32} {Q : Int32 → MW → Prop} (h : p_St_wouldLeave w a0 b0 Q) : ∃ (r1 : Int32) (w1 : MW), Q r1 w1 ∧ p_St_wouldLeave w a0 b0 (fun r u => r = r1 ∧ u = w1) := by
  obtain ⟨i, hi⟩ := dj_p_St_wouldLeave (I := {x : Int32 × MW // Q x.1 x.2}) (Q3 := fun i r u => r = i.1.1 ∧ u = i.1.2) h (fun r u q => ⟨⟨(r, u), q⟩, rfl, rfl⟩)
  exact ⟨i.1.1, i.1.2, i.2, hi⟩
theorem dj_p_Wa_goesForth {I : Type} {w : MW} {a0 : Int32} {Q1 : Int32 → MW → Prop} {Q3 : I → Int32 → MW → Prop}  (h : p_Wa_goesForth w a0 Q1) (kQ : ∀ x0 x1, Q1 x0 x1 → ∃ i : I, Q3 i x0 x1) : ∃ i : I, p_Wa_goesForth w a0 (Q3 i) := by
  have h := Eq.mp (p_Wa_goesForth.eq_1 ..) h
  refine dj_eq (fun i => (p_Wa_goesForth.eq_1 ..)) ?_
  exact (dj_and h.1 (dj_if (fun h1 => (kQ _ _ (h.2.1 h1))) (fun h2 => (kQ _ _ (h.2.2 h2)))))
theorem ex_p_Wa_goesForth {w : MW} {a0 : Int32} {Q : Int32 → MW → Prop} (h : p_Wa_goesForth w a0 Q) : ∃ (r1 : Int32) (w1 : MW), Q r1 w1 ∧ p_Wa_goesForth w a0 (fun r u => r = r1 ∧ u = w1) := by
  obtain ⟨i, hi⟩ := dj_p_Wa_goesForth (I := {x : Int32 × MW // Q x.1 x.2}) (Q3 := fun i r u => r = i.1.1 ∧ u = i.1.2) h (fun r u q => ⟨⟨(r, u), q⟩, rfl, rfl⟩)
  exact ⟨i.1.1, i.1.2, i.2, hi⟩
theorem dj_q_St_arrive_14 {I : Type} {y14_1 : Int32} {y14_2 : Int32} {y14_3 : Int32} {w : MW} {Q1 : MW → Prop} {Q3 : I → MW → Prop}  (kQ : ∀ x0, Q1 x0 → ∃ i : I, Q3 i x0) (h : q_St_arrive_14 y14_1 y14_2 y14_3 w Q1) : ∃ i : I, q_St_arrive_14 y14_1 y14_2 y14_3 w (Q3 i) := by
  have h := Eq.mp (q_St_arrive_14.eq_1 ..) h
  refine dj_eq (fun i => (q_St_arrive_14.eq_1 ..)) ?_
  exact (dj_and h.1 (dj_and h.2.1 (dj_and h.2.2.1 (kQ _ h.2.2.2))))
theorem dj_p_St_arrive {I : Type} {w : MW} {a0 : Int32} {b0 : Int32} {c0 : Int32} {Q1 : MW → Prop} {Q3 : I → MW → Prop}  (h : p_St_arrive w a0 b0 c0 Q1) (kQ : ∀ x0, Q1 x0 → ∃ i : I, Q3 i x0) : ∃ i : I, p_St_arrive w a0 b0 c0 (Q3 i) := by
  have h := Eq.mp (p_St_arrive.eq_1 ..) h
  refine dj_eq (fun i => (p_St_arrive.eq_1 ..)) ?_
  exact (dj_and h.1 (dj_if (fun h1 => (dj_q_St_arrive_14  kQ (h.2.1 h1))) (fun h2 => (dj_p_St_forgetCleanings (h.2.2 h2) (fun _ h3 => (dj_q_St_arrive_14  kQ h3))))))
theorem ex_p_St_arrive {w : MW} {a0 : Int32} {b0 : Int32} {c0 : Int32} {Q : MW → Prop} (h : p_St_arrive w a0 b0 c0 Q) : ∃ w1 : MW, Q w1 ∧ p_St_arrive w a0 b0 c0 (fun u => u = w1) := by
  obtain ⟨i, hi⟩ := dj_p_St_arrive (I := {x : MW // Q x}) (Q3 := fun i u => u = i.1) h (fun u q => ⟨⟨u, q⟩, rfl⟩)
  exact ⟨i.1, i.2, hi⟩
theorem dj_q_St_push_138 {I : Type} {y138_1 : Int32} {y138_7 : Int32} {w : MW} {Q1 : Int32 → MW → Prop} {Q3 : I → Int32 → MW → Prop}  (kQ : ∀ x0 x1, Q1 x0 x1 → ∃ i : I, Q3 i x0 x1) (h : q_St_push_138 y138_1 y138_7 w Q1) : ∃ i : I, q_St_push_138 y138_1 y138_7 w (Q3 i) := by
  have h := Eq.mp (q_St_push_138.eq_1 ..) h
  refine dj_eq (fun i => (q_St_push_138.eq_1 ..)) ?_
  exact (dj_if (fun h1 => (dj_and (h.1 h1).1 (kQ _ _ (h.1 h1).2))) (fun h2 => (dj_and (h.2 h2).1 (dj_p_St_leave (h.2 h2).2 (fun _ h3 => (dj_and h3.1 (kQ _ _ h3.2)))))))
theorem dj_q_St_push_117 {I : Type} {y117_1 : Int32} {y117_3 : Int32} {y117_4 : Int32} {y117_7 : Int32} {ys117_0 : Int32} {ys117_1 : Int32} {w : MW} {Q1 : Int32 → MW → Prop} {Q3 : I → Int32 → MW → Prop}  (kQ : ∀ x0 x1, Q1 x0 x1 → ∃ i : I, Q3 i x0 x1) (h : q_St_push_117 y117_1 y117_3 y117_4 y117_7 ys117_0 ys117_1 w Q1) : ∃ i : I, q_St_push_117 y117_1 y117_3 y117_4 y117_7 ys117_0 ys117_1 w (Q3 i) := by
  have h := Eq.mp (q_St_push_117.eq_1 ..) h
  refine dj_eq (fun i => (q_St_push_117.eq_1 ..)) ?_
  exact (dj_and h.1 (dj_if (fun h1 => (dj_q_St_push_138  kQ (h.2.1 h1))) (fun h2 => (dj_and (h.2.2 h2).1 (dj_p_St_arrive (h.2.2 h2).2 (fun _ h3 => (dj_q_St_push_138  kQ h3)))))))
theorem dj_q_St_push_85 {I : Type} {y85_1 : Int32} {y85_2 : Int32} {y85_3 : Int32} {y85_4 : Int32} {y85_5 : Int32} {y85_6 : Int32} {y85_7 : Int32} {ys85_0 : Int64} {ys85_1 : Int32} {w : MW} {Q1 : Int32 → MW → Prop} {Q3 : I → Int32 → MW → Prop}  (kQ : ∀ x0 x1, Q1 x0 x1 → ∃ i : I, Q3 i x0 x1) (h : q_St_push_85 y85_1 y85_2 y85_3 y85_4 y85_5 y85_6 y85_7 ys85_0 ys85_1 w Q1) : ∃ i : I, q_St_push_85 y85_1 y85_2 y85_3 y85_4 y85_5 y85_6 y85_7 ys85_0 ys85_1 w (Q3 i) := by
  have h := Eq.mp (q_St_push_85.eq_1 ..) h
  refine dj_eq (fun i => (q_St_push_85.eq_1 ..)) ?_
  exact (dj_and h.1 (dj_if (fun h1 => (dj_if (fun h3 => (dj_q_St_push_117  kQ ((h.2.1 h1).1 h3))) (fun h4 => (dj_q_St_push_117  kQ ((h.2.1 h1).2 h4))))) (fun h2 => (dj_q_St_push_117  kQ (h.2.2 h2)))))
theorem dj_p_St_push {I : Type} {w : MW} {a0 : Int32} {b0 : Int32} {c0 : Int32} {e0 : Int32} {Q1 : Int32 → MW → Prop} {Q3 : I → Int32 → MW → Prop}  (h : p_St_push w a0 b0 c0 e0 Q1) (kQ : ∀ x0 x1, Q1 x0 x1 → ∃ i : I, Q3 i x0 x1) : ∃ i : I, p_St_push w a0 b0 c0 e0 (Q3 i) := by
  have h := Eq.mp (p_St_push.eq_1 ..) h
  refine dj_eq (fun i => (p_St_push.eq_1 ..)) ?_
  exact (dj_and h.1 (dj_and h.2.1 (dj_p_St_leavingCell h.2.2 (fun _ _ h1 => (dj_p_St_isFull h1 (fun _ _ h2 => (dj_if (fun h3 => (dj_and (h2.1 h3).1 (dj_q_St_push_85  kQ (h2.1 h3).2))) (fun h4 => (dj_and (h2.2 h4).1 (dj_q_St_push_85  kQ (h2.2 h4).2))))))))))
theorem ex_p_St_push {w : MW} {a0 : Int32} {b0 : Int32} {c0 : Int32} {e0 : Int32} {Q : Int32 → MW → Prop} (h : p_St_push w a0 b0 c0 e0 Q) : ∃ (r1 : Int32) (w1 : MW), Q r1 w1 ∧ p_St_push w a0 b0 c0 e0 (fun r u => r = r1 ∧ u = w1) := by
  obtain ⟨i, hi⟩ := dj_p_St_push (I := {x : Int32 × MW // Q x.1 x.2}) (Q3 := fun i r u => r = i.1.1 ∧ u = i.1.2) h (fun r u q => ⟨⟨(r, u), q⟩, rfl, rfl⟩)
  exact ⟨i.1.1, i.1.2, i.2, hi⟩
theorem dj_q_Wa_movesLitre_126 {I : Type} {x126_1 : Int32} {x126_2 : Int32} {x126_3 : Int32} {E1 : Int32 → MW → Prop} {E3 : I → Int32 → MW → Prop} {Q1 : Int32 → MW → Prop} {Q3 : I → Int32 → MW → Prop}  (kE : ∀ x0 x1, E1 x0 x1 → ∃ i : I, E3 i x0 x1) (kQ : ∀ x0 x1, Q1 x0 x1 → ∃ i : I, Q3 i x0 x1) : ∀ (m : Nat) (x126_4 : Int32) (x126_5 : Int32) (x126_6 : Int32) (w : MW), q_Wa_movesLitre_126 x126_1 x126_2 x126_3 E1 Q1 m x126_4 x126_5 x126_6 w → ∃ i : I, q_Wa_movesLitre_126 x126_1 x126_2 x126_3 (E3 i) (Q3 i) m x126_4 x126_5 x126_6 w := by
  intro m
  induction m with
  | zero => exact fun _ _ _ _ h => False.elim h
  | succ m ih =>
    intro x126_4 x126_5 x126_6 w h
    have h := Eq.mp (q_Wa_movesLitre_126.eq_2 ..) h
    refine dj_eq (fun i => (q_Wa_movesLitre_126.eq_2 ..)) ?_
    exact (dj_and h.1 (dj_if (fun h1 => (kE _ _ (h.2.1 h1))) (fun h2 => (dj_if (fun h3 => (kE _ _ ((h.2.2 h2).1 h3))) (fun h4 => (dj_p_Wa_goesForth ((h.2.2 h2).2 h4) (fun _ _ h5 => (dj_p_St_push h5 (fun _ _ h6 => (dj_and h6.1 (ih _ _ _ _ h6.2)))))))))))
theorem dj_q_Wa_movesLitre_98 {I : Type} {y98_1 : Int32} {y98_2 : Int32} {y98_3 : Int32} {w : MW} {Q1 : Int32 → MW → Prop} {Q3 : I → Int32 → MW → Prop}  (kQ : ∀ x0 x1, Q1 x0 x1 → ∃ i : I, Q3 i x0 x1) (h : q_Wa_movesLitre_98 y98_1 y98_2 y98_3 w Q1) : ∃ i : I, q_Wa_movesLitre_98 y98_1 y98_2 y98_3 w (Q3 i) := by
  have h := Eq.mp (q_Wa_movesLitre_98.eq_1 ..) h
  refine dj_eq (fun i => (q_Wa_movesLitre_98.eq_1 ..)) ?_
  exact (dj_and h.1 (dj_p_St_leave h.2 (fun _ h1 => (dj_and h1.1 (dj_q_Wa_movesLitre_126  (fun _ _ h2 => (dj_if (fun h3 => (kQ _ _ (h2.1 h3))) (fun h4 => (dj_p_St_arrive (h2.2 h4) (fun _ h5 => (kQ _ _ h5)))))) kQ _ _ _ _ _ h1.2)))))
theorem dj_p_Wa_movesLitre {I : Type} {w : MW} {a0 : Int32} {Q1 : Int32 → MW → Prop} {Q3 : I → Int32 → MW → Prop}  (h : p_Wa_movesLitre w a0 Q1) (kQ : ∀ x0 x1, Q1 x0 x1 → ∃ i : I, Q3 i x0 x1) : ∃ i : I, p_Wa_movesLitre w a0 (Q3 i) := by
  have h := Eq.mp (p_Wa_movesLitre.eq_1 ..) h
  refine dj_eq (fun i => (p_Wa_movesLitre.eq_1 ..)) ?_
  exact (dj_and h.1 (dj_and h.2.1 (dj_and h.2.2.1 (dj_and h.2.2.2.1 (dj_if (fun h1 => (dj_and (h.2.2.2.2.1 h1).1 (dj_and (h.2.2.2.2.1 h1).2.1 (dj_p_Wa_goesForth (h.2.2.2.2.1 h1).2.2 (fun _ _ h3 => (dj_p_St_wouldLeave h3 (fun _ _ h4 => (dj_if (fun h5 => (dj_q_Wa_movesLitre_98  kQ (h4.1 h5))) (fun h6 => (dj_and (h4.2 h6).1 (dj_and (h4.2 h6).2.1 (dj_and (h4.2 h6).2.2.1 (dj_if (fun h7 => (kQ _ _ ((h4.2 h6).2.2.2.1 h7))) (fun h8 => (dj_p_St_mayCome ((h4.2 h6).2.2.2.2 h8) (fun _ _ h9 => (dj_if (fun h10 => (dj_q_Wa_movesLitre_98  kQ (h9.1 h10))) (fun h11 => (kQ _ _ (h9.2 h11)))))))))))))))))))) (fun h2 => (kQ _ _ (h.2.2.2.2.2 h2))))))))
theorem ex_p_Wa_movesLitre {w : MW} {a0 : Int32} {Q : Int32 → MW → Prop} (h : p_Wa_movesLitre w a0 Q) : ∃ (r1 : Int32) (w1 : MW), Q r1 w1 ∧ p_Wa_movesLitre w a0 (fun r u => r = r1 ∧ u = w1) := by
  obtain ⟨i, hi⟩ := dj_p_Wa_movesLitre (I := {x : Int32 × MW // Q x.1 x.2}) (Q3 := fun i r u => r = i.1.1 ∧ u = i.1.2) h (fun r u q => ⟨⟨(r, u), q⟩, rfl, rfl⟩)
  exact ⟨i.1.1, i.1.2, i.2, hi⟩
theorem dj_q_Wa_move_12 {I : Type} {x12_1 : Int32} {E1 : MW → Prop} {E3 : I → MW → Prop} {Q1 : MW → Prop} {Q3 : I → MW → Prop}  (kE : ∀ x0, E1 x0 → ∃ i : I, E3 i x0) (kQ : ∀ x0, Q1 x0 → ∃ i : I, Q3 i x0) : ∀ (m : Nat) (x12_2 : Int32) (w : MW), q_Wa_move_12 x12_1 E1 Q1 m x12_2 w → ∃ i : I, q_Wa_move_12 x12_1 (E3 i) (Q3 i) m x12_2 w := by
  intro m
  induction m with
  | zero => exact fun _ _ h => False.elim h
  | succ m ih =>
    intro x12_2 w h
    have h := Eq.mp (q_Wa_move_12.eq_2 ..) h
    refine dj_eq (fun i => (q_Wa_move_12.eq_2 ..)) ?_
    exact (dj_and h.1 (dj_if (fun h1 => (kE _ (h.2.1 h1))) (fun h2 => (dj_p_Wa_movesLitre (h.2.2 h2) (fun _ _ h3 => (dj_if (fun h4 => (kE _ (h3.1 h4))) (fun h5 => (ih _ _ (h3.2 h5)))))))))
theorem dj_q_Wa_move_2 {I : Type}  {E1 : MW → Prop} {E3 : I → MW → Prop} {Q1 : MW → Prop} {Q3 : I → MW → Prop}  (kE : ∀ x0, E1 x0 → ∃ i : I, E3 i x0) (kQ : ∀ x0, Q1 x0 → ∃ i : I, Q3 i x0) : ∀ (m : Nat) (x2_1 : Int32) (w : MW), q_Wa_move_2 E1 Q1 m x2_1 w → ∃ i : I, q_Wa_move_2 (E3 i) (Q3 i) m x2_1 w := by
  intro m
  induction m with
  | zero => exact fun _ _ h => False.elim h
  | succ m ih =>
    intro x2_1 w h
    have h := Eq.mp (q_Wa_move_2.eq_2 ..) h
    refine dj_eq (fun i => (q_Wa_move_2.eq_2 ..)) ?_
    exact (dj_if (fun h1 => (kE _ (h.1 h1))) (fun h2 => (dj_q_Wa_move_12  (fun _ h3 => (ih _ _ h3)) kQ _ _ _ (h.2 h2))))
theorem dj_p_Wa_move {I : Type} {w : MW} {Q1 : MW → Prop} {Q3 : I → MW → Prop}  (h : p_Wa_move w Q1) (kQ : ∀ x0, Q1 x0 → ∃ i : I, Q3 i x0) : ∃ i : I, p_Wa_move w (Q3 i) := by
  have h := Eq.mp (p_Wa_move.eq_1 ..) h
  refine dj_eq (fun i => (p_Wa_move.eq_1 ..)) ?_
  exact (dj_q_Wa_move_2  (fun _ h1 => (kQ _ h1)) kQ _ _ _ h)
theorem ex_p_Wa_move {w : MW} {Q : MW → Prop} (h : p_Wa_move w Q) : ∃ w1 : MW, Q w1 ∧ p_Wa_move w (fun u => u = w1) := by
  obtain ⟨i, hi⟩ := dj_p_Wa_move (I := {x : MW // Q x}) (Q3 := fun i u => u = i.1) h (fun u q => ⟨⟨u, q⟩, rfl⟩)
  exact ⟨i.1, i.2, hi⟩
theorem dj_p_Mo_come {I : Type} {w : MW} {a0 : Int32} {b0 : Int32} {Q1 : MW → Prop} {Q3 : I → MW → Prop}  (h : p_Mo_come w a0 b0 Q1) (kQ : ∀ x0, Q1 x0 → ∃ i : I, Q3 i x0) : ∃ i : I, p_Mo_come w a0 b0 (Q3 i) := by
  have h := Eq.mp (p_Mo_come.eq_1 ..) h
  refine dj_eq (fun i => (p_Mo_come.eq_1 ..)) ?_
  exact (dj_and h.1 (dj_if (fun h1 => (dj_and (h.2.1 h1).1 (dj_and (h.2.1 h1).2.1 (dj_and (h.2.1 h1).2.2.1 (kQ _ (h.2.1 h1).2.2.2))))) (fun h2 => (dj_and (h.2.2 h2).1 (dj_if (fun h3 => (dj_and ((h.2.2 h2).2.1 h3).1 (dj_and ((h.2.2 h2).2.1 h3).2.1 (dj_and ((h.2.2 h2).2.1 h3).2.2.1 (kQ _ ((h.2.2 h2).2.1 h3).2.2.2))))) (fun h4 => (dj_and ((h.2.2 h2).2.2 h4).1 (dj_and ((h.2.2 h2).2.2 h4).2.1 (dj_and ((h.2.2 h2).2.2 h4).2.2.1 (kQ _ ((h.2.2 h2).2.2 h4).2.2.2))))))))))
theorem ex_p_Mo_come {w : MW} {a0 : Int32} {b0 : Int32} {Q : MW → Prop} (h : p_Mo_come w a0 b0 Q) : ∃ w1 : MW, Q w1 ∧ p_Mo_come w a0 b0 (fun u => u = w1) := by
  obtain ⟨i, hi⟩ := dj_p_Mo_come (I := {x : MW // Q x}) (Q3 := fun i u => u = i.1) h (fun u q => ⟨⟨u, q⟩, rfl⟩)
  exact ⟨i.1, i.2, hi⟩
theorem dj_q_Mo_forget_2 {I : Type} {x2_1 : Int32} {E1 : MW → Prop} {E3 : I → MW → Prop} {Q1 : MW → Prop} {Q3 : I → MW → Prop}  (kE : ∀ x0, E1 x0 → ∃ i : I, E3 i x0) (kQ : ∀ x0, Q1 x0 → ∃ i : I, Q3 i x0) : ∀ (m : Nat) (x2_2 : Int32) (w : MW), q_Mo_forget_2 x2_1 E1 Q1 m x2_2 w → ∃ i : I, q_Mo_forget_2 x2_1 (E3 i) (Q3 i) m x2_2 w := by
  intro m
  induction m with
  | zero => exact fun _ _ h => False.elim h
  | succ m ih =>
    intro x2_2 w h
    have h := Eq.mp (q_Mo_forget_2.eq_2 ..) h
    refine dj_eq (fun i => (q_Mo_forget_2.eq_2 ..)) ?_
    exact (dj_if (fun h1 => (kE _ (h.1 h1))) (fun h2 => (dj_and (h.2 h2).1 (ih _ _ (h.2 h2).2))))
theorem dj_p_Mo_forget {I : Type} {w : MW} {a0 : Int32} {Q1 : MW → Prop} {Q3 : I → MW → Prop}  (h : p_Mo_forget w a0 Q1) (kQ : ∀ x0, Q1 x0 → ∃ i : I, Q3 i x0) : ∃ i : I, p_Mo_forget w a0 (Q3 i) := by
  have h := Eq.mp (p_Mo_forget.eq_1 ..) h
  refine dj_eq (fun i => (p_Mo_forget.eq_1 ..)) ?_
  exact (dj_q_Mo_forget_2  (fun _ h1 => (kQ _ h1)) kQ _ _ _ h)
theorem ex_p_Mo_forget {w : MW} {a0 : Int32} {Q : MW → Prop} (h : p_Mo_forget w a0 Q) : ∃ w1 : MW, Q w1 ∧ p_Mo_forget w a0 (fun u => u = w1) := by
  obtain ⟨i, hi⟩ := dj_p_Mo_forget (I := {x : MW // Q x}) (Q3 := fun i u => u = i.1) h (fun u q => ⟨⟨u, q⟩, rfl⟩)
  exact ⟨i.1, i.2, hi⟩
theorem dj_p_Mo_note {I : Type} {w : MW} {a0 : Int32} {Q1 : MW → Prop} {Q3 : I → MW → Prop}  (h : p_Mo_note w a0 Q1) (kQ : ∀ x0, Q1 x0 → ∃ i : I, Q3 i x0) : ∃ i : I, p_Mo_note w a0 (Q3 i) := by
  have h := Eq.mp (p_Mo_note.eq_1 ..) h
  refine dj_eq (fun i => (p_Mo_note.eq_1 ..)) ?_
  exact (dj_p_Mo_liquidIn h (fun _ _ h1 => (dj_if (fun h2 => (kQ _ (h1.1 h2))) (fun h3 => (dj_and (h1.2 h3).1 (dj_p_Mo_forget (h1.2 h3).2 (fun _ h4 => (kQ _ h4))))))))
theorem ex_p_Mo_note {w : MW} {a0 : Int32} {Q : MW → Prop} (h : p_Mo_note w a0 Q) : ∃ w1 : MW, Q w1 ∧ p_Mo_note w a0 (fun u => u = w1) := by
  obtain ⟨i, hi⟩ := dj_p_Mo_note (I := {x : MW // Q x}) (Q3 := fun i u => u = i.1) h (fun u q => ⟨⟨u, q⟩, rfl⟩)
  exact ⟨i.1, i.2, hi⟩
theorem dj_q_Mo_flow_235 {I : Type} {x130_1 : Int32} {x130_2 : Int32} {x130_3 : Int32} {x130_4 : Int32} {y235_5 : Int32} {y235_7 : Int32} {ys235_0 : Int32} {w : MW} {A1 : Int32 → Int32 → MW → Prop} {A3 : I → Int32 → Int32 → MW → Prop} {E1 : Int32 → MW → Prop} {E3 : I → Int32 → MW → Prop} {Q1 : MW → Prop} {Q3 : I → MW → Prop}  (kA : ∀ x0 x1 x2, A1 x0 x1 x2 → ∃ i : I, A3 i x0 x1 x2) (kE : ∀ x0 x1, E1 x0 x1 → ∃ i : I, E3 i x0 x1) (kQ : ∀ x0, Q1 x0 → ∃ i : I, Q3 i x0) (h : q_Mo_flow_235 x130_1 x130_2 x130_3 x130_4 y235_5 y235_7 ys235_0 w A1 E1 Q1) : ∃ i : I, q_Mo_flow_235 x130_1 x130_2 x130_3 x130_4 y235_5 y235_7 ys235_0 w (A3 i) (E3 i) (Q3 i) := by
  have h := Eq.mp (q_Mo_flow_235.eq_1 ..) h
  refine dj_eq (fun i => (q_Mo_flow_235.eq_1 ..)) ?_
  exact (dj_if (fun h1 => (kA _ _ _ (h.1 h1))) (fun h2 => (dj_and (h.2 h2).1 (dj_and (h.2 h2).2.1 (dj_if (fun h3 => (kA _ _ _ ((h.2 h2).2.2.1 h3))) (fun h4 => (dj_p_Mo_come ((h.2 h2).2.2.2 h4) (fun _ h5 => (dj_p_Mo_note h5 (fun _ h6 => (kA _ _ _ h6)))))))))))
theorem dj_q_Mo_flow_174 {I : Type} {x130_1 : Int32} {x130_2 : Int32} {x130_3 : Int32} {x130_4 : Int32} {y174_5 : Int32} {ys174_0 : Int32} {w : MW} {A1 : Int32 → Int32 → MW → Prop} {A3 : I → Int32 → Int32 → MW → Prop} {E1 : Int32 → MW → Prop} {E3 : I → Int32 → MW → Prop} {Q1 : MW → Prop} {Q3 : I → MW → Prop}  (kA : ∀ x0 x1 x2, A1 x0 x1 x2 → ∃ i : I, A3 i x0 x1 x2) (kE : ∀ x0 x1, E1 x0 x1 → ∃ i : I, E3 i x0 x1) (kQ : ∀ x0, Q1 x0 → ∃ i : I, Q3 i x0) (h : q_Mo_flow_174 x130_1 x130_2 x130_3 x130_4 y174_5 ys174_0 w A1 E1 Q1) : ∃ i : I, q_Mo_flow_174 x130_1 x130_2 x130_3 x130_4 y174_5 ys174_0 w (A3 i) (E3 i) (Q3 i) := by
  have h := Eq.mp (q_Mo_flow_174.eq_1 ..) h
  refine dj_eq (fun i => (q_Mo_flow_174.eq_1 ..)) ?_
  exact (dj_and h.1 (dj_if (fun h1 => (dj_q_Mo_flow_235  kA kE kQ (h.2.1 h1))) (fun h2 => (dj_and (h.2.2 h2).1 (dj_and (h.2.2 h2).2.1 (dj_if (fun h3 => (dj_q_Mo_flow_235  kA kE kQ ((h.2.2 h2).2.2.1 h3))) (fun h4 => (dj_if (fun h5 => (dj_q_Mo_flow_235  kA kE kQ (((h.2.2 h2).2.2.2 h4).1 h5))) (fun h6 => (dj_and (((h.2.2 h2).2.2.2 h4).2 h6).1 (dj_and (((h.2.2 h2).2.2.2 h4).2 h6).2.1 (dj_if (fun h7 => (dj_q_Mo_flow_235  kA kE kQ ((((h.2.2 h2).2.2.2 h4).2 h6).2.2.1 h7))) (fun h8 => (dj_p_Mo_mayCome ((((h.2.2 h2).2.2.2 h4).2 h6).2.2.2 h8) (fun _ _ h9 => (dj_if (fun h10 => (dj_q_Mo_flow_235  kA kE kQ (h9.1 h10))) (fun h11 => (dj_q_Mo_flow_235  kA kE kQ (h9.2 h11)))))))))))))))))))
theorem dj_q_Mo_flow_130 {I : Type} {x130_1 : Int32} {x130_2 : Int32} {x130_3 : Int32} {x130_4 : Int32} {E1 : Int32 → MW → Prop} {E3 : I → Int32 → MW → Prop} {Q1 : MW → Prop} {Q3 : I → MW → Prop}  (kE : ∀ x0 x1, E1 x0 x1 → ∃ i : I, E3 i x0 x1) (kQ : ∀ x0, Q1 x0 → ∃ i : I, Q3 i x0) : ∀ (m : Nat) (x130_5 : Int32) (x130_6 : Int32) (w : MW), q_Mo_flow_130 x130_1 x130_2 x130_3 x130_4 E1 Q1 m x130_5 x130_6 w → ∃ i : I, q_Mo_flow_130 x130_1 x130_2 x130_3 x130_4 (E3 i) (Q3 i) m x130_5 x130_6 w := by
  intro m
  induction m with
  | zero => exact fun _ _ _ h => False.elim h
  | succ m ih =>
    intro x130_5 x130_6 w h
    have h := Eq.mp (q_Mo_flow_130.eq_2 ..) h
    refine dj_eq (fun i => (q_Mo_flow_130.eq_2 ..)) ?_
    exact (dj_if (fun h1 => (kE _ _ (h.1 h1))) (fun h2 => (dj_and (h.2 h2).1 (dj_if (fun h3 => (kE _ _ ((h.2 h2).2.1 h3))) (fun h4 => (dj_if (fun h5 => (dj_and (((h.2 h2).2.2 h4).1 h5).1 (dj_q_Mo_flow_174  (fun _ _ _ h7 => (ih _ _ _ h7)) kE kQ (((h.2 h2).2.2 h4).1 h5).2))) (fun h6 => (dj_and (((h.2 h2).2.2 h4).2 h6).1 (dj_q_Mo_flow_174  (fun _ _ _ h8 => (ih _ _ _ h8)) kE kQ (((h.2 h2).2.2 h4).2 h6).2)))))))))
theorem dj_q_Mo_flow_54 {I : Type} {x54_1 : Int32} {x54_2 : Int32} {x54_3 : Int32} {x54_5 : Int32} {x54_6 : Int32} {x54_7 : Int32} {E1 : Int32 → MW → Prop} {E3 : I → Int32 → MW → Prop} {Q1 : MW → Prop} {Q3 : I → MW → Prop}  (kE : ∀ x0 x1, E1 x0 x1 → ∃ i : I, E3 i x0 x1) (kQ : ∀ x0, Q1 x0 → ∃ i : I, Q3 i x0) : ∀ (m : Nat) (x54_4 : Int32) (x54_8 : Int32) (w : MW), q_Mo_flow_54 x54_1 x54_2 x54_3 x54_5 x54_6 x54_7 E1 Q1 m x54_4 x54_8 w → ∃ i : I, q_Mo_flow_54 x54_1 x54_2 x54_3 x54_5 x54_6 x54_7 (E3 i) (Q3 i) m x54_4 x54_8 w := by
  intro m
  induction m with
  | zero => exact fun _ _ _ h => False.elim h
  | succ m ih =>
    intro x54_4 x54_8 w h
    have h := Eq.mp (q_Mo_flow_54.eq_2 ..) h
    refine dj_eq (fun i => (q_Mo_flow_54.eq_2 ..)) ?_
    exact (dj_and h.1 (dj_if (fun h1 => (kE _ _ (h.2.1 h1))) (fun h2 => (dj_if (fun h3 => (dj_and ((h.2.2 h2).1 h3).1 (dj_and ((h.2.2 h2).1 h3).2.1 (dj_and ((h.2.2 h2).1 h3).2.2.1 (ih _ _ _ ((h.2.2 h2).1 h3).2.2.2))))) (fun h4 => (dj_and ((h.2.2 h2).2 h4).1 (dj_and ((h.2.2 h2).2 h4).2.1 (ih _ _ _ ((h.2.2 h2).2 h4).2.2))))))))
theorem dj_q_Mo_flow_20 {I : Type} {x20_1 : Int32} {x20_2 : Int32} {x20_3 : Int32} {E1 : Int32 → MW → Prop} {E3 : I → Int32 → MW → Prop} {Q1 : MW → Prop} {Q3 : I → MW → Prop}  (kE : ∀ x0 x1, E1 x0 x1 → ∃ i : I, E3 i x0 x1) (kQ : ∀ x0, Q1 x0 → ∃ i : I, Q3 i x0) : ∀ (m : Nat) (x20_4 : Int32) (x20_5 : Int32) (w : MW), q_Mo_flow_20 x20_1 x20_2 x20_3 E1 Q1 m x20_4 x20_5 w → ∃ i : I, q_Mo_flow_20 x20_1 x20_2 x20_3 (E3 i) (Q3 i) m x20_4 x20_5 w := by
  intro m
  induction m with
  | zero => exact fun _ _ _ h => False.elim h
  | succ m ih =>
    intro x20_4 x20_5 w h
    have h := Eq.mp (q_Mo_flow_20.eq_2 ..) h
    refine dj_eq (fun i => (q_Mo_flow_20.eq_2 ..)) ?_
    exact (dj_and h.1 (dj_if (fun h1 => (kE _ _ (h.2.1 h1))) (fun h2 => (dj_and (h.2.2 h2).1 (dj_q_Mo_flow_54  (fun _ _ h3 => (ih _ _ _ h3)) kQ _ _ _ _ (h.2.2 h2).2)))))
theorem dj_q_Mo_flow_318 {I : Type} {x318_1 : Int32} {x318_5 : Int32} {x318_7 : Int32} {x318_8 : Int32} {x318_9 : Int32} {x318_10 : Int32} {E1 : Int32 → MW → Prop} {E3 : I → Int32 → MW → Prop} {Q1 : MW → Prop} {Q3 : I → MW → Prop}  (kE : ∀ x0 x1, E1 x0 x1 → ∃ i : I, E3 i x0 x1) (kQ : ∀ x0, Q1 x0 → ∃ i : I, Q3 i x0) : ∀ (m : Nat) (x318_11 : Int32) (x318_12 : Int32) (w : MW), q_Mo_flow_318 x318_1 x318_5 x318_7 x318_8 x318_9 x318_10 E1 Q1 m x318_11 x318_12 w → ∃ i : I, q_Mo_flow_318 x318_1 x318_5 x318_7 x318_8 x318_9 x318_10 (E3 i) (Q3 i) m x318_11 x318_12 w := by
  intro m
  induction m with
  | zero => exact fun _ _ _ h => False.elim h
  | succ m ih =>
    intro x318_11 x318_12 w h
    have h := Eq.mp (q_Mo_flow_318.eq_2 ..) h
    refine dj_eq (fun i => (q_Mo_flow_318.eq_2 ..)) ?_
    exact (dj_if (fun h1 => (kE _ _ (h.1 h1))) (fun h2 => (dj_if (fun h3 => (kE _ _ ((h.2 h2).1 h3))) (fun h4 => (dj_if (fun h5 => (ih _ _ _ (((h.2 h2).2 h4).1 h5))) (fun h6 => (dj_and (((h.2 h2).2 h4).2 h6).1 (dj_if (fun h7 => (ih _ _ _ ((((h.2 h2).2 h4).2 h6).2.1 h7))) (fun h8 => (ih _ _ _ ((((h.2 h2).2 h4).2 h6).2.2 h8)))))))))))
theorem dj_q_Mo_flow_438 {I : Type} {x400_1 : Int32} {x400_5 : Int32} {y438_7 : Int32} {x400_8 : Int32} {x400_9 : Int32} {x400_10 : Int32} {y438_12 : Int32} {ys438_0 : Int32} {w : MW} {A1 : Int32 → Int32 → MW → Prop} {A3 : I → Int32 → Int32 → MW → Prop} {E1 : Int32 → MW → Prop} {E3 : I → Int32 → MW → Prop} {Q1 : MW → Prop} {Q3 : I → MW → Prop}  (kA : ∀ x0 x1 x2, A1 x0 x1 x2 → ∃ i : I, A3 i x0 x1 x2) (kE : ∀ x0 x1, E1 x0 x1 → ∃ i : I, E3 i x0 x1) (kQ : ∀ x0, Q1 x0 → ∃ i : I, Q3 i x0) (h : q_Mo_flow_438 x400_1 x400_5 y438_7 x400_8 x400_9 x400_10 y438_12 ys438_0 w A1 E1 Q1) : ∃ i : I, q_Mo_flow_438 x400_1 x400_5 y438_7 x400_8 x400_9 x400_10 y438_12 ys438_0 w (A3 i) (E3 i) (Q3 i) := by
  have h := Eq.mp (q_Mo_flow_438.eq_1 ..) h
  refine dj_eq (fun i => (q_Mo_flow_438.eq_1 ..)) ?_
  exact (dj_if (fun h1 => (dj_and (h.1 h1).1 (dj_and (h.1 h1).2.1 (kA _ _ _ (h.1 h1).2.2)))) (fun h2 => (dj_and (h.2 h2).1 (kA _ _ _ (h.2 h2).2))))
theorem dj_q_Mo_flow_400 {I : Type} {x400_1 : Int32} {x400_5 : Int32} {x400_8 : Int32} {x400_9 : Int32} {x400_10 : Int32} {E1 : Int32 → MW → Prop} {E3 : I → Int32 → MW → Prop} {Q1 : MW → Prop} {Q3 : I → MW → Prop}  (kE : ∀ x0 x1, E1 x0 x1 → ∃ i : I, E3 i x0 x1) (kQ : ∀ x0, Q1 x0 → ∃ i : I, Q3 i x0) : ∀ (m : Nat) (x400_7 : Int32) (x400_12 : Int32) (w : MW), q_Mo_flow_400 x400_1 x400_5 x400_8 x400_9 x400_10 E1 Q1 m x400_7 x400_12 w → ∃ i : I, q_Mo_flow_400 x400_1 x400_5 x400_8 x400_9 x400_10 (E3 i) (Q3 i) m x400_7 x400_12 w := by
  intro m
  induction m with
  | zero => exact fun _ _ _ h => False.elim h
  | succ m ih =>
    intro x400_7 x400_12 w h
    have h := Eq.mp (q_Mo_flow_400.eq_2 ..) h
    refine dj_eq (fun i => (q_Mo_flow_400.eq_2 ..)) ?_
    exact (dj_and h.1 (dj_if (fun h1 => (kE _ _ (h.2.1 h1))) (fun h2 => (dj_if (fun h3 => (dj_and ((h.2.2 h2).1 h3).1 (dj_q_Mo_flow_438  (fun _ _ _ h5 => (ih _ _ _ h5)) kE kQ ((h.2.2 h2).1 h3).2))) (fun h4 => (dj_and ((h.2.2 h2).2 h4).1 (dj_q_Mo_flow_438  (fun _ _ _ h6 => (ih _ _ _ h6)) kE kQ ((h.2.2 h2).2 h4).2)))))))
theorem dj_q_Mo_flow_281 {I : Type} {x281_1 : Int32} {x281_5 : Int32} {E1 : MW → Prop} {E3 : I → MW → Prop} {Q1 : MW → Prop} {Q3 : I → MW → Prop}  (kE : ∀ x0, E1 x0 → ∃ i : I, E3 i x0) (kQ : ∀ x0, Q1 x0 → ∃ i : I, Q3 i x0) : ∀ (m : Nat) (x281_7 : Int32) (x281_8 : Int32) (w : MW), q_Mo_flow_281 x281_1 x281_5 E1 Q1 m x281_7 x281_8 w → ∃ i : I, q_Mo_flow_281 x281_1 x281_5 (E3 i) (Q3 i) m x281_7 x281_8 w := by
  intro m
  induction m with
  | zero => exact fun _ _ _ h => False.elim h
  | succ m ih =>
    intro x281_7 x281_8 w h
    have h := Eq.mp (q_Mo_flow_281.eq_2 ..) h
    refine dj_eq (fun i => (q_Mo_flow_281.eq_2 ..)) ?_
    exact (dj_and h.1 (dj_if (fun h1 => (kE _ (h.2.1 h1))) (fun h2 => (dj_and (h.2.2 h2).1 (dj_q_Mo_flow_318  (fun _ _ h3 => (dj_if (fun h4 => (dj_q_Mo_flow_400  (fun _ _ h6 => (ih _ _ _ h6)) kQ _ _ _ _ (h3.1 h4))) (fun h5 => (dj_and (h3.2 h5).1 (dj_and (h3.2 h5).2.1 (dj_p_Mo_forget (h3.2 h5).2.2 (fun _ h7 => (dj_q_Mo_flow_400  (fun _ _ h8 => (ih _ _ _ h8)) kQ _ _ _ _ h7)))))))) kQ _ _ _ _ (h.2.2 h2).2)))))
theorem dj_p_Mo_flow {I : Type} {w : MW} {a0 : Int32} {Q1 : MW → Prop} {Q3 : I → MW → Prop}  (h : p_Mo_flow w a0 Q1) (kQ : ∀ x0, Q1 x0 → ∃ i : I, Q3 i x0) : ∃ i : I, p_Mo_flow w a0 (Q3 i) := by
  have h := Eq.mp (p_Mo_flow.eq_1 ..) h
  refine dj_eq (fun i => (p_Mo_flow.eq_1 ..)) ?_
  exact (dj_and h.1 (dj_and h.2.1 (dj_q_Mo_flow_20  (fun _ _ h1 => (dj_q_Mo_flow_130  (fun _ _ h2 => (dj_q_Mo_flow_281  (fun _ h3 => (kQ _ h3)) kQ _ _ _ _ h2)) kQ _ _ _ _ h1)) kQ _ _ _ _ h.2.2)))
theorem ex_p_Mo_flow {w : MW} {a0 : Int32} {Q : MW → Prop} (h : p_Mo_flow w a0 Q) : ∃ w1 : MW, Q w1 ∧ p_Mo_flow w a0 (fun u => u = w1) := by
  obtain ⟨i, hi⟩ := dj_p_Mo_flow (I := {x : MW // Q x}) (Q3 := fun i u => u = i.1) h (fun u q => ⟨⟨u, q⟩, rfl⟩)
  exact ⟨i.1, i.2, hi⟩
theorem dj_q_Mo_tick_67 {I : Type} {x67_1 : Int32} {x67_2 : Int32} {E1 : MW → Prop} {E3 : I → MW → Prop} {Q1 : Int32 → MW → Prop} {Q3 : I → Int32 → MW → Prop}  (kE : ∀ x0, E1 x0 → ∃ i : I, E3 i x0) (kQ : ∀ x0 x1, Q1 x0 x1 → ∃ i : I, Q3 i x0 x1) : ∀ (m : Nat) (x67_4 : Int32) (w : MW), q_Mo_tick_67 x67_1 x67_2 E1 Q1 m x67_4 w → ∃ i : I, q_Mo_tick_67 x67_1 x67_2 (E3 i) (Q3 i) m x67_4 w := by
  intro m
  induction m with
  | zero => exact fun _ _ h => False.elim h
  | succ m ih =>
    intro x67_4 w h
    have h := Eq.mp (q_Mo_tick_67.eq_2 ..) h
    refine dj_eq (fun i => (q_Mo_tick_67.eq_2 ..)) ?_
    exact (dj_if (fun h1 => (kE _ (h.1 h1))) (fun h2 => (dj_p_Mo_flow (h.2 h2) (fun _ h3 => (ih _ _ h3)))))
theorem dj_p_Bh_sensed {I : Type} {w : MW} {a0 : Int32} {b0 : Int32} {Q1 : Int64 → MW → Prop} {Q3 : I → Int64 → MW → Prop}  (h : p_Bh_sensed w a0 b0 Q1) (kQ : ∀ x0 x1, Q1 x0 x1 → ∃ i : I, Q3 i x0 x1) : ∃ i : I, p_Bh_sensed w a0 b0 (Q3 i) := by
  have h := Eq.mp (p_Bh_sensed.eq_1 ..) h
  refine dj_eq (fun i => (p_Bh_sensed.eq_1 ..)) ?_
  exact (dj_if (fun h1 => (dj_p_St_isTank (h.1 h1) (fun _ _ h3 => (dj_if (fun h4 => (kQ _ _ (h3.1 h4))) (fun h5 => (dj_and (h3.2 h5).1 (kQ _ _ (h3.2 h5).2))))))) (fun h2 => (dj_if (fun h6 => (dj_p_St_isHolder ((h.2 h2).1 h6) (fun _ _ h8 => (dj_if (fun h9 => (kQ _ _ (h8.1 h9))) (fun h10 => (dj_and (h8.2 h10).1 (kQ _ _ (h8.2 h10).2))))))) (fun h7 => (dj_if (fun h11 => (dj_p_St_isValve (((h.2 h2).2 h7).1 h11) (fun _ _ h13 => (dj_if (fun h14 => (kQ _ _ (h13.1 h14))) (fun h15 => (dj_and (h13.2 h15).1 (kQ _ _ (h13.2 h15).2))))))) (fun h12 => (dj_if (fun h16 => (kQ _ _ ((((h.2 h2).2 h7).2 h12).1 h16))) (fun h17 => (kQ _ _ ((((h.2 h2).2 h7).2 h12).2 h17))))))))))
theorem ex_p_Bh_sensed {w : MW} {a0 : Int32} {b0 : Int32} {Q : Int64 → MW → Prop} (h : p_Bh_sensed w a0 b0 Q) : ∃ (r1 : Int64) (w1 : MW), Q r1 w1 ∧ p_Bh_sensed w a0 b0 (fun r u => r = r1 ∧ u = w1) := by
  obtain ⟨i, hi⟩ := dj_p_Bh_sensed (I := {x : Int64 × MW // Q x.1 x.2}) (Q3 := fun i r u => r = i.1.1 ∧ u = i.1.2) h (fun r u q => ⟨⟨(r, u), q⟩, rfl, rfl⟩)
  exact ⟨i.1.1, i.1.2, i.2, hi⟩
theorem dj_p_Pr_isSignal {I : Type} {w : MW} {a0 : Int32} {Q1 : Int32 → MW → Prop} {Q3 : I → Int32 → MW → Prop}  (h : p_Pr_isSignal w a0 Q1) (kQ : ∀ x0 x1, Q1 x0 x1 → ∃ i : I, Q3 i x0 x1) : ∃ i : I, p_Pr_isSignal w a0 (Q3 i) := by
  have h := Eq.mp (p_Pr_isSignal.eq_1 ..) h
  refine dj_eq (fun i => (p_Pr_isSignal.eq_1 ..)) ?_
  exact (dj_if (fun h1 => (kQ _ _ (h.1 h1))) (fun h2 => (dj_if (fun h3 => (kQ _ _ ((h.2 h2).1 h3))) (fun h4 => (dj_and ((h.2 h2).2 h4).1 (dj_if (fun h5 => (kQ _ _ (((h.2 h2).2 h4).2.1 h5))) (fun h6 => (kQ _ _ (((h.2 h2).2 h4).2.2 h6)))))))))
theorem ex_p_Pr_isSignal {w : MW} {a0 : Int32} {Q : Int32 → MW → Prop} (h : p_Pr_isSignal w a0 Q) : ∃ (r1 : Int32) (w1 : MW), Q r1 w1 ∧ p_Pr_isSignal w a0 (fun r u => r = r1 ∧ u = w1) := by
  obtain ⟨i, hi⟩ := dj_p_Pr_isSignal (I := {x : Int32 × MW // Q x.1 x.2}) (Q3 := fun i r u => r = i.1.1 ∧ u = i.1.2) h (fun r u q => ⟨⟨(r, u), q⟩, rfl, rfl⟩)
  exact ⟨i.1.1, i.1.2, i.2, hi⟩
theorem dj_p_Pr_isSensed {I : Type} {w : MW} {a0 : Int32} {Q1 : Int32 → MW → Prop} {Q3 : I → Int32 → MW → Prop}  (h : p_Pr_isSensed w a0 Q1) (kQ : ∀ x0 x1, Q1 x0 x1 → ∃ i : I, Q3 i x0 x1) : ∃ i : I, p_Pr_isSensed w a0 (Q3 i) := by
  have h := Eq.mp (p_Pr_isSensed.eq_1 ..) h
  refine dj_eq (fun i => (p_Pr_isSensed.eq_1 ..)) ?_
  exact (dj_p_Pr_isSignal h (fun _ _ h1 => (dj_if (fun h2 => (kQ _ _ (h1.1 h2))) (fun h3 => (dj_and (h1.2 h3).1 (dj_if (fun h4 => (kQ _ _ ((h1.2 h3).2.1 h4))) (fun h5 => (kQ _ _ ((h1.2 h3).2.2 h5)))))))))
theorem ex_p_Pr_isSensed {w : MW} {a0 : Int32} {Q : Int32 → MW → Prop} (h : p_Pr_isSensed w a0 Q) : ∃ (r1 : Int32) (w1 : MW), Q r1 w1 ∧ p_Pr_isSensed w a0 (fun r u => r = r1 ∧ u = w1) := by
  obtain ⟨i, hi⟩ := dj_p_Pr_isSensed (I := {x : Int32 × MW // Q x.1 x.2}) (Q3 := fun i r u => r = i.1.1 ∧ u = i.1.2) h (fun r u q => ⟨⟨(r, u), q⟩, rfl, rfl⟩)
  exact ⟨i.1.1, i.1.2, i.2, hi⟩
theorem dj_q_Bh_senseAll_10 {I : Type}  {E1 : MW → Prop} {E3 : I → MW → Prop} {Q1 : MW → Prop} {Q3 : I → MW → Prop}  (kE : ∀ x0, E1 x0 → ∃ i : I, E3 i x0) (kQ : ∀ x0, Q1 x0 → ∃ i : I, Q3 i x0) : ∀ (m : Nat) (x10_2 : Int32) (w : MW), q_Bh_senseAll_10 E1 Q1 m x10_2 w → ∃ i : I, q_Bh_senseAll_10 (E3 i) (Q3 i) m x10_2 w := by
  intro m
  induction m with
  | zero => exact fun _ _ h => False.elim h
  | succ m ih =>
    intro x10_2 w h
    have h := Eq.mp (q_Bh_senseAll_10.eq_2 ..) h
    refine dj_eq (fun i => (q_Bh_senseAll_10.eq_2 ..)) ?_
    exact (dj_if (fun h1 => (kE _ (h.1 h1))) (fun h2 => (dj_p_Pr_isSensed (h.2 h2) (fun _ _ h3 => (dj_if (fun h4 => (ih _ _ (h3.1 h4))) (fun h5 => (dj_and (h3.2 h5).1 (dj_and (h3.2 h5).2.1 (dj_p_Bh_sensed (h3.2 h5).2.2 (fun _ _ h6 => (dj_if (fun h7 => (dj_and (h6.1 h7).1 (ih _ _ (h6.1 h7).2))) (fun h8 => (dj_and (h6.2 h8).1 (ih _ _ (h6.2 h8).2))))))))))))))
theorem dj_q_Bh_senseAll_76 {I : Type}  {E1 : Int32 → MW → Prop} {E3 : I → Int32 → MW → Prop} {Q1 : MW → Prop} {Q3 : I → MW → Prop}  (kE : ∀ x0 x1, E1 x0 x1 → ∃ i : I, E3 i x0 x1) (kQ : ∀ x0, Q1 x0 → ∃ i : I, Q3 i x0) : ∀ (m : Nat) (x76_2 : Int32) (x76_3 : Int32) (w : MW), q_Bh_senseAll_76 E1 Q1 m x76_2 x76_3 w → ∃ i : I, q_Bh_senseAll_76 (E3 i) (Q3 i) m x76_2 x76_3 w := by
  intro m
  induction m with
  | zero => exact fun _ _ _ h => False.elim h
  | succ m ih =>
    intro x76_2 x76_3 w h
    have h := Eq.mp (q_Bh_senseAll_76.eq_2 ..) h
    refine dj_eq (fun i => (q_Bh_senseAll_76.eq_2 ..)) ?_
    exact (dj_if (fun h1 => (kE _ _ (h.1 h1))) (fun h2 => (dj_and (h.2 h2).1 (dj_if (fun h3 => (ih _ _ _ ((h.2 h2).2.1 h3))) (fun h4 => (dj_and ((h.2 h2).2.2 h4).1 (dj_and ((h.2 h2).2.2 h4).2.1 (dj_p_Bh_sensed ((h.2 h2).2.2 h4).2.2 (fun _ _ h5 => (dj_if (fun h6 => (ih _ _ _ (h5.1 h6))) (fun h7 => (dj_and (h5.2 h7).1 (dj_if (fun h8 => (ih _ _ _ ((h5.2 h7).2.1 h8))) (fun h9 => (ih _ _ _ ((h5.2 h7).2.2 h9))))))))))))))))
theorem dj_p_Bh_senseAll {I : Type} {w : MW} {Q1 : MW → Prop} {Q3 : I → MW → Prop}  (h : p_Bh_senseAll w Q1) (kQ : ∀ x0, Q1 x0 → ∃ i : I, Q3 i x0) : ∃ i : I, p_Bh_senseAll w (Q3 i) := by
  have h := Eq.mp (p_Bh_senseAll.eq_1 ..) h
  refine dj_eq (fun i => (p_Bh_senseAll.eq_1 ..)) ?_
  exact (dj_and h.1 (dj_q_Bh_senseAll_10  (fun _ h1 => (dj_q_Bh_senseAll_76  (fun _ _ h2 => (dj_and h2.1 (kQ _ h2.2))) kQ _ _ _ _ h1)) kQ _ _ _ h.2))
theorem ex_p_Bh_senseAll {w : MW} {Q : MW → Prop} (h : p_Bh_senseAll w Q) : ∃ w1 : MW, Q w1 ∧ p_Bh_senseAll w (fun u => u = w1) := by
  obtain ⟨i, hi⟩ := dj_p_Bh_senseAll (I := {x : MW // Q x}) (Q3 := fun i u => u = i.1) h (fun u q => ⟨⟨u, q⟩, rfl⟩)
  exact ⟨i.1, i.2, hi⟩
theorem dj_p_Mo_sensed {I : Type} {w : MW} {a0 : Int32} {b0 : Int32} {Q1 : Int64 → MW → Prop} {Q3 : I → Int64 → MW → Prop}  (h : p_Mo_sensed w a0 b0 Q1) (kQ : ∀ x0 x1, Q1 x0 x1 → ∃ i : I, Q3 i x0 x1) : ∃ i : I, p_Mo_sensed w a0 b0 (Q3 i) := by
  have h := Eq.mp (p_Mo_sensed.eq_1 ..) h
  refine dj_eq (fun i => (p_Mo_sensed.eq_1 ..)) ?_
  exact (dj_if (fun h1 => (dj_p_Mo_isTank (h.1 h1) (fun _ _ h3 => (dj_if (fun h4 => (kQ _ _ (h3.1 h4))) (fun h5 => (dj_and (h3.2 h5).1 (kQ _ _ (h3.2 h5).2))))))) (fun h2 => (dj_if (fun h6 => (dj_p_Mo_holdsLiquid ((h.2 h2).1 h6) (fun _ _ h8 => (dj_if (fun h9 => (kQ _ _ (h8.1 h9))) (fun h10 => (dj_p_Mo_liquidIn (h8.2 h10) (fun _ _ h11 => (kQ _ _ h11)))))))) (fun h7 => (dj_if (fun h12 => (dj_p_Mo_isValve (((h.2 h2).2 h7).1 h12) (fun _ _ h14 => (dj_if (fun h15 => (kQ _ _ (h14.1 h15))) (fun h16 => (dj_and (h14.2 h16).1 (kQ _ _ (h14.2 h16).2))))))) (fun h13 => (dj_if (fun h17 => (kQ _ _ ((((h.2 h2).2 h7).2 h13).1 h17))) (fun h18 => (kQ _ _ ((((h.2 h2).2 h7).2 h13).2 h18))))))))))
theorem ex_p_Mo_sensed {w : MW} {a0 : Int32} {b0 : Int32} {Q : Int64 → MW → Prop} (h : p_Mo_sensed w a0 b0 Q) : ∃ (r1 : Int64) (w1 : MW), Q r1 w1 ∧ p_Mo_sensed w a0 b0 (fun r u => r = r1 ∧ u = w1) := by
  obtain ⟨i, hi⟩ := dj_p_Mo_sensed (I := {x : Int64 × MW // Q x.1 x.2}) (Q3 := fun i r u => r = i.1.1 ∧ u = i.1.2) h (fun r u q => ⟨⟨(r, u), q⟩, rfl, rfl⟩)
  exact ⟨i.1.1, i.1.2, i.2, hi⟩
theorem dj_q_Mo_senseAll_2 {I : Type}  {E1 : MW → Prop} {E3 : I → MW → Prop} {Q1 : MW → Prop} {Q3 : I → MW → Prop}  (kE : ∀ x0, E1 x0 → ∃ i : I, E3 i x0) (kQ : ∀ x0, Q1 x0 → ∃ i : I, Q3 i x0) : ∀ (m : Nat) (x2_1 : Int32) (w : MW), q_Mo_senseAll_2 E1 Q1 m x2_1 w → ∃ i : I, q_Mo_senseAll_2 (E3 i) (Q3 i) m x2_1 w := by
  intro m
  induction m with
  | zero => exact fun _ _ h => False.elim h
  | succ m ih =>
    intro x2_1 w h
    have h := Eq.mp (q_Mo_senseAll_2.eq_2 ..) h
    refine dj_eq (fun i => (q_Mo_senseAll_2.eq_2 ..)) ?_
    exact (dj_if (fun h1 => (kE _ (h.1 h1))) (fun h2 => (dj_and (h.2 h2).1 (dj_if (fun h3 => (ih _ _ ((h.2 h2).2.1 h3))) (fun h4 => (dj_and ((h.2 h2).2.2 h4).1 (dj_if (fun h5 => (ih _ _ (((h.2 h2).2.2 h4).2.1 h5))) (fun h6 => (dj_and (((h.2 h2).2.2 h4).2.2 h6).1 (dj_and (((h.2 h2).2.2 h4).2.2 h6).2.1 (dj_p_Mo_sensed (((h.2 h2).2.2 h4).2.2 h6).2.2 (fun _ _ h7 => (dj_and h7.1 (ih _ _ h7.2))))))))))))))
theorem dj_q_Mo_senseAll_146 {I : Type} {y146_1 : Int32} {ys146_0 : Int32} {w : MW} {A1 : Int32 → MW → Prop} {A3 : I → Int32 → MW → Prop} {E1 : MW → Prop} {E3 : I → MW → Prop} {Q1 : MW → Prop} {Q3 : I → MW → Prop}  (kA : ∀ x0 x1, A1 x0 x1 → ∃ i : I, A3 i x0 x1) (kE : ∀ x0, E1 x0 → ∃ i : I, E3 i x0) (kQ : ∀ x0, Q1 x0 → ∃ i : I, Q3 i x0) (h : q_Mo_senseAll_146 y146_1 ys146_0 w A1 E1 Q1) : ∃ i : I, q_Mo_senseAll_146 y146_1 ys146_0 w (A3 i) (E3 i) (Q3 i) := by
  have h := Eq.mp (q_Mo_senseAll_146.eq_1 ..) h
  refine dj_eq (fun i => (q_Mo_senseAll_146.eq_1 ..)) ?_
  exact (dj_if (fun h1 => (kA _ _ (h.1 h1))) (fun h2 => (kA _ _ (h.2 h2))))
theorem dj_q_Mo_senseAll_109 {I : Type} {y109_1 : Int32} {ys109_0 : Int64} {w : MW} {A1 : Int32 → MW → Prop} {A3 : I → Int32 → MW → Prop} {E1 : MW → Prop} {E3 : I → MW → Prop} {Q1 : MW → Prop} {Q3 : I → MW → Prop}  (kA : ∀ x0 x1, A1 x0 x1 → ∃ i : I, A3 i x0 x1) (kE : ∀ x0, E1 x0 → ∃ i : I, E3 i x0) (kQ : ∀ x0, Q1 x0 → ∃ i : I, Q3 i x0) (h : q_Mo_senseAll_109 y109_1 ys109_0 w A1 E1 Q1) : ∃ i : I, q_Mo_senseAll_109 y109_1 ys109_0 w (A3 i) (E3 i) (Q3 i) := by
  have h := Eq.mp (q_Mo_senseAll_109.eq_1 ..) h
  refine dj_eq (fun i => (q_Mo_senseAll_109.eq_1 ..)) ?_
  exact (dj_and h.1 (dj_if (fun h1 => (dj_q_Mo_senseAll_146  kA kE kQ (h.2.1 h1))) (fun h2 => (dj_if (fun h3 => (dj_q_Mo_senseAll_146  kA kE kQ ((h.2.2 h2).1 h3))) (fun h4 => (dj_and ((h.2.2 h2).2 h4).1 (dj_if (fun h5 => (dj_q_Mo_senseAll_146  kA kE kQ (((h.2.2 h2).2 h4).2.1 h5))) (fun h6 => (dj_q_Mo_senseAll_146  kA kE kQ (((h.2.2 h2).2 h4).2.2 h6))))))))))
theorem dj_q_Mo_senseAll_63 {I : Type}  {E1 : MW → Prop} {E3 : I → MW → Prop} {Q1 : MW → Prop} {Q3 : I → MW → Prop}  (kE : ∀ x0, E1 x0 → ∃ i : I, E3 i x0) (kQ : ∀ x0, Q1 x0 → ∃ i : I, Q3 i x0) : ∀ (m : Nat) (x63_1 : Int32) (w : MW), q_Mo_senseAll_63 E1 Q1 m x63_1 w → ∃ i : I, q_Mo_senseAll_63 (E3 i) (Q3 i) m x63_1 w := by
  intro m
  induction m with
  | zero => exact fun _ _ h => False.elim h
  | succ m ih =>
    intro x63_1 w h
    have h := Eq.mp (q_Mo_senseAll_63.eq_2 ..) h
    refine dj_eq (fun i => (q_Mo_senseAll_63.eq_2 ..)) ?_
    exact (dj_if (fun h1 => (kE _ (h.1 h1))) (fun h2 => (dj_and (h.2 h2).1 (dj_if (fun h3 => (ih _ _ ((h.2 h2).2.1 h3))) (fun h4 => (dj_and ((h.2 h2).2.2 h4).1 (dj_if (fun h5 => (dj_q_Mo_senseAll_109  (fun _ _ h7 => (ih _ _ h7)) kE kQ (((h.2 h2).2.2 h4).2.1 h5))) (fun h6 => (dj_and (((h.2 h2).2.2 h4).2.2 h6).1 (dj_and (((h.2 h2).2.2 h4).2.2 h6).2.1 (dj_p_Mo_sensed (((h.2 h2).2.2 h4).2.2 h6).2.2 (fun _ _ h8 => (dj_q_Mo_senseAll_109  (fun _ _ h9 => (ih _ _ h9)) kE kQ h8)))))))))))))
theorem dj_p_Mo_senseAll {I : Type} {w : MW} {Q1 : MW → Prop} {Q3 : I → MW → Prop}  (h : p_Mo_senseAll w Q1) (kQ : ∀ x0, Q1 x0 → ∃ i : I, Q3 i x0) : ∃ i : I, p_Mo_senseAll w (Q3 i) := by
  have h := Eq.mp (p_Mo_senseAll.eq_1 ..) h
  refine dj_eq (fun i => (p_Mo_senseAll.eq_1 ..)) ?_
  exact (dj_q_Mo_senseAll_2  (fun _ h1 => (dj_q_Mo_senseAll_63  (fun _ h2 => (kQ _ h2)) kQ _ _ _ h1)) kQ _ _ _ h)
theorem ex_p_Mo_senseAll {w : MW} {Q : MW → Prop} (h : p_Mo_senseAll w Q) : ∃ w1 : MW, Q w1 ∧ p_Mo_senseAll w (fun u => u = w1) := by
  obtain ⟨i, hi⟩ := dj_p_Mo_senseAll (I := {x : MW // Q x}) (Q3 := fun i u => u = i.1) h (fun u q => ⟨⟨u, q⟩, rfl⟩)
  exact ⟨i.1, i.2, hi⟩
theorem dj_q_Ro_countSecond_78 {I : Type} {y78_1 : Int32} {w : MW} {A1 : Int32 → MW → Prop} {A3 : I → Int32 → MW → Prop} {E1 : MW → Prop} {E3 : I → MW → Prop} {Q1 : MW → Prop} {Q3 : I → MW → Prop}  (kA : ∀ x0 x1, A1 x0 x1 → ∃ i : I, A3 i x0 x1) (kE : ∀ x0, E1 x0 → ∃ i : I, E3 i x0) (kQ : ∀ x0, Q1 x0 → ∃ i : I, Q3 i x0) (h : q_Ro_countSecond_78 y78_1 w A1 E1 Q1) : ∃ i : I, q_Ro_countSecond_78 y78_1 w (A3 i) (E3 i) (Q3 i) := by
  have h := Eq.mp (q_Ro_countSecond_78.eq_1 ..) h
  refine dj_eq (fun i => (q_Ro_countSecond_78.eq_1 ..)) ?_
  exact (dj_and h.1 (dj_if (fun h1 => (kA _ _ (h.2.1 h1))) (fun h2 => (dj_and (h.2.2 h2).1 (dj_and (h.2.2 h2).2.1 (kA _ _ (h.2.2 h2).2.2))))))
theorem dj_q_Ro_countSecond_42 {I : Type} {y42_1 : Int32} {y42_2 : Int32} {ys42_0 : Int32} {ys42_1 : Int32} {w : MW} {A1 : Int32 → MW → Prop} {A3 : I → Int32 → MW → Prop} {E1 : MW → Prop} {E3 : I → MW → Prop} {Q1 : MW → Prop} {Q3 : I → MW → Prop}  (kA : ∀ x0 x1, A1 x0 x1 → ∃ i : I, A3 i x0 x1) (kE : ∀ x0, E1 x0 → ∃ i : I, E3 i x0) (kQ : ∀ x0, Q1 x0 → ∃ i : I, Q3 i x0) (h : q_Ro_countSecond_42 y42_1 y42_2 ys42_0 ys42_1 w A1 E1 Q1) : ∃ i : I, q_Ro_countSecond_42 y42_1 y42_2 ys42_0 ys42_1 w (A3 i) (E3 i) (Q3 i) := by
  have h := Eq.mp (q_Ro_countSecond_42.eq_1 ..) h
  refine dj_eq (fun i => (q_Ro_countSecond_42.eq_1 ..)) ?_
  exact (dj_and h.1 (dj_and h.2.1 (dj_if (fun h1 => (dj_q_Ro_countSecond_78  kA kE kQ (h.2.2.1 h1))) (fun h2 => (dj_if (fun h3 => (dj_q_Ro_countSecond_78  kA kE kQ ((h.2.2.2 h2).1 h3))) (fun h4 => (dj_and ((h.2.2.2 h2).2 h4).1 (dj_and ((h.2.2.2 h2).2 h4).2.1 (dj_if (fun h5 => (dj_q_Ro_countSecond_78  kA kE kQ (((h.2.2.2 h2).2 h4).2.2.1 h5))) (fun h6 => (dj_and (((h.2.2.2 h2).2 h4).2.2.2 h6).1 (dj_q_Ro_countSecond_78  kA kE kQ (((h.2.2.2 h2).2 h4).2.2.2 h6).2))))))))))))
theorem dj_q_Ro_countSecond_2 {I : Type}  {E1 : MW → Prop} {E3 : I → MW → Prop} {Q1 : MW → Prop} {Q3 : I → MW → Prop}  (kE : ∀ x0, E1 x0 → ∃ i : I, E3 i x0) (kQ : ∀ x0, Q1 x0 → ∃ i : I, Q3 i x0) : ∀ (m : Nat) (x2_1 : Int32) (w : MW), q_Ro_countSecond_2 E1 Q1 m x2_1 w → ∃ i : I, q_Ro_countSecond_2 (E3 i) (Q3 i) m x2_1 w := by
  intro m
  induction m with
  | zero => exact fun _ _ h => False.elim h
  | succ m ih =>
    intro x2_1 w h
    have h := Eq.mp (q_Ro_countSecond_2.eq_2 ..) h
    refine dj_eq (fun i => (q_Ro_countSecond_2.eq_2 ..)) ?_
    exact (dj_if (fun h1 => (kE _ (h.1 h1))) (fun h2 => (dj_p_Ro_isOn (h.2 h2) (fun _ _ h3 => (dj_if (fun h4 => (dj_q_Ro_countSecond_42  (fun _ _ h6 => (ih _ _ h6)) kE kQ (h3.1 h4))) (fun h5 => (dj_and (h3.2 h5).1 (dj_p_Ma_min (h3.2 h5).2 (fun _ _ h7 => (dj_q_Ro_countSecond_42  (fun _ _ h8 => (ih _ _ h8)) kE kQ h7))))))))))
theorem dj_p_Ro_countSecond {I : Type} {w : MW} {Q1 : MW → Prop} {Q3 : I → MW → Prop}  (h : p_Ro_countSecond w Q1) (kQ : ∀ x0, Q1 x0 → ∃ i : I, Q3 i x0) : ∃ i : I, p_Ro_countSecond w (Q3 i) := by
  have h := Eq.mp (p_Ro_countSecond.eq_1 ..) h
  refine dj_eq (fun i => (p_Ro_countSecond.eq_1 ..)) ?_
  exact (dj_q_Ro_countSecond_2  (fun _ h1 => (kQ _ h1)) kQ _ _ _ h)
theorem ex_p_Ro_countSecond {w : MW} {Q : MW → Prop} (h : p_Ro_countSecond w Q) : ∃ w1 : MW, Q w1 ∧ p_Ro_countSecond w (fun u => u = w1) := by
  obtain ⟨i, hi⟩ := dj_p_Ro_countSecond (I := {x : MW // Q x}) (Q3 := fun i u => u = i.1) h (fun u q => ⟨⟨u, q⟩, rfl⟩)
  exact ⟨i.1, i.2, hi⟩
theorem dj_q_Mr_tick_128 {I : Type} {x14_1 : Int32} {y128_2 : Int32} {ys128_0 : Int32} {ys128_1 : Int32} {ys128_2 : Int32} {w : MW} {A1 : Int32 → MW → Prop} {A3 : I → Int32 → MW → Prop} {E1 : MW → Prop} {E3 : I → MW → Prop} {Q1 : Int32 → MW → Prop} {Q3 : I → Int32 → MW → Prop}  (kA : ∀ x0 x1, A1 x0 x1 → ∃ i : I, A3 i x0 x1) (kE : ∀ x0, E1 x0 → ∃ i : I, E3 i x0) (kQ : ∀ x0 x1, Q1 x0 x1 → ∃ i : I, Q3 i x0 x1) (h : q_Mr_tick_128 x14_1 y128_2 ys128_0 ys128_1 ys128_2 w A1 E1 Q1) : ∃ i : I, q_Mr_tick_128 x14_1 y128_2 ys128_0 ys128_1 ys128_2 w (A3 i) (E3 i) (Q3 i) := by
  have h := Eq.mp (q_Mr_tick_128.eq_1 ..) h
  refine dj_eq (fun i => (q_Mr_tick_128.eq_1 ..)) ?_
  exact (dj_and h.1 (dj_and h.2.1 (dj_if (fun h1 => (dj_and (h.2.2.1 h1).1 (kA _ _ (h.2.2.1 h1).2))) (fun h2 => (dj_and (h.2.2.2 h2).1 (dj_and (h.2.2.2 h2).2.1 (kA _ _ (h.2.2.2 h2).2.2)))))))
theorem dj_q_Mr_tick_71 {I : Type} {x14_1 : Int32} {y71_2 : Int32} {y71_3 : Int32} {ys71_0 : Int32} {ys71_1 : Int32} {w : MW} {A1 : Int32 → MW → Prop} {A3 : I → Int32 → MW → Prop} {E1 : MW → Prop} {E3 : I → MW → Prop} {Q1 : Int32 → MW → Prop} {Q3 : I → Int32 → MW → Prop}  (kA : ∀ x0 x1, A1 x0 x1 → ∃ i : I, A3 i x0 x1) (kE : ∀ x0, E1 x0 → ∃ i : I, E3 i x0) (kQ : ∀ x0 x1, Q1 x0 x1 → ∃ i : I, Q3 i x0 x1) (h : q_Mr_tick_71 x14_1 y71_2 y71_3 ys71_0 ys71_1 w A1 E1 Q1) : ∃ i : I, q_Mr_tick_71 x14_1 y71_2 y71_3 ys71_0 ys71_1 w (A3 i) (E3 i) (Q3 i) := by
  have h := Eq.mp (q_Mr_tick_71.eq_1 ..) h
  refine dj_eq (fun i => (q_Mr_tick_71.eq_1 ..)) ?_
  exact (dj_and h.1 (dj_and h.2.1 (dj_if (fun h1 => (dj_q_Mr_tick_128  kA kE kQ (h.2.2.1 h1))) (fun h2 => (dj_and (h.2.2.2 h2).1 (dj_if (fun h3 => (dj_q_Mr_tick_128  kA kE kQ ((h.2.2.2 h2).2.1 h3))) (fun h4 => (dj_and ((h.2.2.2 h2).2.2 h4).1 (dj_and ((h.2.2.2 h2).2.2 h4).2.1 (dj_if (fun h5 => (dj_q_Mr_tick_128  kA kE kQ (((h.2.2.2 h2).2.2 h4).2.2.1 h5))) (fun h6 => (dj_q_Mr_tick_128  kA kE kQ (((h.2.2.2 h2).2.2 h4).2.2.2 h6)))))))))))))
theorem dj_q_Mr_tick_14 {I : Type} {x14_1 : Int32} {E1 : MW → Prop} {E3 : I → MW → Prop} {Q1 : Int32 → MW → Prop} {Q3 : I → Int32 → MW → Prop}  (kE : ∀ x0, E1 x0 → ∃ i : I, E3 i x0) (kQ : ∀ x0 x1, Q1 x0 x1 → ∃ i : I, Q3 i x0 x1) : ∀ (m : Nat) (x14_2 : Int32) (w : MW), q_Mr_tick_14 x14_1 E1 Q1 m x14_2 w → ∃ i : I, q_Mr_tick_14 x14_1 (E3 i) (Q3 i) m x14_2 w := by
  intro m
  induction m with
  | zero => exact fun _ _ h => False.elim h
  | succ m ih =>
    intro x14_2 w h
    have h := Eq.mp (q_Mr_tick_14.eq_2 ..) h
    refine dj_eq (fun i => (q_Mr_tick_14.eq_2 ..)) ?_
    exact (dj_if (fun h1 => (kE _ (h.1 h1))) (fun h2 => (dj_if (fun h3 => (kE _ ((h.2 h2).1 h3))) (fun h4 => (dj_p_Mr_isOn ((h.2 h2).2 h4) (fun _ _ h5 => (dj_if (fun h6 => (dj_and (h5.1 h6).1 (dj_if (fun h8 => (dj_and ((h5.1 h6).2.1 h8).1 (dj_q_Mr_tick_71  (fun _ _ h10 => (ih _ _ h10)) kE kQ ((h5.1 h6).2.1 h8).2))) (fun h9 => (dj_q_Mr_tick_71  (fun _ _ h11 => (ih _ _ h11)) kE kQ ((h5.1 h6).2.2 h9)))))) (fun h7 => (dj_q_Mr_tick_71  (fun _ _ h12 => (ih _ _ h12)) kE kQ (h5.2 h7))))))))))
theorem dj_p_Mr_tick {I : Type} {w : MW} {a0 : Int32} {Q1 : Int32 → MW → Prop} {Q3 : I → Int32 → MW → Prop}  (h : p_Mr_tick w a0 Q1) (kQ : ∀ x0 x1, Q1 x0 x1 → ∃ i : I, Q3 i x0 x1) : ∃ i : I, p_Mr_tick w a0 (Q3 i) := by
  have h := Eq.mp (p_Mr_tick.eq_1 ..) h
  refine dj_eq (fun i => (p_Mr_tick.eq_1 ..)) ?_
  exact (dj_if (fun h1 => (kQ _ _ (h.1 h1))) (fun h2 => (dj_if (fun h3 => (dj_q_Mr_tick_14  (fun _ h5 => (kQ _ _ h5)) kQ _ _ _ ((h.2 h2).1 h3))) (fun h4 => (kQ _ _ ((h.2 h2).2 h4))))))
theorem ex_p_Mr_tick {w : MW} {a0 : Int32} {Q : Int32 → MW → Prop} (h : p_Mr_tick w a0 Q) : ∃ (r1 : Int32) (w1 : MW), Q r1 w1 ∧ p_Mr_tick w a0 (fun r u => r = r1 ∧ u = w1) := by
  obtain ⟨i, hi⟩ := dj_p_Mr_tick (I := {x : Int32 × MW // Q x.1 x.2}) (Q3 := fun i r u => r = i.1.1 ∧ u = i.1.2) h (fun r u q => ⟨⟨(r, u), q⟩, rfl, rfl⟩)
  exact ⟨i.1.1, i.1.2, i.2, hi⟩
