/-! as many contracts as there are hold together -/
theorem al_p_St_cleanSpace {I : Type} (i0 : I) {w : MW} {a0 : Int32} {b0 : Int32} {Q1 : I → MW → Prop} {Q3 : MW → Prop}  (h : ∀ i : I, p_St_cleanSpace w a0 b0 (Q1 i)) (kQ : ∀ x0, (∀ i : I, Q1 i x0) → Q3 x0) : p_St_cleanSpace w a0 b0 Q3 := by
  have h := fun i => Eq.mp (p_St_cleanSpace.eq_1 ..) (h i)
  refine Eq.mpr (p_St_cleanSpace.eq_1 ..) ?_
  exact ⟨(h i0).1, (kQ _ (fun i => (h i).2))⟩
theorem al_p_St_isPipe {I : Type} (i0 : I) {w : MW} {a0 : Int32} {Q1 : I → Int32 → MW → Prop} {Q3 : Int32 → MW → Prop}  (h : ∀ i : I, p_St_isPipe w a0 (Q1 i)) (kQ : ∀ x0 x1, (∀ i : I, Q1 i x0 x1) → Q3 x0 x1) : p_St_isPipe w a0 Q3 := by
  have h := fun i => Eq.mp (p_St_isPipe.eq_1 ..) (h i)
  refine Eq.mpr (p_St_isPipe.eq_1 ..) ?_
  exact ⟨(h i0).1, ⟨(fun h1 => (kQ _ _ (fun i => ((h i).2.1 h1)))), (fun h2 => ⟨((h i0).2.2 h2).1, ⟨((h i0).2.2 h2).2.1, ⟨(fun h3 => (kQ _ _ (fun i => (((h i).2.2 h2).2.2.1 h3)))), (fun h4 => (kQ _ _ (fun i => (((h i).2.2 h2).2.2.2 h4))))⟩⟩⟩)⟩⟩
theorem al_q_Wa_hasSpace_31 {I : Type} (i0 : I) {x31_1 : Int32} {E1 : I → MW → Prop} {E3 : MW → Prop} {Q1 : I → Int32 → MW → Prop} {Q3 : Int32 → MW → Prop}  (kE : ∀ x0, (∀ i : I, E1 i x0) → E3 x0) (kQ : ∀ x0 x1, (∀ i : I, Q1 i x0 x1) → Q3 x0 x1) : ∀ (m : Nat) (x31_2 : Int32) (w : MW), (∀ i : I, q_Wa_hasSpace_31 x31_1 (E1 i) (Q1 i) m x31_2 w) → q_Wa_hasSpace_31 x31_1 E3 Q3 m x31_2 w := by
  intro m
  induction m with
  | zero => exact fun _ _ h => False.elim (h i0)
  | succ m ih =>
    intro x31_2 w h
    have h := fun i => Eq.mp (q_Wa_hasSpace_31.eq_2 ..) (h i)
    refine Eq.mpr (q_Wa_hasSpace_31.eq_2 ..) ?_
    exact ⟨(fun h1 => (kE _ (fun i => ((h i).1 h1)))), (fun h2 => ⟨((h i0).2 h2).1, ⟨(fun h3 => (kQ _ _ (fun i => (((h i).2 h2).2.1 h3)))), (fun h4 => ⟨(((h i0).2 h2).2.2 h4).1, ⟨(fun h5 => (ih _ _ (fun i => ((((h i).2 h2).2.2 h4).2.1 h5)))), (fun h6 => (kQ _ _ (fun i => ((((h i).2 h2).2.2 h4).2.2 h6))))⟩⟩)⟩⟩)⟩
theorem al_p_Wa_hasSpace {I : Type} (i0 : I) {w : MW} {a0 : Int32} {Q1 : I → Int32 → MW → Prop} {Q3 : Int32 → MW → Prop}  (h : ∀ i : I, p_Wa_hasSpace w a0 (Q1 i)) (kQ : ∀ x0 x1, (∀ i : I, Q1 i x0 x1) → Q3 x0 x1) : p_Wa_hasSpace w a0 Q3 := by
  have h := fun i => Eq.mp (p_Wa_hasSpace.eq_1 ..) (h i)
  refine Eq.mpr (p_Wa_hasSpace.eq_1 ..) ?_
  exact (al_p_St_isPipe i0 (fun i => (h i)) (fun _ _ h1 => ⟨(fun h2 => (al_q_Wa_hasSpace_31 i0  (fun _ h3 => (kQ _ _ (fun i => (h3 i)))) kQ _ _ _ (fun i => ((h1 i).1 h2)))), (fun h4 => ⟨((h1 i0).2 h4).1, ⟨((h1 i0).2 h4).2.1, ⟨((h1 i0).2 h4).2.2.1, (kQ _ _ (fun i => ((h1 i).2 h4).2.2.2))⟩⟩⟩)⟩))
theorem al_p_Ac_cleanSpace {I : Type} (i0 : I) {w : MW} {a0 : Int32} {b0 : Int32} {Q1 : I → Int32 → MW → Prop} {Q3 : Int32 → MW → Prop}  (h : ∀ i : I, p_Ac_cleanSpace w a0 b0 (Q1 i)) (kQ : ∀ x0 x1, (∀ i : I, Q1 i x0 x1) → Q3 x0 x1) : p_Ac_cleanSpace w a0 b0 Q3 := by
  have h := fun i => Eq.mp (p_Ac_cleanSpace.eq_1 ..) (h i)
  refine Eq.mpr (p_Ac_cleanSpace.eq_1 ..) ?_
  exact ⟨(h i0).1, ⟨(fun h1 => (kQ _ _ (fun i => ((h i).2.1 h1)))), (fun h2 => (al_p_Wa_hasSpace i0 (fun i => ((h i).2.2 h2)) (fun _ _ h3 => ⟨(fun h4 => (al_p_St_cleanSpace i0 (fun i => ((h3 i).1 h4)) (fun _ h5 => (kQ _ _ (fun i => (h5 i)))))), (fun h6 => (kQ _ _ (fun i => ((h3 i).2 h6))))⟩)))⟩⟩
theorem al_q_Wa_remove_168 {I : Type} (i0 : I)  {E1 : I → MW → Prop} {E3 : MW → Prop} {Q1 : I → MW → Prop} {Q3 : MW → Prop}  (kE : ∀ x0, (∀ i : I, E1 i x0) → E3 x0) (kQ : ∀ x0, (∀ i : I, Q1 i x0) → Q3 x0) : ∀ (m : Nat) (x168_5 : Int32) (w : MW), (∀ i : I, q_Wa_remove_168 (E1 i) (Q1 i) m x168_5 w) → q_Wa_remove_168 E3 Q3 m x168_5 w := by
  intro m
  induction m with
  | zero => exact fun _ _ h => False.elim (h i0)
  | succ m ih =>
    intro x168_5 w h
    have h := fun i => Eq.mp (q_Wa_remove_168.eq_2 ..) (h i)
    refine Eq.mpr (q_Wa_remove_168.eq_2 ..) ?_
    exact ⟨(fun h1 => (kE _ (fun i => ((h i).1 h1)))), (fun h2 => ⟨((h i0).2 h2).1, ⟨((h i0).2 h2).2.1, ⟨((h i0).2 h2).2.2.1, ⟨((h i0).2 h2).2.2.2.1, ⟨((h i0).2 h2).2.2.2.2.1, ⟨((h i0).2 h2).2.2.2.2.2.1, ⟨((h i0).2 h2).2.2.2.2.2.2.1, ⟨((h i0).2 h2).2.2.2.2.2.2.2.1, ⟨((h i0).2 h2).2.2.2.2.2.2.2.2.1, ⟨((h i0).2 h2).2.2.2.2.2.2.2.2.2.1, ⟨((h i0).2 h2).2.2.2.2.2.2.2.2.2.2.1, ⟨((h i0).2 h2).2.2.2.2.2.2.2.2.2.2.2.1, ⟨((h i0).2 h2).2.2.2.2.2.2.2.2.2.2.2.2.1, ⟨((h i0).2 h2).2.2.2.2.2.2.2.2.2.2.2.2.2.1, (ih _ _ (fun i => ((h i).2 h2).2.2.2.2.2.2.2.2.2.2.2.2.2.2))⟩⟩⟩⟩⟩⟩⟩⟩⟩⟩⟩⟩⟩⟩)⟩
theorem al_q_Wa_remove_19 {I : Type} (i0 : I) {x19_1 : Int32} {x19_2 : Int32} {E1 : I → MW → Prop} {E3 : MW → Prop} {Q1 : I → MW → Prop} {Q3 : MW → Prop}  (kE : ∀ x0, (∀ i : I, E1 i x0) → E3 x0) (kQ : ∀ x0, (∀ i : I, Q1 i x0) → Q3 x0) : ∀ (m : Nat) (x19_4 : Int32) (x19_5 : Int32) (w : MW), (∀ i : I, q_Wa_remove_19 x19_1 x19_2 (E1 i) (Q1 i) m x19_4 x19_5 w) → q_Wa_remove_19 x19_1 x19_2 E3 Q3 m x19_4 x19_5 w := by
  intro m
  induction m with
  | zero => exact fun _ _ _ h => False.elim (h i0)
  | succ m ih =>
    intro x19_4 x19_5 w h
    have h := fun i => Eq.mp (q_Wa_remove_19.eq_2 ..) (h i)
    refine Eq.mpr (q_Wa_remove_19.eq_2 ..) ?_
    exact ⟨(h i0).1, ⟨(fun h1 => (kE _ (fun i => ((h i).2.1 h1)))), (fun h2 => ⟨(fun h3 => (kE _ (fun i => (((h i).2.2 h2).1 h3)))), (fun h4 => ⟨(((h i0).2.2 h2).2 h4).1, ⟨(((h i0).2.2 h2).2 h4).2.1, ⟨(fun h5 => ⟨((((h i0).2.2 h2).2 h4).2.2.1 h5).1, (ih _ _ _ (fun i => ((((h i).2.2 h2).2 h4).2.2.1 h5).2))⟩), (fun h6 => ⟨((((h i0).2.2 h2).2 h4).2.2.2 h6).1, ⟨((((h i0).2.2 h2).2 h4).2.2.2 h6).2.1, ⟨((((h i0).2.2 h2).2 h4).2.2.2 h6).2.2.1, ⟨((((h i0).2.2 h2).2 h4).2.2.2 h6).2.2.2.1, ⟨((((h i0).2.2 h2).2 h4).2.2.2 h6).2.2.2.2.1, ⟨(fun h7 => ⟨(((((h i0).2.2 h2).2 h4).2.2.2 h6).2.2.2.2.2.1 h7).1, (ih _ _ _ (fun i => (((((h i).2.2 h2).2 h4).2.2.2 h6).2.2.2.2.2.1 h7).2))⟩), (fun h8 => ⟨(((((h i0).2.2 h2).2 h4).2.2.2 h6).2.2.2.2.2.2 h8).1, ⟨(fun h9 => ⟨((((((h i0).2.2 h2).2 h4).2.2.2 h6).2.2.2.2.2.2 h8).2.1 h9).1, (ih _ _ _ (fun i => ((((((h i).2.2 h2).2 h4).2.2.2 h6).2.2.2.2.2.2 h8).2.1 h9).2))⟩), (fun h10 => ⟨(fun h11 => ⟨(((((((h i0).2.2 h2).2 h4).2.2.2 h6).2.2.2.2.2.2 h8).2.2 h10).1 h11).1, ⟨(fun h12 => ⟨((((((((h i0).2.2 h2).2 h4).2.2.2 h6).2.2.2.2.2.2 h8).2.2 h10).1 h11).2.1 h12).1, ⟨((((((((h i0).2.2 h2).2 h4).2.2.2 h6).2.2.2.2.2.2 h8).2.2 h10).1 h11).2.1 h12).2.1, (ih _ _ _ (fun i => ((((((((h i).2.2 h2).2 h4).2.2.2 h6).2.2.2.2.2.2 h8).2.2 h10).1 h11).2.1 h12).2.2))⟩⟩), (fun h13 => ⟨((((((((h i0).2.2 h2).2 h4).2.2.2 h6).2.2.2.2.2.2 h8).2.2 h10).1 h11).2.2 h13).1, ⟨((((((((h i0).2.2 h2).2 h4).2.2.2 h6).2.2.2.2.2.2 h8).2.2 h10).1 h11).2.2 h13).2.1, (ih _ _ _ (fun i => ((((((((h i).2.2 h2).2 h4).2.2.2 h6).2.2.2.2.2.2 h8).2.2 h10).1 h11).2.2 h13).2.2))⟩⟩)⟩⟩), (fun h14 => ⟨(((((((h i0).2.2 h2).2 h4).2.2.2 h6).2.2.2.2.2.2 h8).2.2 h10).2 h14).1, ⟨(((((((h i0).2.2 h2).2 h4).2.2.2 h6).2.2.2.2.2.2 h8).2.2 h10).2 h14).2.1, ⟨(((((((h i0).2.2 h2).2 h4).2.2.2 h6).2.2.2.2.2.2 h8).2.2 h10).2 h14).2.2.1, (ih _ _ _ (fun i => (((((((h i).2.2 h2).2 h4).2.2.2 h6).2.2.2.2.2.2 h8).2.2 h10).2 h14).2.2.2))⟩⟩⟩)⟩)⟩⟩)⟩⟩⟩⟩⟩⟩)⟩⟩⟩)⟩)⟩⟩
theorem al_p_Wa_remove {I : Type} (i0 : I) {w : MW} {a0 : Int32} {b0 : Int32} {Q1 : I → MW → Prop} {Q3 : MW → Prop}  (h : ∀ i : I, p_Wa_remove w a0 b0 (Q1 i)) (kQ : ∀ x0, (∀ i : I, Q1 i x0) → Q3 x0) : p_Wa_remove w a0 b0 Q3 := by
  have h := fun i => Eq.mp (p_Wa_remove.eq_1 ..) (h i)
  refine Eq.mpr (p_Wa_remove.eq_1 ..) ?_
  exact ⟨(h i0).1, ⟨(h i0).2.1, (al_q_Wa_remove_19 i0  (fun _ h1 => (al_q_Wa_remove_168 i0  (fun _ h2 => (kQ _ (fun i => (h2 i)))) kQ _ _ _ (fun i => (h1 i)))) kQ _ _ _ _ (fun i => (h i).2.2))⟩⟩
theorem al_p_Wa_closeOne {I : Type} (i0 : I) {w : MW} {a0 : Int32} {Q1 : I → MW → Prop} {Q3 : MW → Prop}  (h : ∀ i : I, p_Wa_closeOne w a0 (Q1 i)) (kQ : ∀ x0, (∀ i : I, Q1 i x0) → Q3 x0) : p_Wa_closeOne w a0 Q3 := by
  have h := fun i => Eq.mp (p_Wa_closeOne.eq_1 ..) (h i)
  refine Eq.mpr (p_Wa_closeOne.eq_1 ..) ?_
  exact (al_p_Wa_remove i0 (fun i => (h i)) (fun _ h1 => (kQ _ (fun i => (h1 i)))))
theorem al_q_Wa_indexOf_2 {I : Type} (i0 : I) {x2_1 : Int32} {x2_2 : Int32} {E1 : I → MW → Prop} {E3 : MW → Prop} {Q1 : I → Int32 → MW → Prop} {Q3 : Int32 → MW → Prop}  (kE : ∀ x0, (∀ i : I, E1 i x0) → E3 x0) (kQ : ∀ x0 x1, (∀ i : I, Q1 i x0 x1) → Q3 x0 x1) : ∀ (m : Nat) (x2_3 : Int32) (w : MW), (∀ i : I, q_Wa_indexOf_2 x2_1 x2_2 (E1 i) (Q1 i) m x2_3 w) → q_Wa_indexOf_2 x2_1 x2_2 E3 Q3 m x2_3 w := by
  intro m
  induction m with
  | zero => exact fun _ _ h => False.elim (h i0)
  | succ m ih =>
    intro x2_3 w h
    have h := fun i => Eq.mp (q_Wa_indexOf_2.eq_2 ..) (h i)
    refine Eq.mpr (q_Wa_indexOf_2.eq_2 ..) ?_
    exact ⟨(fun h1 => (kE _ (fun i => ((h i).1 h1)))), (fun h2 => ⟨((h i0).2 h2).1, ⟨(fun h3 => (ih _ _ (fun i => (((h i).2 h2).2.1 h3)))), (fun h4 => ⟨(((h i0).2 h2).2.2 h4).1, ⟨(fun h5 => (ih _ _ (fun i => ((((h i).2 h2).2.2 h4).2.1 h5)))), (fun h6 => (kQ _ _ (fun i => ((((h i).2 h2).2.2 h4).2.2 h6))))⟩⟩)⟩⟩)⟩
theorem al_p_Wa_indexOf {I : Type} (i0 : I) {w : MW} {a0 : Int32} {b0 : Int32} {Q1 : I → Int32 → MW → Prop} {Q3 : Int32 → MW → Prop}  (h : ∀ i : I, p_Wa_indexOf w a0 b0 (Q1 i)) (kQ : ∀ x0 x1, (∀ i : I, Q1 i x0 x1) → Q3 x0 x1) : p_Wa_indexOf w a0 b0 Q3 := by
  have h := fun i => Eq.mp (p_Wa_indexOf.eq_1 ..) (h i)
  refine Eq.mpr (p_Wa_indexOf.eq_1 ..) ?_
  exact (al_q_Wa_indexOf_2 i0  (fun _ h1 => (kQ _ _ (fun i => (h1 i)))) kQ _ _ _ (fun i => (h i)))
theorem al_p_Ac_closeWay {I : Type} (i0 : I) {w : MW} {a0 : Int32} {b0 : Int32} {Q1 : I → Int32 → MW → Prop} {Q3 : Int32 → MW → Prop}  (h : ∀ i : I, p_Ac_closeWay w a0 b0 (Q1 i)) (kQ : ∀ x0 x1, (∀ i : I, Q1 i x0 x1) → Q3 x0 x1) : p_Ac_closeWay w a0 b0 Q3 := by
  have h := fun i => Eq.mp (p_Ac_closeWay.eq_1 ..) (h i)
  refine Eq.mpr (p_Ac_closeWay.eq_1 ..) ?_
  exact (al_p_Wa_indexOf i0 (fun i => (h i)) (fun _ _ h1 => ⟨(fun h2 => (al_p_Wa_closeOne i0 (fun i => ((h1 i).1 h2)) (fun _ h3 => (kQ _ _ (fun i => (h3 i)))))), (fun h4 => (kQ _ _ (fun i => ((h1 i).2 h4))))⟩))
theorem al_q_St_emptyCells_12 {I : Type} (i0 : I) {x12_2 : Int32} {E1 : I → MW → Prop} {E3 : MW → Prop} {Q1 : I → MW → Prop} {Q3 : MW → Prop}  (kE : ∀ x0, (∀ i : I, E1 i x0) → E3 x0) (kQ : ∀ x0, (∀ i : I, Q1 i x0) → Q3 x0) : ∀ (m : Nat) (x12_3 : Int32) (w : MW), (∀ i : I, q_St_emptyCells_12 x12_2 (E1 i) (Q1 i) m x12_3 w) → q_St_emptyCells_12 x12_2 E3 Q3 m x12_3 w := by
  intro m
  induction m with
  | zero => exact fun _ _ h => False.elim (h i0)
  | succ m ih =>
    intro x12_3 w h
    have h := fun i => Eq.mp (q_St_emptyCells_12.eq_2 ..) (h i)
    refine Eq.mpr (q_St_emptyCells_12.eq_2 ..) ?_
    exact ⟨(fun h1 => (kE _ (fun i => ((h i).1 h1)))), (fun h2 => ⟨(fun h3 => (kE _ (fun i => (((h i).2 h2).1 h3)))), (fun h4 => ⟨(((h i0).2 h2).2 h4).1, (ih _ _ (fun i => (((h i).2 h2).2 h4).2))⟩)⟩)⟩
theorem al_p_St_emptyCells {I : Type} (i0 : I) {w : MW} {a0 : Int32} {Q1 : I → MW → Prop} {Q3 : MW → Prop}  (h : ∀ i : I, p_St_emptyCells w a0 (Q1 i)) (kQ : ∀ x0, (∀ i : I, Q1 i x0) → Q3 x0) : p_St_emptyCells w a0 Q3 := by
  have h := fun i => Eq.mp (p_St_emptyCells.eq_1 ..) (h i)
  refine Eq.mpr (p_St_emptyCells.eq_1 ..) ?_
  exact ⟨(h i0).1, (al_q_St_emptyCells_12 i0  (fun _ h1 => (kQ _ (fun i => (h1 i)))) kQ _ _ _ (fun i => (h i).2))⟩
theorem al_p_Ma_max {I : Type} (i0 : I) {w : MW} {a0 : Int32} {b0 : Int32} {Q1 : I → Int32 → MW → Prop} {Q3 : Int32 → MW → Prop}  (h : ∀ i : I, p_Ma_max w a0 b0 (Q1 i)) (kQ : ∀ x0 x1, (∀ i : I, Q1 i x0 x1) → Q3 x0 x1) : p_Ma_max w a0 b0 Q3 := by
  have h := fun i => Eq.mp (p_Ma_max.eq_1 ..) (h i)
  refine Eq.mpr (p_Ma_max.eq_1 ..) ?_
  exact ⟨(fun h1 => (kQ _ _ (fun i => ((h i).1 h1)))), (fun h2 => (kQ _ _ (fun i => ((h i).2 h2))))⟩
theorem al_q_St_forgetCleanings_2 {I : Type} (i0 : I) {x2_1 : Int32} {E1 : I → MW → Prop} {E3 : MW → Prop} {Q1 : I → MW → Prop} {Q3 : MW → Prop}  (kE : ∀ x0, (∀ i : I, E1 i x0) → E3 x0) (kQ : ∀ x0, (∀ i : I, Q1 i x0) → Q3 x0) : ∀ (m : Nat) (x2_2 : Int32) (w : MW), (∀ i : I, q_St_forgetCleanings_2 x2_1 (E1 i) (Q1 i) m x2_2 w) → q_St_forgetCleanings_2 x2_1 E3 Q3 m x2_2 w := by
  intro m
  induction m with
  | zero => exact fun _ _ h => False.elim (h i0)
  | succ m ih =>
    intro x2_2 w h
    have h := fun i => Eq.mp (q_St_forgetCleanings_2.eq_2 ..) (h i)
    refine Eq.mpr (q_St_forgetCleanings_2.eq_2 ..) ?_
    exact ⟨(fun h1 => (kE _ (fun i => ((h i).1 h1)))), (fun h2 => ⟨((h i0).2 h2).1, (ih _ _ (fun i => ((h i).2 h2).2))⟩)⟩
theorem al_p_St_forgetCleanings {I : Type} (i0 : I) {w : MW} {a0 : Int32} {Q1 : I → MW → Prop} {Q3 : MW → Prop}  (h : ∀ i : I, p_St_forgetCleanings w a0 (Q1 i)) (kQ : ∀ x0, (∀ i : I, Q1 i x0) → Q3 x0) : p_St_forgetCleanings w a0 Q3 := by
  have h := fun i => Eq.mp (p_St_forgetCleanings.eq_1 ..) (h i)
  refine Eq.mpr (p_St_forgetCleanings.eq_1 ..) ?_
  exact (al_q_St_forgetCleanings_2 i0  (fun _ h1 => (kQ _ (fun i => (h1 i)))) kQ _ _ _ (fun i => (h i)))
theorem al_p_St_leave {I : Type} (i0 : I) {w : MW} {a0 : Int32} {b0 : Int32} {Q1 : I → MW → Prop} {Q3 : MW → Prop}  (h : ∀ i : I, p_St_leave w a0 b0 (Q1 i)) (kQ : ∀ x0, (∀ i : I, Q1 i x0) → Q3 x0) : p_St_leave w a0 b0 Q3 := by
  have h := fun i => Eq.mp (p_St_leave.eq_1 ..) (h i)
  refine Eq.mpr (p_St_leave.eq_1 ..) ?_
  exact ⟨(h i0).1, ⟨(fun h1 => ⟨((h i0).2.1 h1).1, (al_p_Ma_max i0 (fun i => ((h i).2.1 h1).2) (fun _ _ h2 => ⟨(h2 i0).1, ⟨(h2 i0).2.1, ⟨(fun h3 => (kQ _ (fun i => ((h2 i).2.2.1 h3)))), (fun h4 => ⟨((h2 i0).2.2.2 h4).1, ⟨((h2 i0).2.2.2 h4).2.1, ⟨((h2 i0).2.2.2 h4).2.2.1, (al_p_St_forgetCleanings i0 (fun i => ((h2 i).2.2.2 h4).2.2.2) (fun _ h5 => (kQ _ (fun i => (h5 i)))))⟩⟩⟩)⟩⟩⟩))⟩), (fun h6 => (kQ _ (fun i => ((h i).2.2 h6))))⟩⟩
theorem al_p_Ac_drainSpace {I : Type} (i0 : I) {w : MW} {a0 : Int32} {Q1 : I → Int32 → MW → Prop} {Q3 : Int32 → MW → Prop}  (h : ∀ i : I, p_Ac_drainSpace w a0 (Q1 i)) (kQ : ∀ x0 x1, (∀ i : I, Q1 i x0 x1) → Q3 x0 x1) : p_Ac_drainSpace w a0 Q3 := by
  have h := fun i => Eq.mp (p_Ac_drainSpace.eq_1 ..) (h i)
  refine Eq.mpr (p_Ac_drainSpace.eq_1 ..) ?_
  exact (al_p_Wa_hasSpace i0 (fun i => (h i)) (fun _ _ h1 => ⟨(fun h2 => ⟨((h1 i0).1 h2).1, (al_p_St_leave i0 (fun i => ((h1 i).1 h2).2) (fun _ h3 => (al_p_St_emptyCells i0 (fun i => (h3 i)) (fun _ h4 => (kQ _ _ (fun i => (h4 i)))))))⟩), (fun h5 => (kQ _ _ (fun i => ((h1 i).2 h5))))⟩))
theorem al_p_Ac_isAct {I : Type} (i0 : I) {w : MW} {a0 : Int32} {Q1 : I → Int32 → MW → Prop} {Q3 : Int32 → MW → Prop}  (h : ∀ i : I, p_Ac_isAct w a0 (Q1 i)) (kQ : ∀ x0 x1, (∀ i : I, Q1 i x0 x1) → Q3 x0 x1) : p_Ac_isAct w a0 Q3 := by
  have h := fun i => Eq.mp (p_Ac_isAct.eq_1 ..) (h i)
  refine Eq.mpr (p_Ac_isAct.eq_1 ..) ?_
  exact ⟨(fun h1 => (kQ _ _ (fun i => ((h i).1 h1)))), (fun h2 => ⟨(fun h3 => (kQ _ _ (fun i => (((h i).2 h2).1 h3)))), (fun h4 => (kQ _ _ (fun i => (((h i).2 h2).2 h4))))⟩)⟩
theorem al_p_St_isTank {I : Type} (i0 : I) {w : MW} {a0 : Int32} {Q1 : I → Int32 → MW → Prop} {Q3 : Int32 → MW → Prop}  (h : ∀ i : I, p_St_isTank w a0 (Q1 i)) (kQ : ∀ x0 x1, (∀ i : I, Q1 i x0 x1) → Q3 x0 x1) : p_St_isTank w a0 Q3 := by
  have h := fun i => Eq.mp (p_St_isTank.eq_1 ..) (h i)
  refine Eq.mpr (p_St_isTank.eq_1 ..) ?_
  exact ⟨(fun h1 => (kQ _ _ (fun i => ((h i).1 h1)))), (fun h2 => ⟨((h i0).2 h2).1, ⟨(fun h3 => (kQ _ _ (fun i => (((h i).2 h2).2.1 h3)))), (fun h4 => ⟨(((h i0).2 h2).2.2 h4).1, ⟨(((h i0).2 h2).2.2 h4).2.1, ⟨(fun h5 => (kQ _ _ (fun i => ((((h i).2 h2).2.2 h4).2.2.1 h5)))), (fun h6 => (kQ _ _ (fun i => ((((h i).2 h2).2.2 h4).2.2.2 h6))))⟩⟩⟩)⟩⟩)⟩
theorem al_p_St_isHolder {I : Type} (i0 : I) {w : MW} {a0 : Int32} {Q1 : I → Int32 → MW → Prop} {Q3 : Int32 → MW → Prop}  (h : ∀ i : I, p_St_isHolder w a0 (Q1 i)) (kQ : ∀ x0 x1, (∀ i : I, Q1 i x0 x1) → Q3 x0 x1) : p_St_isHolder w a0 Q3 := by
  have h := fun i => Eq.mp (p_St_isHolder.eq_1 ..) (h i)
  refine Eq.mpr (p_St_isHolder.eq_1 ..) ?_
  exact (al_p_St_isTank i0 (fun i => (h i)) (fun _ _ h1 => ⟨(fun h2 => (kQ _ _ (fun i => ((h1 i).1 h2)))), (fun h3 => (al_p_St_isPipe i0 (fun i => ((h1 i).2 h3)) (fun _ _ h4 => ⟨(fun h5 => (kQ _ _ (fun i => ((h4 i).1 h5)))), (fun h6 => (kQ _ _ (fun i => ((h4 i).2 h6))))⟩)))⟩))
theorem al_p_St_isValve {I : Type} (i0 : I) {w : MW} {a0 : Int32} {Q1 : I → Int32 → MW → Prop} {Q3 : Int32 → MW → Prop}  (h : ∀ i : I, p_St_isValve w a0 (Q1 i)) (kQ : ∀ x0 x1, (∀ i : I, Q1 i x0 x1) → Q3 x0 x1) : p_St_isValve w a0 Q3 := by
  have h := fun i => Eq.mp (p_St_isValve.eq_1 ..) (h i)
  refine Eq.mpr (p_St_isValve.eq_1 ..) ?_
  exact ⟨(fun h1 => (kQ _ _ (fun i => ((h i).1 h1)))), (fun h2 => ⟨((h i0).2 h2).1, ⟨(fun h3 => (kQ _ _ (fun i => (((h i).2 h2).2.1 h3)))), (fun h4 => ⟨(((h i0).2 h2).2.2 h4).1, ⟨(((h i0).2 h2).2.2 h4).2.1, ⟨(fun h5 => (kQ _ _ (fun i => ((((h i).2 h2).2.2 h4).2.2.1 h5)))), (fun h6 => (kQ _ _ (fun i => ((((h i).2 h2).2.2 h4).2.2.2 h6))))⟩⟩⟩)⟩⟩)⟩
theorem al_p_Ac_isBound {I : Type} (i0 : I) {w : MW} {a0 : Int32} {Q1 : I → Int32 → MW → Prop} {Q3 : Int32 → MW → Prop}  (h : ∀ i : I, p_Ac_isBound w a0 (Q1 i)) (kQ : ∀ x0 x1, (∀ i : I, Q1 i x0 x1) → Q3 x0 x1) : p_Ac_isBound w a0 Q3 := by
  have h := fun i => Eq.mp (p_Ac_isBound.eq_1 ..) (h i)
  refine Eq.mpr (p_Ac_isBound.eq_1 ..) ?_
  exact ⟨(h i0).1, ⟨(fun h1 => ⟨((h i0).2.1 h1).1, (al_p_St_isTank i0 (fun i => ((h i).2.1 h1).2) (fun _ _ h2 => ⟨(fun h3 => (kQ _ _ (fun i => ((h2 i).1 h3)))), (fun h4 => ⟨((h2 i0).2 h4).1, (al_p_St_isTank i0 (fun i => ((h2 i).2 h4).2) (fun _ _ h5 => ⟨(fun h6 => (kQ _ _ (fun i => ((h5 i).1 h6)))), (fun h7 => ⟨((h5 i0).2 h7).1, ⟨((h5 i0).2 h7).2.1, ⟨(fun h8 => (kQ _ _ (fun i => (((h5 i).2 h7).2.2.1 h8)))), (fun h9 => (kQ _ _ (fun i => (((h5 i).2 h7).2.2.2 h9))))⟩⟩⟩)⟩))⟩)⟩))⟩), (fun h10 => ⟨(fun h11 => ⟨(((h i0).2.2 h10).1 h11).1, (al_p_St_isTank i0 (fun i => (((h i).2.2 h10).1 h11).2) (fun _ _ h12 => ⟨(fun h13 => (kQ _ _ (fun i => ((h12 i).1 h13)))), (fun h14 => ⟨((h12 i0).2 h14).1, (al_p_St_isTank i0 (fun i => ((h12 i).2 h14).2) (fun _ _ h15 => ⟨(fun h16 => (kQ _ _ (fun i => ((h15 i).1 h16)))), (fun h17 => ⟨((h15 i0).2 h17).1, ⟨((h15 i0).2 h17).2.1, ⟨(fun h18 => (kQ _ _ (fun i => (((h15 i).2 h17).2.2.1 h18)))), (fun h19 => (kQ _ _ (fun i => (((h15 i).2 h17).2.2.2 h19))))⟩⟩⟩)⟩))⟩)⟩))⟩), (fun h20 => ⟨(fun h21 => ⟨((((h i0).2.2 h10).2 h20).1 h21).1, (al_p_St_isValve i0 (fun i => ((((h i).2.2 h10).2 h20).1 h21).2) (fun _ _ h22 => (kQ _ _ (fun i => (h22 i)))))⟩), (fun h23 => ⟨(fun h24 => ⟨(((((h i0).2.2 h10).2 h20).2 h23).1 h24).1, (al_p_St_isHolder i0 (fun i => (((((h i).2.2 h10).2 h20).2 h23).1 h24).2) (fun _ _ h25 => (kQ _ _ (fun i => (h25 i)))))⟩), (fun h26 => ⟨(fun h27 => ⟨((((((h i0).2.2 h10).2 h20).2 h23).2 h26).1 h27).1, (al_p_St_isHolder i0 (fun i => ((((((h i).2.2 h10).2 h20).2 h23).2 h26).1 h27).2) (fun _ _ h28 => (kQ _ _ (fun i => (h28 i)))))⟩), (fun h29 => (kQ _ _ (fun i => ((((((h i).2.2 h10).2 h20).2 h23).2 h26).2 h29))))⟩)⟩)⟩)⟩)⟩⟩
theorem al_q_Ar_fill1_43_6 {I : Type} (i0 : I) {x6_1 : Int64} {x6_4 : Int32} {E1 : I → MW → Prop} {E3 : MW → Prop} {Q1 : I → MW → Prop} {Q3 : MW → Prop}  (kE : ∀ x0, (∀ i : I, E1 i x0) → E3 x0) (kQ : ∀ x0, (∀ i : I, Q1 i x0) → Q3 x0) : ∀ (m : Nat) (x6_3 : Int32) (w : MW), (∀ i : I, q_Ar_fill1_43_6 x6_1 x6_4 (E1 i) (Q1 i) m x6_3 w) → q_Ar_fill1_43_6 x6_1 x6_4 E3 Q3 m x6_3 w := by
  intro m
  induction m with
  | zero => exact fun _ _ h => False.elim (h i0)
  | succ m ih =>
    intro x6_3 w h
    have h := fun i => Eq.mp (q_Ar_fill1_43_6.eq_2 ..) (h i)
    refine Eq.mpr (q_Ar_fill1_43_6.eq_2 ..) ?_
    exact ⟨(fun h1 => (kE _ (fun i => ((h i).1 h1)))), (fun h2 => ⟨((h i0).2 h2).1, (ih _ _ (fun i => ((h i).2 h2).2))⟩)⟩
theorem al_p_Ar_fill1_43 {I : Type} (i0 : I) {w : MW} {a0 : Int64} {Q1 : I → MW → Prop} {Q3 : MW → Prop}  (h : ∀ i : I, p_Ar_fill1_43 w a0 (Q1 i)) (kQ : ∀ x0, (∀ i : I, Q1 i x0) → Q3 x0) : p_Ar_fill1_43 w a0 Q3 := by
  have h := fun i => Eq.mp (p_Ar_fill1_43.eq_1 ..) (h i)
  refine Eq.mpr (p_Ar_fill1_43.eq_1 ..) ?_
  exact (al_q_Ar_fill1_43_6 i0  (fun _ h1 => (kQ _ (fun i => (h1 i)))) kQ _ _ _ (fun i => (h i)))
theorem al_q_Sf_findRivals_2 {I : Type} (i0 : I)  {E1 : I → MW → Prop} {E3 : MW → Prop} {Q1 : I → Int32 → MW → Prop} {Q3 : Int32 → MW → Prop}  (kE : ∀ x0, (∀ i : I, E1 i x0) → E3 x0) (kQ : ∀ x0 x1, (∀ i : I, Q1 i x0 x1) → Q3 x0 x1) : ∀ (m : Nat) (x2_1 : Int32) (w : MW), (∀ i : I, q_Sf_findRivals_2 (E1 i) (Q1 i) m x2_1 w) → q_Sf_findRivals_2 E3 Q3 m x2_1 w := by
  intro m
  induction m with
  | zero => exact fun _ _ h => False.elim (h i0)
  | succ m ih =>
    intro x2_1 w h
    have h := fun i => Eq.mp (q_Sf_findRivals_2.eq_2 ..) (h i)
    refine Eq.mpr (q_Sf_findRivals_2.eq_2 ..) ?_
    exact ⟨(h i0).1, ⟨(h i0).2.1, ⟨(fun h1 => (kE _ (fun i => ((h i).2.2.1 h1)))), (fun h2 => ⟨((h i0).2.2.2 h2).1, ⟨((h i0).2.2.2 h2).2.1, ⟨((h i0).2.2.2 h2).2.2.1, (ih _ _ (fun i => ((h i).2.2.2 h2).2.2.2))⟩⟩⟩)⟩⟩⟩
theorem al_q_Sf_findRivals_57 {I : Type} (i0 : I)  {E1 : I → Int32 → MW → Prop} {E3 : Int32 → MW → Prop} {Q1 : I → Int32 → MW → Prop} {Q3 : Int32 → MW → Prop}  (kE : ∀ x0 x1, (∀ i : I, E1 i x0 x1) → E3 x0 x1) (kQ : ∀ x0 x1, (∀ i : I, Q1 i x0 x1) → Q3 x0 x1) : ∀ (m : Nat) (x57_1 : Int32) (x57_2 : Int32) (w : MW), (∀ i : I, q_Sf_findRivals_57 (E1 i) (Q1 i) m x57_1 x57_2 w) → q_Sf_findRivals_57 E3 Q3 m x57_1 x57_2 w := by
  intro m
  induction m with
  | zero => exact fun _ _ _ h => False.elim (h i0)
  | succ m ih =>
    intro x57_1 x57_2 w h
    have h := fun i => Eq.mp (q_Sf_findRivals_57.eq_2 ..) (h i)
    refine Eq.mpr (q_Sf_findRivals_57.eq_2 ..) ?_
    exact ⟨(fun h1 => (kE _ _ (fun i => ((h i).1 h1)))), (fun h2 => ⟨((h i0).2 h2).1, ⟨(fun h3 => (ih _ _ _ (fun i => (((h i).2 h2).2.1 h3)))), (fun h4 => (ih _ _ _ (fun i => (((h i).2 h2).2.2 h4))))⟩⟩)⟩
theorem al_q_Sf_findRivals_143 {I : Type} (i0 : I) {x94_1 : Int32} {y143_2 : Int32} {y143_3 : Int32} {ys143_0 : Int32} {ys143_1 : Int32} {w : MW} {A1 : I → Int32 → Int32 → MW → Prop} {A3 : Int32 → Int32 → MW → Prop} {E1 : I → Int32 → MW → Prop} {E3 : Int32 → MW → Prop} {Q1 : I → Int32 → MW → Prop} {Q3 : Int32 → MW → Prop}  (kA : ∀ x0 x1 x2, (∀ i : I, A1 i x0 x1 x2) → A3 x0 x1 x2) (kE : ∀ x0 x1, (∀ i : I, E1 i x0 x1) → E3 x0 x1) (kQ : ∀ x0 x1, (∀ i : I, Q1 i x0 x1) → Q3 x0 x1) (h : ∀ i : I, q_Sf_findRivals_143 x94_1 y143_2 y143_3 ys143_0 ys143_1 w (A1 i) (E1 i) (Q1 i)) : q_Sf_findRivals_143 x94_1 y143_2 y143_3 ys143_0 ys143_1 w A3 E3 Q3 := by
  have h := fun i => Eq.mp (q_Sf_findRivals_143.eq_1 ..) (h i)
  refine Eq.mpr (q_Sf_findRivals_143.eq_1 ..) ?_
  exact ⟨(h i0).1, ⟨(fun h1 => (kA _ _ _ (fun i => ((h i).2.1 h1)))), (fun h2 => ⟨((h i0).2.2 h2).1, ⟨(fun h3 => (kA _ _ _ (fun i => (((h i).2.2 h2).2.1 h3)))), (fun h4 => (kA _ _ _ (fun i => (((h i).2.2 h2).2.2 h4))))⟩⟩)⟩⟩
theorem al_q_Sf_findRivals_94 {I : Type} (i0 : I) {x94_1 : Int32} {E1 : I → Int32 → MW → Prop} {E3 : Int32 → MW → Prop} {Q1 : I → Int32 → MW → Prop} {Q3 : Int32 → MW → Prop}  (kE : ∀ x0 x1, (∀ i : I, E1 i x0 x1) → E3 x0 x1) (kQ : ∀ x0 x1, (∀ i : I, Q1 i x0 x1) → Q3 x0 x1) : ∀ (m : Nat) (x94_2 : Int32) (x94_3 : Int32) (w : MW), (∀ i : I, q_Sf_findRivals_94 x94_1 (E1 i) (Q1 i) m x94_2 x94_3 w) → q_Sf_findRivals_94 x94_1 E3 Q3 m x94_2 x94_3 w := by
  intro m
  induction m with
  | zero => exact fun _ _ _ h => False.elim (h i0)
  | succ m ih =>
    intro x94_2 x94_3 w h
    have h := fun i => Eq.mp (q_Sf_findRivals_94.eq_2 ..) (h i)
    refine Eq.mpr (q_Sf_findRivals_94.eq_2 ..) ?_
    exact ⟨(fun h1 => (kE _ _ (fun i => ((h i).1 h1)))), (fun h2 => ⟨((h i0).2 h2).1, ⟨((h i0).2 h2).2.1, ⟨(fun h3 => (al_q_Sf_findRivals_143 i0  (fun _ _ _ h4 => (ih _ _ _ (fun i => (h4 i)))) kE kQ (fun i => (((h i).2 h2).2.2.1 h3)))), (fun h5 => (al_q_Sf_findRivals_143 i0  (fun _ _ _ h6 => (ih _ _ _ (fun i => (h6 i)))) kE kQ (fun i => (((h i).2 h2).2.2.2 h5))))⟩⟩⟩)⟩
theorem al_p_Sf_findRivals {I : Type} (i0 : I) {w : MW} {Q1 : I → Int32 → MW → Prop} {Q3 : Int32 → MW → Prop}  (h : ∀ i : I, p_Sf_findRivals w (Q1 i)) (kQ : ∀ x0 x1, (∀ i : I, Q1 i x0 x1) → Q3 x0 x1) : p_Sf_findRivals w Q3 := by
  have h := fun i => Eq.mp (p_Sf_findRivals.eq_1 ..) (h i)
  refine Eq.mpr (p_Sf_findRivals.eq_1 ..) ?_
  exact (al_q_Sf_findRivals_2 i0  (fun _ h1 => (al_q_Sf_findRivals_57 i0  (fun _ _ h2 => (al_q_Sf_findRivals_94 i0  (fun _ _ h3 => ⟨(h3 i0).1, (kQ _ _ (fun i => (h3 i).2))⟩) kQ _ _ _ _ (fun i => (h2 i)))) kQ _ _ _ _ (fun i => (h1 i)))) kQ _ _ _ (fun i => (h i)))
theorem al_q_Ar_fill1_46_6 {I : Type} (i0 : I) {x6_1 : Int64} {x6_4 : Int32} {E1 : I → MW → Prop} {E3 : MW → Prop} {Q1 : I → MW → Prop} {Q3 : MW → Prop}  (kE : ∀ x0, (∀ i : I, E1 i x0) → E3 x0) (kQ : ∀ x0, (∀ i : I, Q1 i x0) → Q3 x0) : ∀ (m : Nat) (x6_3 : Int32) (w : MW), (∀ i : I, q_Ar_fill1_46_6 x6_1 x6_4 (E1 i) (Q1 i) m x6_3 w) → q_Ar_fill1_46_6 x6_1 x6_4 E3 Q3 m x6_3 w := by
  intro m
  induction m with
  | zero => exact fun _ _ h => False.elim (h i0)
  | succ m ih =>
    intro x6_3 w h
    have h := fun i => Eq.mp (q_Ar_fill1_46_6.eq_2 ..) (h i)
    refine Eq.mpr (q_Ar_fill1_46_6.eq_2 ..) ?_
    exact ⟨(fun h1 => (kE _ (fun i => ((h i).1 h1)))), (fun h2 => ⟨((h i0).2 h2).1, (ih _ _ (fun i => ((h i).2 h2).2))⟩)⟩
theorem al_p_Ar_fill1_46 {I : Type} (i0 : I) {w : MW} {a0 : Int64} {Q1 : I → MW → Prop} {Q3 : MW → Prop}  (h : ∀ i : I, p_Ar_fill1_46 w a0 (Q1 i)) (kQ : ∀ x0, (∀ i : I, Q1 i x0) → Q3 x0) : p_Ar_fill1_46 w a0 Q3 := by
  have h := fun i => Eq.mp (p_Ar_fill1_46.eq_1 ..) (h i)
  refine Eq.mpr (p_Ar_fill1_46.eq_1 ..) ?_
  exact (al_q_Ar_fill1_46_6 i0  (fun _ h1 => (kQ _ (fun i => (h1 i)))) kQ _ _ _ (fun i => (h i)))
theorem al_q_Sf_link_160 {I : Type} (i0 : I) {x160_1 : Int32} {x160_2 : Int32} {x160_4 : Int32} {x160_5 : Int32} {x160_6 : Int32} {x160_8 : Int32} {E1 : I → MW → Prop} {E3 : MW → Prop} {Q1 : I → MW → Prop} {Q3 : MW → Prop}  (kE : ∀ x0, (∀ i : I, E1 i x0) → E3 x0) (kQ : ∀ x0, (∀ i : I, Q1 i x0) → Q3 x0) : ∀ (m : Nat) (x160_9 : Int32) (w : MW), (∀ i : I, q_Sf_link_160 x160_1 x160_2 x160_4 x160_5 x160_6 x160_8 (E1 i) (Q1 i) m x160_9 w) → q_Sf_link_160 x160_1 x160_2 x160_4 x160_5 x160_6 x160_8 E3 Q3 m x160_9 w := by
  intro m
  induction m with
  | zero => exact fun _ _ h => False.elim (h i0)
  | succ m ih =>
    intro x160_9 w h
    have h := fun i => Eq.mp (q_Sf_link_160.eq_2 ..) (h i)
    refine Eq.mpr (q_Sf_link_160.eq_2 ..) ?_
    exact ⟨(fun h1 => (kE _ (fun i => ((h i).1 h1)))), (fun h2 => ⟨((h i0).2 h2).1, ⟨(fun h3 => (ih _ _ (fun i => (((h i).2 h2).2.1 h3)))), (fun h4 => ⟨(fun h5 => (ih _ _ (fun i => ((((h i).2 h2).2.2 h4).1 h5)))), (fun h6 => ⟨((((h i0).2 h2).2.2 h4).2 h6).1, ⟨((((h i0).2 h2).2.2 h4).2 h6).2.1, (ih _ _ (fun i => ((((h i).2 h2).2.2 h4).2 h6).2.2))⟩⟩)⟩)⟩⟩)⟩
theorem al_q_Sf_link_142 {I : Type} (i0 : I) {x19_1 : Int32} {x19_2 : Int32} {y142_4 : Int32} {y142_5 : Int32} {y142_6 : Int32} {ys142_0 : Int32} {w : MW} {A1 : I → Int32 → MW → Prop} {A3 : Int32 → MW → Prop} {E1 : I → MW → Prop} {E3 : MW → Prop} {Q1 : I → MW → Prop} {Q3 : MW → Prop}  (kA : ∀ x0 x1, (∀ i : I, A1 i x0 x1) → A3 x0 x1) (kE : ∀ x0, (∀ i : I, E1 i x0) → E3 x0) (kQ : ∀ x0, (∀ i : I, Q1 i x0) → Q3 x0) (h : ∀ i : I, q_Sf_link_142 x19_1 x19_2 y142_4 y142_5 y142_6 ys142_0 w (A1 i) (E1 i) (Q1 i)) : q_Sf_link_142 x19_1 x19_2 y142_4 y142_5 y142_6 ys142_0 w A3 E3 Q3 := by
  have h := fun i => Eq.mp (q_Sf_link_142.eq_1 ..) (h i)
  refine Eq.mpr (q_Sf_link_142.eq_1 ..) ?_
  exact ⟨(h i0).1, (al_q_Sf_link_160 i0  (fun _ h1 => (kA _ _ (fun i => (h1 i)))) kQ _ _ _ (fun i => (h i).2))⟩
theorem al_q_Sf_link_98 {I : Type} (i0 : I) {x19_1 : Int32} {x19_2 : Int32} {y98_4 : Int32} {y98_5 : Int32} {y98_6 : Int32} {w : MW} {A1 : I → Int32 → MW → Prop} {A3 : Int32 → MW → Prop} {E1 : I → MW → Prop} {E3 : MW → Prop} {Q1 : I → MW → Prop} {Q3 : MW → Prop}  (kA : ∀ x0 x1, (∀ i : I, A1 i x0 x1) → A3 x0 x1) (kE : ∀ x0, (∀ i : I, E1 i x0) → E3 x0) (kQ : ∀ x0, (∀ i : I, Q1 i x0) → Q3 x0) (h : ∀ i : I, q_Sf_link_98 x19_1 x19_2 y98_4 y98_5 y98_6 w (A1 i) (E1 i) (Q1 i)) : q_Sf_link_98 x19_1 x19_2 y98_4 y98_5 y98_6 w A3 E3 Q3 := by
  have h := fun i => Eq.mp (q_Sf_link_98.eq_1 ..) (h i)
  refine Eq.mpr (q_Sf_link_98.eq_1 ..) ?_
  exact ⟨(fun h1 => (kA _ _ (fun i => ((h i).1 h1)))), (fun h2 => ⟨((h i0).2 h2).1, ⟨((h i0).2 h2).2.1, ⟨((h i0).2 h2).2.2.1, ⟨(fun h3 => (al_q_Sf_link_142 i0  kA kE kQ (fun i => (((h i).2 h2).2.2.2.1 h3)))), (fun h4 => (al_q_Sf_link_142 i0  kA kE kQ (fun i => (((h i).2 h2).2.2.2.2 h4))))⟩⟩⟩⟩)⟩
theorem al_q_Sf_link_19 {I : Type} (i0 : I) {x19_1 : Int32} {x19_2 : Int32} {E1 : I → MW → Prop} {E3 : MW → Prop} {Q1 : I → MW → Prop} {Q3 : MW → Prop}  (kE : ∀ x0, (∀ i : I, E1 i x0) → E3 x0) (kQ : ∀ x0, (∀ i : I, Q1 i x0) → Q3 x0) : ∀ (m : Nat) (x19_4 : Int32) (w : MW), (∀ i : I, q_Sf_link_19 x19_1 x19_2 (E1 i) (Q1 i) m x19_4 w) → q_Sf_link_19 x19_1 x19_2 E3 Q3 m x19_4 w := by
  intro m
  induction m with
  | zero => exact fun _ _ h => False.elim (h i0)
  | succ m ih =>
    intro x19_4 w h
    have h := fun i => Eq.mp (q_Sf_link_19.eq_2 ..) (h i)
    refine Eq.mpr (q_Sf_link_19.eq_2 ..) ?_
    exact ⟨(fun h1 => (kE _ (fun i => ((h i).1 h1)))), (fun h2 => ⟨((h i0).2 h2).1, ⟨(fun h3 => (al_q_Sf_link_98 i0  (fun _ _ h4 => (ih _ _ (fun i => (h4 i)))) kE kQ (fun i => (((h i).2 h2).2.1 h3)))), (fun h5 => ⟨(((h i0).2 h2).2.2 h5).1, ⟨(fun h6 => (al_q_Sf_link_98 i0  (fun _ _ h7 => (ih _ _ (fun i => (h7 i)))) kE kQ (fun i => ((((h i).2 h2).2.2 h5).2.1 h6)))), (fun h8 => ⟨((((h i0).2 h2).2.2 h5).2.2 h8).1, ⟨((((h i0).2 h2).2.2 h5).2.2 h8).2.1, ⟨((((h i0).2 h2).2.2 h5).2.2 h8).2.2.1, ⟨((((h i0).2 h2).2.2 h5).2.2 h8).2.2.2.1, (ih _ _ (fun i => ((((h i).2 h2).2.2 h5).2.2 h8).2.2.2.2))⟩⟩⟩⟩)⟩⟩)⟩⟩)⟩
theorem al_p_Sf_link {I : Type} (i0 : I) {w : MW} {a0 : Int32} {b0 : Int32} {Q1 : I → MW → Prop} {Q3 : MW → Prop}  (h : ∀ i : I, p_Sf_link w a0 b0 (Q1 i)) (kQ : ∀ x0, (∀ i : I, Q1 i x0) → Q3 x0) : p_Sf_link w a0 b0 Q3 := by
  have h := fun i => Eq.mp (p_Sf_link.eq_1 ..) (h i)
  refine Eq.mpr (p_Sf_link.eq_1 ..) ?_
  exact ⟨(h i0).1, (al_p_Ar_fill1_46 i0 (fun i => (h i).2) (fun _ h1 => (al_q_Sf_link_19 i0  (fun _ h2 => (kQ _ (fun i => (h2 i)))) kQ _ _ _ (fun i => (h1 i)))))⟩
theorem al_q_In_numberOfTrailingZeros_62 {I : Type} (i0 : I) {y62_0 : Int32} {y62_1 : Int32} {w : MW} {Q1 : I → Int32 → MW → Prop} {Q3 : Int32 → MW → Prop}  (kQ : ∀ x0 x1, (∀ i : I, Q1 i x0 x1) → Q3 x0 x1) (h : ∀ i : I, q_In_numberOfTrailingZeros_62 y62_0 y62_1 w (Q1 i)) : q_In_numberOfTrailingZeros_62 y62_0 y62_1 w Q3 := by
  have h := fun i => Eq.mp (q_In_numberOfTrailingZeros_62.eq_1 ..) (h i)
  refine Eq.mpr (q_In_numberOfTrailingZeros_62.eq_1 ..) ?_
  exact ⟨(fun h1 => (kQ _ _ (fun i => ((h i).1 h1)))), (fun h2 => (kQ _ _ (fun i => ((h i).2 h2))))⟩
theorem al_q_In_numberOfTrailingZeros_34 {I : Type} (i0 : I) {y34_0 : Int32} {y34_1 : Int32} {w : MW} {Q1 : I → Int32 → MW → Prop} {Q3 : Int32 → MW → Prop}  (kQ : ∀ x0 x1, (∀ i : I, Q1 i x0 x1) → Q3 x0 x1) (h : ∀ i : I, q_In_numberOfTrailingZeros_34 y34_0 y34_1 w (Q1 i)) : q_In_numberOfTrailingZeros_34 y34_0 y34_1 w Q3 := by
  have h := fun i => Eq.mp (q_In_numberOfTrailingZeros_34.eq_1 ..) (h i)
  refine Eq.mpr (q_In_numberOfTrailingZeros_34.eq_1 ..) ?_
  exact ⟨(fun h1 => ⟨(fun h2 => (al_q_In_numberOfTrailingZeros_62 i0  kQ (fun i => (((h i).1 h1).1 h2)))), (fun h3 => (al_q_In_numberOfTrailingZeros_62 i0  kQ (fun i => (((h i).1 h1).2 h3))))⟩), (fun h4 => ⟨(fun h5 => (al_q_In_numberOfTrailingZeros_62 i0  kQ (fun i => (((h i).2 h4).1 h5)))), (fun h6 => (al_q_In_numberOfTrailingZeros_62 i0  kQ (fun i => (((h i).2 h4).2 h6))))⟩)⟩
theorem al_p_In_numberOfTrailingZeros {I : Type} (i0 : I) {w : MW} {a0 : Int32} {Q1 : I → Int32 → MW → Prop} {Q3 : Int32 → MW → Prop}  (h : ∀ i : I, p_In_numberOfTrailingZeros w a0 (Q1 i)) (kQ : ∀ x0 x1, (∀ i : I, Q1 i x0 x1) → Q3 x0 x1) : p_In_numberOfTrailingZeros w a0 Q3 := by
  have h := fun i => Eq.mp (p_In_numberOfTrailingZeros.eq_1 ..) (h i)
  refine Eq.mpr (p_In_numberOfTrailingZeros.eq_1 ..) ?_
  exact ⟨(fun h1 => ⟨(fun h2 => (al_q_In_numberOfTrailingZeros_34 i0  kQ (fun i => (((h i).1 h1).1 h2)))), (fun h3 => (al_q_In_numberOfTrailingZeros_34 i0  kQ (fun i => (((h i).1 h1).2 h3))))⟩), (fun h4 => (kQ _ _ (fun i => ((h i).2 h4))))⟩
theorem al_p_Lo_numberOfTrailingZeros {I : Type} (i0 : I) {w : MW} {a0 : Int64} {Q1 : I → Int32 → MW → Prop} {Q3 : Int32 → MW → Prop}  (h : ∀ i : I, p_Lo_numberOfTrailingZeros w a0 (Q1 i)) (kQ : ∀ x0 x1, (∀ i : I, Q1 i x0 x1) → Q3 x0 x1) : p_Lo_numberOfTrailingZeros w a0 Q3 := by
  have h := fun i => Eq.mp (p_Lo_numberOfTrailingZeros.eq_1 ..) (h i)
  refine Eq.mpr (p_Lo_numberOfTrailingZeros.eq_1 ..) ?_
  exact ⟨(fun h1 => (al_p_In_numberOfTrailingZeros i0 (fun i => ((h i).1 h1)) (fun _ _ h2 => (kQ _ _ (fun i => (h2 i)))))), (fun h3 => (al_p_In_numberOfTrailingZeros i0 (fun i => ((h i).2 h3)) (fun _ _ h4 => (kQ _ _ (fun i => (h4 i))))))⟩
theorem al_q_Sf_meet_173 {I : Type} (i0 : I) {x116_1 : Int32} {y173_4 : Int32} {ys173_0 : Int32} {w : MW} {A1 : I → Int32 → MW → Prop} {A3 : Int32 → MW → Prop} {E1 : I → MW → Prop} {E3 : MW → Prop} {Q1 : I → Int32 → MW → Prop} {Q3 : Int32 → MW → Prop}  (kA : ∀ x0 x1, (∀ i : I, A1 i x0 x1) → A3 x0 x1) (kE : ∀ x0, (∀ i : I, E1 i x0) → E3 x0) (kQ : ∀ x0 x1, (∀ i : I, Q1 i x0 x1) → Q3 x0 x1) (h : ∀ i : I, q_Sf_meet_173 x116_1 y173_4 ys173_0 w (A1 i) (E1 i) (Q1 i)) : q_Sf_meet_173 x116_1 y173_4 ys173_0 w A3 E3 Q3 := by
  have h := fun i => Eq.mp (q_Sf_meet_173.eq_1 ..) (h i)
  refine Eq.mpr (q_Sf_meet_173.eq_1 ..) ?_
  exact ⟨(fun h1 => (kA _ _ (fun i => ((h i).1 h1)))), (fun h2 => ⟨(fun h3 => (kA _ _ (fun i => (((h i).2 h2).1 h3)))), (fun h4 => ⟨(fun h5 => (kA _ _ (fun i => ((((h i).2 h2).2 h4).1 h5)))), (fun h6 => ⟨(fun h7 => (kA _ _ (fun i => (((((h i).2 h2).2 h4).2 h6).1 h7)))), (fun h8 => (kA _ _ (fun i => (((((h i).2 h2).2 h4).2 h6).2 h8))))⟩)⟩)⟩)⟩
theorem al_q_Sf_meet_116 {I : Type} (i0 : I) {x116_1 : Int32} {E1 : I → MW → Prop} {E3 : MW → Prop} {Q1 : I → Int32 → MW → Prop} {Q3 : Int32 → MW → Prop}  (kE : ∀ x0, (∀ i : I, E1 i x0) → E3 x0) (kQ : ∀ x0 x1, (∀ i : I, Q1 i x0 x1) → Q3 x0 x1) : ∀ (m : Nat) (x116_4 : Int32) (w : MW), (∀ i : I, q_Sf_meet_116 x116_1 (E1 i) (Q1 i) m x116_4 w) → q_Sf_meet_116 x116_1 E3 Q3 m x116_4 w := by
  intro m
  induction m with
  | zero => exact fun _ _ h => False.elim (h i0)
  | succ m ih =>
    intro x116_4 w h
    have h := fun i => Eq.mp (q_Sf_meet_116.eq_2 ..) (h i)
    refine Eq.mpr (q_Sf_meet_116.eq_2 ..) ?_
    exact ⟨(fun h1 => (kE _ (fun i => ((h i).1 h1)))), (fun h2 => ⟨((h i0).2 h2).1, ⟨(fun h3 => (al_q_Sf_meet_173 i0  (fun _ _ h4 => (ih _ _ (fun i => (h4 i)))) kE kQ (fun i => (((h i).2 h2).2.1 h3)))), (fun h5 => ⟨(((h i0).2 h2).2.2 h5).1, ⟨(((h i0).2 h2).2.2 h5).2.1, ⟨(fun h6 => (al_p_Lo_numberOfTrailingZeros i0 (fun i => ((((h i).2 h2).2.2 h5).2.2.1 h6)) (fun _ _ h7 => (al_q_Sf_meet_173 i0  (fun _ _ h8 => (ih _ _ (fun i => (h8 i)))) kE kQ (fun i => (h7 i)))))), (fun h9 => (al_q_Sf_meet_173 i0  (fun _ _ h10 => (ih _ _ (fun i => (h10 i)))) kE kQ (fun i => ((((h i).2 h2).2.2 h5).2.2.2 h9))))⟩⟩⟩)⟩⟩)⟩
theorem al_q_Sf_meet_49 {I : Type} (i0 : I) {x49_1 : Int32} {E1 : I → MW → Prop} {E3 : MW → Prop} {Q1 : I → Int32 → MW → Prop} {Q3 : Int32 → MW → Prop}  (kE : ∀ x0, (∀ i : I, E1 i x0) → E3 x0) (kQ : ∀ x0 x1, (∀ i : I, Q1 i x0 x1) → Q3 x0 x1) : ∀ (m : Nat) (x49_2 : Int64) (x49_4 : Int32) (w : MW), (∀ i : I, q_Sf_meet_49 x49_1 (E1 i) (Q1 i) m x49_2 x49_4 w) → q_Sf_meet_49 x49_1 E3 Q3 m x49_2 x49_4 w := by
  intro m
  induction m with
  | zero => exact fun _ _ _ h => False.elim (h i0)
  | succ m ih =>
    intro x49_2 x49_4 w h
    have h := fun i => Eq.mp (q_Sf_meet_49.eq_2 ..) (h i)
    refine Eq.mpr (q_Sf_meet_49.eq_2 ..) ?_
    exact ⟨(fun h1 => (kE _ (fun i => ((h i).1 h1)))), (fun h2 => ⟨(fun h3 => (kE _ (fun i => (((h i).2 h2).1 h3)))), (fun h4 => (al_p_Lo_numberOfTrailingZeros i0 (fun i => (((h i).2 h2).2 h4)) (fun _ _ h5 => ⟨(h5 i0).1, ⟨(h5 i0).2.1, ⟨(h5 i0).2.2.1, ⟨(h5 i0).2.2.2.1, (ih _ _ _ (fun i => (h5 i).2.2.2.2))⟩⟩⟩⟩)))⟩)⟩
theorem al_q_Sf_meet_8 {I : Type} (i0 : I)  {E1 : I → MW → Prop} {E3 : MW → Prop} {Q1 : I → Int32 → MW → Prop} {Q3 : Int32 → MW → Prop}  (kE : ∀ x0, (∀ i : I, E1 i x0) → E3 x0) (kQ : ∀ x0 x1, (∀ i : I, Q1 i x0 x1) → Q3 x0 x1) : ∀ (m : Nat) (x8_1 : Int32) (w : MW), (∀ i : I, q_Sf_meet_8 (E1 i) (Q1 i) m x8_1 w) → q_Sf_meet_8 E3 Q3 m x8_1 w := by
  intro m
  induction m with
  | zero => exact fun _ _ h => False.elim (h i0)
  | succ m ih =>
    intro x8_1 w h
    have h := fun i => Eq.mp (q_Sf_meet_8.eq_2 ..) (h i)
    refine Eq.mpr (q_Sf_meet_8.eq_2 ..) ?_
    exact ⟨(fun h1 => (kE _ (fun i => ((h i).1 h1)))), (fun h2 => ⟨((h i0).2 h2).1, ⟨((h i0).2 h2).2.1, ⟨((h i0).2 h2).2.2.1, ⟨(fun h3 => ⟨(((h i0).2 h2).2.2.2.1 h3).1, (al_q_Sf_meet_49 i0  (fun _ h4 => (al_q_Sf_meet_116 i0  (fun _ h5 => (ih _ _ (fun i => (h5 i)))) kQ _ _ _ (fun i => (h4 i)))) kQ _ _ _ _ (fun i => (((h i).2 h2).2.2.2.1 h3).2))⟩), (fun h6 => (al_q_Sf_meet_49 i0  (fun _ h7 => (al_q_Sf_meet_116 i0  (fun _ h8 => (ih _ _ (fun i => (h8 i)))) kQ _ _ _ (fun i => (h7 i)))) kQ _ _ _ _ (fun i => (((h i).2 h2).2.2.2.2 h6))))⟩⟩⟩⟩)⟩
theorem al_p_Sf_meet {I : Type} (i0 : I) {w : MW} {Q1 : I → Int32 → MW → Prop} {Q3 : Int32 → MW → Prop}  (h : ∀ i : I, p_Sf_meet w (Q1 i)) (kQ : ∀ x0 x1, (∀ i : I, Q1 i x0 x1) → Q3 x0 x1) : p_Sf_meet w Q3 := by
  have h := fun i => Eq.mp (p_Sf_meet.eq_1 ..) (h i)
  refine Eq.mpr (p_Sf_meet.eq_1 ..) ?_
  exact (al_q_Sf_meet_8 i0  (fun _ h1 => ⟨(fun h2 => (kQ _ _ (fun i => ((h1 i).1 h2)))), (fun h3 => (kQ _ _ (fun i => ((h1 i).2 h3))))⟩) kQ _ _ _ (fun i => (h i)))
theorem al_q_Wa_addSources_43_42 {I : Type} (i0 : I) {x42_2 : Int32} {x42_3 : Int32} {E1 : I → Int64 → MW → Prop} {E3 : Int64 → MW → Prop} {Q1 : I → MW → Prop} {Q3 : MW → Prop}  (kE : ∀ x0 x1, (∀ i : I, E1 i x0 x1) → E3 x0 x1) (kQ : ∀ x0, (∀ i : I, Q1 i x0) → Q3 x0) : ∀ (m : Nat) (x42_4 : Int64) (x42_6 : Int32) (x42_7 : Int32) (w : MW), (∀ i : I, q_Wa_addSources_43_42 x42_2 x42_3 (E1 i) (Q1 i) m x42_4 x42_6 x42_7 w) → q_Wa_addSources_43_42 x42_2 x42_3 E3 Q3 m x42_4 x42_6 x42_7 w := by
  intro m
  induction m with
  | zero => exact fun _ _ _ _ h => False.elim (h i0)
  | succ m ih =>
    intro x42_4 x42_6 x42_7 w h
    have h := fun i => Eq.mp (q_Wa_addSources_43_42.eq_2 ..) (h i)
    refine Eq.mpr (q_Wa_addSources_43_42.eq_2 ..) ?_
    exact ⟨(h i0).1, ⟨(fun h1 => (kE _ _ (fun i => ((h i).2.1 h1)))), (fun h2 => ⟨(fun h3 => (kE _ _ (fun i => (((h i).2.2 h2).1 h3)))), (fun h4 => ⟨(((h i0).2.2 h2).2 h4).1, (ih _ _ _ _ (fun i => (((h i).2.2 h2).2 h4).2))⟩)⟩)⟩⟩
theorem al_q_Wa_addSources_43_13 {I : Type} (i0 : I) {x13_2 : Int32} {E1 : I → MW → Prop} {E3 : MW → Prop} {Q1 : I → MW → Prop} {Q3 : MW → Prop}  (kE : ∀ x0, (∀ i : I, E1 i x0) → E3 x0) (kQ : ∀ x0, (∀ i : I, Q1 i x0) → Q3 x0) : ∀ (m : Nat) (x13_3 : Int32) (w : MW), (∀ i : I, q_Wa_addSources_43_13 x13_2 (E1 i) (Q1 i) m x13_3 w) → q_Wa_addSources_43_13 x13_2 E3 Q3 m x13_3 w := by
  intro m
  induction m with
  | zero => exact fun _ _ h => False.elim (h i0)
  | succ m ih =>
    intro x13_3 w h
    have h := fun i => Eq.mp (q_Wa_addSources_43_13.eq_2 ..) (h i)
    refine Eq.mpr (q_Wa_addSources_43_13.eq_2 ..) ?_
    exact ⟨(fun h1 => (kE _ (fun i => ((h i).1 h1)))), (fun h2 => ⟨((h i0).2 h2).1, ⟨((h i0).2 h2).2.1, (al_q_Wa_addSources_43_42 i0  (fun _ _ h3 => ⟨(h3 i0).1, ⟨(h3 i0).2.1, ⟨(h3 i0).2.2.1, (ih _ _ (fun i => (h3 i).2.2.2))⟩⟩⟩) kQ _ _ _ _ _ (fun i => ((h i).2 h2).2.2))⟩⟩)⟩
theorem al_p_Wa_addSources_43 {I : Type} (i0 : I) {w : MW} {Q1 : I → MW → Prop} {Q3 : MW → Prop}  (h : ∀ i : I, p_Wa_addSources_43 w (Q1 i)) (kQ : ∀ x0, (∀ i : I, Q1 i x0) → Q3 x0) : p_Wa_addSources_43 w Q3 := by
  have h := fun i => Eq.mp (p_Wa_addSources_43.eq_1 ..) (h i)
  refine Eq.mpr (p_Wa_addSources_43.eq_1 ..) ?_
  exact ⟨(h i0).1, (al_q_Wa_addSources_43_13 i0  (fun _ h1 => (kQ _ (fun i => (h1 i)))) kQ _ _ _ (fun i => (h i).2))⟩
theorem al_p_Ma_min {I : Type} (i0 : I) {w : MW} {a0 : Int32} {b0 : Int32} {Q1 : I → Int32 → MW → Prop} {Q3 : Int32 → MW → Prop}  (h : ∀ i : I, p_Ma_min w a0 b0 (Q1 i)) (kQ : ∀ x0 x1, (∀ i : I, Q1 i x0 x1) → Q3 x0 x1) : p_Ma_min w a0 b0 Q3 := by
  have h := fun i => Eq.mp (p_Ma_min.eq_1 ..) (h i)
  refine Eq.mpr (p_Ma_min.eq_1 ..) ?_
  exact ⟨(fun h1 => (kQ _ _ (fun i => ((h i).1 h1)))), (fun h2 => (kQ _ _ (fun i => ((h i).2 h2))))⟩
theorem al_q_Sf_otherPasses_31 {I : Type} (i0 : I) {y31_1 : Int32} {y31_2 : Int32} {y31_3 : Int32} {w : MW} {Q1 : I → Int32 → MW → Prop} {Q3 : Int32 → MW → Prop}  (kQ : ∀ x0 x1, (∀ i : I, Q1 i x0 x1) → Q3 x0 x1) (h : ∀ i : I, q_Sf_otherPasses_31 y31_1 y31_2 y31_3 w (Q1 i)) : q_Sf_otherPasses_31 y31_1 y31_2 y31_3 w Q3 := by
  have h := fun i => Eq.mp (q_Sf_otherPasses_31.eq_1 ..) (h i)
  refine Eq.mpr (q_Sf_otherPasses_31.eq_1 ..) ?_
  exact ⟨(h i0).1, ⟨(h i0).2.1, ⟨(h i0).2.2.1, ⟨(h i0).2.2.2.1, ⟨(h i0).2.2.2.2.1, (al_p_Ma_min i0 (fun i => (h i).2.2.2.2.2) (fun _ _ h1 => ⟨(h1 i0).1, ⟨(fun h2 => (kQ _ _ (fun i => ((h1 i).2.1 h2)))), (fun h3 => (kQ _ _ (fun i => ((h1 i).2.2 h3))))⟩⟩))⟩⟩⟩⟩⟩
theorem al_p_Sf_otherPasses {I : Type} (i0 : I) {w : MW} {a0 : Int32} {b0 : Int32} {Q1 : I → Int32 → MW → Prop} {Q3 : Int32 → MW → Prop}  (h : ∀ i : I, p_Sf_otherPasses w a0 b0 (Q1 i)) (kQ : ∀ x0 x1, (∀ i : I, Q1 i x0 x1) → Q3 x0 x1) : p_Sf_otherPasses w a0 b0 Q3 := by
  have h := fun i => Eq.mp (p_Sf_otherPasses.eq_1 ..) (h i)
  refine Eq.mpr (p_Sf_otherPasses.eq_1 ..) ?_
  exact ⟨(h i0).1, ⟨(h i0).2.1, ⟨(fun h1 => (kQ _ _ (fun i => ((h i).2.2.1 h1)))), (fun h2 => ⟨(fun h3 => (al_q_Sf_otherPasses_31 i0  kQ (fun i => (((h i).2.2.2 h2).1 h3)))), (fun h4 => ⟨(fun h5 => (al_q_Sf_otherPasses_31 i0  kQ (fun i => ((((h i).2.2.2 h2).2 h4).1 h5)))), (fun h6 => (kQ _ _ (fun i => ((((h i).2.2.2 h2).2 h4).2 h6))))⟩)⟩)⟩⟩⟩
theorem al_q_Sf_isSafe_103 {I : Type} (i0 : I) {y103_2 : Int32} {y103_3 : Int32} {w : MW} {A1 : I → Int32 → Int32 → MW → Prop} {A3 : Int32 → Int32 → MW → Prop} {E1 : I → MW → Prop} {E3 : MW → Prop} {Q1 : I → Int32 → MW → Prop} {Q3 : Int32 → MW → Prop}  (kA : ∀ x0 x1 x2, (∀ i : I, A1 i x0 x1 x2) → A3 x0 x1 x2) (kE : ∀ x0, (∀ i : I, E1 i x0) → E3 x0) (kQ : ∀ x0 x1, (∀ i : I, Q1 i x0 x1) → Q3 x0 x1) (h : ∀ i : I, q_Sf_isSafe_103 y103_2 y103_3 w (A1 i) (E1 i) (Q1 i)) : q_Sf_isSafe_103 y103_2 y103_3 w A3 E3 Q3 := by
  have h := fun i => Eq.mp (q_Sf_isSafe_103.eq_1 ..) (h i)
  refine Eq.mpr (q_Sf_isSafe_103.eq_1 ..) ?_
  exact (al_p_Sf_link i0 (fun i => (h i)) (fun _ h1 => (al_p_Sf_meet i0 (fun i => (h1 i)) (fun _ _ h2 => ⟨(fun h3 => (kA _ _ _ (fun i => ((h2 i).1 h3)))), (fun h4 => (kQ _ _ (fun i => ((h2 i).2 h4))))⟩))))
theorem al_q_Sf_isSafe_57 {I : Type} (i0 : I)  {E1 : I → MW → Prop} {E3 : MW → Prop} {Q1 : I → Int32 → MW → Prop} {Q3 : Int32 → MW → Prop}  (kE : ∀ x0, (∀ i : I, E1 i x0) → E3 x0) (kQ : ∀ x0 x1, (∀ i : I, Q1 i x0 x1) → Q3 x0 x1) : ∀ (m : Nat) (x57_1 : Int32) (x57_2 : Int32) (w : MW), (∀ i : I, q_Sf_isSafe_57 (E1 i) (Q1 i) m x57_1 x57_2 w) → q_Sf_isSafe_57 E3 Q3 m x57_1 x57_2 w := by
  intro m
  induction m with
  | zero => exact fun _ _ _ h => False.elim (h i0)
  | succ m ih =>
    intro x57_1 x57_2 w h
    have h := fun i => Eq.mp (q_Sf_isSafe_57.eq_2 ..) (h i)
    refine Eq.mpr (q_Sf_isSafe_57.eq_2 ..) ?_
    exact ⟨(h i0).1, ⟨(fun h1 => (kE _ (fun i => ((h i).2.1 h1)))), (fun h2 => (al_p_Sf_otherPasses i0 (fun i => ((h i).2.2 h2)) (fun _ _ h3 => ⟨(fun h4 => (ih _ _ _ (fun i => ((h3 i).1 h4)))), (fun h5 => ⟨(fun h6 => (al_q_Sf_isSafe_103 i0  (fun _ _ _ h7 => (ih _ _ _ (fun i => (h7 i)))) kE kQ (fun i => (((h3 i).2 h5).1 h6)))), (fun h8 => ⟨(fun h9 => (ih _ _ _ (fun i => ((((h3 i).2 h5).2 h8).1 h9)))), (fun h10 => (al_q_Sf_isSafe_103 i0  (fun _ _ _ h11 => (ih _ _ _ (fun i => (h11 i)))) kE kQ (fun i => ((((h3 i).2 h5).2 h8).2 h10))))⟩)⟩)⟩)))⟩⟩
theorem al_p_Sf_isSafe {I : Type} (i0 : I) {w : MW} {Q1 : I → Int32 → MW → Prop} {Q3 : Int32 → MW → Prop}  (h : ∀ i : I, p_Sf_isSafe w (Q1 i)) (kQ : ∀ x0 x1, (∀ i : I, Q1 i x0 x1) → Q3 x0 x1) : p_Sf_isSafe w Q3 := by
  have h := fun i => Eq.mp (p_Sf_isSafe.eq_1 ..) (h i)
  refine Eq.mpr (p_Sf_isSafe.eq_1 ..) ?_
  exact (al_p_Ar_fill1_43 i0 (fun i => (h i)) (fun _ h1 => (al_p_Wa_addSources_43 i0 (fun i => (h1 i)) (fun _ h2 => (al_p_Sf_findRivals i0 (fun i => (h2 i)) (fun _ _ h3 => ⟨(fun h4 => (al_p_Sf_link i0 (fun i => ((h3 i).1 h4)) (fun _ h5 => (al_p_Sf_meet i0 (fun i => (h5 i)) (fun _ _ h6 => ⟨(fun h7 => (al_q_Sf_isSafe_57 i0  (fun _ h8 => (kQ _ _ (fun i => (h8 i)))) kQ _ _ _ _ (fun i => ((h6 i).1 h7)))), (fun h9 => (kQ _ _ (fun i => ((h6 i).2 h9))))⟩))))), (fun h10 => (kQ _ _ (fun i => ((h3 i).2 h10))))⟩))))))
theorem al_q_St_heldLevel_4 {I : Type} (i0 : I) {x4_1 : Int32} {E1 : I → MW → Prop} {E3 : MW → Prop} {Q1 : I → Int32 → MW → Prop} {Q3 : Int32 → MW → Prop}  (kE : ∀ x0, (∀ i : I, E1 i x0) → E3 x0) (kQ : ∀ x0 x1, (∀ i : I, Q1 i x0 x1) → Q3 x0 x1) : ∀ (m : Nat) (x4_2 : Int32) (x4_3 : Int32) (w : MW), (∀ i : I, q_St_heldLevel_4 x4_1 (E1 i) (Q1 i) m x4_2 x4_3 w) → q_St_heldLevel_4 x4_1 E3 Q3 m x4_2 x4_3 w := by
  intro m
  induction m with
  | zero => exact fun _ _ _ h => False.elim (h i0)
  | succ m ih =>
    intro x4_2 x4_3 w h
    have h := fun i => Eq.mp (q_St_heldLevel_4.eq_2 ..) (h i)
    refine Eq.mpr (q_St_heldLevel_4.eq_2 ..) ?_
    exact ⟨(fun h1 => (kE _ (fun i => ((h i).1 h1)))), (fun h2 => ⟨((h i0).2 h2).1, (al_p_Ma_max i0 (fun i => ((h i).2 h2).2) (fun _ _ h3 => ⟨(fun h4 => (ih _ _ _ (fun i => ((h3 i).1 h4)))), (fun h5 => ⟨((h3 i0).2 h5).1, ⟨(fun h6 => (ih _ _ _ (fun i => (((h3 i).2 h5).2.1 h6)))), (fun h7 => (kQ _ _ (fun i => (((h3 i).2 h5).2.2 h7))))⟩⟩)⟩))⟩)⟩
theorem al_p_St_heldLevel {I : Type} (i0 : I) {w : MW} {a0 : Int32} {Q1 : I → Int32 → MW → Prop} {Q3 : Int32 → MW → Prop}  (h : ∀ i : I, p_St_heldLevel w a0 (Q1 i)) (kQ : ∀ x0 x1, (∀ i : I, Q1 i x0 x1) → Q3 x0 x1) : p_St_heldLevel w a0 Q3 := by
  have h := fun i => Eq.mp (p_St_heldLevel.eq_1 ..) (h i)
  refine Eq.mpr (p_St_heldLevel.eq_1 ..) ?_
  exact (al_q_St_heldLevel_4 i0  (fun _ h1 => (kQ _ _ (fun i => (h1 i)))) kQ _ _ _ _ (fun i => (h i)))
theorem al_p_St_mayCome {I : Type} (i0 : I) {w : MW} {a0 : Int32} {b0 : Int32} {Q1 : I → Int32 → MW → Prop} {Q3 : Int32 → MW → Prop}  (h : ∀ i : I, p_St_mayCome w a0 b0 (Q1 i)) (kQ : ∀ x0 x1, (∀ i : I, Q1 i x0 x1) → Q3 x0 x1) : p_St_mayCome w a0 b0 Q3 := by
  have h := fun i => Eq.mp (p_St_mayCome.eq_1 ..) (h i)
  refine Eq.mpr (p_St_mayCome.eq_1 ..) ?_
  exact ⟨(h i0).1, ⟨(fun h1 => ⟨((h i0).2.1 h1).1, ⟨(fun h2 => ⟨(((h i0).2.1 h1).2.1 h2).1, ⟨(((h i0).2.1 h1).2.1 h2).2.1, ⟨(fun h3 => (kQ _ _ (fun i => ((((h i).2.1 h1).2.1 h2).2.2.1 h3)))), (fun h4 => (al_p_St_heldLevel i0 (fun i => ((((h i).2.1 h1).2.1 h2).2.2.2 h4)) (fun _ _ h5 => ⟨(fun h6 => (kQ _ _ (fun i => ((h5 i).1 h6)))), (fun h7 => (kQ _ _ (fun i => ((h5 i).2 h7))))⟩)))⟩⟩⟩), (fun h8 => (kQ _ _ (fun i => (((h i).2.1 h1).2.2 h8))))⟩⟩), (fun h9 => ⟨((h i0).2.2 h9).1, ⟨(fun h10 => (kQ _ _ (fun i => (((h i).2.2 h9).2.1 h10)))), (fun h11 => (kQ _ _ (fun i => (((h i).2.2 h9).2.2 h11))))⟩⟩)⟩⟩
theorem al_q_Wa_cheapestEntry_8 {I : Type} (i0 : I) {x8_1 : Int32} {E1 : I → Int32 → MW → Prop} {E3 : Int32 → MW → Prop} {Q1 : I → Int32 → MW → Prop} {Q3 : Int32 → MW → Prop}  (kE : ∀ x0 x1, (∀ i : I, E1 i x0 x1) → E3 x0 x1) (kQ : ∀ x0 x1, (∀ i : I, Q1 i x0 x1) → Q3 x0 x1) : ∀ (m : Nat) (x8_2 : Int32) (x8_3 : Int32) (x8_4 : Int32) (w : MW), (∀ i : I, q_Wa_cheapestEntry_8 x8_1 (E1 i) (Q1 i) m x8_2 x8_3 x8_4 w) → q_Wa_cheapestEntry_8 x8_1 E3 Q3 m x8_2 x8_3 x8_4 w := by
  intro m
  induction m with
  | zero => exact fun _ _ _ _ h => False.elim (h i0)
  | succ m ih =>
    intro x8_2 x8_3 x8_4 w h
    have h := fun i => Eq.mp (q_Wa_cheapestEntry_8.eq_2 ..) (h i)
    refine Eq.mpr (q_Wa_cheapestEntry_8.eq_2 ..) ?_
    exact ⟨(h i0).1, ⟨(fun h1 => (kE _ _ (fun i => ((h i).2.1 h1)))), (fun h2 => ⟨((h i0).2.2 h2).1, ⟨((h i0).2.2 h2).2.1, ⟨(fun h3 => (ih _ _ _ _ (fun i => (((h i).2.2 h2).2.2.1 h3)))), (fun h4 => ⟨(((h i0).2.2 h2).2.2.2 h4).1, ⟨(fun h5 => (ih _ _ _ _ (fun i => ((((h i).2.2 h2).2.2.2 h4).2.1 h5)))), (fun h6 => ⟨((((h i0).2.2 h2).2.2.2 h4).2.2 h6).1, (ih _ _ _ _ (fun i => ((((h i).2.2 h2).2.2.2 h4).2.2 h6).2))⟩)⟩⟩)⟩⟩⟩)⟩⟩
theorem al_p_Wa_cheapestEntry {I : Type} (i0 : I) {w : MW} {a0 : Int32} {Q1 : I → Int32 → MW → Prop} {Q3 : Int32 → MW → Prop}  (h : ∀ i : I, p_Wa_cheapestEntry w a0 (Q1 i)) (kQ : ∀ x0 x1, (∀ i : I, Q1 i x0 x1) → Q3 x0 x1) : p_Wa_cheapestEntry w a0 Q3 := by
  have h := fun i => Eq.mp (p_Wa_cheapestEntry.eq_1 ..) (h i)
  refine Eq.mpr (p_Wa_cheapestEntry.eq_1 ..) ?_
  exact (al_q_Wa_cheapestEntry_8 i0  (fun _ _ h1 => (kQ _ _ (fun i => (h1 i)))) kQ _ _ _ _ _ (fun i => (h i)))
theorem al_q_Wa_onward_132 {I : Type} (i0 : I) {x25_1 : Int32} {x25_3 : Int32} {y132_4 : Int32} {y132_5 : Int32} {y132_6 : Int32} {y132_7 : Int32} {y132_8 : Int32} {ys132_0 : Int32} {w : MW} {A1 : I → Int32 → Int32 → Int32 → MW → Prop} {A3 : Int32 → Int32 → Int32 → MW → Prop} {E1 : I → Int32 → MW → Prop} {E3 : Int32 → MW → Prop} {Q1 : I → Int32 → MW → Prop} {Q3 : Int32 → MW → Prop}  (kA : ∀ x0 x1 x2 x3, (∀ i : I, A1 i x0 x1 x2 x3) → A3 x0 x1 x2 x3) (kE : ∀ x0 x1, (∀ i : I, E1 i x0 x1) → E3 x0 x1) (kQ : ∀ x0 x1, (∀ i : I, Q1 i x0 x1) → Q3 x0 x1) (h : ∀ i : I, q_Wa_onward_132 x25_1 x25_3 y132_4 y132_5 y132_6 y132_7 y132_8 ys132_0 w (A1 i) (E1 i) (Q1 i)) : q_Wa_onward_132 x25_1 x25_3 y132_4 y132_5 y132_6 y132_7 y132_8 ys132_0 w A3 E3 Q3 := by
  have h := fun i => Eq.mp (q_Wa_onward_132.eq_1 ..) (h i)
  refine Eq.mpr (q_Wa_onward_132.eq_1 ..) ?_
  exact ⟨(fun h1 => (kA _ _ _ _ (fun i => ((h i).1 h1)))), (fun h2 => ⟨(fun h3 => (kA _ _ _ _ (fun i => (((h i).2 h2).1 h3)))), (fun h4 => ⟨(((h i0).2 h2).2 h4).1, (kA _ _ _ _ (fun i => (((h i).2 h2).2 h4).2))⟩)⟩)⟩
theorem al_q_Wa_onward_25 {I : Type} (i0 : I) {x25_1 : Int32} {x25_3 : Int32} {E1 : I → Int32 → MW → Prop} {E3 : Int32 → MW → Prop} {Q1 : I → Int32 → MW → Prop} {Q3 : Int32 → MW → Prop}  (kE : ∀ x0 x1, (∀ i : I, E1 i x0 x1) → E3 x0 x1) (kQ : ∀ x0 x1, (∀ i : I, Q1 i x0 x1) → Q3 x0 x1) : ∀ (m : Nat) (x25_4 : Int32) (x25_5 : Int32) (x25_6 : Int32) (w : MW), (∀ i : I, q_Wa_onward_25 x25_1 x25_3 (E1 i) (Q1 i) m x25_4 x25_5 x25_6 w) → q_Wa_onward_25 x25_1 x25_3 E3 Q3 m x25_4 x25_5 x25_6 w := by
  intro m
  induction m with
  | zero => exact fun _ _ _ _ h => False.elim (h i0)
  | succ m ih =>
    intro x25_4 x25_5 x25_6 w h
    have h := fun i => Eq.mp (q_Wa_onward_25.eq_2 ..) (h i)
    refine Eq.mpr (q_Wa_onward_25.eq_2 ..) ?_
    exact ⟨(fun h1 => (kE _ _ (fun i => ((h i).1 h1)))), (fun h2 => ⟨(fun h3 => (kE _ _ (fun i => (((h i).2 h2).1 h3)))), (fun h4 => ⟨(((h i0).2 h2).2 h4).1, ⟨(fun h5 => (ih _ _ _ _ (fun i => ((((h i).2 h2).2 h4).2.1 h5)))), (fun h6 => ⟨((((h i0).2 h2).2 h4).2.2 h6).1, ⟨(fun h7 => (ih _ _ _ _ (fun i => (((((h i).2 h2).2 h4).2.2 h6).2.1 h7)))), (fun h8 => ⟨(((((h i0).2 h2).2 h4).2.2 h6).2.2 h8).1, ⟨(((((h i0).2 h2).2 h4).2.2 h6).2.2 h8).2.1, ⟨(((((h i0).2 h2).2 h4).2.2 h6).2.2 h8).2.2.1, ⟨(((((h i0).2 h2).2 h4).2.2 h6).2.2 h8).2.2.2.1, ⟨(fun h9 => (al_q_Wa_onward_132 i0  (fun _ _ _ _ h10 => (ih _ _ _ _ (fun i => (h10 i)))) kE kQ (fun i => ((((((h i).2 h2).2 h4).2.2 h6).2.2 h8).2.2.2.2.1 h9)))), (fun h11 => ⟨((((((h i0).2 h2).2 h4).2.2 h6).2.2 h8).2.2.2.2.2 h11).1, ⟨(fun h12 => (al_q_Wa_onward_132 i0  (fun _ _ _ _ h13 => (ih _ _ _ _ (fun i => (h13 i)))) kE kQ (fun i => (((((((h i).2 h2).2 h4).2.2 h6).2.2 h8).2.2.2.2.2 h11).2.1 h12)))), (fun h14 => ⟨(((((((h i0).2 h2).2 h4).2.2 h6).2.2 h8).2.2.2.2.2 h11).2.2 h14).1, ⟨(fun h15 => (al_q_Wa_onward_132 i0  (fun _ _ _ _ h16 => (ih _ _ _ _ (fun i => (h16 i)))) kE kQ (fun i => ((((((((h i).2 h2).2 h4).2.2 h6).2.2 h8).2.2.2.2.2 h11).2.2 h14).2.1 h15)))), (fun h17 => (al_q_Wa_onward_132 i0  (fun _ _ _ _ h18 => (ih _ _ _ _ (fun i => (h18 i)))) kE kQ (fun i => ((((((((h i).2 h2).2 h4).2.2 h6).2.2 h8).2.2.2.2.2 h11).2.2 h14).2.2 h17))))⟩⟩)⟩⟩)⟩⟩⟩⟩⟩)⟩⟩)⟩⟩)⟩)⟩
theorem al_p_Wa_onward {I : Type} (i0 : I) {w : MW} {a0 : Int32} {Q1 : I → Int32 → MW → Prop} {Q3 : Int32 → MW → Prop}  (h : ∀ i : I, p_Wa_onward w a0 (Q1 i)) (kQ : ∀ x0 x1, (∀ i : I, Q1 i x0 x1) → Q3 x0 x1) : p_Wa_onward w a0 Q3 := by
  have h := fun i => Eq.mp (p_Wa_onward.eq_1 ..) (h i)
  refine Eq.mpr (p_Wa_onward.eq_1 ..) ?_
  exact ⟨(h i0).1, ⟨(h i0).2.1, (al_q_Wa_onward_25 i0  (fun _ _ h1 => (kQ _ _ (fun i => (h1 i)))) kQ _ _ _ _ _ (fun i => (h i).2.2))⟩⟩
theorem al_q_Wa_find_184 {I : Type} (i0 : I) {x119_1 : Int32} {x119_2 : Int32} {x119_4 : Int32} {y184_5 : Int32} {x119_6 : Int32} {y184_7 : Int32} {ys184_0 : Int32} {w : MW} {A1 : I → Int32 → Int32 → MW → Prop} {A3 : Int32 → Int32 → MW → Prop} {E1 : I → Int32 → MW → Prop} {E3 : Int32 → MW → Prop} {Q1 : I → Int32 → MW → Prop} {Q3 : Int32 → MW → Prop}  (kA : ∀ x0 x1 x2, (∀ i : I, A1 i x0 x1 x2) → A3 x0 x1 x2) (kE : ∀ x0 x1, (∀ i : I, E1 i x0 x1) → E3 x0 x1) (kQ : ∀ x0 x1, (∀ i : I, Q1 i x0 x1) → Q3 x0 x1) (h : ∀ i : I, q_Wa_find_184 x119_1 x119_2 x119_4 y184_5 x119_6 y184_7 ys184_0 w (A1 i) (E1 i) (Q1 i)) : q_Wa_find_184 x119_1 x119_2 x119_4 y184_5 x119_6 y184_7 ys184_0 w A3 E3 Q3 := by
  have h := fun i => Eq.mp (q_Wa_find_184.eq_1 ..) (h i)
  refine Eq.mpr (q_Wa_find_184.eq_1 ..) ?_
  exact ⟨(h i0).1, ⟨(fun h1 => (kA _ _ _ (fun i => ((h i).2.1 h1)))), (fun h2 => ⟨((h i0).2.2 h2).1, (kA _ _ _ (fun i => ((h i).2.2 h2).2))⟩)⟩⟩
theorem al_q_Wa_find_150 {I : Type} (i0 : I) {x119_1 : Int32} {x119_2 : Int32} {x119_4 : Int32} {y150_5 : Int32} {x119_6 : Int32} {y150_7 : Int32} {ys150_0 : Int32} {w : MW} {A1 : I → Int32 → Int32 → MW → Prop} {A3 : Int32 → Int32 → MW → Prop} {E1 : I → Int32 → MW → Prop} {E3 : Int32 → MW → Prop} {Q1 : I → Int32 → MW → Prop} {Q3 : Int32 → MW → Prop}  (kA : ∀ x0 x1 x2, (∀ i : I, A1 i x0 x1 x2) → A3 x0 x1 x2) (kE : ∀ x0 x1, (∀ i : I, E1 i x0 x1) → E3 x0 x1) (kQ : ∀ x0 x1, (∀ i : I, Q1 i x0 x1) → Q3 x0 x1) (h : ∀ i : I, q_Wa_find_150 x119_1 x119_2 x119_4 y150_5 x119_6 y150_7 ys150_0 w (A1 i) (E1 i) (Q1 i)) : q_Wa_find_150 x119_1 x119_2 x119_4 y150_5 x119_6 y150_7 ys150_0 w A3 E3 Q3 := by
  have h := fun i => Eq.mp (q_Wa_find_150.eq_1 ..) (h i)
  refine Eq.mpr (q_Wa_find_150.eq_1 ..) ?_
  exact ⟨(fun h1 => ⟨((h i0).1 h1).1, ⟨((h i0).1 h1).2.1, (al_q_Wa_find_184 i0  kA kE kQ (fun i => ((h i).1 h1).2.2))⟩⟩), (fun h2 => (al_q_Wa_find_184 i0  kA kE kQ (fun i => ((h i).2 h2))))⟩
theorem al_q_Wa_find_119 {I : Type} (i0 : I) {x119_1 : Int32} {x119_2 : Int32} {x119_4 : Int32} {x119_6 : Int32} {E1 : I → Int32 → MW → Prop} {E3 : Int32 → MW → Prop} {Q1 : I → Int32 → MW → Prop} {Q3 : Int32 → MW → Prop}  (kE : ∀ x0 x1, (∀ i : I, E1 i x0 x1) → E3 x0 x1) (kQ : ∀ x0 x1, (∀ i : I, Q1 i x0 x1) → Q3 x0 x1) : ∀ (m : Nat) (x119_5 : Int32) (x119_7 : Int32) (w : MW), (∀ i : I, q_Wa_find_119 x119_1 x119_2 x119_4 x119_6 (E1 i) (Q1 i) m x119_5 x119_7 w) → q_Wa_find_119 x119_1 x119_2 x119_4 x119_6 E3 Q3 m x119_5 x119_7 w := by
  intro m
  induction m with
  | zero => exact fun _ _ _ h => False.elim (h i0)
  | succ m ih =>
    intro x119_5 x119_7 w h
    have h := fun i => Eq.mp (q_Wa_find_119.eq_2 ..) (h i)
    refine Eq.mpr (q_Wa_find_119.eq_2 ..) ?_
    exact ⟨(fun h1 => (kE _ _ (fun i => ((h i).1 h1)))), (fun h2 => ⟨((h i0).2 h2).1, ⟨(fun h3 => (al_p_Wa_onward i0 (fun i => (((h i).2 h2).2.1 h3)) (fun _ _ h4 => (al_q_Wa_find_150 i0  (fun _ _ _ h5 => (ih _ _ _ (fun i => (h5 i)))) kE kQ (fun i => (h4 i)))))), (fun h6 => (al_q_Wa_find_150 i0  (fun _ _ _ h7 => (ih _ _ _ (fun i => (h7 i)))) kE kQ (fun i => (((h i).2 h2).2.2 h6))))⟩⟩)⟩
theorem al_q_Wa_find_101 {I : Type} (i0 : I) {x101_1 : Int32} {x101_2 : Int32} {x101_4 : Int32} {E1 : I → MW → Prop} {E3 : MW → Prop} {Q1 : I → Int32 → MW → Prop} {Q3 : Int32 → MW → Prop}  (kE : ∀ x0, (∀ i : I, E1 i x0) → E3 x0) (kQ : ∀ x0 x1, (∀ i : I, Q1 i x0 x1) → Q3 x0 x1) : ∀ (m : Nat) (x101_5 : Int32) (x101_6 : Int32) (w : MW), (∀ i : I, q_Wa_find_101 x101_1 x101_2 x101_4 (E1 i) (Q1 i) m x101_5 x101_6 w) → q_Wa_find_101 x101_1 x101_2 x101_4 E3 Q3 m x101_5 x101_6 w := by
  intro m
  induction m with
  | zero => exact fun _ _ _ h => False.elim (h i0)
  | succ m ih =>
    intro x101_5 x101_6 w h
    have h := fun i => Eq.mp (q_Wa_find_101.eq_2 ..) (h i)
    refine Eq.mpr (q_Wa_find_101.eq_2 ..) ?_
    exact ⟨(fun h1 => (kE _ (fun i => ((h i).1 h1)))), (fun h2 => ⟨(fun h3 => (kE _ (fun i => (((h i).2 h2).1 h3)))), (fun h4 => (al_q_Wa_find_119 i0  (fun _ _ h5 => (ih _ _ _ (fun i => (h5 i)))) kQ _ _ _ _ (fun i => (((h i).2 h2).2 h4))))⟩)⟩
theorem al_q_Wa_find_56 {I : Type} (i0 : I) {x19_1 : Int32} {x19_2 : Int32} {x19_4 : Int32} {y56_5 : Int32} {ys56_0 : Int32} {w : MW} {A1 : I → Int32 → MW → Prop} {A3 : Int32 → MW → Prop} {E1 : I → MW → Prop} {E3 : MW → Prop} {Q1 : I → Int32 → MW → Prop} {Q3 : Int32 → MW → Prop}  (kA : ∀ x0 x1, (∀ i : I, A1 i x0 x1) → A3 x0 x1) (kE : ∀ x0, (∀ i : I, E1 i x0) → E3 x0) (kQ : ∀ x0 x1, (∀ i : I, Q1 i x0 x1) → Q3 x0 x1) (h : ∀ i : I, q_Wa_find_56 x19_1 x19_2 x19_4 y56_5 ys56_0 w (A1 i) (E1 i) (Q1 i)) : q_Wa_find_56 x19_1 x19_2 x19_4 y56_5 ys56_0 w A3 E3 Q3 := by
  have h := fun i => Eq.mp (q_Wa_find_56.eq_1 ..) (h i)
  refine Eq.mpr (q_Wa_find_56.eq_1 ..) ?_
  exact ⟨(fun h1 => ⟨((h i0).1 h1).1, (kA _ _ (fun i => ((h i).1 h1).2))⟩), (fun h2 => ⟨((h i0).2 h2).1, ⟨((h i0).2 h2).2.1, (kA _ _ (fun i => ((h i).2 h2).2.2))⟩⟩)⟩
theorem al_q_Wa_find_19 {I : Type} (i0 : I) {x19_1 : Int32} {x19_2 : Int32} {x19_4 : Int32} {E1 : I → MW → Prop} {E3 : MW → Prop} {Q1 : I → Int32 → MW → Prop} {Q3 : Int32 → MW → Prop}  (kE : ∀ x0, (∀ i : I, E1 i x0) → E3 x0) (kQ : ∀ x0 x1, (∀ i : I, Q1 i x0 x1) → Q3 x0 x1) : ∀ (m : Nat) (x19_5 : Int32) (w : MW), (∀ i : I, q_Wa_find_19 x19_1 x19_2 x19_4 (E1 i) (Q1 i) m x19_5 w) → q_Wa_find_19 x19_1 x19_2 x19_4 E3 Q3 m x19_5 w := by
  intro m
  induction m with
  | zero => exact fun _ _ h => False.elim (h i0)
  | succ m ih =>
    intro x19_5 w h
    have h := fun i => Eq.mp (q_Wa_find_19.eq_2 ..) (h i)
    refine Eq.mpr (q_Wa_find_19.eq_2 ..) ?_
    exact ⟨(fun h1 => (kE _ (fun i => ((h i).1 h1)))), (fun h2 => ⟨((h i0).2 h2).1, ⟨(fun h3 => (al_q_Wa_find_56 i0  (fun _ _ h4 => (ih _ _ (fun i => (h4 i)))) kE kQ (fun i => (((h i).2 h2).2.1 h3)))), (fun h5 => ⟨(((h i0).2 h2).2.2 h5).1, ⟨(fun h6 => (al_q_Wa_find_56 i0  (fun _ _ h7 => (ih _ _ (fun i => (h7 i)))) kE kQ (fun i => ((((h i).2 h2).2.2 h5).2.1 h6)))), (fun h8 => (al_q_Wa_find_56 i0  (fun _ _ h9 => (ih _ _ (fun i => (h9 i)))) kE kQ (fun i => ((((h i).2 h2).2.2 h5).2.2 h8))))⟩⟩)⟩⟩)⟩
theorem al_q_Wa_find_234 {I : Type} (i0 : I) {x234_2 : Int32} {E1 : I → MW → Prop} {E3 : MW → Prop} {Q1 : I → Int32 → MW → Prop} {Q3 : Int32 → MW → Prop}  (kE : ∀ x0, (∀ i : I, E1 i x0) → E3 x0) (kQ : ∀ x0 x1, (∀ i : I, Q1 i x0 x1) → Q3 x0 x1) : ∀ (m : Nat) (x234_6 : Int32) (w : MW), (∀ i : I, q_Wa_find_234 x234_2 (E1 i) (Q1 i) m x234_6 w) → q_Wa_find_234 x234_2 E3 Q3 m x234_6 w := by
  intro m
  induction m with
  | zero => exact fun _ _ h => False.elim (h i0)
  | succ m ih =>
    intro x234_6 w h
    have h := fun i => Eq.mp (q_Wa_find_234.eq_2 ..) (h i)
    refine Eq.mpr (q_Wa_find_234.eq_2 ..) ?_
    exact ⟨(fun h1 => (kE _ (fun i => ((h i).1 h1)))), (fun h2 => ⟨(fun h3 => (kE _ (fun i => (((h i).2 h2).1 h3)))), (fun h4 => ⟨(((h i0).2 h2).2 h4).1, ⟨(((h i0).2 h2).2 h4).2.1, ⟨(fun h5 => (al_p_Wa_onward i0 (fun i => ((((h i).2 h2).2 h4).2.2.1 h5)) (fun _ _ h6 => (ih _ _ (fun i => (h6 i)))))), (fun h7 => (ih _ _ (fun i => ((((h i).2 h2).2 h4).2.2.2 h7))))⟩⟩⟩)⟩)⟩
theorem al_p_Wa_find {I : Type} (i0 : I) {w : MW} {a0 : Int32} {b0 : Int32} {Q1 : I → Int32 → MW → Prop} {Q3 : Int32 → MW → Prop}  (h : ∀ i : I, p_Wa_find w a0 b0 (Q1 i)) (kQ : ∀ x0 x1, (∀ i : I, Q1 i x0 x1) → Q3 x0 x1) : p_Wa_find w a0 b0 Q3 := by
  have h := fun i => Eq.mp (p_Wa_find.eq_1 ..) (h i)
  refine Eq.mpr (p_Wa_find.eq_1 ..) ?_
  exact ⟨(h i0).1, (al_q_Wa_find_19 i0  (fun _ h1 => (al_q_Wa_find_101 i0  (fun _ h2 => (al_p_Wa_cheapestEntry i0 (fun i => (h2 i)) (fun _ _ h3 => (al_q_Wa_find_234 i0  (fun _ h4 => ⟨(fun h5 => (kQ _ _ (fun i => ((h4 i).1 h5)))), (fun h6 => (kQ _ _ (fun i => ((h4 i).2 h6))))⟩) kQ _ _ _ (fun i => (h3 i)))))) kQ _ _ _ _ (fun i => (h1 i)))) kQ _ _ _ (fun i => (h i).2))⟩
theorem al_q_Wa_openFound_86 {I : Type} (i0 : I) {x12_1 : Int32} {x12_2 : Int32} {x12_3 : Int32} {y86_5 : Int32} {ys86_0 : Int32} {ys86_1 : Int32} {w : MW} {A1 : I → Int32 → MW → Prop} {A3 : Int32 → MW → Prop} {E1 : I → MW → Prop} {E3 : MW → Prop} {Q1 : I → MW → Prop} {Q3 : MW → Prop}  (kA : ∀ x0 x1, (∀ i : I, A1 i x0 x1) → A3 x0 x1) (kE : ∀ x0, (∀ i : I, E1 i x0) → E3 x0) (kQ : ∀ x0, (∀ i : I, Q1 i x0) → Q3 x0) (h : ∀ i : I, q_Wa_openFound_86 x12_1 x12_2 x12_3 y86_5 ys86_0 ys86_1 w (A1 i) (E1 i) (Q1 i)) : q_Wa_openFound_86 x12_1 x12_2 x12_3 y86_5 ys86_0 ys86_1 w A3 E3 Q3 := by
  have h := fun i => Eq.mp (q_Wa_openFound_86.eq_1 ..) (h i)
  refine Eq.mpr (q_Wa_openFound_86.eq_1 ..) ?_
  exact ⟨(h i0).1, ⟨(fun h1 => (kA _ _ (fun i => ((h i).2.1 h1)))), (fun h2 => ⟨((h i0).2.2 h2).1, ⟨((h i0).2.2 h2).2.1, ⟨((h i0).2.2 h2).2.2.1, ⟨((h i0).2.2 h2).2.2.2.1, ⟨((h i0).2.2 h2).2.2.2.2.1, ⟨(fun h3 => ⟨(((h i0).2.2 h2).2.2.2.2.2.1 h3).1, ⟨(((h i0).2.2 h2).2.2.2.2.2.1 h3).2.1, (kA _ _ (fun i => (((h i).2.2 h2).2.2.2.2.2.1 h3).2.2))⟩⟩), (fun h4 => ⟨(((h i0).2.2 h2).2.2.2.2.2.2 h4).1, ⟨(((h i0).2.2 h2).2.2.2.2.2.2 h4).2.1, ⟨(((h i0).2.2 h2).2.2.2.2.2.2 h4).2.2.1, ⟨(((h i0).2.2 h2).2.2.2.2.2.2 h4).2.2.2.1, ⟨(((h i0).2.2 h2).2.2.2.2.2.2 h4).2.2.2.2.1, ⟨(((h i0).2.2 h2).2.2.2.2.2.2 h4).2.2.2.2.2.1, ⟨(((h i0).2.2 h2).2.2.2.2.2.2 h4).2.2.2.2.2.2.1, ⟨(((h i0).2.2 h2).2.2.2.2.2.2 h4).2.2.2.2.2.2.2.1, ⟨(((h i0).2.2 h2).2.2.2.2.2.2 h4).2.2.2.2.2.2.2.2.1, (kA _ _ (fun i => (((h i).2.2 h2).2.2.2.2.2.2 h4).2.2.2.2.2.2.2.2.2))⟩⟩⟩⟩⟩⟩⟩⟩⟩)⟩⟩⟩⟩⟩⟩)⟩⟩
theorem al_q_Wa_openFound_12 {I : Type} (i0 : I) {x12_1 : Int32} {x12_2 : Int32} {x12_3 : Int32} {E1 : I → MW → Prop} {E3 : MW → Prop} {Q1 : I → MW → Prop} {Q3 : MW → Prop}  (kE : ∀ x0, (∀ i : I, E1 i x0) → E3 x0) (kQ : ∀ x0, (∀ i : I, Q1 i x0) → Q3 x0) : ∀ (m : Nat) (x12_5 : Int32) (w : MW), (∀ i : I, q_Wa_openFound_12 x12_1 x12_2 x12_3 (E1 i) (Q1 i) m x12_5 w) → q_Wa_openFound_12 x12_1 x12_2 x12_3 E3 Q3 m x12_5 w := by
  intro m
  induction m with
  | zero => exact fun _ _ h => False.elim (h i0)
  | succ m ih =>
    intro x12_5 w h
    have h := fun i => Eq.mp (q_Wa_openFound_12.eq_2 ..) (h i)
    refine Eq.mpr (q_Wa_openFound_12.eq_2 ..) ?_
    exact ⟨(fun h1 => (kE _ (fun i => ((h i).1 h1)))), (fun h2 => ⟨((h i0).2 h2).1, ⟨((h i0).2 h2).2.1, ⟨((h i0).2 h2).2.2.1, ⟨((h i0).2 h2).2.2.2.1, ⟨(fun h3 => (al_q_Wa_openFound_86 i0  (fun _ _ h4 => (ih _ _ (fun i => (h4 i)))) kE kQ (fun i => (((h i).2 h2).2.2.2.2.1 h3)))), (fun h5 => ⟨(((h i0).2 h2).2.2.2.2.2 h5).1, (al_q_Wa_openFound_86 i0  (fun _ _ h6 => (ih _ _ (fun i => (h6 i)))) kE kQ (fun i => (((h i).2 h2).2.2.2.2.2 h5).2))⟩)⟩⟩⟩⟩⟩)⟩
theorem al_p_Wa_openFound {I : Type} (i0 : I) {w : MW} {a0 : Int32} {b0 : Int32} {c0 : Int32} {Q1 : I → MW → Prop} {Q3 : MW → Prop}  (h : ∀ i : I, p_Wa_openFound w a0 b0 c0 (Q1 i)) (kQ : ∀ x0, (∀ i : I, Q1 i x0) → Q3 x0) : p_Wa_openFound w a0 b0 c0 Q3 := by
  have h := fun i => Eq.mp (p_Wa_openFound.eq_1 ..) (h i)
  refine Eq.mpr (p_Wa_openFound.eq_1 ..) ?_
  exact ⟨(h i0).1, (al_q_Wa_openFound_12 i0  (fun _ h1 => ⟨(h1 i0).1, ⟨(h1 i0).2.1, ⟨(h1 i0).2.2.1, ⟨(h1 i0).2.2.2.1, ⟨(h1 i0).2.2.2.2.1, ⟨(h1 i0).2.2.2.2.2.1, ⟨(h1 i0).2.2.2.2.2.2.1, ⟨(h1 i0).2.2.2.2.2.2.2.1, ⟨(h1 i0).2.2.2.2.2.2.2.2.1, (kQ _ (fun i => (h1 i).2.2.2.2.2.2.2.2.2))⟩⟩⟩⟩⟩⟩⟩⟩⟩) kQ _ _ _ (fun i => (h i).2))⟩
theorem al_p_Wa_undoOpening {I : Type} (i0 : I) {w : MW} {Q1 : I → MW → Prop} {Q3 : MW → Prop}  (h : ∀ i : I, p_Wa_undoOpening w (Q1 i)) (kQ : ∀ x0, (∀ i : I, Q1 i x0) → Q3 x0) : p_Wa_undoOpening w Q3 := by
  have h := fun i => Eq.mp (p_Wa_undoOpening.eq_1 ..) (h i)
  refine Eq.mpr (p_Wa_undoOpening.eq_1 ..) ?_
  exact (al_p_Wa_remove i0 (fun i => (h i)) (fun _ h1 => (kQ _ (fun i => (h1 i)))))
theorem al_q_Ac_openWay_45 {I : Type} (i0 : I) {x45_1 : Int32} {x45_2 : Int32} {x45_3 : Int32} {E1 : I → MW → Prop} {E3 : MW → Prop} {Q1 : I → Int32 → MW → Prop} {Q3 : Int32 → MW → Prop}  (kE : ∀ x0, (∀ i : I, E1 i x0) → E3 x0) (kQ : ∀ x0 x1, (∀ i : I, Q1 i x0 x1) → Q3 x0 x1) : ∀ (m : Nat) (x45_4 : Int32) (w : MW), (∀ i : I, q_Ac_openWay_45 x45_1 x45_2 x45_3 (E1 i) (Q1 i) m x45_4 w) → q_Ac_openWay_45 x45_1 x45_2 x45_3 E3 Q3 m x45_4 w := by
  intro m
  induction m with
  | zero => exact fun _ _ h => False.elim (h i0)
  | succ m ih =>
    intro x45_4 w h
    have h := fun i => Eq.mp (q_Ac_openWay_45.eq_2 ..) (h i)
    refine Eq.mpr (q_Ac_openWay_45.eq_2 ..) ?_
    exact ⟨(fun h1 => (kE _ (fun i => ((h i).1 h1)))), (fun h2 => ⟨((h i0).2 h2).1, ⟨((h i0).2 h2).2.1, ⟨((h i0).2 h2).2.2.1, (al_p_St_mayCome i0 (fun i => ((h i).2 h2).2.2.2) (fun _ _ h3 => ⟨(fun h4 => (ih _ _ (fun i => ((h3 i).1 h4)))), (fun h5 => (kQ _ _ (fun i => ((h3 i).2 h5))))⟩))⟩⟩⟩)⟩
theorem al_p_Ac_openWay {I : Type} (i0 : I) {w : MW} {a0 : Int32} {b0 : Int32} {c0 : Int32} {Q1 : I → Int32 → MW → Prop} {Q3 : Int32 → MW → Prop}  (h : ∀ i : I, p_Ac_openWay w a0 b0 c0 (Q1 i)) (kQ : ∀ x0 x1, (∀ i : I, Q1 i x0 x1) → Q3 x0 x1) : p_Ac_openWay w a0 b0 c0 Q3 := by
  have h := fun i => Eq.mp (p_Ac_openWay.eq_1 ..) (h i)
  refine Eq.mpr (p_Ac_openWay.eq_1 ..) ?_
  exact (al_p_Wa_indexOf i0 (fun i => (h i)) (fun _ _ h1 => ⟨(fun h2 => ⟨((h1 i0).1 h2).1, ⟨(fun h3 => (al_p_Wa_find i0 (fun i => (((h1 i).1 h2).2.1 h3)) (fun _ _ h4 => ⟨(fun h5 => (al_q_Ac_openWay_45 i0  (fun _ h6 => ⟨(h6 i0).1, (al_p_St_mayCome i0 (fun i => (h6 i).2) (fun _ _ h7 => ⟨(fun h8 => (al_p_Wa_openFound i0 (fun i => ((h7 i).1 h8)) (fun _ h9 => (al_p_Sf_isSafe i0 (fun i => (h9 i)) (fun _ _ h10 => ⟨(fun h11 => (al_p_Wa_undoOpening i0 (fun i => ((h10 i).1 h11)) (fun _ h12 => (kQ _ _ (fun i => (h12 i)))))), (fun h13 => (kQ _ _ (fun i => ((h10 i).2 h13))))⟩))))), (fun h14 => (kQ _ _ (fun i => ((h7 i).2 h14))))⟩))⟩) kQ _ _ _ (fun i => ((h4 i).1 h5)))), (fun h15 => (kQ _ _ (fun i => ((h4 i).2 h15))))⟩))), (fun h16 => (kQ _ _ (fun i => (((h1 i).1 h2).2.2 h16))))⟩⟩), (fun h17 => (kQ _ _ (fun i => ((h1 i).2 h17))))⟩))
theorem al_p_Wa_goesOver {I : Type} (i0 : I) {w : MW} {a0 : Int32} {Q1 : I → Int32 → MW → Prop} {Q3 : Int32 → MW → Prop}  (h : ∀ i : I, p_Wa_goesOver w a0 (Q1 i)) (kQ : ∀ x0 x1, (∀ i : I, Q1 i x0 x1) → Q3 x0 x1) : p_Wa_goesOver w a0 Q3 := by
  have h := fun i => Eq.mp (p_Wa_goesOver.eq_1 ..) (h i)
  refine Eq.mpr (p_Wa_goesOver.eq_1 ..) ?_
  exact ⟨(h i0).1, ⟨(fun h1 => (kQ _ _ (fun i => ((h i).2.1 h1)))), (fun h2 => (kQ _ _ (fun i => ((h i).2.2 h2))))⟩⟩
theorem al_p_Ac_setPosition {I : Type} (i0 : I) {w : MW} {a0 : Int32} {b0 : Int32} {Q1 : I → Int32 → MW → Prop} {Q3 : Int32 → MW → Prop}  (h : ∀ i : I, p_Ac_setPosition w a0 b0 (Q1 i)) (kQ : ∀ x0 x1, (∀ i : I, Q1 i x0 x1) → Q3 x0 x1) : p_Ac_setPosition w a0 b0 Q3 := by
  have h := fun i => Eq.mp (p_Ac_setPosition.eq_1 ..) (h i)
  refine Eq.mpr (p_Ac_setPosition.eq_1 ..) ?_
  exact (al_p_Wa_goesOver i0 (fun i => (h i)) (fun _ _ h1 => ⟨(fun h2 => ⟨((h1 i0).1 h2).1, ⟨((h1 i0).1 h2).2.1, (al_p_Sf_isSafe i0 (fun i => ((h1 i).1 h2).2.2) (fun _ _ h3 => ⟨(fun h4 => ⟨((h3 i0).1 h4).1, (kQ _ _ (fun i => ((h3 i).1 h4).2))⟩), (fun h5 => (kQ _ _ (fun i => ((h3 i).2 h5))))⟩))⟩⟩), (fun h6 => (kQ _ _ (fun i => ((h1 i).2 h6))))⟩))
theorem al_q_Ro_isOn_10 {I : Type} (i0 : I) {x10_1 : Int32} {E1 : I → Int64 → MW → Prop} {E3 : Int64 → MW → Prop} {Q1 : I → Int32 → MW → Prop} {Q3 : Int32 → MW → Prop}  (kE : ∀ x0 x1, (∀ i : I, E1 i x0 x1) → E3 x0 x1) (kQ : ∀ x0 x1, (∀ i : I, Q1 i x0 x1) → Q3 x0 x1) : ∀ (m : Nat) (x10_2 : Int64) (x10_4 : Int32) (w : MW), (∀ i : I, q_Ro_isOn_10 x10_1 (E1 i) (Q1 i) m x10_2 x10_4 w) → q_Ro_isOn_10 x10_1 E3 Q3 m x10_2 x10_4 w := by
  intro m
  induction m with
  | zero => exact fun _ _ _ h => False.elim (h i0)
  | succ m ih =>
    intro x10_2 x10_4 w h
    have h := fun i => Eq.mp (q_Ro_isOn_10.eq_2 ..) (h i)
    refine Eq.mpr (q_Ro_isOn_10.eq_2 ..) ?_
    exact ⟨(h i0).1, ⟨(fun h1 => (kE _ _ (fun i => ((h i).2.1 h1)))), (fun h2 => ⟨((h i0).2.2 h2).1, ⟨(fun h3 => ⟨(((h i0).2.2 h2).2.1 h3).1, ⟨(fun h4 => ⟨((((h i0).2.2 h2).2.1 h3).2.1 h4).1, ⟨(fun h5 => (ih _ _ _ (fun i => (((((h i).2.2 h2).2.1 h3).2.1 h4).2.1 h5)))), (fun h6 => (ih _ _ _ (fun i => (((((h i).2.2 h2).2.1 h3).2.1 h4).2.2 h6))))⟩⟩), (fun h7 => (ih _ _ _ (fun i => ((((h i).2.2 h2).2.1 h3).2.2 h7))))⟩⟩), (fun h8 => ⟨(((h i0).2.2 h2).2.2 h8).1, (ih _ _ _ (fun i => (((h i).2.2 h2).2.2 h8).2))⟩)⟩⟩)⟩⟩
theorem al_p_Ro_isOn {I : Type} (i0 : I) {w : MW} {a0 : Int32} {Q1 : I → Int32 → MW → Prop} {Q3 : Int32 → MW → Prop}  (h : ∀ i : I, p_Ro_isOn w a0 (Q1 i)) (kQ : ∀ x0 x1, (∀ i : I, Q1 i x0 x1) → Q3 x0 x1) : p_Ro_isOn w a0 Q3 := by
  have h := fun i => Eq.mp (p_Ro_isOn.eq_1 ..) (h i)
  refine Eq.mpr (p_Ro_isOn.eq_1 ..) ?_
  exact ⟨(h i0).1, (al_q_Ro_isOn_10 i0  (fun _ _ h1 => ⟨(fun h2 => (kQ _ _ (fun i => ((h1 i).1 h2)))), (fun h3 => (kQ _ _ (fun i => ((h1 i).2 h3))))⟩) kQ _ _ _ _ (fun i => (h i).2))⟩
theorem al_q_Ro_barring_37 {I : Type} (i0 : I) {x2_1 : Int32} {y37_2 : Int32} {ys37_0 : Int32} {w : MW} {A1 : I → Int32 → MW → Prop} {A3 : Int32 → MW → Prop} {E1 : I → MW → Prop} {E3 : MW → Prop} {Q1 : I → Int32 → MW → Prop} {Q3 : Int32 → MW → Prop}  (kA : ∀ x0 x1, (∀ i : I, A1 i x0 x1) → A3 x0 x1) (kE : ∀ x0, (∀ i : I, E1 i x0) → E3 x0) (kQ : ∀ x0 x1, (∀ i : I, Q1 i x0 x1) → Q3 x0 x1) (h : ∀ i : I, q_Ro_barring_37 x2_1 y37_2 ys37_0 w (A1 i) (E1 i) (Q1 i)) : q_Ro_barring_37 x2_1 y37_2 ys37_0 w A3 E3 Q3 := by
  have h := fun i => Eq.mp (q_Ro_barring_37.eq_1 ..) (h i)
  refine Eq.mpr (q_Ro_barring_37.eq_1 ..) ?_
  exact ⟨(fun h1 => (kA _ _ (fun i => ((h i).1 h1)))), (fun h2 => ⟨((h i0).2 h2).1, ⟨(fun h3 => (kQ _ _ (fun i => (((h i).2 h2).2.1 h3)))), (fun h4 => ⟨(((h i0).2 h2).2.2 h4).1, ⟨(((h i0).2 h2).2.2 h4).2.1, ⟨(fun h5 => (kA _ _ (fun i => ((((h i).2 h2).2.2 h4).2.2.1 h5)))), (fun h6 => (al_p_Ro_isOn i0 (fun i => ((((h i).2 h2).2.2 h4).2.2.2 h6)) (fun _ _ h7 => ⟨(fun h8 => (kA _ _ (fun i => ((h7 i).1 h8)))), (fun h9 => (kQ _ _ (fun i => ((h7 i).2 h9))))⟩)))⟩⟩⟩)⟩⟩)⟩
theorem al_q_Ro_barring_2 {I : Type} (i0 : I) {x2_1 : Int32} {E1 : I → MW → Prop} {E3 : MW → Prop} {Q1 : I → Int32 → MW → Prop} {Q3 : Int32 → MW → Prop}  (kE : ∀ x0, (∀ i : I, E1 i x0) → E3 x0) (kQ : ∀ x0 x1, (∀ i : I, Q1 i x0 x1) → Q3 x0 x1) : ∀ (m : Nat) (x2_2 : Int32) (w : MW), (∀ i : I, q_Ro_barring_2 x2_1 (E1 i) (Q1 i) m x2_2 w) → q_Ro_barring_2 x2_1 E3 Q3 m x2_2 w := by
  intro m
  induction m with
  | zero => exact fun _ _ h => False.elim (h i0)
  | succ m ih =>
    intro x2_2 w h
    have h := fun i => Eq.mp (q_Ro_barring_2.eq_2 ..) (h i)
    refine Eq.mpr (q_Ro_barring_2.eq_2 ..) ?_
    exact ⟨(fun h1 => (kE _ (fun i => ((h i).1 h1)))), (fun h2 => ⟨((h i0).2 h2).1, ⟨(fun h3 => (al_q_Ro_barring_37 i0  (fun _ _ h4 => (ih _ _ (fun i => (h4 i)))) kE kQ (fun i => (((h i).2 h2).2.1 h3)))), (fun h5 => ⟨(((h i0).2 h2).2.2 h5).1, ⟨(fun h6 => (al_q_Ro_barring_37 i0  (fun _ _ h7 => (ih _ _ (fun i => (h7 i)))) kE kQ (fun i => ((((h i).2 h2).2.2 h5).2.1 h6)))), (fun h8 => (al_q_Ro_barring_37 i0  (fun _ _ h9 => (ih _ _ (fun i => (h9 i)))) kE kQ (fun i => ((((h i).2 h2).2.2 h5).2.2 h8))))⟩⟩)⟩⟩)⟩
theorem al_p_Ro_barring {I : Type} (i0 : I) {w : MW} {a0 : Int32} {Q1 : I → Int32 → MW → Prop} {Q3 : Int32 → MW → Prop}  (h : ∀ i : I, p_Ro_barring w a0 (Q1 i)) (kQ : ∀ x0 x1, (∀ i : I, Q1 i x0 x1) → Q3 x0 x1) : p_Ro_barring w a0 Q3 := by
  have h := fun i => Eq.mp (p_Ro_barring.eq_1 ..) (h i)
  refine Eq.mpr (p_Ro_barring.eq_1 ..) ?_
  exact (al_q_Ro_barring_2 i0  (fun _ h1 => (kQ _ _ (fun i => (h1 i)))) kQ _ _ _ (fun i => (h i)))
theorem al_p_Ac_perform {I : Type} (i0 : I) {w : MW} {a0 : Int32} {Q1 : I → Int32 → MW → Prop} {Q3 : Int32 → MW → Prop}  (h : ∀ i : I, p_Ac_perform w a0 (Q1 i)) (kQ : ∀ x0 x1, (∀ i : I, Q1 i x0 x1) → Q3 x0 x1) : p_Ac_perform w a0 Q3 := by
  have h := fun i => Eq.mp (p_Ac_perform.eq_1 ..) (h i)
  refine Eq.mpr (p_Ac_perform.eq_1 ..) ?_
  exact (al_p_Ac_isAct i0 (fun i => (h i)) (fun _ _ h1 => ⟨(fun h2 => (kQ _ _ (fun i => ((h1 i).1 h2)))), (fun h3 => (al_p_Ac_isBound i0 (fun i => ((h1 i).2 h3)) (fun _ _ h4 => ⟨(fun h5 => ⟨((h4 i0).1 h5).1, (al_p_Ro_barring i0 (fun i => ((h4 i).1 h5).2) (fun _ _ h6 => ⟨(fun h7 => ⟨((h6 i0).1 h7).1, ⟨(fun h8 => ⟨(((h6 i0).1 h7).2.1 h8).1, ⟨(((h6 i0).1 h7).2.1 h8).2.1, ⟨(((h6 i0).1 h7).2.1 h8).2.2.1, (al_p_Ac_openWay i0 (fun i => (((h6 i).1 h7).2.1 h8).2.2.2) (fun _ _ h9 => (kQ _ _ (fun i => (h9 i)))))⟩⟩⟩), (fun h10 => ⟨(fun h11 => ⟨((((h6 i0).1 h7).2.2 h10).1 h11).1, ⟨((((h6 i0).1 h7).2.2 h10).1 h11).2.1, (al_p_Ac_closeWay i0 (fun i => ((((h6 i).1 h7).2.2 h10).1 h11).2.2) (fun _ _ h12 => (kQ _ _ (fun i => (h12 i)))))⟩⟩), (fun h13 => ⟨(fun h14 => ⟨(((((h6 i0).1 h7).2.2 h10).2 h13).1 h14).1, ⟨(((((h6 i0).1 h7).2.2 h10).2 h13).1 h14).2.1, (al_p_Ac_setPosition i0 (fun i => (((((h6 i).1 h7).2.2 h10).2 h13).1 h14).2.2) (fun _ _ h15 => (kQ _ _ (fun i => (h15 i)))))⟩⟩), (fun h16 => ⟨(fun h17 => ⟨((((((h6 i0).1 h7).2.2 h10).2 h13).2 h16).1 h17).1, ⟨((((((h6 i0).1 h7).2.2 h10).2 h13).2 h16).1 h17).2.1, (al_p_Ac_cleanSpace i0 (fun i => ((((((h6 i).1 h7).2.2 h10).2 h13).2 h16).1 h17).2.2) (fun _ _ h18 => (kQ _ _ (fun i => (h18 i)))))⟩⟩), (fun h19 => ⟨((((((h6 i0).1 h7).2.2 h10).2 h13).2 h16).2 h19).1, (al_p_Ac_drainSpace i0 (fun i => ((((((h6 i).1 h7).2.2 h10).2 h13).2 h16).2 h19).2) (fun _ _ h20 => (kQ _ _ (fun i => (h20 i)))))⟩)⟩)⟩)⟩)⟩⟩), (fun h21 => (kQ _ _ (fun i => ((h6 i).2 h21))))⟩))⟩), (fun h22 => (kQ _ _ (fun i => ((h4 i).2 h22))))⟩)))⟩))
theorem al_p_St_isFull {I : Type} (i0 : I) {w : MW} {a0 : Int32} {b0 : Int32} {Q1 : I → Int32 → MW → Prop} {Q3 : Int32 → MW → Prop}  (h : ∀ i : I, p_St_isFull w a0 b0 (Q1 i)) (kQ : ∀ x0 x1, (∀ i : I, Q1 i x0 x1) → Q3 x0 x1) : p_St_isFull w a0 b0 Q3 := by
  have h := fun i => Eq.mp (p_St_isFull.eq_1 ..) (h i)
  refine Eq.mpr (p_St_isFull.eq_1 ..) ?_
  exact ⟨(h i0).1, ⟨(fun h1 => (kQ _ _ (fun i => ((h i).2.1 h1)))), (fun h2 => (kQ _ _ (fun i => ((h i).2.2 h2))))⟩⟩
theorem al_p_St_leavingCell {I : Type} (i0 : I) {w : MW} {a0 : Int32} {b0 : Int32} {Q1 : I → Int32 → MW → Prop} {Q3 : Int32 → MW → Prop}  (h : ∀ i : I, p_St_leavingCell w a0 b0 (Q1 i)) (kQ : ∀ x0 x1, (∀ i : I, Q1 i x0 x1) → Q3 x0 x1) : p_St_leavingCell w a0 b0 Q3 := by
  have h := fun i => Eq.mp (p_St_leavingCell.eq_1 ..) (h i)
  refine Eq.mpr (p_St_leavingCell.eq_1 ..) ?_
  exact ⟨(h i0).1, ⟨(h i0).2.1, ⟨(fun h1 => ⟨((h i0).2.2.1 h1).1, (kQ _ _ (fun i => ((h i).2.2.1 h1).2))⟩), (fun h2 => ⟨(fun h3 => ⟨(((h i0).2.2.2 h2).1 h3).1, (kQ _ _ (fun i => (((h i).2.2.2 h2).1 h3).2))⟩), (fun h4 => ⟨(((h i0).2.2.2 h2).2 h4).1, ⟨(((h i0).2.2.2 h2).2 h4).2.1, (kQ _ _ (fun i => (((h i).2.2.2 h2).2 h4).2.2))⟩⟩)⟩)⟩⟩⟩
theorem al_p_St_wouldLeave {I : Type} (i0 : I) {w : MW} {a0 : Int32} {b0 : Int32} {Q1 : I → Int32 → MW → Prop} {Q3 : Int32 → MW → Prop}  (h : ∀ i : I, p_St_wouldLeave w a0 b0 (Q1 i)) (kQ : ∀ x0 x1, (∀ i : I, Q1 i x0 x1) → Q3 x0 x1) : p_St_wouldLeave w a0 b0 Q3 := by
  have h := fun i => Eq.mp (p_St_wouldLeave.eq_1 ..) (h i)
  refine Eq.mpr (p_St_wouldLeave.eq_1 ..) ?_
  exact (al_p_St_leavingCell i0 (fun i => (h i)) (fun _ _ h1 => (al_p_St_isFull i0 (fun i => (h1 i)) (fun _ _ h2 => (kQ _ _ (fun i => (h2 i)))))))
theorem al_p_Wa_goesForth {I : Type} (i0 : I) {w : MW} {a0 : Int32} {Q1 : I → Int32 → MW → Prop} {Q3 : Int32 → MW → Prop}  (h : ∀ i : I, p_Wa_goesForth w a0 (Q1 i)) (kQ : ∀ x0 x1, (∀ i : I, Q1 i x0 x1) → Q3 x0 x1) : p_Wa_goesForth w a0 Q3 := by
  have h := fun i => Eq.mp (p_Wa_goesForth.eq_1 ..) (h i)
  refine Eq.mpr (p_Wa_goesForth.eq_1 ..) ?_
  exact ⟨(h i0).1, ⟨(fun h1 => (kQ _ _ (fun i => ((h i).2.1 h1)))), (fun h2 => (kQ _ _ (fun i => ((h i).2.2 h2))))⟩⟩
theorem al_q_St_arrive_14 {I : Type} (i0 : I) {y14_1 : Int32} {y14_2 : Int32} {y14_3 : Int32} {w : MW} {Q1 : I → MW → Prop} {Q3 : MW → Prop}  (kQ : ∀ x0, (∀ i : I, Q1 i x0) → Q3 x0) (h : ∀ i : I, q_St_arrive_14 y14_1 y14_2 y14_3 w (Q1 i)) : q_St_arrive_14 y14_1 y14_2 y14_3 w Q3 := by
  have h := fun i => Eq.mp (q_St_arrive_14.eq_1 ..) (h i)
  refine Eq.mpr (q_St_arrive_14.eq_1 ..) ?_
  exact ⟨(h i0).1, ⟨(h i0).2.1, ⟨(h i0).2.2.1, (kQ _ (fun i => (h i).2.2.2))⟩⟩⟩
theorem al_p_St_arrive {I : Type} (i0 : I) {w : MW} {a0 : Int32} {b0 : Int32} {c0 : Int32} {Q1 : I → MW → Prop} {Q3 : MW → Prop}  (h : ∀ i : I, p_St_arrive w a0 b0 c0 (Q1 i)) (kQ : ∀ x0, (∀ i : I, Q1 i x0) → Q3 x0) : p_St_arrive w a0 b0 c0 Q3 := by
  have h := fun i => Eq.mp (p_St_arrive.eq_1 ..) (h i)
  refine Eq.mpr (p_St_arrive.eq_1 ..) ?_
  exact ⟨(h i0).1, ⟨(fun h1 => (al_q_St_arrive_14 i0  kQ (fun i => ((h i).2.1 h1)))), (fun h2 => (al_p_St_forgetCleanings i0 (fun i => ((h i).2.2 h2)) (fun _ h3 => (al_q_St_arrive_14 i0  kQ (fun i => (h3 i))))))⟩⟩
theorem al_q_St_push_138 {I : Type} (i0 : I) {y138_1 : Int32} {y138_7 : Int32} {w : MW} {Q1 : I → Int32 → MW → Prop} {Q3 : Int32 → MW → Prop}  (kQ : ∀ x0 x1, (∀ i : I, Q1 i x0 x1) → Q3 x0 x1) (h : ∀ i : I, q_St_push_138 y138_1 y138_7 w (Q1 i)) : q_St_push_138 y138_1 y138_7 w Q3 := by
  have h := fun i => Eq.mp (q_St_push_138.eq_1 ..) (h i)
  refine Eq.mpr (q_St_push_138.eq_1 ..) ?_
  exact ⟨(fun h1 => ⟨((h i0).1 h1).1, (kQ _ _ (fun i => ((h i).1 h1).2))⟩), (fun h2 => ⟨((h i0).2 h2).1, (al_p_St_leave i0 (fun i => ((h i).2 h2).2) (fun _ h3 => ⟨(h3 i0).1, (kQ _ _ (fun i => (h3 i).2))⟩))⟩)⟩
theorem al_q_St_push_117 {I : Type} (i0 : I) {y117_1 : Int32} {y117_3 : Int32} {y117_4 : Int32} {y117_7 : Int32} {ys117_0 : Int32} {ys117_1 : Int32} {w : MW} {Q1 : I → Int32 → MW → Prop} {Q3 : Int32 → MW → Prop}  (kQ : ∀ x0 x1, (∀ i : I, Q1 i x0 x1) → Q3 x0 x1) (h : ∀ i : I, q_St_push_117 y117_1 y117_3 y117_4 y117_7 ys117_0 ys117_1 w (Q1 i)) : q_St_push_117 y117_1 y117_3 y117_4 y117_7 ys117_0 ys117_1 w Q3 := by
  have h := fun i => Eq.mp (q_St_push_117.eq_1 ..) (h i)
  refine Eq.mpr (q_St_push_117.eq_1 ..) ?_
  exact ⟨(h i0).1, ⟨(fun h1 => (al_q_St_push_138 i0  kQ (fun i => ((h i).2.1 h1)))), (fun h2 => ⟨((h i0).2.2 h2).1, (al_p_St_arrive i0 (fun i => ((h i).2.2 h2).2) (fun _ h3 => (al_q_St_push_138 i0  kQ (fun i => (h3 i)))))⟩)⟩⟩
theorem al_q_St_push_85 {I : Type} (i0 : I) {y85_1 : Int32} {y85_2 : Int32} {y85_3 : Int32} {y85_4 : Int32} {y85_5 : Int32} {y85_6 : Int32} {y85_7 : Int32} {ys85_0 : Int64} {ys85_1 : Int32} {w : MW} {Q1 : I → Int32 → MW → Prop} {Q3 : Int32 → MW → Prop}  (kQ : ∀ x0 x1, (∀ i : I, Q1 i x0 x1) → Q3 x0 x1) (h : ∀ i : I, q_St_push_85 y85_1 y85_2 y85_3 y85_4 y85_5 y85_6 y85_7 ys85_0 ys85_1 w (Q1 i)) : q_St_push_85 y85_1 y85_2 y85_3 y85_4 y85_5 y85_6 y85_7 ys85_0 ys85_1 w Q3 := by
  have h := fun i => Eq.mp (q_St_push_85.eq_1 ..) (h i)
  refine Eq.mpr (q_St_push_85.eq_1 ..) ?_
  exact ⟨(h i0).1, ⟨(fun h1 => ⟨(fun h2 => (al_q_St_push_117 i0  kQ (fun i => (((h i).2.1 h1).1 h2)))), (fun h3 => (al_q_St_push_117 i0  kQ (fun i => (((h i).2.1 h1).2 h3))))⟩), (fun h4 => (al_q_St_push_117 i0  kQ (fun i => ((h i).2.2 h4))))⟩⟩
theorem al_p_St_push {I : Type} (i0 : I) {w : MW} {a0 : Int32} {b0 : Int32} {c0 : Int32} {e0 : Int32} {Q1 : I → Int32 → MW → Prop} {Q3 : Int32 → MW → Prop}  (h : ∀ i : I, p_St_push w a0 b0 c0 e0 (Q1 i)) (kQ : ∀ x0 x1, (∀ i : I, Q1 i x0 x1) → Q3 x0 x1) : p_St_push w a0 b0 c0 e0 Q3 := by
  have h := fun i => Eq.mp (p_St_push.eq_1 ..) (h i)
  refine Eq.mpr (p_St_push.eq_1 ..) ?_
  exact ⟨(h i0).1, ⟨(h i0).2.1, (al_p_St_leavingCell i0 (fun i => (h i).2.2) (fun _ _ h1 => (al_p_St_isFull i0 (fun i => (h1 i)) (fun _ _ h2 => ⟨(fun h3 => ⟨((h2 i0).1 h3).1, (al_q_St_push_85 i0  kQ (fun i => ((h2 i).1 h3).2))⟩), (fun h4 => ⟨((h2 i0).2 h4).1, (al_q_St_push_85 i0  kQ (fun i => ((h2 i).2 h4).2))⟩)⟩))))⟩⟩
theorem al_q_Wa_movesLitre_126 {I : Type} (i0 : I) {x126_1 : Int32} {x126_2 : Int32} {x126_3 : Int32} {E1 : I → Int32 → MW → Prop} {E3 : Int32 → MW → Prop} {Q1 : I → Int32 → MW → Prop} {Q3 : Int32 → MW → Prop}  (kE : ∀ x0 x1, (∀ i : I, E1 i x0 x1) → E3 x0 x1) (kQ : ∀ x0 x1, (∀ i : I, Q1 i x0 x1) → Q3 x0 x1) : ∀ (m : Nat) (x126_4 : Int32) (x126_5 : Int32) (x126_6 : Int32) (w : MW), (∀ i : I, q_Wa_movesLitre_126 x126_1 x126_2 x126_3 (E1 i) (Q1 i) m x126_4 x126_5 x126_6 w) → q_Wa_movesLitre_126 x126_1 x126_2 x126_3 E3 Q3 m x126_4 x126_5 x126_6 w := by
  intro m
  induction m with
  | zero => exact fun _ _ _ _ h => False.elim (h i0)
  | succ m ih =>
    intro x126_4 x126_5 x126_6 w h
    have h := fun i => Eq.mp (q_Wa_movesLitre_126.eq_2 ..) (h i)
    refine Eq.mpr (q_Wa_movesLitre_126.eq_2 ..) ?_
    exact ⟨(h i0).1, ⟨(fun h1 => (kE _ _ (fun i => ((h i).2.1 h1)))), (fun h2 => ⟨(fun h3 => (kE _ _ (fun i => (((h i).2.2 h2).1 h3)))), (fun h4 => (al_p_Wa_goesForth i0 (fun i => (((h i).2.2 h2).2 h4)) (fun _ _ h5 => (al_p_St_push i0 (fun i => (h5 i)) (fun _ _ h6 => ⟨(h6 i0).1, (ih _ _ _ _ (fun i => (h6 i).2))⟩)))))⟩)⟩⟩
theorem al_q_Wa_movesLitre_98 {I : Type} (i0 : I) {y98_1 : Int32} {y98_2 : Int32} {y98_3 : Int32} {w : MW} {Q1 : I → Int32 → MW → Prop} {Q3 : Int32 → MW → Prop}  (kQ : ∀ x0 x1, (∀ i : I, Q1 i x0 x1) → Q3 x0 x1) (h : ∀ i : I, q_Wa_movesLitre_98 y98_1 y98_2 y98_3 w (Q1 i)) : q_Wa_movesLitre_98 y98_1 y98_2 y98_3 w Q3 := by
  have h := fun i => Eq.mp (q_Wa_movesLitre_98.eq_1 ..) (h i)
  refine Eq.mpr (q_Wa_movesLitre_98.eq_1 ..) ?_
  exact ⟨(h i0).1, (al_p_St_leave i0 (fun i => (h i).2) (fun _ h1 => ⟨(h1 i0).1, (al_q_Wa_movesLitre_126 i0  (fun _ _ h2 => ⟨(fun h3 => (kQ _ _ (fun i => ((h2 i).1 h3)))), (fun h4 => (al_p_St_arrive i0 (fun i => ((h2 i).2 h4)) (fun _ h5 => (kQ _ _ (fun i => (h5 i))))))⟩) kQ _ _ _ _ _ (fun i => (h1 i).2))⟩))⟩
theorem al_p_Wa_movesLitre {I : Type} (i0 : I) {w : MW} {a0 : Int32} {Q1 : I → Int32 → MW → Prop} {Q3 : Int32 → MW → Prop}  (h : ∀ i : I, p_Wa_movesLitre w a0 (Q1 i)) (kQ : ∀ x0 x1, (∀ i : I, Q1 i x0 x1) → Q3 x0 x1) : p_Wa_movesLitre w a0 Q3 := by
  have h := fun i => Eq.mp (p_Wa_movesLitre.eq_1 ..) (h i)
  refine Eq.mpr (p_Wa_movesLitre.eq_1 ..) ?_
  exact ⟨(h i0).1, ⟨(h i0).2.1, ⟨(h i0).2.2.1, ⟨(h i0).2.2.2.1, ⟨(fun h1 => ⟨((h i0).2.2.2.2.1 h1).1, ⟨((h i0).2.2.2.2.1 h1).2.1, (al_p_Wa_goesForth i0 (fun i => ((h i).2.2.2.2.1 h1).2.2) (fun _ _ h2 => (al_p_St_wouldLeave i0 (fun i => (h2 i)) (fun _ _ h3 => ⟨(fun h4 => (al_q_Wa_movesLitre_98 i0  kQ (fun i => ((h3 i).1 h4)))), (fun h5 => ⟨((h3 i0).2 h5).1, ⟨((h3 i0).2 h5).2.1, ⟨((h3 i0).2 h5).2.2.1, ⟨(fun h6 => (kQ _ _ (fun i => (((h3 i).2 h5).2.2.2.1 h6)))), (fun h7 => (al_p_St_mayCome i0 (fun i => (((h3 i).2 h5).2.2.2.2 h7)) (fun _ _ h8 => ⟨(fun h9 => (al_q_Wa_movesLitre_98 i0  kQ (fun i => ((h8 i).1 h9)))), (fun h10 => (kQ _ _ (fun i => ((h8 i).2 h10))))⟩)))⟩⟩⟩⟩)⟩))))⟩⟩), (fun h11 => (kQ _ _ (fun i => ((h i).2.2.2.2.2 h11))))⟩⟩⟩⟩⟩
theorem al_q_Wa_move_12 {I : Type} (i0 : I) {x12_1 : Int32} {E1 : I → MW → Prop} {E3 : MW → Prop} {Q1 : I → MW → Prop} {Q3 : MW → Prop}  (kE : ∀ x0, (∀ i : I, E1 i x0) → E3 x0) (kQ : ∀ x0, (∀ i : I, Q1 i x0) → Q3 x0) : ∀ (m : Nat) (x12_2 : Int32) (w : MW), (∀ i : I, q_Wa_move_12 x12_1 (E1 i) (Q1 i) m x12_2 w) → q_Wa_move_12 x12_1 E3 Q3 m x12_2 w := by
  intro m
  induction m with
  | zero => exact fun _ _ h => False.elim (h i0)
  | succ m ih =>
    intro x12_2 w h
    have h := fun i => Eq.mp (q_Wa_move_12.eq_2 ..) (h i)
    refine Eq.mpr (q_Wa_move_12.eq_2 ..) ?_
    exact ⟨(h i0).1, ⟨(fun h1 => (kE _ (fun i => ((h i).2.1 h1)))), (fun h2 => (al_p_Wa_movesLitre i0 (fun i => ((h i).2.2 h2)) (fun _ _ h3 => ⟨(fun h4 => (kE _ (fun i => ((h3 i).1 h4)))), (fun h5 => (ih _ _ (fun i => ((h3 i).2 h5))))⟩)))⟩⟩
theorem al_q_Wa_move_2 {I : Type} (i0 : I)  {E1 : I → MW → Prop} {E3 : MW → Prop} {Q1 : I → MW → Prop} {Q3 : MW → Prop}  (kE : ∀ x0, (∀ i : I, E1 i x0) → E3 x0) (kQ : ∀ x0, (∀ i : I, Q1 i x0) → Q3 x0) : ∀ (m : Nat) (x2_1 : Int32) (w : MW), (∀ i : I, q_Wa_move_2 (E1 i) (Q1 i) m x2_1 w) → q_Wa_move_2 E3 Q3 m x2_1 w := by
  intro m
  induction m with
  | zero => exact fun _ _ h => False.elim (h i0)
  | succ m ih =>
    intro x2_1 w h
    have h := fun i => Eq.mp (q_Wa_move_2.eq_2 ..) (h i)
    refine Eq.mpr (q_Wa_move_2.eq_2 ..) ?_
    exact ⟨(fun h1 => (kE _ (fun i => ((h i).1 h1)))), (fun h2 => (al_q_Wa_move_12 i0  (fun _ h3 => (ih _ _ (fun i => (h3 i)))) kQ _ _ _ (fun i => ((h i).2 h2))))⟩
theorem al_p_Wa_move {I : Type} (i0 : I) {w : MW} {Q1 : I → MW → Prop} {Q3 : MW → Prop}  (h : ∀ i : I, p_Wa_move w (Q1 i)) (kQ : ∀ x0, (∀ i : I, Q1 i x0) → Q3 x0) : p_Wa_move w Q3 := by
  have h := fun i => Eq.mp (p_Wa_move.eq_1 ..) (h i)
  refine Eq.mpr (p_Wa_move.eq_1 ..) ?_
  exact (al_q_Wa_move_2 i0  (fun _ h1 => (kQ _ (fun i => (h1 i)))) kQ _ _ _ (fun i => (h i)))
theorem al_q_Mo_liquidIn_49 {I : Type} (i0 : I) {x49_2 : Int32} {E1 : I → Int32 → MW → Prop} {E3 : Int32 → MW → Prop} {Q1 : I → Int32 → MW → Prop} {Q3 : Int32 → MW → Prop}  (kE : ∀ x0 x1, (∀ i : I, E1 i x0 x1) → E3 x0 x1) (kQ : ∀ x0 x1, (∀ i : I, Q1 i x0 x1) → Q3 x0 x1) : ∀ (m : Nat) (x49_3 : Int32) (x49_4 : Int32) (w : MW), (∀ i : I, q_Mo_liquidIn_49 x49_2 (E1 i) (Q1 i) m x49_3 x49_4 w) → q_Mo_liquidIn_49 x49_2 E3 Q3 m x49_3 x49_4 w := by
  intro m
  induction m with
  | zero => exact fun _ _ _ h => False.elim (h i0)
  | succ m ih =>
    intro x49_3 x49_4 w h
    have h := fun i => Eq.mp (q_Mo_liquidIn_49.eq_2 ..) (h i)
    refine Eq.mpr (q_Mo_liquidIn_49.eq_2 ..) ?_
    exact ⟨(h i0).1, ⟨(fun h1 => (kE _ _ (fun i => ((h i).2.1 h1)))), (fun h2 => ⟨((h i0).2.2 h2).1, ⟨(fun h3 => (ih _ _ _ (fun i => (((h i).2.2 h2).2.1 h3)))), (fun h4 => ⟨(fun h5 => ⟨(fun h6 => (ih _ _ _ (fun i => (((((h i).2.2 h2).2.2 h4).1 h5).1 h6)))), (fun h7 => (ih _ _ _ (fun i => (((((h i).2.2 h2).2.2 h4).1 h5).2 h7))))⟩), (fun h8 => (ih _ _ _ (fun i => ((((h i).2.2 h2).2.2 h4).2 h8))))⟩)⟩⟩)⟩⟩
theorem al_p_Mo_liquidIn {I : Type} (i0 : I) {w : MW} {a0 : Int32} {Q1 : I → Int32 → MW → Prop} {Q3 : Int32 → MW → Prop}  (h : ∀ i : I, p_Mo_liquidIn w a0 (Q1 i)) (kQ : ∀ x0 x1, (∀ i : I, Q1 i x0 x1) → Q3 x0 x1) : p_Mo_liquidIn w a0 Q3 := by
  have h := fun i => Eq.mp (p_Mo_liquidIn.eq_1 ..) (h i)
  refine Eq.mpr (p_Mo_liquidIn.eq_1 ..) ?_
  exact ⟨(fun h1 => (al_q_Mo_liquidIn_49 i0  (fun _ _ h2 => (kQ _ _ (fun i => (h2 i)))) kQ _ _ _ _ (fun i => ((h i).1 h1)))), (fun h3 => ⟨((h i0).2 h3).1, ⟨(fun h4 => (kQ _ _ (fun i => (((h i).2 h3).2.1 h4)))), (fun h5 => ⟨(((h i0).2 h3).2.2 h5).1, ⟨(fun h6 => (kQ _ _ (fun i => ((((h i).2 h3).2.2 h5).2.1 h6)))), (fun h7 => ⟨((((h i0).2 h3).2.2 h5).2.2 h7).1, (kQ _ _ (fun i => ((((h i).2 h3).2.2 h5).2.2 h7).2))⟩)⟩⟩)⟩⟩)⟩
theorem al_q_Mo_level_57 {I : Type} (i0 : I) {x23_1 : Int32} {y57_3 : Int32} {ys57_0 : Int32} {w : MW} {A1 : I → Int32 → Int32 → MW → Prop} {A3 : Int32 → Int32 → MW → Prop} {E1 : I → MW → Prop} {E3 : MW → Prop} {Q1 : I → Int32 → MW → Prop} {Q3 : Int32 → MW → Prop}  (kA : ∀ x0 x1 x2, (∀ i : I, A1 i x0 x1 x2) → A3 x0 x1 x2) (kE : ∀ x0, (∀ i : I, E1 i x0) → E3 x0) (kQ : ∀ x0 x1, (∀ i : I, Q1 i x0 x1) → Q3 x0 x1) (h : ∀ i : I, q_Mo_level_57 x23_1 y57_3 ys57_0 w (A1 i) (E1 i) (Q1 i)) : q_Mo_level_57 x23_1 y57_3 ys57_0 w A3 E3 Q3 := by
  have h := fun i => Eq.mp (q_Mo_level_57.eq_1 ..) (h i)
  refine Eq.mpr (q_Mo_level_57.eq_1 ..) ?_
  exact ⟨(fun h1 => (kA _ _ _ (fun i => ((h i).1 h1)))), (fun h2 => ⟨((h i0).2 h2).1, ⟨(fun h3 => (kA _ _ _ (fun i => (((h i).2 h2).2.1 h3)))), (fun h4 => (kQ _ _ (fun i => (((h i).2 h2).2.2 h4))))⟩⟩)⟩
theorem al_q_Mo_level_23 {I : Type} (i0 : I) {x23_1 : Int32} {E1 : I → MW → Prop} {E3 : MW → Prop} {Q1 : I → Int32 → MW → Prop} {Q3 : Int32 → MW → Prop}  (kE : ∀ x0, (∀ i : I, E1 i x0) → E3 x0) (kQ : ∀ x0 x1, (∀ i : I, Q1 i x0 x1) → Q3 x0 x1) : ∀ (m : Nat) (x23_2 : Int32) (x23_3 : Int32) (w : MW), (∀ i : I, q_Mo_level_23 x23_1 (E1 i) (Q1 i) m x23_2 x23_3 w) → q_Mo_level_23 x23_1 E3 Q3 m x23_2 x23_3 w := by
  intro m
  induction m with
  | zero => exact fun _ _ _ h => False.elim (h i0)
  | succ m ih =>
    intro x23_2 x23_3 w h
    have h := fun i => Eq.mp (q_Mo_level_23.eq_2 ..) (h i)
    refine Eq.mpr (q_Mo_level_23.eq_2 ..) ?_
    exact ⟨(fun h1 => (kE _ (fun i => ((h i).1 h1)))), (fun h2 => ⟨((h i0).2 h2).1, ⟨(fun h3 => (al_q_Mo_level_57 i0  (fun _ _ _ h4 => (ih _ _ _ (fun i => (h4 i)))) kE kQ (fun i => (((h i).2 h2).2.1 h3)))), (fun h5 => ⟨(((h i0).2 h2).2.2 h5).1, (al_q_Mo_level_57 i0  (fun _ _ _ h6 => (ih _ _ _ (fun i => (h6 i)))) kE kQ (fun i => (((h i).2 h2).2.2 h5).2))⟩)⟩⟩)⟩
theorem al_p_Mo_level {I : Type} (i0 : I) {w : MW} {a0 : Int32} {Q1 : I → Int32 → MW → Prop} {Q3 : Int32 → MW → Prop}  (h : ∀ i : I, p_Mo_level w a0 (Q1 i)) (kQ : ∀ x0 x1, (∀ i : I, Q1 i x0 x1) → Q3 x0 x1) : p_Mo_level w a0 Q3 := by
  have h := fun i => Eq.mp (p_Mo_level.eq_1 ..) (h i)
  refine Eq.mpr (p_Mo_level.eq_1 ..) ?_
  exact (al_p_Mo_liquidIn i0 (fun i => (h i)) (fun _ _ h1 => ⟨(fun h2 => (kQ _ _ (fun i => ((h1 i).1 h2)))), (fun h3 => ⟨((h1 i0).2 h3).1, ⟨(fun h4 => (al_q_Mo_level_23 i0  (fun _ h5 => (kQ _ _ (fun i => (h5 i)))) kQ _ _ _ _ (fun i => (((h1 i).2 h3).2.1 h4)))), (fun h6 => (kQ _ _ (fun i => (((h1 i).2 h3).2.2 h6))))⟩⟩)⟩))
theorem al_q_Mo_mayCome_69 {I : Type} (i0 : I) {y69_2 : Int32} {ys69_0 : Int32} {w : MW} {Q1 : I → Int32 → MW → Prop} {Q3 : Int32 → MW → Prop}  (kQ : ∀ x0 x1, (∀ i : I, Q1 i x0 x1) → Q3 x0 x1) (h : ∀ i : I, q_Mo_mayCome_69 y69_2 ys69_0 w (Q1 i)) : q_Mo_mayCome_69 y69_2 ys69_0 w Q3 := by
  have h := fun i => Eq.mp (q_Mo_mayCome_69.eq_1 ..) (h i)
  refine Eq.mpr (q_Mo_mayCome_69.eq_1 ..) ?_
  exact ⟨(fun h1 => (kQ _ _ (fun i => ((h i).1 h1)))), (fun h2 => (al_p_Mo_level i0 (fun i => ((h i).2 h2)) (fun _ _ h3 => ⟨(fun h4 => (kQ _ _ (fun i => ((h3 i).1 h4)))), (fun h5 => (kQ _ _ (fun i => ((h3 i).2 h5))))⟩)))⟩
theorem al_p_Mo_mayCome {I : Type} (i0 : I) {w : MW} {a0 : Int32} {b0 : Int32} {Q1 : I → Int32 → MW → Prop} {Q3 : Int32 → MW → Prop}  (h : ∀ i : I, p_Mo_mayCome w a0 b0 (Q1 i)) (kQ : ∀ x0 x1, (∀ i : I, Q1 i x0 x1) → Q3 x0 x1) : p_Mo_mayCome w a0 b0 Q3 := by
  have h := fun i => Eq.mp (p_Mo_mayCome.eq_1 ..) (h i)
  refine Eq.mpr (p_Mo_mayCome.eq_1 ..) ?_
  exact (al_p_Mo_liquidIn i0 (fun i => (h i)) (fun _ _ h1 => ⟨(fun h2 => ⟨((h1 i0).1 h2).1, ⟨(fun h3 => ⟨(((h1 i0).1 h2).2.1 h3).1, ⟨(fun h4 => (al_q_Mo_mayCome_69 i0  kQ (fun i => ((((h1 i).1 h2).2.1 h3).2.1 h4)))), (fun h5 => ⟨(fun h6 => ⟨(((((h1 i0).1 h2).2.1 h3).2.2 h5).1 h6).1, ⟨(((((h1 i0).1 h2).2.1 h3).2.2 h5).1 h6).2.1, (al_q_Mo_mayCome_69 i0  kQ (fun i => (((((h1 i).1 h2).2.1 h3).2.2 h5).1 h6).2.2))⟩⟩), (fun h7 => (al_q_Mo_mayCome_69 i0  kQ (fun i => (((((h1 i).1 h2).2.1 h3).2.2 h5).2 h7))))⟩)⟩⟩), (fun h8 => (kQ _ _ (fun i => (((h1 i).1 h2).2.2 h8))))⟩⟩), (fun h9 => ⟨(fun h10 => (kQ _ _ (fun i => (((h1 i).2 h9).1 h10)))), (fun h11 => (kQ _ _ (fun i => (((h1 i).2 h9).2 h11))))⟩)⟩))
theorem al_p_Mo_come {I : Type} (i0 : I) {w : MW} {a0 : Int32} {b0 : Int32} {Q1 : I → MW → Prop} {Q3 : MW → Prop}  (h : ∀ i : I, p_Mo_come w a0 b0 (Q1 i)) (kQ : ∀ x0, (∀ i : I, Q1 i x0) → Q3 x0) : p_Mo_come w a0 b0 Q3 := by
  have h := fun i => Eq.mp (p_Mo_come.eq_1 ..) (h i)
  refine Eq.mpr (p_Mo_come.eq_1 ..) ?_
  exact ⟨(h i0).1, ⟨(fun h1 => ⟨((h i0).2.1 h1).1, ⟨((h i0).2.1 h1).2.1, ⟨((h i0).2.1 h1).2.2.1, (kQ _ (fun i => ((h i).2.1 h1).2.2.2))⟩⟩⟩), (fun h2 => ⟨((h i0).2.2 h2).1, ⟨(fun h3 => ⟨(((h i0).2.2 h2).2.1 h3).1, ⟨(((h i0).2.2 h2).2.1 h3).2.1, ⟨(((h i0).2.2 h2).2.1 h3).2.2.1, (kQ _ (fun i => (((h i).2.2 h2).2.1 h3).2.2.2))⟩⟩⟩), (fun h4 => ⟨(((h i0).2.2 h2).2.2 h4).1, ⟨(((h i0).2.2 h2).2.2 h4).2.1, ⟨(((h i0).2.2 h2).2.2 h4).2.2.1, (kQ _ (fun i => (((h i).2.2 h2).2.2 h4).2.2.2))⟩⟩⟩)⟩⟩)⟩⟩
theorem al_q_Mo_forget_2 {I : Type} (i0 : I) {x2_1 : Int32} {E1 : I → MW → Prop} {E3 : MW → Prop} {Q1 : I → MW → Prop} {Q3 : MW → Prop}  (kE : ∀ x0, (∀ i : I, E1 i x0) → E3 x0) (kQ : ∀ x0, (∀ i : I, Q1 i x0) → Q3 x0) : ∀ (m : Nat) (x2_2 : Int32) (w : MW), (∀ i : I, q_Mo_forget_2 x2_1 (E1 i) (Q1 i) m x2_2 w) → q_Mo_forget_2 x2_1 E3 Q3 m x2_2 w := by
  intro m
  induction m with
  | zero => exact fun _ _ h => False.elim (h i0)
  | succ m ih =>
    intro x2_2 w h
    have h := fun i => Eq.mp (q_Mo_forget_2.eq_2 ..) (h i)
    refine Eq.mpr (q_Mo_forget_2.eq_2 ..) ?_
    exact ⟨(fun h1 => (kE _ (fun i => ((h i).1 h1)))), (fun h2 => ⟨((h i0).2 h2).1, (ih _ _ (fun i => ((h i).2 h2).2))⟩)⟩
theorem al_p_Mo_forget {I : Type} (i0 : I) {w : MW} {a0 : Int32} {Q1 : I → MW → Prop} {Q3 : MW → Prop}  (h : ∀ i : I, p_Mo_forget w a0 (Q1 i)) (kQ : ∀ x0, (∀ i : I, Q1 i x0) → Q3 x0) : p_Mo_forget w a0 Q3 := by
  have h := fun i => Eq.mp (p_Mo_forget.eq_1 ..) (h i)
  refine Eq.mpr (p_Mo_forget.eq_1 ..) ?_
  exact (al_q_Mo_forget_2 i0  (fun _ h1 => (kQ _ (fun i => (h1 i)))) kQ _ _ _ (fun i => (h i)))
theorem al_p_Mo_note {I : Type} (i0 : I) {w : MW} {a0 : Int32} {Q1 : I → MW → Prop} {Q3 : MW → Prop}  (h : ∀ i : I, p_Mo_note w a0 (Q1 i)) (kQ : ∀ x0, (∀ i : I, Q1 i x0) → Q3 x0) : p_Mo_note w a0 Q3 := by
  have h := fun i => Eq.mp (p_Mo_note.eq_1 ..) (h i)
  refine Eq.mpr (p_Mo_note.eq_1 ..) ?_
  exact (al_p_Mo_liquidIn i0 (fun i => (h i)) (fun _ _ h1 => ⟨(fun h2 => (kQ _ (fun i => ((h1 i).1 h2)))), (fun h3 => ⟨((h1 i0).2 h3).1, (al_p_Mo_forget i0 (fun i => ((h1 i).2 h3).2) (fun _ h4 => (kQ _ (fun i => (h4 i)))))⟩)⟩))
theorem al_q_Mo_flow_235 {I : Type} (i0 : I) {x130_1 : Int32} {x130_2 : Int32} {x130_3 : Int32} {x130_4 : Int32} {y235_5 : Int32} {y235_7 : Int32} {ys235_0 : Int32} {w : MW} {A1 : I → Int32 → Int32 → MW → Prop} {A3 : Int32 → Int32 → MW → Prop} {E1 : I → Int32 → MW → Prop} {E3 : Int32 → MW → Prop} {Q1 : I → MW → Prop} {Q3 : MW → Prop}  (kA : ∀ x0 x1 x2, (∀ i : I, A1 i x0 x1 x2) → A3 x0 x1 x2) (kE : ∀ x0 x1, (∀ i : I, E1 i x0 x1) → E3 x0 x1) (kQ : ∀ x0, (∀ i : I, Q1 i x0) → Q3 x0) (h : ∀ i : I, q_Mo_flow_235 x130_1 x130_2 x130_3 x130_4 y235_5 y235_7 ys235_0 w (A1 i) (E1 i) (Q1 i)) : q_Mo_flow_235 x130_1 x130_2 x130_3 x130_4 y235_5 y235_7 ys235_0 w A3 E3 Q3 := by
  have h := fun i => Eq.mp (q_Mo_flow_235.eq_1 ..) (h i)
  refine Eq.mpr (q_Mo_flow_235.eq_1 ..) ?_
  exact ⟨(fun h1 => (kA _ _ _ (fun i => ((h i).1 h1)))), (fun h2 => ⟨((h i0).2 h2).1, ⟨((h i0).2 h2).2.1, ⟨(fun h3 => (kA _ _ _ (fun i => (((h i).2 h2).2.2.1 h3)))), (fun h4 => (al_p_Mo_come i0 (fun i => (((h i).2 h2).2.2.2 h4)) (fun _ h5 => (al_p_Mo_note i0 (fun i => (h5 i)) (fun _ h6 => (kA _ _ _ (fun i => (h6 i))))))))⟩⟩⟩)⟩
theorem al_q_Mo_flow_174 {I : Type} (i0 : I) {x130_1 : Int32} {x130_2 : Int32} {x130_3 : Int32} {x130_4 : Int32} {y174_5 : Int32} {ys174_0 : Int32} {w : MW} {A1 : I → Int32 → Int32 → MW → Prop} {A3 : Int32 → Int32 → MW → Prop} {E1 : I → Int32 → MW → Prop} {E3 : Int32 → MW → Prop} {Q1 : I → MW → Prop} {Q3 : MW → Prop}  (kA : ∀ x0 x1 x2, (∀ i : I, A1 i x0 x1 x2) → A3 x0 x1 x2) (kE : ∀ x0 x1, (∀ i : I, E1 i x0 x1) → E3 x0 x1) (kQ : ∀ x0, (∀ i : I, Q1 i x0) → Q3 x0) (h : ∀ i : I, q_Mo_flow_174 x130_1 x130_2 x130_3 x130_4 y174_5 ys174_0 w (A1 i) (E1 i) (Q1 i)) : q_Mo_flow_174 x130_1 x130_2 x130_3 x130_4 y174_5 ys174_0 w A3 E3 Q3 := by
  have h := fun i => Eq.mp (q_Mo_flow_174.eq_1 ..) (h i)
  refine Eq.mpr (q_Mo_flow_174.eq_1 ..) ?_
  exact ⟨(h i0).1, ⟨(fun h1 => (al_q_Mo_flow_235 i0  kA kE kQ (fun i => ((h i).2.1 h1)))), (fun h2 => ⟨((h i0).2.2 h2).1, ⟨((h i0).2.2 h2).2.1, ⟨(fun h3 => (al_q_Mo_flow_235 i0  kA kE kQ (fun i => (((h i).2.2 h2).2.2.1 h3)))), (fun h4 => ⟨(fun h5 => (al_q_Mo_flow_235 i0  kA kE kQ (fun i => ((((h i).2.2 h2).2.2.2 h4).1 h5)))), (fun h6 => ⟨((((h i0).2.2 h2).2.2.2 h4).2 h6).1, ⟨((((h i0).2.2 h2).2.2.2 h4).2 h6).2.1, ⟨(fun h7 => (al_q_Mo_flow_235 i0  kA kE kQ (fun i => (((((h i).2.2 h2).2.2.2 h4).2 h6).2.2.1 h7)))), (fun h8 => (al_p_Mo_mayCome i0 (fun i => (((((h i).2.2 h2).2.2.2 h4).2 h6).2.2.2 h8)) (fun _ _ h9 => ⟨(fun h10 => (al_q_Mo_flow_235 i0  kA kE kQ (fun i => ((h9 i).1 h10)))), (fun h11 => (al_q_Mo_flow_235 i0  kA kE kQ (fun i => ((h9 i).2 h11))))⟩)))⟩⟩⟩)⟩)⟩⟩⟩)⟩⟩
theorem al_q_Mo_flow_130 {I : Type} (i0 : I) {x130_1 : Int32} {x130_2 : Int32} {x130_3 : Int32} {x130_4 : Int32} {E1 : I → Int32 → MW → Prop} {E3 : Int32 → MW → Prop} {Q1 : I → MW → Prop} {Q3 : MW → Prop}  (kE : ∀ x0 x1, (∀ i : I, E1 i x0 x1) → E3 x0 x1) (kQ : ∀ x0, (∀ i : I, Q1 i x0) → Q3 x0) : ∀ (m : Nat) (x130_5 : Int32) (x130_6 : Int32) (w : MW), (∀ i : I, q_Mo_flow_130 x130_1 x130_2 x130_3 x130_4 (E1 i) (Q1 i) m x130_5 x130_6 w) → q_Mo_flow_130 x130_1 x130_2 x130_3 x130_4 E3 Q3 m x130_5 x130_6 w := by
  intro m
  induction m with
  | zero => exact fun _ _ _ h => False.elim (h i0)
  | succ m ih =>
    intro x130_5 x130_6 w h
    have h := fun i => Eq.mp (q_Mo_flow_130.eq_2 ..) (h i)
    refine Eq.mpr (q_Mo_flow_130.eq_2 ..) ?_
    exact ⟨(fun h1 => (kE _ _ (fun i => ((h i).1 h1)))), (fun h2 => ⟨((h i0).2 h2).1, ⟨(fun h3 => (kE _ _ (fun i => (((h i).2 h2).2.1 h3)))), (fun h4 => ⟨(fun h5 => ⟨((((h i0).2 h2).2.2 h4).1 h5).1, (al_q_Mo_flow_174 i0  (fun _ _ _ h6 => (ih _ _ _ (fun i => (h6 i)))) kE kQ (fun i => ((((h i).2 h2).2.2 h4).1 h5).2))⟩), (fun h7 => ⟨((((h i0).2 h2).2.2 h4).2 h7).1, (al_q_Mo_flow_174 i0  (fun _ _ _ h8 => (ih _ _ _ (fun i => (h8 i)))) kE kQ (fun i => ((((h i).2 h2).2.2 h4).2 h7).2))⟩)⟩)⟩⟩)⟩
theorem al_q_Mo_flow_54 {I : Type} (i0 : I) {x54_1 : Int32} {x54_2 : Int32} {x54_3 : Int32} {x54_5 : Int32} {x54_6 : Int32} {x54_7 : Int32} {E1 : I → Int32 → MW → Prop} {E3 : Int32 → MW → Prop} {Q1 : I → MW → Prop} {Q3 : MW → Prop}  (kE : ∀ x0 x1, (∀ i : I, E1 i x0 x1) → E3 x0 x1) (kQ : ∀ x0, (∀ i : I, Q1 i x0) → Q3 x0) : ∀ (m : Nat) (x54_4 : Int32) (x54_8 : Int32) (w : MW), (∀ i : I, q_Mo_flow_54 x54_1 x54_2 x54_3 x54_5 x54_6 x54_7 (E1 i) (Q1 i) m x54_4 x54_8 w) → q_Mo_flow_54 x54_1 x54_2 x54_3 x54_5 x54_6 x54_7 E3 Q3 m x54_4 x54_8 w := by
  intro m
  induction m with
  | zero => exact fun _ _ _ h => False.elim (h i0)
  | succ m ih =>
    intro x54_4 x54_8 w h
    have h := fun i => Eq.mp (q_Mo_flow_54.eq_2 ..) (h i)
    refine Eq.mpr (q_Mo_flow_54.eq_2 ..) ?_
    exact ⟨(h i0).1, ⟨(fun h1 => (kE _ _ (fun i => ((h i).2.1 h1)))), (fun h2 => ⟨(fun h3 => ⟨(((h i0).2.2 h2).1 h3).1, ⟨(((h i0).2.2 h2).1 h3).2.1, ⟨(((h i0).2.2 h2).1 h3).2.2.1, (ih _ _ _ (fun i => (((h i).2.2 h2).1 h3).2.2.2))⟩⟩⟩), (fun h4 => ⟨(((h i0).2.2 h2).2 h4).1, ⟨(((h i0).2.2 h2).2 h4).2.1, (ih _ _ _ (fun i => (((h i).2.2 h2).2 h4).2.2))⟩⟩)⟩)⟩⟩
theorem al_q_Mo_flow_20 {I : Type} (i0 : I) {x20_1 : Int32} {x20_2 : Int32} {x20_3 : Int32} {E1 : I → Int32 → MW → Prop} {E3 : Int32 → MW → Prop} {Q1 : I → MW → Prop} {Q3 : MW → Prop}  (kE : ∀ x0 x1, (∀ i : I, E1 i x0 x1) → E3 x0 x1) (kQ : ∀ x0, (∀ i : I, Q1 i x0) → Q3 x0) : ∀ (m : Nat) (x20_4 : Int32) (x20_5 : Int32) (w : MW), (∀ i : I, q_Mo_flow_20 x20_1 x20_2 x20_3 (E1 i) (Q1 i) m x20_4 x20_5 w) → q_Mo_flow_20 x20_1 x20_2 x20_3 E3 Q3 m x20_4 x20_5 w := by
  intro m
  induction m with
  | zero => exact fun _ _ _ h => False.elim (h i0)
  | succ m ih =>
    intro x20_4 x20_5 w h
    have h := fun i => Eq.mp (q_Mo_flow_20.eq_2 ..) (h i)
    refine Eq.mpr (q_Mo_flow_20.eq_2 ..) ?_
    exact ⟨(h i0).1, ⟨(fun h1 => (kE _ _ (fun i => ((h i).2.1 h1)))), (fun h2 => ⟨((h i0).2.2 h2).1, (al_q_Mo_flow_54 i0  (fun _ _ h3 => (ih _ _ _ (fun i => (h3 i)))) kQ _ _ _ _ (fun i => ((h i).2.2 h2).2))⟩)⟩⟩
theorem al_q_Mo_flow_318 {I : Type} (i0 : I) {x318_1 : Int32} {x318_5 : Int32} {x318_7 : Int32} {x318_8 : Int32} {x318_9 : Int32} {x318_10 : Int32} {E1 : I → Int32 → MW → Prop} {E3 : Int32 → MW → Prop} {Q1 : I → MW → Prop} {Q3 : MW → Prop}  (kE : ∀ x0 x1, (∀ i : I, E1 i x0 x1) → E3 x0 x1) (kQ : ∀ x0, (∀ i : I, Q1 i x0) → Q3 x0) : ∀ (m : Nat) (x318_11 : Int32) (x318_12 : Int32) (w : MW), (∀ i : I, q_Mo_flow_318 x318_1 x318_5 x318_7 x318_8 x318_9 x318_10 (E1 i) (Q1 i) m x318_11 x318_12 w) → q_Mo_flow_318 x318_1 x318_5 x318_7 x318_8 x318_9 x318_10 E3 Q3 m x318_11 x318_12 w := by
  intro m
  induction m with
  | zero => exact fun _ _ _ h => False.elim (h i0)
  | succ m ih =>
    intro x318_11 x318_12 w h
    have h := fun i => Eq.mp (q_Mo_flow_318.eq_2 ..) (h i)
    refine Eq.mpr (q_Mo_flow_318.eq_2 ..) ?_
    exact ⟨(fun h1 => (kE _ _ (fun i => ((h i).1 h1)))), (fun h2 => ⟨(fun h3 => (kE _ _ (fun i => (((h i).2 h2).1 h3)))), (fun h4 => ⟨(fun h5 => (ih _ _ _ (fun i => ((((h i).2 h2).2 h4).1 h5)))), (fun h6 => ⟨((((h i0).2 h2).2 h4).2 h6).1, ⟨(fun h7 => (ih _ _ _ (fun i => (((((h i).2 h2).2 h4).2 h6).2.1 h7)))), (fun h8 => (ih _ _ _ (fun i => (((((h i).2 h2).2 h4).2 h6).2.2 h8))))⟩⟩)⟩)⟩)⟩
theorem al_q_Mo_flow_438 {I : Type} (i0 : I) {x400_1 : Int32} {x400_5 : Int32} {y438_7 : Int32} {x400_8 : Int32} {x400_9 : Int32} {x400_10 : Int32} {y438_12 : Int32} {ys438_0 : Int32} {w : MW} {A1 : I → Int32 → Int32 → MW → Prop} {A3 : Int32 → Int32 → MW → Prop} {E1 : I → Int32 → MW → Prop} {E3 : Int32 → MW → Prop} {Q1 : I → MW → Prop} {Q3 : MW → Prop}  (kA : ∀ x0 x1 x2, (∀ i : I, A1 i x0 x1 x2) → A3 x0 x1 x2) (kE : ∀ x0 x1, (∀ i : I, E1 i x0 x1) → E3 x0 x1) (kQ : ∀ x0, (∀ i : I, Q1 i x0) → Q3 x0) (h : ∀ i : I, q_Mo_flow_438 x400_1 x400_5 y438_7 x400_8 x400_9 x400_10 y438_12 ys438_0 w (A1 i) (E1 i) (Q1 i)) : q_Mo_flow_438 x400_1 x400_5 y438_7 x400_8 x400_9 x400_10 y438_12 ys438_0 w A3 E3 Q3 := by
  have h := fun i => Eq.mp (q_Mo_flow_438.eq_1 ..) (h i)
  refine Eq.mpr (q_Mo_flow_438.eq_1 ..) ?_
  exact ⟨(fun h1 => ⟨((h i0).1 h1).1, ⟨((h i0).1 h1).2.1, (kA _ _ _ (fun i => ((h i).1 h1).2.2))⟩⟩), (fun h2 => ⟨((h i0).2 h2).1, (kA _ _ _ (fun i => ((h i).2 h2).2))⟩)⟩
theorem al_q_Mo_flow_400 {I : Type} (i0 : I) {x400_1 : Int32} {x400_5 : Int32} {x400_8 : Int32} {x400_9 : Int32} {x400_10 : Int32} {E1 : I → Int32 → MW → Prop} {E3 : Int32 → MW → Prop} {Q1 : I → MW → Prop} {Q3 : MW → Prop}  (kE : ∀ x0 x1, (∀ i : I, E1 i x0 x1) → E3 x0 x1) (kQ : ∀ x0, (∀ i : I, Q1 i x0) → Q3 x0) : ∀ (m : Nat) (x400_7 : Int32) (x400_12 : Int32) (w : MW), (∀ i : I, q_Mo_flow_400 x400_1 x400_5 x400_8 x400_9 x400_10 (E1 i) (Q1 i) m x400_7 x400_12 w) → q_Mo_flow_400 x400_1 x400_5 x400_8 x400_9 x400_10 E3 Q3 m x400_7 x400_12 w := by
  intro m
  induction m with
  | zero => exact fun _ _ _ h => False.elim (h i0)
  | succ m ih =>
    intro x400_7 x400_12 w h
    have h := fun i => Eq.mp (q_Mo_flow_400.eq_2 ..) (h i)
    refine Eq.mpr (q_Mo_flow_400.eq_2 ..) ?_
    exact ⟨(h i0).1, ⟨(fun h1 => (kE _ _ (fun i => ((h i).2.1 h1)))), (fun h2 => ⟨(fun h3 => ⟨(((h i0).2.2 h2).1 h3).1, (al_q_Mo_flow_438 i0  (fun _ _ _ h4 => (ih _ _ _ (fun i => (h4 i)))) kE kQ (fun i => (((h i).2.2 h2).1 h3).2))⟩), (fun h5 => ⟨(((h i0).2.2 h2).2 h5).1, (al_q_Mo_flow_438 i0  (fun _ _ _ h6 => (ih _ _ _ (fun i => (h6 i)))) kE kQ (fun i => (((h i).2.2 h2).2 h5).2))⟩)⟩)⟩⟩
theorem al_q_Mo_flow_281 {I : Type} (i0 : I) {x281_1 : Int32} {x281_5 : Int32} {E1 : I → MW → Prop} {E3 : MW → Prop} {Q1 : I → MW → Prop} {Q3 : MW → Prop}  (kE : ∀ x0, (∀ i : I, E1 i x0) → E3 x0) (kQ : ∀ x0, (∀ i : I, Q1 i x0) → Q3 x0) : ∀ (m : Nat) (x281_7 : Int32) (x281_8 : Int32) (w : MW), (∀ i : I, q_Mo_flow_281 x281_1 x281_5 (E1 i) (Q1 i) m x281_7 x281_8 w) → q_Mo_flow_281 x281_1 x281_5 E3 Q3 m x281_7 x281_8 w := by
  intro m
  induction m with
  | zero => exact fun _ _ _ h => False.elim (h i0)
  | succ m ih =>
    intro x281_7 x281_8 w h
    have h := fun i => Eq.mp (q_Mo_flow_281.eq_2 ..) (h i)
    refine Eq.mpr (q_Mo_flow_281.eq_2 ..) ?_
    exact ⟨(h i0).1, ⟨(fun h1 => (kE _ (fun i => ((h i).2.1 h1)))), (fun h2 => ⟨((h i0).2.2 h2).1, (al_q_Mo_flow_318 i0  (fun _ _ h3 => ⟨(fun h4 => (al_q_Mo_flow_400 i0  (fun _ _ h5 => (ih _ _ _ (fun i => (h5 i)))) kQ _ _ _ _ (fun i => ((h3 i).1 h4)))), (fun h6 => ⟨((h3 i0).2 h6).1, ⟨((h3 i0).2 h6).2.1, (al_p_Mo_forget i0 (fun i => ((h3 i).2 h6).2.2) (fun _ h7 => (al_q_Mo_flow_400 i0  (fun _ _ h8 => (ih _ _ _ (fun i => (h8 i)))) kQ _ _ _ _ (fun i => (h7 i)))))⟩⟩)⟩) kQ _ _ _ _ (fun i => ((h i).2.2 h2).2))⟩)⟩⟩
theorem al_p_Mo_flow {I : Type} (i0 : I) {w : MW} {a0 : Int32} {Q1 : I → MW → Prop} {Q3 : MW → Prop}  (h : ∀ i : I, p_Mo_flow w a0 (Q1 i)) (kQ : ∀ x0, (∀ i : I, Q1 i x0) → Q3 x0) : p_Mo_flow w a0 Q3 := by
  have h := fun i => Eq.mp (p_Mo_flow.eq_1 ..) (h i)
  refine Eq.mpr (p_Mo_flow.eq_1 ..) ?_
  exact ⟨(h i0).1, ⟨(h i0).2.1, (al_q_Mo_flow_20 i0  (fun _ _ h1 => (al_q_Mo_flow_130 i0  (fun _ _ h2 => (al_q_Mo_flow_281 i0  (fun _ h3 => (kQ _ (fun i => (h3 i)))) kQ _ _ _ _ (fun i => (h2 i)))) kQ _ _ _ _ (fun i => (h1 i)))) kQ _ _ _ _ (fun i => (h i).2.2))⟩⟩
