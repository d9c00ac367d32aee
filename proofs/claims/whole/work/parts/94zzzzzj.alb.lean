/-! as many contracts as there are hold together -/
theorem al_p_Mo_isPipe {I : Type} (i0 : I) {w : MW} {a0 : Int32} {Q1 : I → Int32 → MW → Prop} {Q3 : Int32 → MW → Prop}  (h : ∀ i : I, p_Mo_isPipe w a0 (Q1 i)) (kQ : ∀ x0 x1, (∀ i : I, Q1 i x0 x1) → Q3 x0 x1) : p_Mo_isPipe w a0 Q3 := by
  have h := fun i => Eq.mp (p_Mo_isPipe.eq_1 ..) (h i)
  refine Eq.mpr (p_Mo_isPipe.eq_1 ..) ?_
  exact ⟨(fun h1 => (kQ _ _ (fun i => ((h i).1 h1)))), (fun h2 => ⟨(fun h3 => (kQ _ _ (fun i => (((h i).2 h2).1 h3)))), (fun h4 => (kQ _ _ (fun i => (((h i).2 h2).2 h4))))⟩)⟩
theorem al_p_Mo_isThing {I : Type} (i0 : I) {w : MW} {a0 : Int32} {Q1 : I → Int32 → MW → Prop} {Q3 : Int32 → MW → Prop}  (h : ∀ i : I, p_Mo_isThing w a0 (Q1 i)) (kQ : ∀ x0 x1, (∀ i : I, Q1 i x0 x1) → Q3 x0 x1) : p_Mo_isThing w a0 Q3 := by
  have h := fun i => Eq.mp (p_Mo_isThing.eq_1 ..) (h i)
  refine Eq.mpr (p_Mo_isThing.eq_1 ..) ?_
  exact ⟨(fun h1 => (kQ _ _ (fun i => ((h i).1 h1)))), (fun h2 => ⟨(fun h3 => (kQ _ _ (fun i => (((h i).2 h2).1 h3)))), (fun h4 => (kQ _ _ (fun i => (((h i).2 h2).2 h4))))⟩)⟩
theorem al_p_Mo_isTank {I : Type} (i0 : I) {w : MW} {a0 : Int32} {Q1 : I → Int32 → MW → Prop} {Q3 : Int32 → MW → Prop}  (h : ∀ i : I, p_Mo_isTank w a0 (Q1 i)) (kQ : ∀ x0 x1, (∀ i : I, Q1 i x0 x1) → Q3 x0 x1) : p_Mo_isTank w a0 Q3 := by
  have h := fun i => Eq.mp (p_Mo_isTank.eq_1 ..) (h i)
  refine Eq.mpr (p_Mo_isTank.eq_1 ..) ?_
  exact (al_p_Mo_isThing i0 (fun i => (h i)) (fun _ _ h1 => ⟨(fun h2 => (kQ _ _ (fun i => ((h1 i).1 h2)))), (fun h3 => ⟨((h1 i0).2 h3).1, ⟨(fun h4 => (kQ _ _ (fun i => (((h1 i).2 h3).2.1 h4)))), (fun h5 => (kQ _ _ (fun i => (((h1 i).2 h3).2.2 h5))))⟩⟩)⟩))
theorem al_p_Mo_holdsLiquid {I : Type} (i0 : I) {w : MW} {a0 : Int32} {Q1 : I → Int32 → MW → Prop} {Q3 : Int32 → MW → Prop}  (h : ∀ i : I, p_Mo_holdsLiquid w a0 (Q1 i)) (kQ : ∀ x0 x1, (∀ i : I, Q1 i x0 x1) → Q3 x0 x1) : p_Mo_holdsLiquid w a0 Q3 := by
  have h := fun i => Eq.mp (p_Mo_holdsLiquid.eq_1 ..) (h i)
  refine Eq.mpr (p_Mo_holdsLiquid.eq_1 ..) ?_
  exact (al_p_Mo_isTank i0 (fun i => (h i)) (fun _ _ h1 => ⟨(fun h2 => (kQ _ _ (fun i => ((h1 i).1 h2)))), (fun h3 => (al_p_Mo_isPipe i0 (fun i => ((h1 i).2 h3)) (fun _ _ h4 => ⟨(fun h5 => (kQ _ _ (fun i => ((h4 i).1 h5)))), (fun h6 => (kQ _ _ (fun i => ((h4 i).2 h6))))⟩)))⟩))
theorem al_p_Mo_isValve {I : Type} (i0 : I) {w : MW} {a0 : Int32} {Q1 : I → Int32 → MW → Prop} {Q3 : Int32 → MW → Prop}  (h : ∀ i : I, p_Mo_isValve w a0 (Q1 i)) (kQ : ∀ x0 x1, (∀ i : I, Q1 i x0 x1) → Q3 x0 x1) : p_Mo_isValve w a0 Q3 := by
  have h := fun i => Eq.mp (p_Mo_isValve.eq_1 ..) (h i)
  refine Eq.mpr (p_Mo_isValve.eq_1 ..) ?_
  exact (al_p_Mo_isThing i0 (fun i => (h i)) (fun _ _ h1 => ⟨(fun h2 => (kQ _ _ (fun i => ((h1 i).1 h2)))), (fun h3 => ⟨((h1 i0).2 h3).1, ⟨(fun h4 => (kQ _ _ (fun i => (((h1 i).2 h3).2.1 h4)))), (fun h5 => (kQ _ _ (fun i => (((h1 i).2 h3).2.2 h5))))⟩⟩)⟩))
theorem al_q_Mo_held_2 {I : Type} (i0 : I) {x2_1 : Int32} {E1 : I → MW → Prop} {E3 : MW → Prop} {Q1 : I → Int32 → MW → Prop} {Q3 : Int32 → MW → Prop}  (kE : ∀ x0, (∀ i : I, E1 i x0) → E3 x0) (kQ : ∀ x0 x1, (∀ i : I, Q1 i x0 x1) → Q3 x0 x1) : ∀ (m : Nat) (x2_2 : Int32) (w : MW), (∀ i : I, q_Mo_held_2 x2_1 (E1 i) (Q1 i) m x2_2 w) → q_Mo_held_2 x2_1 E3 Q3 m x2_2 w := by
  intro m
  induction m with
  | zero => exact fun _ _ h => False.elim (h i0)
  | succ m ih =>
    intro x2_2 w h
    have h := fun i => Eq.mp (q_Mo_held_2.eq_2 ..) (h i)
    refine Eq.mpr (q_Mo_held_2.eq_2 ..) ?_
    exact ⟨(fun h1 => (kE _ (fun i => ((h i).1 h1)))), (fun h2 => ⟨((h i0).2 h2).1, ⟨(fun h3 => (ih _ _ (fun i => (((h i).2 h2).2.1 h3)))), (fun h4 => ⟨(((h i0).2 h2).2.2 h4).1, (kQ _ _ (fun i => (((h i).2 h2).2.2 h4).2))⟩)⟩⟩)⟩
theorem al_p_Mo_held {I : Type} (i0 : I) {w : MW} {a0 : Int32} {Q1 : I → Int32 → MW → Prop} {Q3 : Int32 → MW → Prop}  (h : ∀ i : I, p_Mo_held w a0 (Q1 i)) (kQ : ∀ x0 x1, (∀ i : I, Q1 i x0 x1) → Q3 x0 x1) : p_Mo_held w a0 Q3 := by
  have h := fun i => Eq.mp (p_Mo_held.eq_1 ..) (h i)
  refine Eq.mpr (p_Mo_held.eq_1 ..) ?_
  exact (al_q_Mo_held_2 i0  (fun _ h1 => (kQ _ _ (fun i => (h1 i)))) kQ _ _ _ (fun i => (h i)))
theorem al_q_Mo_close_40 {I : Type} (i0 : I) {x2_1 : Int32} {y40_2 : Int32} {ys40_0 : Int32} {w : MW} {A1 : I → Int32 → MW → Prop} {A3 : Int32 → MW → Prop} {E1 : I → MW → Prop} {E3 : MW → Prop} {Q1 : I → MW → Prop} {Q3 : MW → Prop}  (kA : ∀ x0 x1, (∀ i : I, A1 i x0 x1) → A3 x0 x1) (kE : ∀ x0, (∀ i : I, E1 i x0) → E3 x0) (kQ : ∀ x0, (∀ i : I, Q1 i x0) → Q3 x0) (h : ∀ i : I, q_Mo_close_40 x2_1 y40_2 ys40_0 w (A1 i) (E1 i) (Q1 i)) : q_Mo_close_40 x2_1 y40_2 ys40_0 w A3 E3 Q3 := by
  have h := fun i => Eq.mp (q_Mo_close_40.eq_1 ..) (h i)
  refine Eq.mpr (q_Mo_close_40.eq_1 ..) ?_
  exact ⟨(h i0).1, ⟨(fun h1 => (kA _ _ (fun i => ((h i).2.1 h1)))), (fun h2 => (al_p_Mo_held i0 (fun i => ((h i).2.2 h2)) (fun _ _ h3 => ⟨(fun h4 => (kA _ _ (fun i => ((h3 i).1 h4)))), (fun h5 => ⟨((h3 i0).2 h5).1, ⟨(fun h6 => ⟨(((h3 i0).2 h5).2.1 h6).1, (kA _ _ (fun i => (((h3 i).2 h5).2.1 h6).2))⟩), (fun h7 => ⟨(((h3 i0).2 h5).2.2 h7).1, (kA _ _ (fun i => (((h3 i).2 h5).2.2 h7).2))⟩)⟩⟩)⟩)))⟩⟩
theorem al_q_Mo_close_2 {I : Type} (i0 : I) {x2_1 : Int32} {E1 : I → MW → Prop} {E3 : MW → Prop} {Q1 : I → MW → Prop} {Q3 : MW → Prop}  (kE : ∀ x0, (∀ i : I, E1 i x0) → E3 x0) (kQ : ∀ x0, (∀ i : I, Q1 i x0) → Q3 x0) : ∀ (m : Nat) (x2_2 : Int32) (w : MW), (∀ i : I, q_Mo_close_2 x2_1 (E1 i) (Q1 i) m x2_2 w) → q_Mo_close_2 x2_1 E3 Q3 m x2_2 w := by
  intro m
  induction m with
  | zero => exact fun _ _ h => False.elim (h i0)
  | succ m ih =>
    intro x2_2 w h
    have h := fun i => Eq.mp (q_Mo_close_2.eq_2 ..) (h i)
    refine Eq.mpr (q_Mo_close_2.eq_2 ..) ?_
    exact ⟨(fun h1 => (kE _ (fun i => ((h i).1 h1)))), (fun h2 => ⟨((h i0).2 h2).1, ⟨(fun h3 => (al_q_Mo_close_40 i0  (fun _ _ h4 => (ih _ _ (fun i => (h4 i)))) kE kQ (fun i => (((h i).2 h2).2.1 h3)))), (fun h5 => ⟨(((h i0).2 h2).2.2 h5).1, ⟨(fun h6 => (al_q_Mo_close_40 i0  (fun _ _ h7 => (ih _ _ (fun i => (h7 i)))) kE kQ (fun i => ((((h i).2 h2).2.2 h5).2.1 h6)))), (fun h8 => (al_q_Mo_close_40 i0  (fun _ _ h9 => (ih _ _ (fun i => (h9 i)))) kE kQ (fun i => ((((h i).2 h2).2.2 h5).2.2 h8))))⟩⟩)⟩⟩)⟩
theorem al_q_Mo_close_177 {I : Type} (i0 : I) {x177_2 : Int32} {E1 : I → MW → Prop} {E3 : MW → Prop} {Q1 : I → MW → Prop} {Q3 : MW → Prop}  (kE : ∀ x0, (∀ i : I, E1 i x0) → E3 x0) (kQ : ∀ x0, (∀ i : I, Q1 i x0) → Q3 x0) : ∀ (m : Nat) (x177_3 : Int32) (w : MW), (∀ i : I, q_Mo_close_177 x177_2 (E1 i) (Q1 i) m x177_3 w) → q_Mo_close_177 x177_2 E3 Q3 m x177_3 w := by
  intro m
  induction m with
  | zero => exact fun _ _ h => False.elim (h i0)
  | succ m ih =>
    intro x177_3 w h
    have h := fun i => Eq.mp (q_Mo_close_177.eq_2 ..) (h i)
    refine Eq.mpr (q_Mo_close_177.eq_2 ..) ?_
    exact ⟨(fun h1 => (kE _ (fun i => ((h i).1 h1)))), (fun h2 => ⟨((h i0).2 h2).1, ⟨((h i0).2 h2).2.1, (ih _ _ (fun i => ((h i).2 h2).2.2))⟩⟩)⟩
theorem al_q_Mo_close_215 {I : Type} (i0 : I) {x215_2 : Int32} {E1 : I → MW → Prop} {E3 : MW → Prop} {Q1 : I → MW → Prop} {Q3 : MW → Prop}  (kE : ∀ x0, (∀ i : I, E1 i x0) → E3 x0) (kQ : ∀ x0, (∀ i : I, Q1 i x0) → Q3 x0) : ∀ (m : Nat) (x215_3 : Int32) (w : MW), (∀ i : I, q_Mo_close_215 x215_2 (E1 i) (Q1 i) m x215_3 w) → q_Mo_close_215 x215_2 E3 Q3 m x215_3 w := by
  intro m
  induction m with
  | zero => exact fun _ _ h => False.elim (h i0)
  | succ m ih =>
    intro x215_3 w h
    have h := fun i => Eq.mp (q_Mo_close_215.eq_2 ..) (h i)
    refine Eq.mpr (q_Mo_close_215.eq_2 ..) ?_
    exact ⟨(fun h1 => (kE _ (fun i => ((h i).1 h1)))), (fun h2 => ⟨((h i0).2 h2).1, ⟨((h i0).2 h2).2.1, (ih _ _ (fun i => ((h i).2 h2).2.2))⟩⟩)⟩
theorem al_q_Mo_close_95 {I : Type} (i0 : I)  {E1 : I → MW → Prop} {E3 : MW → Prop} {Q1 : I → MW → Prop} {Q3 : MW → Prop}  (kE : ∀ x0, (∀ i : I, E1 i x0) → E3 x0) (kQ : ∀ x0, (∀ i : I, Q1 i x0) → Q3 x0) : ∀ (m : Nat) (x95_2 : Int32) (w : MW), (∀ i : I, q_Mo_close_95 (E1 i) (Q1 i) m x95_2 w) → q_Mo_close_95 E3 Q3 m x95_2 w := by
  intro m
  induction m with
  | zero => exact fun _ _ h => False.elim (h i0)
  | succ m ih =>
    intro x95_2 w h
    have h := fun i => Eq.mp (q_Mo_close_95.eq_2 ..) (h i)
    refine Eq.mpr (q_Mo_close_95.eq_2 ..) ?_
    exact ⟨(fun h1 => (kE _ (fun i => ((h i).1 h1)))), (fun h2 => ⟨((h i0).2 h2).1, ⟨((h i0).2 h2).2.1, ⟨((h i0).2 h2).2.2.1, ⟨((h i0).2 h2).2.2.2.1, ⟨((h i0).2 h2).2.2.2.2.1, ⟨((h i0).2 h2).2.2.2.2.2.1, ⟨((h i0).2 h2).2.2.2.2.2.2.1, ⟨((h i0).2 h2).2.2.2.2.2.2.2.1, ⟨((h i0).2 h2).2.2.2.2.2.2.2.2.1, ⟨((h i0).2 h2).2.2.2.2.2.2.2.2.2.1, (al_q_Mo_close_177 i0  (fun _ h3 => (al_q_Mo_close_215 i0  (fun _ h4 => (ih _ _ (fun i => (h4 i)))) kQ _ _ _ (fun i => (h3 i)))) kQ _ _ _ (fun i => ((h i).2 h2).2.2.2.2.2.2.2.2.2.2))⟩⟩⟩⟩⟩⟩⟩⟩⟩⟩)⟩
theorem al_p_Mo_close {I : Type} (i0 : I) {w : MW} {a0 : Int32} {Q1 : I → MW → Prop} {Q3 : MW → Prop}  (h : ∀ i : I, p_Mo_close w a0 (Q1 i)) (kQ : ∀ x0, (∀ i : I, Q1 i x0) → Q3 x0) : p_Mo_close w a0 Q3 := by
  have h := fun i => Eq.mp (p_Mo_close.eq_1 ..) (h i)
  refine Eq.mpr (p_Mo_close.eq_1 ..) ?_
  exact (al_q_Mo_close_2 i0  (fun _ h1 => (al_q_Mo_close_95 i0  (fun _ h2 => (kQ _ (fun i => (h2 i)))) kQ _ _ _ (fun i => (h1 i)))) kQ _ _ _ (fun i => (h i)))
theorem al_q_Mo_isOnWay_34 {I : Type} (i0 : I) {x34_1 : Int32} {x34_2 : Int32} {E1 : I → MW → Prop} {E3 : MW → Prop} {Q1 : I → Int32 → MW → Prop} {Q3 : Int32 → MW → Prop}  (kE : ∀ x0, (∀ i : I, E1 i x0) → E3 x0) (kQ : ∀ x0 x1, (∀ i : I, Q1 i x0 x1) → Q3 x0 x1) : ∀ (m : Nat) (x34_3 : Int32) (w : MW), (∀ i : I, q_Mo_isOnWay_34 x34_1 x34_2 (E1 i) (Q1 i) m x34_3 w) → q_Mo_isOnWay_34 x34_1 x34_2 E3 Q3 m x34_3 w := by
  intro m
  induction m with
  | zero => exact fun _ _ h => False.elim (h i0)
  | succ m ih =>
    intro x34_3 w h
    have h := fun i => Eq.mp (q_Mo_isOnWay_34.eq_2 ..) (h i)
    refine Eq.mpr (q_Mo_isOnWay_34.eq_2 ..) ?_
    exact ⟨(h i0).1, ⟨(fun h1 => (kE _ (fun i => ((h i).2.1 h1)))), (fun h2 => ⟨((h i0).2.2 h2).1, ⟨(fun h3 => (ih _ _ (fun i => (((h i).2.2 h2).2.1 h3)))), (fun h4 => (kQ _ _ (fun i => (((h i).2.2 h2).2.2 h4))))⟩⟩)⟩⟩
theorem al_q_Mo_isOnWay_2 {I : Type} (i0 : I) {x2_1 : Int32} {E1 : I → MW → Prop} {E3 : MW → Prop} {Q1 : I → Int32 → MW → Prop} {Q3 : Int32 → MW → Prop}  (kE : ∀ x0, (∀ i : I, E1 i x0) → E3 x0) (kQ : ∀ x0 x1, (∀ i : I, Q1 i x0 x1) → Q3 x0 x1) : ∀ (m : Nat) (x2_2 : Int32) (w : MW), (∀ i : I, q_Mo_isOnWay_2 x2_1 (E1 i) (Q1 i) m x2_2 w) → q_Mo_isOnWay_2 x2_1 E3 Q3 m x2_2 w := by
  intro m
  induction m with
  | zero => exact fun _ _ h => False.elim (h i0)
  | succ m ih =>
    intro x2_2 w h
    have h := fun i => Eq.mp (q_Mo_isOnWay_2.eq_2 ..) (h i)
    refine Eq.mpr (q_Mo_isOnWay_2.eq_2 ..) ?_
    exact ⟨(fun h1 => (kE _ (fun i => ((h i).1 h1)))), (fun h2 => ⟨((h i0).2 h2).1, ⟨(fun h3 => (kQ _ _ (fun i => (((h i).2 h2).2.1 h3)))), (fun h4 => ⟨(((h i0).2 h2).2.2 h4).1, ⟨(fun h5 => (al_q_Mo_isOnWay_34 i0  (fun _ h6 => (ih _ _ (fun i => (h6 i)))) kQ _ _ _ (fun i => ((((h i).2 h2).2.2 h4).2.1 h5)))), (fun h7 => (kQ _ _ (fun i => ((((h i).2 h2).2.2 h4).2.2 h7))))⟩⟩)⟩⟩)⟩
theorem al_p_Mo_isOnWay {I : Type} (i0 : I) {w : MW} {a0 : Int32} {Q1 : I → Int32 → MW → Prop} {Q3 : Int32 → MW → Prop}  (h : ∀ i : I, p_Mo_isOnWay w a0 (Q1 i)) (kQ : ∀ x0 x1, (∀ i : I, Q1 i x0 x1) → Q3 x0 x1) : p_Mo_isOnWay w a0 Q3 := by
  have h := fun i => Eq.mp (p_Mo_isOnWay.eq_1 ..) (h i)
  refine Eq.mpr (p_Mo_isOnWay.eq_1 ..) ?_
  exact (al_q_Mo_isOnWay_2 i0  (fun _ h1 => (kQ _ _ (fun i => (h1 i)))) kQ _ _ _ (fun i => (h i)))
theorem al_q_Mo_join_2 {I : Type} (i0 : I)  {E1 : I → MW → Prop} {E3 : MW → Prop} {Q1 : I → MW → Prop} {Q3 : MW → Prop}  (kE : ∀ x0, (∀ i : I, E1 i x0) → E3 x0) (kQ : ∀ x0, (∀ i : I, Q1 i x0) → Q3 x0) : ∀ (m : Nat) (x2_1 : Int32) (w : MW), (∀ i : I, q_Mo_join_2 (E1 i) (Q1 i) m x2_1 w) → q_Mo_join_2 E3 Q3 m x2_1 w := by
  intro m
  induction m with
  | zero => exact fun _ _ h => False.elim (h i0)
  | succ m ih =>
    intro x2_1 w h
    have h := fun i => Eq.mp (q_Mo_join_2.eq_2 ..) (h i)
    refine Eq.mpr (q_Mo_join_2.eq_2 ..) ?_
    exact ⟨(fun h1 => (kE _ (fun i => ((h i).1 h1)))), (fun h2 => ⟨((h i0).2 h2).1, (ih _ _ (fun i => ((h i).2 h2).2))⟩)⟩
theorem al_q_Mo_passes_122 {I : Type} (i0 : I) {y122_1 : Int32} {y122_4 : Int32} {y122_5 : Int32} {w : MW} {Q1 : I → Int32 → MW → Prop} {Q3 : Int32 → MW → Prop}  (kQ : ∀ x0 x1, (∀ i : I, Q1 i x0 x1) → Q3 x0 x1) (h : ∀ i : I, q_Mo_passes_122 y122_1 y122_4 y122_5 w (Q1 i)) : q_Mo_passes_122 y122_1 y122_4 y122_5 w Q3 := by
  have h := fun i => Eq.mp (q_Mo_passes_122.eq_1 ..) (h i)
  refine Eq.mpr (q_Mo_passes_122.eq_1 ..) ?_
  exact ⟨(fun h1 => ⟨(fun h2 => (kQ _ _ (fun i => (((h i).1 h1).1 h2)))), (fun h3 => ⟨(fun h4 => (kQ _ _ (fun i => ((((h i).1 h1).2 h3).1 h4)))), (fun h5 => (kQ _ _ (fun i => ((((h i).1 h1).2 h3).2 h5))))⟩)⟩), (fun h6 => ⟨(fun h7 => (kQ _ _ (fun i => (((h i).2 h6).1 h7)))), (fun h8 => ⟨(fun h9 => (kQ _ _ (fun i => ((((h i).2 h6).2 h8).1 h9)))), (fun h10 => ⟨(fun h11 => (kQ _ _ (fun i => (((((h i).2 h6).2 h8).2 h10).1 h11)))), (fun h12 => (kQ _ _ (fun i => (((((h i).2 h6).2 h8).2 h10).2 h12))))⟩)⟩)⟩)⟩
theorem al_q_Mo_passes_166 {I : Type} (i0 : I) {y166_1 : Int32} {y166_4 : Int32} {y166_5 : Int32} {w : MW} {Q1 : I → Int32 → MW → Prop} {Q3 : Int32 → MW → Prop}  (kQ : ∀ x0 x1, (∀ i : I, Q1 i x0 x1) → Q3 x0 x1) (h : ∀ i : I, q_Mo_passes_166 y166_1 y166_4 y166_5 w (Q1 i)) : q_Mo_passes_166 y166_1 y166_4 y166_5 w Q3 := by
  have h := fun i => Eq.mp (q_Mo_passes_166.eq_1 ..) (h i)
  refine Eq.mpr (q_Mo_passes_166.eq_1 ..) ?_
  exact ⟨(fun h1 => ⟨(fun h2 => (kQ _ _ (fun i => (((h i).1 h1).1 h2)))), (fun h3 => ⟨(fun h4 => (kQ _ _ (fun i => ((((h i).1 h1).2 h3).1 h4)))), (fun h5 => (kQ _ _ (fun i => ((((h i).1 h1).2 h3).2 h5))))⟩)⟩), (fun h6 => ⟨(fun h7 => ⟨(fun h8 => (kQ _ _ (fun i => ((((h i).2 h6).1 h7).1 h8)))), (fun h9 => ⟨(fun h10 => (kQ _ _ (fun i => (((((h i).2 h6).1 h7).2 h9).1 h10)))), (fun h11 => (kQ _ _ (fun i => (((((h i).2 h6).1 h7).2 h9).2 h11))))⟩)⟩), (fun h12 => ⟨(fun h13 => (kQ _ _ (fun i => ((((h i).2 h6).2 h12).1 h13)))), (fun h14 => ⟨(fun h15 => (kQ _ _ (fun i => (((((h i).2 h6).2 h12).2 h14).1 h15)))), (fun h16 => ⟨(fun h17 => (kQ _ _ (fun i => ((((((h i).2 h6).2 h12).2 h14).2 h16).1 h17)))), (fun h18 => (kQ _ _ (fun i => ((((((h i).2 h6).2 h12).2 h14).2 h16).2 h18))))⟩)⟩)⟩)⟩)⟩
theorem al_q_Mo_passes_45 {I : Type} (i0 : I) {y45_0 : Int32} {y45_1 : Int32} {y45_2 : Int32} {y45_4 : Int32} {y45_5 : Int32} {ys45_0 : Int32} {w : MW} {Q1 : I → Int32 → MW → Prop} {Q3 : Int32 → MW → Prop}  (kQ : ∀ x0 x1, (∀ i : I, Q1 i x0 x1) → Q3 x0 x1) (h : ∀ i : I, q_Mo_passes_45 y45_0 y45_1 y45_2 y45_4 y45_5 ys45_0 w (Q1 i)) : q_Mo_passes_45 y45_0 y45_1 y45_2 y45_4 y45_5 ys45_0 w Q3 := by
  have h := fun i => Eq.mp (q_Mo_passes_45.eq_1 ..) (h i)
  refine Eq.mpr (q_Mo_passes_45.eq_1 ..) ?_
  exact ⟨(fun h1 => ⟨(fun h2 => (kQ _ _ (fun i => (((h i).1 h1).1 h2)))), (fun h3 => (kQ _ _ (fun i => (((h i).1 h1).2 h3))))⟩), (fun h4 => ⟨(fun h5 => ⟨(fun h6 => ⟨(fun h7 => (kQ _ _ (fun i => (((((h i).2 h4).1 h5).1 h6).1 h7)))), (fun h8 => ⟨(fun h9 => (kQ _ _ (fun i => ((((((h i).2 h4).1 h5).1 h6).2 h8).1 h9)))), (fun h10 => (kQ _ _ (fun i => ((((((h i).2 h4).1 h5).1 h6).2 h8).2 h10))))⟩)⟩), (fun h11 => ⟨(fun h12 => (al_q_Mo_passes_122 i0  kQ (fun i => (((((h i).2 h4).1 h5).2 h11).1 h12)))), (fun h13 => ⟨(fun h14 => (kQ _ _ (fun i => ((((((h i).2 h4).1 h5).2 h11).2 h13).1 h14)))), (fun h15 => (al_q_Mo_passes_122 i0  kQ (fun i => ((((((h i).2 h4).1 h5).2 h11).2 h13).2 h15))))⟩)⟩)⟩), (fun h16 => ⟨(fun h17 => ⟨(fun h18 => (kQ _ _ (fun i => (((((h i).2 h4).2 h16).1 h17).1 h18)))), (fun h19 => ⟨(fun h20 => (al_q_Mo_passes_166 i0  kQ (fun i => ((((((h i).2 h4).2 h16).1 h17).2 h19).1 h20)))), (fun h21 => ⟨(fun h22 => (kQ _ _ (fun i => (((((((h i).2 h4).2 h16).1 h17).2 h19).2 h21).1 h22)))), (fun h23 => (al_q_Mo_passes_166 i0  kQ (fun i => (((((((h i).2 h4).2 h16).1 h17).2 h19).2 h21).2 h23))))⟩)⟩)⟩), (fun h24 => ⟨(fun h25 => ⟨(fun h26 => (kQ _ _ (fun i => ((((((h i).2 h4).2 h16).2 h24).1 h25).1 h26)))), (fun h27 => (kQ _ _ (fun i => ((((((h i).2 h4).2 h16).2 h24).1 h25).2 h27))))⟩), (fun h28 => ⟨(fun h29 => ⟨(fun h30 => ⟨(fun h31 => (kQ _ _ (fun i => ((((((((h i).2 h4).2 h16).2 h24).2 h28).1 h29).1 h30).1 h31)))), (fun h32 => (kQ _ _ (fun i => ((((((((h i).2 h4).2 h16).2 h24).2 h28).1 h29).1 h30).2 h32))))⟩), (fun h33 => ⟨(fun h34 => (kQ _ _ (fun i => ((((((((h i).2 h4).2 h16).2 h24).2 h28).1 h29).2 h33).1 h34)))), (fun h35 => ⟨(fun h36 => (kQ _ _ (fun i => (((((((((h i).2 h4).2 h16).2 h24).2 h28).1 h29).2 h33).2 h35).1 h36)))), (fun h37 => (kQ _ _ (fun i => (((((((((h i).2 h4).2 h16).2 h24).2 h28).1 h29).2 h33).2 h35).2 h37))))⟩)⟩)⟩), (fun h38 => ⟨(fun h39 => (kQ _ _ (fun i => (((((((h i).2 h4).2 h16).2 h24).2 h28).2 h38).1 h39)))), (fun h40 => ⟨(fun h41 => ⟨(fun h42 => (kQ _ _ (fun i => (((((((((h i).2 h4).2 h16).2 h24).2 h28).2 h38).2 h40).1 h41).1 h42)))), (fun h43 => (kQ _ _ (fun i => (((((((((h i).2 h4).2 h16).2 h24).2 h28).2 h38).2 h40).1 h41).2 h43))))⟩), (fun h44 => ⟨(fun h45 => ⟨(fun h46 => (kQ _ _ (fun i => ((((((((((h i).2 h4).2 h16).2 h24).2 h28).2 h38).2 h40).2 h44).1 h45).1 h46)))), (fun h47 => ⟨(fun h48 => (kQ _ _ (fun i => (((((((((((h i).2 h4).2 h16).2 h24).2 h28).2 h38).2 h40).2 h44).1 h45).2 h47).1 h48)))), (fun h49 => (kQ _ _ (fun i => (((((((((((h i).2 h4).2 h16).2 h24).2 h28).2 h38).2 h40).2 h44).1 h45).2 h47).2 h49))))⟩)⟩), (fun h50 => (kQ _ _ (fun i => (((((((((h i).2 h4).2 h16).2 h24).2 h28).2 h38).2 h40).2 h44).2 h50))))⟩)⟩)⟩)⟩)⟩)⟩)⟩)⟩
theorem al_q_Mo_passes_22 {I : Type} (i0 : I) {y22_0 : Int32} {y22_1 : Int32} {y22_2 : Int32} {y22_4 : Int32} {ys22_0 : Int32} {w : MW} {Q1 : I → Int32 → MW → Prop} {Q3 : Int32 → MW → Prop}  (kQ : ∀ x0 x1, (∀ i : I, Q1 i x0 x1) → Q3 x0 x1) (h : ∀ i : I, q_Mo_passes_22 y22_0 y22_1 y22_2 y22_4 ys22_0 w (Q1 i)) : q_Mo_passes_22 y22_0 y22_1 y22_2 y22_4 ys22_0 w Q3 := by
  have h := fun i => Eq.mp (q_Mo_passes_22.eq_1 ..) (h i)
  refine Eq.mpr (q_Mo_passes_22.eq_1 ..) ?_
  exact ⟨(fun h1 => (al_q_Mo_passes_45 i0  kQ (fun i => ((h i).1 h1)))), (fun h2 => ⟨(fun h3 => (al_q_Mo_passes_45 i0  kQ (fun i => (((h i).2 h2).1 h3)))), (fun h4 => (al_q_Mo_passes_45 i0  kQ (fun i => (((h i).2 h2).2 h4))))⟩)⟩
theorem al_p_Mo_passes {I : Type} (i0 : I) {w : MW} {a0 : Int32} {b0 : Int32} {c0 : Int32} {e0 : Int32} {Q1 : I → Int32 → MW → Prop} {Q3 : Int32 → MW → Prop}  (h : ∀ i : I, p_Mo_passes w a0 b0 c0 e0 (Q1 i)) (kQ : ∀ x0 x1, (∀ i : I, Q1 i x0 x1) → Q3 x0 x1) : p_Mo_passes w a0 b0 c0 e0 Q3 := by
  have h := fun i => Eq.mp (p_Mo_passes.eq_1 ..) (h i)
  refine Eq.mpr (p_Mo_passes.eq_1 ..) ?_
  exact ⟨(fun h1 => (al_q_Mo_passes_22 i0  kQ (fun i => ((h i).1 h1)))), (fun h2 => (al_q_Mo_passes_22 i0  kQ (fun i => ((h i).2 h2))))⟩
theorem al_q_Mo_join_197 {I : Type} (i0 : I) {x96_1 : Int32} {x96_2 : Int32} {x96_3 : Int32} {y197_4 : Int32} {ys197_0 : Int32} {w : MW} {A1 : I → Int32 → MW → Prop} {A3 : Int32 → MW → Prop} {E1 : I → MW → Prop} {E3 : MW → Prop} {Q1 : I → MW → Prop} {Q3 : MW → Prop}  (kA : ∀ x0 x1, (∀ i : I, A1 i x0 x1) → A3 x0 x1) (kE : ∀ x0, (∀ i : I, E1 i x0) → E3 x0) (kQ : ∀ x0, (∀ i : I, Q1 i x0) → Q3 x0) (h : ∀ i : I, q_Mo_join_197 x96_1 x96_2 x96_3 y197_4 ys197_0 w (A1 i) (E1 i) (Q1 i)) : q_Mo_join_197 x96_1 x96_2 x96_3 y197_4 ys197_0 w A3 E3 Q3 := by
  have h := fun i => Eq.mp (q_Mo_join_197.eq_1 ..) (h i)
  refine Eq.mpr (q_Mo_join_197.eq_1 ..) ?_
  exact ⟨(fun h1 => (kA _ _ (fun i => ((h i).1 h1)))), (fun h2 => ⟨((h i0).2 h2).1, ⟨((h i0).2 h2).2.1, (kA _ _ (fun i => ((h i).2 h2).2.2))⟩⟩)⟩
theorem al_q_Mo_join_96 {I : Type} (i0 : I) {x96_1 : Int32} {x96_2 : Int32} {x96_3 : Int32} {E1 : I → MW → Prop} {E3 : MW → Prop} {Q1 : I → MW → Prop} {Q3 : MW → Prop}  (kE : ∀ x0, (∀ i : I, E1 i x0) → E3 x0) (kQ : ∀ x0, (∀ i : I, Q1 i x0) → Q3 x0) : ∀ (m : Nat) (x96_4 : Int32) (w : MW), (∀ i : I, q_Mo_join_96 x96_1 x96_2 x96_3 (E1 i) (Q1 i) m x96_4 w) → q_Mo_join_96 x96_1 x96_2 x96_3 E3 Q3 m x96_4 w := by
  intro m
  induction m with
  | zero => exact fun _ _ h => False.elim (h i0)
  | succ m ih =>
    intro x96_4 w h
    have h := fun i => Eq.mp (q_Mo_join_96.eq_2 ..) (h i)
    refine Eq.mpr (q_Mo_join_96.eq_2 ..) ?_
    exact ⟨(fun h1 => (kE _ (fun i => ((h i).1 h1)))), (fun h2 => ⟨(fun h3 => (kE _ (fun i => (((h i).2 h2).1 h3)))), (fun h4 => ⟨(((h i0).2 h2).2 h4).1, ⟨(fun h5 => (kE _ (fun i => ((((h i).2 h2).2 h4).2.1 h5)))), (fun h6 => ⟨((((h i0).2 h2).2 h4).2.2 h6).1, ⟨(fun h7 => (al_q_Mo_join_197 i0  (fun _ _ h8 => (ih _ _ (fun i => (h8 i)))) kE kQ (fun i => (((((h i).2 h2).2 h4).2.2 h6).2.1 h7)))), (fun h9 => ⟨(fun h10 => (al_q_Mo_join_197 i0  (fun _ _ h11 => (ih _ _ (fun i => (h11 i)))) kE kQ (fun i => ((((((h i).2 h2).2 h4).2.2 h6).2.2 h9).1 h10)))), (fun h12 => ⟨((((((h i0).2 h2).2 h4).2.2 h6).2.2 h9).2 h12).1, ⟨(fun h13 => ⟨(((((((h i0).2 h2).2 h4).2.2 h6).2.2 h9).2 h12).2.1 h13).1, ⟨(((((((h i0).2 h2).2 h4).2.2 h6).2.2 h9).2 h12).2.1 h13).2.1, ⟨(((((((h i0).2 h2).2 h4).2.2 h6).2.2 h9).2 h12).2.1 h13).2.2.1, ⟨(((((((h i0).2 h2).2 h4).2.2 h6).2.2 h9).2 h12).2.1 h13).2.2.2.1, (al_p_Mo_passes i0 (fun i => (((((((h i).2 h2).2 h4).2.2 h6).2.2 h9).2 h12).2.1 h13).2.2.2.2) (fun _ _ h14 => ⟨(fun h15 => (al_q_Mo_join_197 i0  (fun _ _ h16 => (ih _ _ (fun i => (h16 i)))) kE kQ (fun i => ((h14 i).1 h15)))), (fun h17 => (al_q_Mo_join_197 i0  (fun _ _ h18 => (ih _ _ (fun i => (h18 i)))) kE kQ (fun i => ((h14 i).2 h17))))⟩))⟩⟩⟩⟩), (fun h19 => ⟨(((((((h i0).2 h2).2 h4).2.2 h6).2.2 h9).2 h12).2.2 h19).1, ⟨(fun h20 => (al_q_Mo_join_197 i0  (fun _ _ h21 => (ih _ _ (fun i => (h21 i)))) kE kQ (fun i => ((((((((h i).2 h2).2 h4).2.2 h6).2.2 h9).2 h12).2.2 h19).2.1 h20)))), (fun h22 => (al_q_Mo_join_197 i0  (fun _ _ h23 => (ih _ _ (fun i => (h23 i)))) kE kQ (fun i => ((((((((h i).2 h2).2 h4).2.2 h6).2.2 h9).2 h12).2.2 h19).2.2 h22))))⟩⟩)⟩⟩)⟩)⟩⟩)⟩⟩)⟩)⟩
theorem al_q_Mo_join_30 {I : Type} (i0 : I)  {E1 : I → MW → Prop} {E3 : MW → Prop} {Q1 : I → MW → Prop} {Q3 : MW → Prop}  (kE : ∀ x0, (∀ i : I, E1 i x0) → E3 x0) (kQ : ∀ x0, (∀ i : I, Q1 i x0) → Q3 x0) : ∀ (m : Nat) (x30_1 : Int32) (w : MW), (∀ i : I, q_Mo_join_30 (E1 i) (Q1 i) m x30_1 w) → q_Mo_join_30 E3 Q3 m x30_1 w := by
  intro m
  induction m with
  | zero => exact fun _ _ h => False.elim (h i0)
  | succ m ih =>
    intro x30_1 w h
    have h := fun i => Eq.mp (q_Mo_join_30.eq_2 ..) (h i)
    refine Eq.mpr (q_Mo_join_30.eq_2 ..) ?_
    exact ⟨(fun h1 => (kE _ (fun i => ((h i).1 h1)))), (fun h2 => ⟨((h i0).2 h2).1, ⟨(fun h3 => (al_q_Mo_join_96 i0  (fun _ h4 => (ih _ _ (fun i => (h4 i)))) kQ _ _ _ (fun i => (((h i).2 h2).2.1 h3)))), (fun h5 => ⟨(((h i0).2 h2).2.2 h5).1, ⟨(fun h6 => (al_q_Mo_join_96 i0  (fun _ h7 => (ih _ _ (fun i => (h7 i)))) kQ _ _ _ (fun i => ((((h i).2 h2).2.2 h5).2.1 h6)))), (fun h8 => ⟨((((h i0).2 h2).2.2 h5).2.2 h8).1, ⟨((((h i0).2 h2).2.2 h5).2.2 h8).2.1, ⟨((((h i0).2 h2).2.2 h5).2.2 h8).2.2.1, ⟨((((h i0).2 h2).2.2 h5).2.2 h8).2.2.2.1, (al_q_Mo_join_96 i0  (fun _ h9 => (ih _ _ (fun i => (h9 i)))) kQ _ _ _ (fun i => ((((h i).2 h2).2.2 h5).2.2 h8).2.2.2.2))⟩⟩⟩⟩)⟩⟩)⟩⟩)⟩
theorem al_p_Mo_join {I : Type} (i0 : I) {w : MW} {Q1 : I → MW → Prop} {Q3 : MW → Prop}  (h : ∀ i : I, p_Mo_join w (Q1 i)) (kQ : ∀ x0, (∀ i : I, Q1 i x0) → Q3 x0) : p_Mo_join w Q3 := by
  have h := fun i => Eq.mp (p_Mo_join.eq_1 ..) (h i)
  refine Eq.mpr (p_Mo_join.eq_1 ..) ?_
  exact (al_q_Mo_join_2 i0  (fun _ h1 => (al_q_Mo_join_30 i0  (fun _ h2 => (kQ _ (fun i => (h2 i)))) kQ _ _ _ (fun i => (h1 i)))) kQ _ _ _ (fun i => (h i)))
theorem al_p_Mo_mayMeet {I : Type} (i0 : I) {w : MW} {a0 : Int32} {b0 : Int32} {Q1 : I → Int32 → MW → Prop} {Q3 : Int32 → MW → Prop}  (h : ∀ i : I, p_Mo_mayMeet w a0 b0 (Q1 i)) (kQ : ∀ x0 x1, (∀ i : I, Q1 i x0 x1) → Q3 x0 x1) : p_Mo_mayMeet w a0 b0 Q3 := by
  have h := fun i => Eq.mp (p_Mo_mayMeet.eq_1 ..) (h i)
  refine Eq.mpr (p_Mo_mayMeet.eq_1 ..) ?_
  exact ⟨(fun h1 => (kQ _ _ (fun i => ((h i).1 h1)))), (fun h2 => ⟨(fun h3 => (kQ _ _ (fun i => (((h i).2 h2).1 h3)))), (fun h4 => ⟨(fun h5 => (kQ _ _ (fun i => ((((h i).2 h2).2 h4).1 h5)))), (fun h6 => ⟨((((h i0).2 h2).2 h4).2 h6).1, ⟨(fun h7 => (kQ _ _ (fun i => (((((h i).2 h2).2 h4).2 h6).2.1 h7)))), (fun h8 => (kQ _ _ (fun i => (((((h i).2 h2).2 h4).2 h6).2.2 h8))))⟩⟩)⟩)⟩)⟩
theorem al_q_Mo_isCalm_57 {I : Type} (i0 : I) {x57_1 : Int32} {x57_2 : Int32} {x57_3 : Int32} {E1 : I → MW → Prop} {E3 : MW → Prop} {Q1 : I → Int32 → MW → Prop} {Q3 : Int32 → MW → Prop}  (kE : ∀ x0, (∀ i : I, E1 i x0) → E3 x0) (kQ : ∀ x0 x1, (∀ i : I, Q1 i x0 x1) → Q3 x0 x1) : ∀ (m : Nat) (x57_4 : Int32) (w : MW), (∀ i : I, q_Mo_isCalm_57 x57_1 x57_2 x57_3 (E1 i) (Q1 i) m x57_4 w) → q_Mo_isCalm_57 x57_1 x57_2 x57_3 E3 Q3 m x57_4 w := by
  intro m
  induction m with
  | zero => exact fun _ _ h => False.elim (h i0)
  | succ m ih =>
    intro x57_4 w h
    have h := fun i => Eq.mp (q_Mo_isCalm_57.eq_2 ..) (h i)
    refine Eq.mpr (q_Mo_isCalm_57.eq_2 ..) ?_
    exact ⟨(fun h1 => (kE _ (fun i => ((h i).1 h1)))), (fun h2 => ⟨((h i0).2 h2).1, ⟨((h i0).2 h2).2.1, ⟨(fun h3 => (ih _ _ (fun i => (((h i).2 h2).2.2.1 h3)))), (fun h4 => (al_p_Mo_mayMeet i0 (fun i => (((h i).2 h2).2.2.2 h4)) (fun _ _ h5 => ⟨(fun h6 => (ih _ _ (fun i => ((h5 i).1 h6)))), (fun h7 => (kQ _ _ (fun i => ((h5 i).2 h7))))⟩)))⟩⟩⟩)⟩
theorem al_q_Mo_isCalm_46 {I : Type} (i0 : I) {x46_1 : Int32} {x46_2 : Int32} {E1 : I → MW → Prop} {E3 : MW → Prop} {Q1 : I → Int32 → MW → Prop} {Q3 : Int32 → MW → Prop}  (kE : ∀ x0, (∀ i : I, E1 i x0) → E3 x0) (kQ : ∀ x0 x1, (∀ i : I, Q1 i x0 x1) → Q3 x0 x1) : ∀ (m : Nat) (x46_3 : Int32) (w : MW), (∀ i : I, q_Mo_isCalm_46 x46_1 x46_2 (E1 i) (Q1 i) m x46_3 w) → q_Mo_isCalm_46 x46_1 x46_2 E3 Q3 m x46_3 w := by
  intro m
  induction m with
  | zero => exact fun _ _ h => False.elim (h i0)
  | succ m ih =>
    intro x46_3 w h
    have h := fun i => Eq.mp (q_Mo_isCalm_46.eq_2 ..) (h i)
    refine Eq.mpr (q_Mo_isCalm_46.eq_2 ..) ?_
    exact ⟨(fun h1 => (kE _ (fun i => ((h i).1 h1)))), (fun h2 => (al_q_Mo_isCalm_57 i0  (fun _ h3 => (ih _ _ (fun i => (h3 i)))) kQ _ _ _ (fun i => ((h i).2 h2))))⟩
theorem al_q_Mo_isCalm_31 {I : Type} (i0 : I) {x31_1 : Int32} {E1 : I → MW → Prop} {E3 : MW → Prop} {Q1 : I → Int32 → MW → Prop} {Q3 : Int32 → MW → Prop}  (kE : ∀ x0, (∀ i : I, E1 i x0) → E3 x0) (kQ : ∀ x0 x1, (∀ i : I, Q1 i x0 x1) → Q3 x0 x1) : ∀ (m : Nat) (x31_2 : Int32) (w : MW), (∀ i : I, q_Mo_isCalm_31 x31_1 (E1 i) (Q1 i) m x31_2 w) → q_Mo_isCalm_31 x31_1 E3 Q3 m x31_2 w := by
  intro m
  induction m with
  | zero => exact fun _ _ h => False.elim (h i0)
  | succ m ih =>
    intro x31_2 w h
    have h := fun i => Eq.mp (q_Mo_isCalm_31.eq_2 ..) (h i)
    refine Eq.mpr (q_Mo_isCalm_31.eq_2 ..) ?_
    exact ⟨(fun h1 => (kE _ (fun i => ((h i).1 h1)))), (fun h2 => (al_q_Mo_isCalm_46 i0  (fun _ h3 => (ih _ _ (fun i => (h3 i)))) kQ _ _ _ (fun i => ((h i).2 h2))))⟩
theorem al_q_Mo_flood_5 {I : Type} (i0 : I) {x5_1 : Int32} {E1 : I → Int64 → MW → Prop} {E3 : Int64 → MW → Prop} {Q1 : I → Int64 → MW → Prop} {Q3 : Int64 → MW → Prop}  (kE : ∀ x0 x1, (∀ i : I, E1 i x0 x1) → E3 x0 x1) (kQ : ∀ x0 x1, (∀ i : I, Q1 i x0 x1) → Q3 x0 x1) : ∀ (m : Nat) (x5_2 : Int64) (x5_4 : Int32) (w : MW), (∀ i : I, q_Mo_flood_5 x5_1 (E1 i) (Q1 i) m x5_2 x5_4 w) → q_Mo_flood_5 x5_1 E3 Q3 m x5_2 x5_4 w := by
  intro m
  induction m with
  | zero => exact fun _ _ _ h => False.elim (h i0)
  | succ m ih =>
    intro x5_2 x5_4 w h
    have h := fun i => Eq.mp (q_Mo_flood_5.eq_2 ..) (h i)
    refine Eq.mpr (q_Mo_flood_5.eq_2 ..) ?_
    exact ⟨(fun h1 => (kE _ _ (fun i => ((h i).1 h1)))), (fun h2 => ⟨((h i0).2 h2).1, ⟨(fun h3 => (ih _ _ _ (fun i => (((h i).2 h2).2.1 h3)))), (fun h4 => (ih _ _ _ (fun i => (((h i).2 h2).2.2 h4))))⟩⟩)⟩
theorem al_q_Mo_flood_71 {I : Type} (i0 : I) {x71_5 : Int64} {E1 : I → Int64 → MW → Prop} {E3 : Int64 → MW → Prop} {Q1 : I → Int64 → MW → Prop} {Q3 : Int64 → MW → Prop}  (kE : ∀ x0 x1, (∀ i : I, E1 i x0 x1) → E3 x0 x1) (kQ : ∀ x0 x1, (∀ i : I, Q1 i x0 x1) → Q3 x0 x1) : ∀ (m : Nat) (x71_2 : Int64) (x71_7 : Int32) (w : MW), (∀ i : I, q_Mo_flood_71 x71_5 (E1 i) (Q1 i) m x71_2 x71_7 w) → q_Mo_flood_71 x71_5 E3 Q3 m x71_2 x71_7 w := by
  intro m
  induction m with
  | zero => exact fun _ _ _ h => False.elim (h i0)
  | succ m ih =>
    intro x71_2 x71_7 w h
    have h := fun i => Eq.mp (q_Mo_flood_71.eq_2 ..) (h i)
    refine Eq.mpr (q_Mo_flood_71.eq_2 ..) ?_
    exact ⟨(fun h1 => (kE _ _ (fun i => ((h i).1 h1)))), (fun h2 => ⟨(fun h3 => (ih _ _ _ (fun i => (((h i).2 h2).1 h3)))), (fun h4 => ⟨(((h i0).2 h2).2 h4).1, (ih _ _ _ (fun i => (((h i).2 h2).2 h4).2))⟩)⟩)⟩
theorem al_q_Mo_flood_60 {I : Type} (i0 : I)  {E1 : I → Int64 → MW → Prop} {E3 : Int64 → MW → Prop} {Q1 : I → Int64 → MW → Prop} {Q3 : Int64 → MW → Prop}  (kE : ∀ x0 x1, (∀ i : I, E1 i x0 x1) → E3 x0 x1) (kQ : ∀ x0 x1, (∀ i : I, Q1 i x0 x1) → Q3 x0 x1) : ∀ (m : Nat) (x60_2 : Int64) (x60_4 : Int32) (w : MW), (∀ i : I, q_Mo_flood_60 (E1 i) (Q1 i) m x60_2 x60_4 w) → q_Mo_flood_60 E3 Q3 m x60_2 x60_4 w := by
  intro m
  induction m with
  | zero => exact fun _ _ _ h => False.elim (h i0)
  | succ m ih =>
    intro x60_2 x60_4 w h
    have h := fun i => Eq.mp (q_Mo_flood_60.eq_2 ..) (h i)
    refine Eq.mpr (q_Mo_flood_60.eq_2 ..) ?_
    exact ⟨(fun h1 => (kE _ _ (fun i => ((h i).1 h1)))), (fun h2 => (al_q_Mo_flood_71 i0  (fun _ _ h3 => ⟨(fun h4 => (ih _ _ _ (fun i => ((h3 i).1 h4)))), (fun h5 => (ih _ _ _ (fun i => ((h3 i).2 h5))))⟩) kQ _ _ _ _ (fun i => ((h i).2 h2))))⟩
theorem al_p_Mo_flood {I : Type} (i0 : I) {w : MW} {a0 : Int32} {Q1 : I → Int64 → MW → Prop} {Q3 : Int64 → MW → Prop}  (h : ∀ i : I, p_Mo_flood w a0 (Q1 i)) (kQ : ∀ x0 x1, (∀ i : I, Q1 i x0 x1) → Q3 x0 x1) : p_Mo_flood w a0 Q3 := by
  have h := fun i => Eq.mp (p_Mo_flood.eq_1 ..) (h i)
  refine Eq.mpr (p_Mo_flood.eq_1 ..) ?_
  exact (al_q_Mo_flood_5 i0  (fun _ _ h1 => ⟨(fun h2 => (al_q_Mo_flood_60 i0  (fun _ _ h3 => (kQ _ _ (fun i => (h3 i)))) kQ _ _ _ _ (fun i => ((h1 i).1 h2)))), (fun h4 => (al_q_Mo_flood_60 i0  (fun _ _ h5 => (kQ _ _ (fun i => (h5 i)))) kQ _ _ _ _ (fun i => ((h1 i).2 h4))))⟩) kQ _ _ _ _ (fun i => (h i)))
theorem al_q_Mo_isCalm_6 {I : Type} (i0 : I) {x6_1 : Int32} {E1 : I → MW → Prop} {E3 : MW → Prop} {Q1 : I → Int32 → MW → Prop} {Q3 : Int32 → MW → Prop}  (kE : ∀ x0, (∀ i : I, E1 i x0) → E3 x0) (kQ : ∀ x0 x1, (∀ i : I, Q1 i x0 x1) → Q3 x0 x1) : ∀ (m : Nat) (x6_2 : Int32) (w : MW), (∀ i : I, q_Mo_isCalm_6 x6_1 (E1 i) (Q1 i) m x6_2 w) → q_Mo_isCalm_6 x6_1 E3 Q3 m x6_2 w := by
  intro m
  induction m with
  | zero => exact fun _ _ h => False.elim (h i0)
  | succ m ih =>
    intro x6_2 w h
    have h := fun i => Eq.mp (q_Mo_isCalm_6.eq_2 ..) (h i)
    refine Eq.mpr (q_Mo_isCalm_6.eq_2 ..) ?_
    exact ⟨(fun h1 => (kE _ (fun i => ((h i).1 h1)))), (fun h2 => (al_p_Mo_flood i0 (fun i => ((h i).2 h2)) (fun _ _ h3 => ⟨(h3 i0).1, (ih _ _ (fun i => (h3 i).2))⟩)))⟩
theorem al_p_Mo_isCalm {I : Type} (i0 : I) {w : MW} {a0 : Int32} {Q1 : I → Int32 → MW → Prop} {Q3 : Int32 → MW → Prop}  (h : ∀ i : I, p_Mo_isCalm w a0 (Q1 i)) (kQ : ∀ x0 x1, (∀ i : I, Q1 i x0 x1) → Q3 x0 x1) : p_Mo_isCalm w a0 Q3 := by
  have h := fun i => Eq.mp (p_Mo_isCalm.eq_1 ..) (h i)
  refine Eq.mpr (p_Mo_isCalm.eq_1 ..) ?_
  exact (al_p_Mo_join i0 (fun i => (h i)) (fun _ h1 => (al_q_Mo_isCalm_6 i0  (fun _ h2 => (al_q_Mo_isCalm_31 i0  (fun _ h3 => (kQ _ _ (fun i => (h3 i)))) kQ _ _ _ (fun i => (h2 i)))) kQ _ _ _ (fun i => (h1 i)))))
theorem al_q_Mo_isSafe_73 {I : Type} (i0 : I) {x30_2 : Int32} {x30_3 : Int32} {y73_4 : Int32} {w : MW} {A1 : I → Int32 → Int32 → MW → Prop} {A3 : Int32 → Int32 → MW → Prop} {E1 : I → Int32 → MW → Prop} {E3 : Int32 → MW → Prop} {Q1 : I → Int32 → MW → Prop} {Q3 : Int32 → MW → Prop}  (kA : ∀ x0 x1 x2, (∀ i : I, A1 i x0 x1 x2) → A3 x0 x1 x2) (kE : ∀ x0 x1, (∀ i : I, E1 i x0 x1) → E3 x0 x1) (kQ : ∀ x0 x1, (∀ i : I, Q1 i x0 x1) → Q3 x0 x1) (h : ∀ i : I, q_Mo_isSafe_73 x30_2 x30_3 y73_4 w (A1 i) (E1 i) (Q1 i)) : q_Mo_isSafe_73 x30_2 x30_3 y73_4 w A3 E3 Q3 := by
  have h := fun i => Eq.mp (q_Mo_isSafe_73.eq_1 ..) (h i)
  refine Eq.mpr (q_Mo_isSafe_73.eq_1 ..) ?_
  exact ⟨(h i0).1, (al_p_Mo_isCalm i0 (fun i => (h i).2) (fun _ _ h1 => (kA _ _ _ (fun i => (h1 i)))))⟩
theorem al_q_Mo_isSafe_30 {I : Type} (i0 : I) {x30_2 : Int32} {x30_3 : Int32} {E1 : I → Int32 → MW → Prop} {E3 : Int32 → MW → Prop} {Q1 : I → Int32 → MW → Prop} {Q3 : Int32 → MW → Prop}  (kE : ∀ x0 x1, (∀ i : I, E1 i x0 x1) → E3 x0 x1) (kQ : ∀ x0 x1, (∀ i : I, Q1 i x0 x1) → Q3 x0 x1) : ∀ (m : Nat) (x30_1 : Int32) (x30_4 : Int32) (w : MW), (∀ i : I, q_Mo_isSafe_30 x30_2 x30_3 (E1 i) (Q1 i) m x30_1 x30_4 w) → q_Mo_isSafe_30 x30_2 x30_3 E3 Q3 m x30_1 x30_4 w := by
  intro m
  induction m with
  | zero => exact fun _ _ _ h => False.elim (h i0)
  | succ m ih =>
    intro x30_1 x30_4 w h
    have h := fun i => Eq.mp (q_Mo_isSafe_30.eq_2 ..) (h i)
    refine Eq.mpr (q_Mo_isSafe_30.eq_2 ..) ?_
    exact ⟨(fun h1 => (kE _ _ (fun i => ((h i).1 h1)))), (fun h2 => ⟨((h i0).2 h2).1, ⟨(fun h3 => (kE _ _ (fun i => (((h i).2 h2).2.1 h3)))), (fun h4 => ⟨(fun h5 => (kE _ _ (fun i => ((((h i).2 h2).2.2 h4).1 h5)))), (fun h6 => ⟨(fun h7 => (ih _ _ _ (fun i => (((((h i).2 h2).2.2 h4).2 h6).1 h7)))), (fun h8 => ⟨(((((h i0).2 h2).2.2 h4).2 h6).2 h8).1, ⟨(fun h9 => (al_q_Mo_isSafe_73 i0  (fun _ _ _ h10 => (ih _ _ _ (fun i => (h10 i)))) kE kQ (fun i => ((((((h i).2 h2).2.2 h4).2 h6).2 h8).2.1 h9)))), (fun h11 => ⟨(fun h12 => (ih _ _ _ (fun i => (((((((h i).2 h2).2.2 h4).2 h6).2 h8).2.2 h11).1 h12)))), (fun h13 => (al_q_Mo_isSafe_73 i0  (fun _ _ _ h14 => (ih _ _ _ (fun i => (h14 i)))) kE kQ (fun i => (((((((h i).2 h2).2.2 h4).2 h6).2 h8).2.2 h11).2 h13))))⟩)⟩⟩)⟩)⟩)⟩⟩)⟩
theorem al_q_Mo_isSafe_8 {I : Type} (i0 : I)  {E1 : I → Int32 → MW → Prop} {E3 : Int32 → MW → Prop} {Q1 : I → Int32 → MW → Prop} {Q3 : Int32 → MW → Prop}  (kE : ∀ x0 x1, (∀ i : I, E1 i x0 x1) → E3 x0 x1) (kQ : ∀ x0 x1, (∀ i : I, Q1 i x0 x1) → Q3 x0 x1) : ∀ (m : Nat) (x8_1 : Int32) (x8_2 : Int32) (w : MW), (∀ i : I, q_Mo_isSafe_8 (E1 i) (Q1 i) m x8_1 x8_2 w) → q_Mo_isSafe_8 E3 Q3 m x8_1 x8_2 w := by
  intro m
  induction m with
  | zero => exact fun _ _ _ h => False.elim (h i0)
  | succ m ih =>
    intro x8_1 x8_2 w h
    have h := fun i => Eq.mp (q_Mo_isSafe_8.eq_2 ..) (h i)
    refine Eq.mpr (q_Mo_isSafe_8.eq_2 ..) ?_
    exact ⟨(fun h1 => (kE _ _ (fun i => ((h i).1 h1)))), (fun h2 => ⟨(fun h3 => (kE _ _ (fun i => (((h i).2 h2).1 h3)))), (fun h4 => ⟨(((h i0).2 h2).2 h4).1, (al_q_Mo_isSafe_30 i0  (fun _ _ h5 => ⟨(h5 i0).1, (ih _ _ _ (fun i => (h5 i).2))⟩) kQ _ _ _ _ (fun i => (((h i).2 h2).2 h4).2))⟩)⟩)⟩
theorem al_p_Mo_isSafe {I : Type} (i0 : I) {w : MW} {Q1 : I → Int32 → MW → Prop} {Q3 : Int32 → MW → Prop}  (h : ∀ i : I, p_Mo_isSafe w (Q1 i)) (kQ : ∀ x0 x1, (∀ i : I, Q1 i x0 x1) → Q3 x0 x1) : p_Mo_isSafe w Q3 := by
  have h := fun i => Eq.mp (p_Mo_isSafe.eq_1 ..) (h i)
  refine Eq.mpr (p_Mo_isSafe.eq_1 ..) ?_
  exact (al_p_Mo_isCalm i0 (fun i => (h i)) (fun _ _ h1 => (al_q_Mo_isSafe_8 i0  (fun _ _ h2 => ⟨(h2 i0).1, (kQ _ _ (fun i => (h2 i).2))⟩) kQ _ _ _ _ (fun i => (h1 i)))))
theorem al_q_Mo_look_2 {I : Type} (i0 : I)  {E1 : I → MW → Prop} {E3 : MW → Prop} {Q1 : I → MW → Prop} {Q3 : MW → Prop}  (kE : ∀ x0, (∀ i : I, E1 i x0) → E3 x0) (kQ : ∀ x0, (∀ i : I, Q1 i x0) → Q3 x0) : ∀ (m : Nat) (x2_1 : Int32) (w : MW), (∀ i : I, q_Mo_look_2 (E1 i) (Q1 i) m x2_1 w) → q_Mo_look_2 E3 Q3 m x2_1 w := by
  intro m
  induction m with
  | zero => exact fun _ _ h => False.elim (h i0)
  | succ m ih =>
    intro x2_1 w h
    have h := fun i => Eq.mp (q_Mo_look_2.eq_2 ..) (h i)
    refine Eq.mpr (q_Mo_look_2.eq_2 ..) ?_
    exact ⟨(fun h1 => (kE _ (fun i => ((h i).1 h1)))), (fun h2 => (al_p_Mo_liquidIn i0 (fun i => ((h i).2 h2)) (fun _ _ h3 => ⟨(h3 i0).1, (ih _ _ (fun i => (h3 i).2))⟩)))⟩
theorem al_p_Mo_carry {I : Type} (i0 : I) {w : MW} {a0 : Int32} {b0 : Int32} {Q1 : I → MW → Prop} {Q3 : MW → Prop}  (h : ∀ i : I, p_Mo_carry w a0 b0 (Q1 i)) (kQ : ∀ x0, (∀ i : I, Q1 i x0) → Q3 x0) : p_Mo_carry w a0 b0 Q3 := by
  have h := fun i => Eq.mp (p_Mo_carry.eq_1 ..) (h i)
  refine Eq.mpr (p_Mo_carry.eq_1 ..) ?_
  exact ⟨(h i0).1, ⟨(fun h1 => ⟨((h i0).2.1 h1).1, ⟨((h i0).2.1 h1).2.1, (kQ _ (fun i => ((h i).2.1 h1).2.2))⟩⟩), (fun h2 => ⟨((h i0).2.2 h2).1, (kQ _ (fun i => ((h i).2.2 h2).2))⟩)⟩⟩
theorem al_q_Mo_look_60 {I : Type} (i0 : I) {x60_1 : Int32} {E1 : I → MW → Prop} {E3 : MW → Prop} {Q1 : I → MW → Prop} {Q3 : MW → Prop}  (kE : ∀ x0, (∀ i : I, E1 i x0) → E3 x0) (kQ : ∀ x0, (∀ i : I, Q1 i x0) → Q3 x0) : ∀ (m : Nat) (x60_2 : Int32) (w : MW), (∀ i : I, q_Mo_look_60 x60_1 (E1 i) (Q1 i) m x60_2 w) → q_Mo_look_60 x60_1 E3 Q3 m x60_2 w := by
  intro m
  induction m with
  | zero => exact fun _ _ h => False.elim (h i0)
  | succ m ih =>
    intro x60_2 w h
    have h := fun i => Eq.mp (q_Mo_look_60.eq_2 ..) (h i)
    refine Eq.mpr (q_Mo_look_60.eq_2 ..) ?_
    exact ⟨(h i0).1, ⟨(fun h1 => (kE _ (fun i => ((h i).2.1 h1)))), (fun h2 => ⟨((h i0).2.2 h2).1, ⟨((h i0).2.2 h2).2.1, (al_p_Mo_carry i0 (fun i => ((h i).2.2 h2).2.2) (fun _ h3 => (ih _ _ (fun i => (h3 i)))))⟩⟩)⟩⟩
theorem al_q_Mo_look_34 {I : Type} (i0 : I)  {E1 : I → MW → Prop} {E3 : MW → Prop} {Q1 : I → MW → Prop} {Q3 : MW → Prop}  (kE : ∀ x0, (∀ i : I, E1 i x0) → E3 x0) (kQ : ∀ x0, (∀ i : I, Q1 i x0) → Q3 x0) : ∀ (m : Nat) (x34_1 : Int32) (w : MW), (∀ i : I, q_Mo_look_34 (E1 i) (Q1 i) m x34_1 w) → q_Mo_look_34 E3 Q3 m x34_1 w := by
  intro m
  induction m with
  | zero => exact fun _ _ h => False.elim (h i0)
  | succ m ih =>
    intro x34_1 w h
    have h := fun i => Eq.mp (q_Mo_look_34.eq_2 ..) (h i)
    refine Eq.mpr (q_Mo_look_34.eq_2 ..) ?_
    exact ⟨(fun h1 => (kE _ (fun i => ((h i).1 h1)))), (fun h2 => ⟨((h i0).2 h2).1, ⟨((h i0).2 h2).2.1, (al_p_Mo_carry i0 (fun i => ((h i).2 h2).2.2) (fun _ h3 => (al_q_Mo_look_60 i0  (fun _ h4 => (ih _ _ (fun i => (h4 i)))) kQ _ _ _ (fun i => (h3 i)))))⟩⟩)⟩
theorem al_p_Mo_look {I : Type} (i0 : I) {w : MW} {Q1 : I → MW → Prop} {Q3 : MW → Prop}  (h : ∀ i : I, p_Mo_look w (Q1 i)) (kQ : ∀ x0, (∀ i : I, Q1 i x0) → Q3 x0) : p_Mo_look w Q3 := by
  have h := fun i => Eq.mp (p_Mo_look.eq_1 ..) (h i)
  refine Eq.mpr (p_Mo_look.eq_1 ..) ?_
  exact (al_q_Mo_look_2 i0  (fun _ h1 => (al_q_Mo_look_34 i0  (fun _ h2 => (kQ _ (fun i => (h2 i)))) kQ _ _ _ (fun i => (h1 i)))) kQ _ _ _ (fun i => (h i)))
theorem al_q_Mo_measure_66 {I : Type} (i0 : I) {x2_1 : Int32} {y66_2 : Int32} {y66_3 : Int32} {ys66_0 : Int32} {ys66_1 : Int32} {w : MW} {A1 : I → Int32 → MW → Prop} {A3 : Int32 → MW → Prop} {E1 : I → MW → Prop} {E3 : MW → Prop} {Q1 : I → MW → Prop} {Q3 : MW → Prop}  (kA : ∀ x0 x1, (∀ i : I, A1 i x0 x1) → A3 x0 x1) (kE : ∀ x0, (∀ i : I, E1 i x0) → E3 x0) (kQ : ∀ x0, (∀ i : I, Q1 i x0) → Q3 x0) (h : ∀ i : I, q_Mo_measure_66 x2_1 y66_2 y66_3 ys66_0 ys66_1 w (A1 i) (E1 i) (Q1 i)) : q_Mo_measure_66 x2_1 y66_2 y66_3 ys66_0 ys66_1 w A3 E3 Q3 := by
  have h := fun i => Eq.mp (q_Mo_measure_66.eq_1 ..) (h i)
  refine Eq.mpr (q_Mo_measure_66.eq_1 ..) ?_
  exact ⟨(h i0).1, ⟨(fun h1 => ⟨((h i0).2.1 h1).1, (kA _ _ (fun i => ((h i).2.1 h1).2))⟩), (fun h2 => ⟨((h i0).2.2 h2).1, (kA _ _ (fun i => ((h i).2.2 h2).2))⟩)⟩⟩
theorem al_q_Mo_measure_44 {I : Type} (i0 : I) {x2_1 : Int32} {y44_2 : Int32} {ys44_0 : Int32} {w : MW} {A1 : I → Int32 → MW → Prop} {A3 : Int32 → MW → Prop} {E1 : I → MW → Prop} {E3 : MW → Prop} {Q1 : I → MW → Prop} {Q3 : MW → Prop}  (kA : ∀ x0 x1, (∀ i : I, A1 i x0 x1) → A3 x0 x1) (kE : ∀ x0, (∀ i : I, E1 i x0) → E3 x0) (kQ : ∀ x0, (∀ i : I, Q1 i x0) → Q3 x0) (h : ∀ i : I, q_Mo_measure_44 x2_1 y44_2 ys44_0 w (A1 i) (E1 i) (Q1 i)) : q_Mo_measure_44 x2_1 y44_2 ys44_0 w A3 E3 Q3 := by
  have h := fun i => Eq.mp (q_Mo_measure_44.eq_1 ..) (h i)
  refine Eq.mpr (q_Mo_measure_44.eq_1 ..) ?_
  exact ⟨(fun h1 => (al_q_Mo_measure_66 i0  kA kE kQ (fun i => ((h i).1 h1)))), (fun h2 => ⟨((h i0).2 h2).1, (al_q_Mo_measure_66 i0  kA kE kQ (fun i => ((h i).2 h2).2))⟩)⟩
theorem al_q_Mo_measure_2 {I : Type} (i0 : I) {x2_1 : Int32} {E1 : I → MW → Prop} {E3 : MW → Prop} {Q1 : I → MW → Prop} {Q3 : MW → Prop}  (kE : ∀ x0, (∀ i : I, E1 i x0) → E3 x0) (kQ : ∀ x0, (∀ i : I, Q1 i x0) → Q3 x0) : ∀ (m : Nat) (x2_2 : Int32) (w : MW), (∀ i : I, q_Mo_measure_2 x2_1 (E1 i) (Q1 i) m x2_2 w) → q_Mo_measure_2 x2_1 E3 Q3 m x2_2 w := by
  intro m
  induction m with
  | zero => exact fun _ _ h => False.elim (h i0)
  | succ m ih =>
    intro x2_2 w h
    have h := fun i => Eq.mp (q_Mo_measure_2.eq_2 ..) (h i)
    refine Eq.mpr (q_Mo_measure_2.eq_2 ..) ?_
    exact ⟨(fun h1 => (kE _ (fun i => ((h i).1 h1)))), (fun h2 => ⟨((h i0).2 h2).1, ⟨(fun h3 => (al_q_Mo_measure_44 i0  (fun _ _ h4 => (ih _ _ (fun i => (h4 i)))) kE kQ (fun i => (((h i).2 h2).2.1 h3)))), (fun h5 => ⟨(fun h6 => (al_q_Mo_measure_44 i0  (fun _ _ h7 => (ih _ _ (fun i => (h7 i)))) kE kQ (fun i => ((((h i).2 h2).2.2 h5).1 h6)))), (fun h8 => (al_q_Mo_measure_44 i0  (fun _ _ h9 => (ih _ _ (fun i => (h9 i)))) kE kQ (fun i => ((((h i).2 h2).2.2 h5).2 h8))))⟩)⟩⟩)⟩
theorem al_q_Mo_least_2 {I : Type} (i0 : I) {x2_0 : Int32} {x2_1 : Int32} {x2_2 : Int32} {E1 : I → MW → Prop} {E3 : MW → Prop} {Q1 : I → Int32 → MW → Prop} {Q3 : Int32 → MW → Prop}  (kE : ∀ x0, (∀ i : I, E1 i x0) → E3 x0) (kQ : ∀ x0 x1, (∀ i : I, Q1 i x0 x1) → Q3 x0 x1) : ∀ (m : Nat) (x2_3 : Int32) (w : MW), (∀ i : I, q_Mo_least_2 x2_0 x2_1 x2_2 (E1 i) (Q1 i) m x2_3 w) → q_Mo_least_2 x2_0 x2_1 x2_2 E3 Q3 m x2_3 w := by
  intro m
  induction m with
  | zero => exact fun _ _ h => False.elim (h i0)
  | succ m ih =>
    intro x2_3 w h
    have h := fun i => Eq.mp (q_Mo_least_2.eq_2 ..) (h i)
    refine Eq.mpr (q_Mo_least_2.eq_2 ..) ?_
    exact ⟨(fun h1 => (kE _ (fun i => ((h i).1 h1)))), (fun h2 => (al_p_Mo_passes i0 (fun i => ((h i).2 h2)) (fun _ _ h3 => ⟨(fun h4 => (ih _ _ (fun i => ((h3 i).1 h4)))), (fun h5 => (kQ _ _ (fun i => ((h3 i).2 h5))))⟩)))⟩
theorem al_p_Mo_least {I : Type} (i0 : I) {w : MW} {a0 : Int32} {b0 : Int32} {c0 : Int32} {Q1 : I → Int32 → MW → Prop} {Q3 : Int32 → MW → Prop}  (h : ∀ i : I, p_Mo_least w a0 b0 c0 (Q1 i)) (kQ : ∀ x0 x1, (∀ i : I, Q1 i x0 x1) → Q3 x0 x1) : p_Mo_least w a0 b0 c0 Q3 := by
  have h := fun i => Eq.mp (p_Mo_least.eq_1 ..) (h i)
  refine Eq.mpr (p_Mo_least.eq_1 ..) ?_
  exact (al_q_Mo_least_2 i0  (fun _ h1 => (kQ _ _ (fun i => (h1 i)))) kQ _ _ _ (fun i => (h i)))
theorem al_p_Mo_needOf {I : Type} (i0 : I) {w : MW} {a0 : Int32} {b0 : Int32} {Q1 : I → Int32 → MW → Prop} {Q3 : Int32 → MW → Prop}  (h : ∀ i : I, p_Mo_needOf w a0 b0 (Q1 i)) (kQ : ∀ x0 x1, (∀ i : I, Q1 i x0 x1) → Q3 x0 x1) : p_Mo_needOf w a0 b0 Q3 := by
  have h := fun i => Eq.mp (p_Mo_needOf.eq_1 ..) (h i)
  refine Eq.mpr (p_Mo_needOf.eq_1 ..) ?_
  exact ⟨(h i0).1, ⟨(fun h1 => (kQ _ _ (fun i => ((h i).2.1 h1)))), (fun h2 => ⟨((h i0).2.2 h2).1, ⟨(fun h3 => (kQ _ _ (fun i => (((h i).2.2 h2).2.1 h3)))), (fun h4 => ⟨(fun h5 => (kQ _ _ (fun i => ((((h i).2.2 h2).2.2 h4).1 h5)))), (fun h6 => ⟨((((h i0).2.2 h2).2.2 h4).2 h6).1, ⟨(fun h7 => (kQ _ _ (fun i => (((((h i).2.2 h2).2.2 h4).2 h6).2.1 h7)))), (fun h8 => ⟨(fun h9 => ⟨((((((h i0).2.2 h2).2.2 h4).2 h6).2.2 h8).1 h9).1, ⟨(fun h10 => ⟨(((((((h i0).2.2 h2).2.2 h4).2 h6).2.2 h8).1 h9).2.1 h10).1, ⟨(((((((h i0).2.2 h2).2.2 h4).2 h6).2.2 h8).1 h9).2.1 h10).2.1, ⟨(((((((h i0).2.2 h2).2.2 h4).2 h6).2.2 h8).1 h9).2.1 h10).2.2.1, (al_p_Mo_least i0 (fun i => (((((((h i).2.2 h2).2.2 h4).2 h6).2.2 h8).1 h9).2.1 h10).2.2.2) (fun _ _ h11 => (al_p_Mo_held i0 (fun i => (h11 i)) (fun _ _ h12 => ⟨(fun h13 => (kQ _ _ (fun i => ((h12 i).1 h13)))), (fun h14 => (al_p_Mo_held i0 (fun i => ((h12 i).2 h14)) (fun _ _ h15 => ⟨(fun h16 => (kQ _ _ (fun i => ((h15 i).1 h16)))), (fun h17 => (kQ _ _ (fun i => ((h15 i).2 h17))))⟩)))⟩))))⟩⟩⟩), (fun h18 => ⟨(((((((h i0).2.2 h2).2.2 h4).2 h6).2.2 h8).1 h9).2.2 h18).1, ⟨(fun h19 => (kQ _ _ (fun i => ((((((((h i).2.2 h2).2.2 h4).2 h6).2.2 h8).1 h9).2.2 h18).2.1 h19)))), (fun h20 => (al_p_Mo_held i0 (fun i => ((((((((h i).2.2 h2).2.2 h4).2 h6).2.2 h8).1 h9).2.2 h18).2.2 h20)) (fun _ _ h21 => ⟨(fun h22 => (kQ _ _ (fun i => ((h21 i).1 h22)))), (fun h23 => (kQ _ _ (fun i => ((h21 i).2 h23))))⟩)))⟩⟩)⟩⟩), (fun h24 => (kQ _ _ (fun i => ((((((h i).2.2 h2).2.2 h4).2 h6).2.2 h8).2 h24))))⟩)⟩⟩)⟩)⟩⟩)⟩⟩
theorem al_q_Mo_measure_283 {I : Type} (i0 : I) {y283_2 : Int32} {x111_3 : Int32} {y283_4 : Int32} {y283_7 : Int32} {ys283_0 : Int32} {ys283_1 : Int32} {w : MW} {A1 : I → Int32 → Int32 → MW → Prop} {A3 : Int32 → Int32 → MW → Prop} {E1 : I → Int32 → MW → Prop} {E3 : Int32 → MW → Prop} {Q1 : I → MW → Prop} {Q3 : MW → Prop}  (kA : ∀ x0 x1 x2, (∀ i : I, A1 i x0 x1 x2) → A3 x0 x1 x2) (kE : ∀ x0 x1, (∀ i : I, E1 i x0 x1) → E3 x0 x1) (kQ : ∀ x0, (∀ i : I, Q1 i x0) → Q3 x0) (h : ∀ i : I, q_Mo_measure_283 y283_2 x111_3 y283_4 y283_7 ys283_0 ys283_1 w (A1 i) (E1 i) (Q1 i)) : q_Mo_measure_283 y283_2 x111_3 y283_4 y283_7 ys283_0 ys283_1 w A3 E3 Q3 := by
  have h := fun i => Eq.mp (q_Mo_measure_283.eq_1 ..) (h i)
  refine Eq.mpr (q_Mo_measure_283.eq_1 ..) ?_
  exact ⟨(h i0).1, ⟨(fun h1 => (kA _ _ _ (fun i => ((h i).2.1 h1)))), (fun h2 => ⟨(fun h3 => (kA _ _ _ (fun i => (((h i).2.2 h2).1 h3)))), (fun h4 => (kA _ _ _ (fun i => (((h i).2.2 h2).2 h4))))⟩)⟩⟩
theorem al_q_Mo_measure_261 {I : Type} (i0 : I) {y261_2 : Int32} {x111_3 : Int32} {y261_4 : Int32} {y261_6 : Int32} {y261_7 : Int32} {ys261_0 : Int32} {ys261_1 : Int32} {w : MW} {A1 : I → Int32 → Int32 → MW → Prop} {A3 : Int32 → Int32 → MW → Prop} {E1 : I → Int32 → MW → Prop} {E3 : Int32 → MW → Prop} {Q1 : I → MW → Prop} {Q3 : MW → Prop}  (kA : ∀ x0 x1 x2, (∀ i : I, A1 i x0 x1 x2) → A3 x0 x1 x2) (kE : ∀ x0 x1, (∀ i : I, E1 i x0 x1) → E3 x0 x1) (kQ : ∀ x0, (∀ i : I, Q1 i x0) → Q3 x0) (h : ∀ i : I, q_Mo_measure_261 y261_2 x111_3 y261_4 y261_6 y261_7 ys261_0 ys261_1 w (A1 i) (E1 i) (Q1 i)) : q_Mo_measure_261 y261_2 x111_3 y261_4 y261_6 y261_7 ys261_0 ys261_1 w A3 E3 Q3 := by
  have h := fun i => Eq.mp (q_Mo_measure_261.eq_1 ..) (h i)
  refine Eq.mpr (q_Mo_measure_261.eq_1 ..) ?_
  exact ⟨(h i0).1, ⟨(fun h1 => ⟨((h i0).2.1 h1).1, (al_q_Mo_measure_283 i0  kA kE kQ (fun i => ((h i).2.1 h1).2))⟩), (fun h2 => (al_q_Mo_measure_283 i0  kA kE kQ (fun i => ((h i).2.2 h2))))⟩⟩
theorem al_q_Mo_measure_238 {I : Type} (i0 : I) {y238_2 : Int32} {x111_3 : Int32} {y238_4 : Int32} {y238_5 : Int32} {y238_6 : Int32} {ys238_0 : Int32} {w : MW} {A1 : I → Int32 → Int32 → MW → Prop} {A3 : Int32 → Int32 → MW → Prop} {E1 : I → Int32 → MW → Prop} {E3 : Int32 → MW → Prop} {Q1 : I → MW → Prop} {Q3 : MW → Prop}  (kA : ∀ x0 x1 x2, (∀ i : I, A1 i x0 x1 x2) → A3 x0 x1 x2) (kE : ∀ x0 x1, (∀ i : I, E1 i x0 x1) → E3 x0 x1) (kQ : ∀ x0, (∀ i : I, Q1 i x0) → Q3 x0) (h : ∀ i : I, q_Mo_measure_238 y238_2 x111_3 y238_4 y238_5 y238_6 ys238_0 w (A1 i) (E1 i) (Q1 i)) : q_Mo_measure_238 y238_2 x111_3 y238_4 y238_5 y238_6 ys238_0 w A3 E3 Q3 := by
  have h := fun i => Eq.mp (q_Mo_measure_238.eq_1 ..) (h i)
  refine Eq.mpr (q_Mo_measure_238.eq_1 ..) ?_
  exact ⟨(fun h1 => ⟨((h i0).1 h1).1, (al_q_Mo_measure_261 i0  kA kE kQ (fun i => ((h i).1 h1).2))⟩), (fun h2 => (al_q_Mo_measure_261 i0  kA kE kQ (fun i => ((h i).2 h2))))⟩
theorem al_q_Mo_measure_111 {I : Type} (i0 : I) {x111_3 : Int32} {E1 : I → Int32 → MW → Prop} {E3 : Int32 → MW → Prop} {Q1 : I → MW → Prop} {Q3 : MW → Prop}  (kE : ∀ x0 x1, (∀ i : I, E1 i x0 x1) → E3 x0 x1) (kQ : ∀ x0, (∀ i : I, Q1 i x0) → Q3 x0) : ∀ (m : Nat) (x111_2 : Int32) (x111_4 : Int32) (w : MW), (∀ i : I, q_Mo_measure_111 x111_3 (E1 i) (Q1 i) m x111_2 x111_4 w) → q_Mo_measure_111 x111_3 E3 Q3 m x111_2 x111_4 w := by
  intro m
  induction m with
  | zero => exact fun _ _ _ h => False.elim (h i0)
  | succ m ih =>
    intro x111_2 x111_4 w h
    have h := fun i => Eq.mp (q_Mo_measure_111.eq_2 ..) (h i)
    refine Eq.mpr (q_Mo_measure_111.eq_2 ..) ?_
    exact ⟨(fun h1 => (kE _ _ (fun i => ((h i).1 h1)))), (fun h2 => ⟨(fun h3 => (kE _ _ (fun i => (((h i).2 h2).1 h3)))), (fun h4 => ⟨(((h i0).2 h2).2 h4).1, ⟨(fun h5 => (ih _ _ _ (fun i => ((((h i).2 h2).2 h4).2.1 h5)))), (fun h6 => (al_p_Mo_needOf i0 (fun i => ((((h i).2 h2).2 h4).2.2 h6)) (fun _ _ h7 => ⟨(fun h8 => (ih _ _ _ (fun i => ((h7 i).1 h8)))), (fun h9 => ⟨((h7 i0).2 h9).1, ⟨((h7 i0).2 h9).2.1, ⟨((h7 i0).2 h9).2.2.1, ⟨((h7 i0).2 h9).2.2.2.1, ⟨(fun h10 => (al_q_Mo_measure_238 i0  (fun _ _ _ h11 => (ih _ _ _ (fun i => (h11 i)))) kE kQ (fun i => (((h7 i).2 h9).2.2.2.2.1 h10)))), (fun h12 => ⟨(((h7 i0).2 h9).2.2.2.2.2 h12).1, ⟨(fun h13 => (al_q_Mo_measure_238 i0  (fun _ _ _ h14 => (ih _ _ _ (fun i => (h14 i)))) kE kQ (fun i => ((((h7 i).2 h9).2.2.2.2.2 h12).2.1 h13)))), (fun h15 => ⟨((((h7 i0).2 h9).2.2.2.2.2 h12).2.2 h15).1, ⟨(fun h16 => (al_q_Mo_measure_238 i0  (fun _ _ _ h17 => (ih _ _ _ (fun i => (h17 i)))) kE kQ (fun i => (((((h7 i).2 h9).2.2.2.2.2 h12).2.2 h15).2.1 h16)))), (fun h18 => ⟨(((((h7 i0).2 h9).2.2.2.2.2 h12).2.2 h15).2.2 h18).1, ⟨(fun h19 => (al_q_Mo_measure_238 i0  (fun _ _ _ h20 => (ih _ _ _ (fun i => (h20 i)))) kE kQ (fun i => ((((((h7 i).2 h9).2.2.2.2.2 h12).2.2 h15).2.2 h18).2.1 h19)))), (fun h21 => (al_q_Mo_measure_238 i0  (fun _ _ _ h22 => (ih _ _ _ (fun i => (h22 i)))) kE kQ (fun i => ((((((h7 i).2 h9).2.2.2.2.2 h12).2.2 h15).2.2 h18).2.2 h21))))⟩⟩)⟩⟩)⟩⟩)⟩⟩⟩⟩⟩)⟩)))⟩⟩)⟩)⟩
theorem al_q_Mo_measure_98 {I : Type} (i0 : I)  {E1 : I → Int32 → MW → Prop} {E3 : Int32 → MW → Prop} {Q1 : I → MW → Prop} {Q3 : MW → Prop}  (kE : ∀ x0 x1, (∀ i : I, E1 i x0 x1) → E3 x0 x1) (kQ : ∀ x0, (∀ i : I, Q1 i x0) → Q3 x0) : ∀ (m : Nat) (x98_2 : Int32) (x98_3 : Int32) (w : MW), (∀ i : I, q_Mo_measure_98 (E1 i) (Q1 i) m x98_2 x98_3 w) → q_Mo_measure_98 E3 Q3 m x98_2 x98_3 w := by
  intro m
  induction m with
  | zero => exact fun _ _ _ h => False.elim (h i0)
  | succ m ih =>
    intro x98_2 x98_3 w h
    have h := fun i => Eq.mp (q_Mo_measure_98.eq_2 ..) (h i)
    refine Eq.mpr (q_Mo_measure_98.eq_2 ..) ?_
    exact ⟨(fun h1 => (kE _ _ (fun i => ((h i).1 h1)))), (fun h2 => (al_q_Mo_measure_111 i0  (fun _ _ h3 => (ih _ _ _ (fun i => (h3 i)))) kQ _ _ _ _ (fun i => ((h i).2 h2))))⟩
theorem al_q_Mo_measure_90 {I : Type} (i0 : I)  {E1 : I → MW → Prop} {E3 : MW → Prop} {Q1 : I → MW → Prop} {Q3 : MW → Prop}  (kE : ∀ x0, (∀ i : I, E1 i x0) → E3 x0) (kQ : ∀ x0, (∀ i : I, Q1 i x0) → Q3 x0) : ∀ (m : Nat) (x90_2 : Int32) (w : MW), (∀ i : I, q_Mo_measure_90 (E1 i) (Q1 i) m x90_2 w) → q_Mo_measure_90 E3 Q3 m x90_2 w := by
  intro m
  induction m with
  | zero => exact fun _ _ h => False.elim (h i0)
  | succ m ih =>
    intro x90_2 w h
    have h := fun i => Eq.mp (q_Mo_measure_90.eq_2 ..) (h i)
    refine Eq.mpr (q_Mo_measure_90.eq_2 ..) ?_
    exact ⟨(fun h1 => (kE _ (fun i => ((h i).1 h1)))), (fun h2 => (al_q_Mo_measure_98 i0  (fun _ _ h3 => (ih _ _ (fun i => (h3 i)))) kQ _ _ _ _ (fun i => ((h i).2 h2))))⟩
theorem al_p_Mo_measure {I : Type} (i0 : I) {w : MW} {a0 : Int32} {Q1 : I → MW → Prop} {Q3 : MW → Prop}  (h : ∀ i : I, p_Mo_measure w a0 (Q1 i)) (kQ : ∀ x0, (∀ i : I, Q1 i x0) → Q3 x0) : p_Mo_measure w a0 Q3 := by
  have h := fun i => Eq.mp (p_Mo_measure.eq_1 ..) (h i)
  refine Eq.mpr (p_Mo_measure.eq_1 ..) ?_
  exact (al_q_Mo_measure_2 i0  (fun _ h1 => (al_q_Mo_measure_90 i0  (fun _ h2 => (kQ _ (fun i => (h2 i)))) kQ _ _ _ (fun i => (h1 i)))) kQ _ _ _ (fun i => (h i)))
theorem al_q_Mo_find_140 {I : Type} (i0 : I) {x102_1 : Int32} {y140_3 : Int32} {y140_4 : Int32} {ys140_0 : Int32} {w : MW} {A1 : I → Int32 → Int32 → MW → Prop} {A3 : Int32 → Int32 → MW → Prop} {E1 : I → Int32 → MW → Prop} {E3 : Int32 → MW → Prop} {Q1 : I → Int32 → MW → Prop} {Q3 : Int32 → MW → Prop}  (kA : ∀ x0 x1 x2, (∀ i : I, A1 i x0 x1 x2) → A3 x0 x1 x2) (kE : ∀ x0 x1, (∀ i : I, E1 i x0 x1) → E3 x0 x1) (kQ : ∀ x0 x1, (∀ i : I, Q1 i x0 x1) → Q3 x0 x1) (h : ∀ i : I, q_Mo_find_140 x102_1 y140_3 y140_4 ys140_0 w (A1 i) (E1 i) (Q1 i)) : q_Mo_find_140 x102_1 y140_3 y140_4 ys140_0 w A3 E3 Q3 := by
  have h := fun i => Eq.mp (q_Mo_find_140.eq_1 ..) (h i)
  refine Eq.mpr (q_Mo_find_140.eq_1 ..) ?_
  exact ⟨(fun h1 => (kA _ _ _ (fun i => ((h i).1 h1)))), (fun h2 => ⟨(fun h3 => (kA _ _ _ (fun i => (((h i).2 h2).1 h3)))), (fun h4 => ⟨(((h i0).2 h2).2 h4).1, ⟨(((h i0).2 h2).2 h4).2.1, ⟨(fun h5 => (kA _ _ _ (fun i => ((((h i).2 h2).2 h4).2.2.1 h5)))), (fun h6 => ⟨((((h i0).2 h2).2 h4).2.2.2 h6).1, ⟨((((h i0).2 h2).2 h4).2.2.2 h6).2.1, ⟨(fun h7 => (kA _ _ _ (fun i => (((((h i).2 h2).2 h4).2.2.2 h6).2.2.1 h7)))), (fun h8 => ⟨(((((h i0).2 h2).2 h4).2.2.2 h6).2.2.2 h8).1, ⟨(((((h i0).2 h2).2 h4).2.2.2 h6).2.2.2 h8).2.1, ⟨(fun h9 => (kA _ _ _ (fun i => ((((((h i).2 h2).2 h4).2.2.2 h6).2.2.2 h8).2.2.1 h9)))), (fun h10 => (kA _ _ _ (fun i => ((((((h i).2 h2).2 h4).2.2.2 h6).2.2.2 h8).2.2.2 h10))))⟩⟩⟩)⟩⟩⟩)⟩⟩⟩)⟩)⟩
theorem al_q_Mo_find_102 {I : Type} (i0 : I) {x102_1 : Int32} {E1 : I → Int32 → MW → Prop} {E3 : Int32 → MW → Prop} {Q1 : I → Int32 → MW → Prop} {Q3 : Int32 → MW → Prop}  (kE : ∀ x0 x1, (∀ i : I, E1 i x0 x1) → E3 x0 x1) (kQ : ∀ x0 x1, (∀ i : I, Q1 i x0 x1) → Q3 x0 x1) : ∀ (m : Nat) (x102_3 : Int32) (x102_4 : Int32) (w : MW), (∀ i : I, q_Mo_find_102 x102_1 (E1 i) (Q1 i) m x102_3 x102_4 w) → q_Mo_find_102 x102_1 E3 Q3 m x102_3 x102_4 w := by
  intro m
  induction m with
  | zero => exact fun _ _ _ h => False.elim (h i0)
  | succ m ih =>
    intro x102_3 x102_4 w h
    have h := fun i => Eq.mp (q_Mo_find_102.eq_2 ..) (h i)
    refine Eq.mpr (q_Mo_find_102.eq_2 ..) ?_
    exact ⟨(fun h1 => (kE _ _ (fun i => ((h i).1 h1)))), (fun h2 => ⟨((h i0).2 h2).1, ⟨(fun h3 => (al_q_Mo_find_140 i0  (fun _ _ _ h4 => (ih _ _ _ (fun i => (h4 i)))) kE kQ (fun i => (((h i).2 h2).2.1 h3)))), (fun h5 => ⟨(((h i0).2 h2).2.2 h5).1, ⟨(fun h6 => (al_q_Mo_find_140 i0  (fun _ _ _ h7 => (ih _ _ _ (fun i => (h7 i)))) kE kQ (fun i => ((((h i).2 h2).2.2 h5).2.1 h6)))), (fun h8 => (al_q_Mo_find_140 i0  (fun _ _ _ h9 => (ih _ _ _ (fun i => (h9 i)))) kE kQ (fun i => ((((h i).2 h2).2.2 h5).2.2 h8))))⟩⟩)⟩⟩)⟩
theorem al_q_Mo_find_257 {I : Type} (i0 : I) {x257_3 : Int32} {x257_4 : Int32} {E1 : I → Int32 → MW → Prop} {E3 : Int32 → MW → Prop} {Q1 : I → Int32 → MW → Prop} {Q3 : Int32 → MW → Prop}  (kE : ∀ x0 x1, (∀ i : I, E1 i x0 x1) → E3 x0 x1) (kQ : ∀ x0 x1, (∀ i : I, Q1 i x0 x1) → Q3 x0 x1) : ∀ (m : Nat) (x257_5 : Int32) (x257_6 : Int32) (w : MW), (∀ i : I, q_Mo_find_257 x257_3 x257_4 (E1 i) (Q1 i) m x257_5 x257_6 w) → q_Mo_find_257 x257_3 x257_4 E3 Q3 m x257_5 x257_6 w := by
  intro m
  induction m with
  | zero => exact fun _ _ _ h => False.elim (h i0)
  | succ m ih =>
    intro x257_5 x257_6 w h
    have h := fun i => Eq.mp (q_Mo_find_257.eq_2 ..) (h i)
    refine Eq.mpr (q_Mo_find_257.eq_2 ..) ?_
    exact ⟨(fun h1 => (kE _ _ (fun i => ((h i).1 h1)))), (fun h2 => ⟨(fun h3 => (kE _ _ (fun i => (((h i).2 h2).1 h3)))), (fun h4 => ⟨(fun h5 => (kE _ _ (fun i => ((((h i).2 h2).2 h4).1 h5)))), (fun h6 => ⟨((((h i0).2 h2).2 h4).2 h6).1, ⟨(fun h7 => (ih _ _ _ (fun i => (((((h i).2 h2).2 h4).2 h6).2.1 h7)))), (fun h8 => ⟨(((((h i0).2 h2).2 h4).2 h6).2.2 h8).1, ⟨(((((h i0).2 h2).2 h4).2 h6).2.2 h8).2.1, ⟨(fun h9 => (ih _ _ _ (fun i => ((((((h i).2 h2).2 h4).2 h6).2.2 h8).2.2.1 h9)))), (fun h10 => (al_p_Mo_needOf i0 (fun i => ((((((h i).2 h2).2 h4).2 h6).2.2 h8).2.2.2 h10)) (fun _ _ h11 => ⟨(fun h12 => (ih _ _ _ (fun i => ((h11 i).1 h12)))), (fun h13 => (ih _ _ _ (fun i => ((h11 i).2 h13))))⟩)))⟩⟩⟩)⟩⟩)⟩)⟩)⟩
theorem al_q_Mo_find_209 {I : Type} (i0 : I)  {E1 : I → MW → Prop} {E3 : MW → Prop} {Q1 : I → Int32 → MW → Prop} {Q3 : Int32 → MW → Prop}  (kE : ∀ x0, (∀ i : I, E1 i x0) → E3 x0) (kQ : ∀ x0 x1, (∀ i : I, Q1 i x0 x1) → Q3 x0 x1) : ∀ (m : Nat) (x209_3 : Int32) (w : MW), (∀ i : I, q_Mo_find_209 (E1 i) (Q1 i) m x209_3 w) → q_Mo_find_209 E3 Q3 m x209_3 w := by
  intro m
  induction m with
  | zero => exact fun _ _ h => False.elim (h i0)
  | succ m ih =>
    intro x209_3 w h
    have h := fun i => Eq.mp (q_Mo_find_209.eq_2 ..) (h i)
    refine Eq.mpr (q_Mo_find_209.eq_2 ..) ?_
    exact ⟨(fun h1 => (kE _ (fun i => ((h i).1 h1)))), (fun h2 => ⟨((h i0).2 h2).1, ⟨((h i0).2 h2).2.1, ⟨((h i0).2 h2).2.2.1, (al_q_Mo_find_257 i0  (fun _ _ h3 => ⟨(fun h4 => (ih _ _ (fun i => ((h3 i).1 h4)))), (fun h5 => ⟨((h3 i0).2 h5).1, (al_p_Mo_needOf i0 (fun i => ((h3 i).2 h5).2) (fun _ _ h6 => ⟨(h6 i0).1, (ih _ _ (fun i => (h6 i).2))⟩))⟩)⟩) kQ _ _ _ _ (fun i => ((h i).2 h2).2.2.2))⟩⟩⟩)⟩
theorem al_q_Mo_find_18 {I : Type} (i0 : I) {x18_1 : Int32} {x18_2 : Int32} {x18_3 : Int32} {E1 : I → MW → Prop} {E3 : MW → Prop} {Q1 : I → Int32 → MW → Prop} {Q3 : Int32 → MW → Prop}  (kE : ∀ x0, (∀ i : I, E1 i x0) → E3 x0) (kQ : ∀ x0 x1, (∀ i : I, Q1 i x0 x1) → Q3 x0 x1) : ∀ (m : Nat) (x18_4 : Int32) (w : MW), (∀ i : I, q_Mo_find_18 x18_1 x18_2 x18_3 (E1 i) (Q1 i) m x18_4 w) → q_Mo_find_18 x18_1 x18_2 x18_3 E3 Q3 m x18_4 w := by
  intro m
  induction m with
  | zero => exact fun _ _ h => False.elim (h i0)
  | succ m ih =>
    intro x18_4 w h
    have h := fun i => Eq.mp (q_Mo_find_18.eq_2 ..) (h i)
    refine Eq.mpr (q_Mo_find_18.eq_2 ..) ?_
    exact ⟨(h i0).1, ⟨(fun h1 => (kE _ (fun i => ((h i).2.1 h1)))), (fun h2 => ⟨((h i0).2.2 h2).1, (ih _ _ (fun i => ((h i).2.2 h2).2))⟩)⟩⟩
theorem al_q_Mo_find_7 {I : Type} (i0 : I) {x7_1 : Int32} {x7_2 : Int32} {E1 : I → MW → Prop} {E3 : MW → Prop} {Q1 : I → Int32 → MW → Prop} {Q3 : Int32 → MW → Prop}  (kE : ∀ x0, (∀ i : I, E1 i x0) → E3 x0) (kQ : ∀ x0 x1, (∀ i : I, Q1 i x0 x1) → Q3 x0 x1) : ∀ (m : Nat) (x7_3 : Int32) (w : MW), (∀ i : I, q_Mo_find_7 x7_1 x7_2 (E1 i) (Q1 i) m x7_3 w) → q_Mo_find_7 x7_1 x7_2 E3 Q3 m x7_3 w := by
  intro m
  induction m with
  | zero => exact fun _ _ h => False.elim (h i0)
  | succ m ih =>
    intro x7_3 w h
    have h := fun i => Eq.mp (q_Mo_find_7.eq_2 ..) (h i)
    refine Eq.mpr (q_Mo_find_7.eq_2 ..) ?_
    exact ⟨(fun h1 => (kE _ (fun i => ((h i).1 h1)))), (fun h2 => (al_q_Mo_find_18 i0  (fun _ h3 => (ih _ _ (fun i => (h3 i)))) kQ _ _ _ (fun i => ((h i).2 h2))))⟩
theorem al_q_Mo_find_78 {I : Type} (i0 : I) {x78_1 : Int32} {E1 : I → MW → Prop} {E3 : MW → Prop} {Q1 : I → Int32 → MW → Prop} {Q3 : Int32 → MW → Prop}  (kE : ∀ x0, (∀ i : I, E1 i x0) → E3 x0) (kQ : ∀ x0 x1, (∀ i : I, Q1 i x0 x1) → Q3 x0 x1) : ∀ (m : Nat) (x78_3 : Int32) (w : MW), (∀ i : I, q_Mo_find_78 x78_1 (E1 i) (Q1 i) m x78_3 w) → q_Mo_find_78 x78_1 E3 Q3 m x78_3 w := by
  intro m
  induction m with
  | zero => exact fun _ _ h => False.elim (h i0)
  | succ m ih =>
    intro x78_3 w h
    have h := fun i => Eq.mp (q_Mo_find_78.eq_2 ..) (h i)
    refine Eq.mpr (q_Mo_find_78.eq_2 ..) ?_
    exact ⟨(fun h1 => (kE _ (fun i => ((h i).1 h1)))), (fun h2 => ⟨((h i0).2 h2).1, (ih _ _ (fun i => ((h i).2 h2).2))⟩)⟩
theorem al_p_Mo_find {I : Type} (i0 : I) {w : MW} {a0 : Int32} {b0 : Int32} {Q1 : I → Int32 → MW → Prop} {Q3 : Int32 → MW → Prop}  (h : ∀ i : I, p_Mo_find w a0 b0 (Q1 i)) (kQ : ∀ x0 x1, (∀ i : I, Q1 i x0 x1) → Q3 x0 x1) : p_Mo_find w a0 b0 Q3 := by
  have h := fun i => Eq.mp (p_Mo_find.eq_1 ..) (h i)
  refine Eq.mpr (p_Mo_find.eq_1 ..) ?_
  exact (al_q_Mo_find_7 i0  (fun _ h1 => (al_p_Mo_measure i0 (fun i => (h1 i)) (fun _ h2 => (al_q_Mo_find_78 i0  (fun _ h3 => (al_q_Mo_find_102 i0  (fun _ _ h4 => (al_q_Mo_find_209 i0  (fun _ h5 => ⟨(fun h6 => (kQ _ _ (fun i => ((h5 i).1 h6)))), (fun h7 => (kQ _ _ (fun i => ((h5 i).2 h7))))⟩) kQ _ _ _ (fun i => (h4 i)))) kQ _ _ _ _ (fun i => (h3 i)))) kQ _ _ _ (fun i => (h2 i)))))) kQ _ _ _ (fun i => (h i)))
theorem al_q_Mo_openWay_2 {I : Type} (i0 : I) {x2_1 : Int32} {x2_2 : Int32} {E1 : I → MW → Prop} {E3 : MW → Prop} {Q1 : I → Int32 → MW → Prop} {Q3 : Int32 → MW → Prop}  (kE : ∀ x0, (∀ i : I, E1 i x0) → E3 x0) (kQ : ∀ x0 x1, (∀ i : I, Q1 i x0 x1) → Q3 x0 x1) : ∀ (m : Nat) (x2_3 : Int32) (w : MW), (∀ i : I, q_Mo_openWay_2 x2_1 x2_2 (E1 i) (Q1 i) m x2_3 w) → q_Mo_openWay_2 x2_1 x2_2 E3 Q3 m x2_3 w := by
  intro m
  induction m with
  | zero => exact fun _ _ h => False.elim (h i0)
  | succ m ih =>
    intro x2_3 w h
    have h := fun i => Eq.mp (q_Mo_openWay_2.eq_2 ..) (h i)
    refine Eq.mpr (q_Mo_openWay_2.eq_2 ..) ?_
    exact ⟨(fun h1 => (kE _ (fun i => ((h i).1 h1)))), (fun h2 => ⟨((h i0).2 h2).1, ⟨(fun h3 => (ih _ _ (fun i => (((h i).2 h2).2.1 h3)))), (fun h4 => ⟨(((h i0).2 h2).2.2 h4).1, ⟨(fun h5 => (ih _ _ (fun i => ((((h i).2 h2).2.2 h4).2.1 h5)))), (fun h6 => (kQ _ _ (fun i => ((((h i).2 h2).2.2 h4).2.2 h6))))⟩⟩)⟩⟩)⟩
theorem al_p_Mo_openWay {I : Type} (i0 : I) {w : MW} {a0 : Int32} {b0 : Int32} {Q1 : I → Int32 → MW → Prop} {Q3 : Int32 → MW → Prop}  (h : ∀ i : I, p_Mo_openWay w a0 b0 (Q1 i)) (kQ : ∀ x0 x1, (∀ i : I, Q1 i x0 x1) → Q3 x0 x1) : p_Mo_openWay w a0 b0 Q3 := by
  have h := fun i => Eq.mp (p_Mo_openWay.eq_1 ..) (h i)
  refine Eq.mpr (p_Mo_openWay.eq_1 ..) ?_
  exact (al_q_Mo_openWay_2 i0  (fun _ h1 => (kQ _ _ (fun i => (h1 i)))) kQ _ _ _ (fun i => (h i)))
theorem al_q_Mo_open_127 {I : Type} (i0 : I) {x127_1 : Int32} {x127_2 : Int32} {x127_3 : Int32} {x127_4 : Int32} {E1 : I → MW → Prop} {E3 : MW → Prop} {Q1 : I → Int32 → MW → Prop} {Q3 : Int32 → MW → Prop}  (kE : ∀ x0, (∀ i : I, E1 i x0) → E3 x0) (kQ : ∀ x0 x1, (∀ i : I, Q1 i x0 x1) → Q3 x0 x1) : ∀ (m : Nat) (x127_6 : Int32) (w : MW), (∀ i : I, q_Mo_open_127 x127_1 x127_2 x127_3 x127_4 (E1 i) (Q1 i) m x127_6 w) → q_Mo_open_127 x127_1 x127_2 x127_3 x127_4 E3 Q3 m x127_6 w := by
  intro m
  induction m with
  | zero => exact fun _ _ h => False.elim (h i0)
  | succ m ih =>
    intro x127_6 w h
    have h := fun i => Eq.mp (q_Mo_open_127.eq_2 ..) (h i)
    refine Eq.mpr (q_Mo_open_127.eq_2 ..) ?_
    exact ⟨(fun h1 => (kE _ (fun i => ((h i).1 h1)))), (fun h2 => ⟨((h i0).2 h2).1, ⟨((h i0).2 h2).2.1, (ih _ _ (fun i => ((h i).2 h2).2.2))⟩⟩)⟩
theorem al_q_Mo_open_166 {I : Type} (i0 : I) {x166_1 : Int32} {x166_2 : Int32} {x166_3 : Int32} {x166_4 : Int32} {E1 : I → MW → Prop} {E3 : MW → Prop} {Q1 : I → Int32 → MW → Prop} {Q3 : Int32 → MW → Prop}  (kE : ∀ x0, (∀ i : I, E1 i x0) → E3 x0) (kQ : ∀ x0 x1, (∀ i : I, Q1 i x0 x1) → Q3 x0 x1) : ∀ (m : Nat) (x166_6 : Int32) (w : MW), (∀ i : I, q_Mo_open_166 x166_1 x166_2 x166_3 x166_4 (E1 i) (Q1 i) m x166_6 w) → q_Mo_open_166 x166_1 x166_2 x166_3 x166_4 E3 Q3 m x166_6 w := by
  intro m
  induction m with
  | zero => exact fun _ _ h => False.elim (h i0)
  | succ m ih =>
    intro x166_6 w h
    have h := fun i => Eq.mp (q_Mo_open_166.eq_2 ..) (h i)
    refine Eq.mpr (q_Mo_open_166.eq_2 ..) ?_
    exact ⟨(fun h1 => (kE _ (fun i => ((h i).1 h1)))), (fun h2 => ⟨((h i0).2 h2).1, ⟨((h i0).2 h2).2.1, ⟨((h i0).2 h2).2.2.1, ⟨(fun h3 => ⟨(((h i0).2 h2).2.2.2.1 h3).1, ⟨(((h i0).2 h2).2.2.2.1 h3).2.1, (ih _ _ (fun i => (((h i).2 h2).2.2.2.1 h3).2.2))⟩⟩), (fun h4 => ⟨(((h i0).2 h2).2.2.2.2 h4).1, ⟨(fun h5 => ⟨((((h i0).2 h2).2.2.2.2 h4).2.1 h5).1, ⟨((((h i0).2 h2).2.2.2.2 h4).2.1 h5).2.1, (ih _ _ (fun i => ((((h i).2 h2).2.2.2.2 h4).2.1 h5).2.2))⟩⟩), (fun h6 => ⟨((((h i0).2 h2).2.2.2.2 h4).2.2 h6).1, ⟨((((h i0).2 h2).2.2.2.2 h4).2.2 h6).2.1, (ih _ _ (fun i => ((((h i).2 h2).2.2.2.2 h4).2.2 h6).2.2))⟩⟩)⟩⟩)⟩⟩⟩⟩)⟩
theorem al_q_Mo_open_251 {I : Type} (i0 : I)  {E1 : I → MW → Prop} {E3 : MW → Prop} {Q1 : I → Int32 → MW → Prop} {Q3 : Int32 → MW → Prop}  (kE : ∀ x0, (∀ i : I, E1 i x0) → E3 x0) (kQ : ∀ x0 x1, (∀ i : I, Q1 i x0 x1) → Q3 x0 x1) : ∀ (m : Nat) (x251_6 : Int32) (w : MW), (∀ i : I, q_Mo_open_251 (E1 i) (Q1 i) m x251_6 w) → q_Mo_open_251 E3 Q3 m x251_6 w := by
  intro m
  induction m with
  | zero => exact fun _ _ h => False.elim (h i0)
  | succ m ih =>
    intro x251_6 w h
    have h := fun i => Eq.mp (q_Mo_open_251.eq_2 ..) (h i)
    refine Eq.mpr (q_Mo_open_251.eq_2 ..) ?_
    exact ⟨(fun h1 => (kE _ (fun i => ((h i).1 h1)))), (fun h2 => ⟨((h i0).2 h2).1, ⟨((h i0).2 h2).2.1, (ih _ _ (fun i => ((h i).2 h2).2.2))⟩⟩)⟩
theorem al_q_Mo_open_340 {I : Type} (i0 : I)  {E1 : I → MW → Prop} {E3 : MW → Prop} {Q1 : I → Int32 → MW → Prop} {Q3 : Int32 → MW → Prop}  (kE : ∀ x0, (∀ i : I, E1 i x0) → E3 x0) (kQ : ∀ x0 x1, (∀ i : I, Q1 i x0 x1) → Q3 x0 x1) : ∀ (m : Nat) (x340_6 : Int32) (w : MW), (∀ i : I, q_Mo_open_340 (E1 i) (Q1 i) m x340_6 w) → q_Mo_open_340 E3 Q3 m x340_6 w := by
  intro m
  induction m with
  | zero => exact fun _ _ h => False.elim (h i0)
  | succ m ih =>
    intro x340_6 w h
    have h := fun i => Eq.mp (q_Mo_open_340.eq_2 ..) (h i)
    refine Eq.mpr (q_Mo_open_340.eq_2 ..) ?_
    exact ⟨(fun h1 => (kE _ (fun i => ((h i).1 h1)))), (fun h2 => ⟨((h i0).2 h2).1, ⟨((h i0).2 h2).2.1, (ih _ _ (fun i => ((h i).2 h2).2.2))⟩⟩)⟩
theorem al_q_Mo_open_380 {I : Type} (i0 : I)  {E1 : I → MW → Prop} {E3 : MW → Prop} {Q1 : I → Int32 → MW → Prop} {Q3 : Int32 → MW → Prop}  (kE : ∀ x0, (∀ i : I, E1 i x0) → E3 x0) (kQ : ∀ x0 x1, (∀ i : I, Q1 i x0 x1) → Q3 x0 x1) : ∀ (m : Nat) (x380_6 : Int32) (w : MW), (∀ i : I, q_Mo_open_380 (E1 i) (Q1 i) m x380_6 w) → q_Mo_open_380 E3 Q3 m x380_6 w := by
  intro m
  induction m with
  | zero => exact fun _ _ h => False.elim (h i0)
  | succ m ih =>
    intro x380_6 w h
    have h := fun i => Eq.mp (q_Mo_open_380.eq_2 ..) (h i)
    refine Eq.mpr (q_Mo_open_380.eq_2 ..) ?_
    exact ⟨(fun h1 => (kE _ (fun i => ((h i).1 h1)))), (fun h2 => ⟨(fun h3 => ⟨(((h i0).2 h2).1 h3).1, (ih _ _ (fun i => (((h i).2 h2).1 h3).2))⟩), (fun h4 => ⟨(((h i0).2 h2).2 h4).1, ⟨(((h i0).2 h2).2 h4).2.1, (ih _ _ (fun i => (((h i).2 h2).2 h4).2.2))⟩⟩)⟩)⟩
theorem al_q_Mo_open_54 {I : Type} (i0 : I) {x54_1 : Int32} {x54_2 : Int32} {x54_3 : Int32} {x54_4 : Int32} {E1 : I → Int32 → MW → Prop} {E3 : Int32 → MW → Prop} {Q1 : I → Int32 → MW → Prop} {Q3 : Int32 → MW → Prop}  (kE : ∀ x0 x1, (∀ i : I, E1 i x0 x1) → E3 x0 x1) (kQ : ∀ x0 x1, (∀ i : I, Q1 i x0 x1) → Q3 x0 x1) : ∀ (m : Nat) (x54_5 : Int32) (x54_6 : Int32) (w : MW), (∀ i : I, q_Mo_open_54 x54_1 x54_2 x54_3 x54_4 (E1 i) (Q1 i) m x54_5 x54_6 w) → q_Mo_open_54 x54_1 x54_2 x54_3 x54_4 E3 Q3 m x54_5 x54_6 w := by
  intro m
  induction m with
  | zero => exact fun _ _ _ h => False.elim (h i0)
  | succ m ih =>
    intro x54_5 x54_6 w h
    have h := fun i => Eq.mp (q_Mo_open_54.eq_2 ..) (h i)
    refine Eq.mpr (q_Mo_open_54.eq_2 ..) ?_
    exact ⟨(fun h1 => (kE _ _ (fun i => ((h i).1 h1)))), (fun h2 => ⟨(fun h3 => (ih _ _ _ (fun i => (((h i).2 h2).1 h3)))), (fun h4 => ⟨(((h i0).2 h2).2 h4).1, (al_p_Mo_mayCome i0 (fun i => (((h i).2 h2).2 h4).2) (fun _ _ h5 => ⟨(fun h6 => (ih _ _ _ (fun i => ((h5 i).1 h6)))), (fun h7 => (ih _ _ _ (fun i => ((h5 i).2 h7))))⟩))⟩)⟩)⟩
theorem al_p_Mo_open {I : Type} (i0 : I) {w : MW} {a0 : Int32} {b0 : Int32} {c0 : Int32} {Q1 : I → Int32 → MW → Prop} {Q3 : Int32 → MW → Prop}  (h : ∀ i : I, p_Mo_open w a0 b0 c0 (Q1 i)) (kQ : ∀ x0 x1, (∀ i : I, Q1 i x0 x1) → Q3 x0 x1) : p_Mo_open w a0 b0 c0 Q3 := by
  have h := fun i => Eq.mp (p_Mo_open.eq_1 ..) (h i)
  refine Eq.mpr (p_Mo_open.eq_1 ..) ?_
  exact (al_p_Mo_openWay i0 (fun i => (h i)) (fun _ _ h1 => ⟨(fun h2 => ⟨((h1 i0).1 h2).1, ⟨(fun h3 => (al_p_Mo_find i0 (fun i => (((h1 i).1 h2).2.1 h3)) (fun _ _ h4 => ⟨(fun h5 => ⟨((h4 i0).1 h5).1, (al_p_Mo_mayCome i0 (fun i => ((h4 i).1 h5).2) (fun _ _ h6 => (al_q_Mo_open_54 i0  (fun _ _ h7 => ⟨(fun h8 => (al_p_Mo_look i0 (fun i => ((h7 i).1 h8)) (fun _ h9 => ⟨(h9 i0).1, (al_q_Mo_open_127 i0  (fun _ h10 => (al_q_Mo_open_166 i0  (fun _ h11 => (al_p_Mo_isSafe i0 (fun i => (h11 i)) (fun _ _ h12 => ⟨(fun h13 => ⟨((h12 i0).1 h13).1, ⟨((h12 i0).1 h13).2.1, ⟨((h12 i0).1 h13).2.2.1, ⟨((h12 i0).1 h13).2.2.2.1, ⟨((h12 i0).1 h13).2.2.2.2.1, (al_q_Mo_open_340 i0  (fun _ h14 => (al_q_Mo_open_380 i0  (fun _ h15 => (kQ _ _ (fun i => (h15 i)))) kQ _ _ _ (fun i => (h14 i)))) kQ _ _ _ (fun i => ((h12 i).1 h13).2.2.2.2.2))⟩⟩⟩⟩⟩), (fun h16 => (al_q_Mo_open_251 i0  (fun _ h17 => (kQ _ _ (fun i => (h17 i)))) kQ _ _ _ (fun i => ((h12 i).2 h16))))⟩))) kQ _ _ _ (fun i => (h10 i)))) kQ _ _ _ (fun i => (h9 i).2))⟩))), (fun h18 => (kQ _ _ (fun i => ((h7 i).2 h18))))⟩) kQ _ _ _ _ (fun i => (h6 i)))))⟩), (fun h19 => (kQ _ _ (fun i => ((h4 i).2 h19))))⟩))), (fun h20 => (kQ _ _ (fun i => (((h1 i).1 h2).2.2 h20))))⟩⟩), (fun h21 => (kQ _ _ (fun i => ((h1 i).2 h21))))⟩))
theorem al_pb_Mr_value {I : Type} (i0 : I) {r_Mr_value : MW → Int32 → (Int32 → MW → Prop) → Prop} {w : MW} {a0 : Int32} {Q1 : I → Int32 → MW → Prop} {Q3 : Int32 → MW → Prop} (ir_Mr_value : ∀ {z0 : MW} {z1 : Int32} {R1 : I → Int32 → MW → Prop} {R3 : Int32 → MW → Prop}, (∀ i : I, r_Mr_value z0 z1 (R1 i)) → (∀ y0 y1, (∀ i : I, R1 i y0 y1) → R3 y0 y1) → r_Mr_value z0 z1 R3) (h : ∀ i : I, pb_Mr_value r_Mr_value w a0 (Q1 i)) (kQ : ∀ x0 x1, (∀ i : I, Q1 i x0 x1) → Q3 x0 x1) : pb_Mr_value r_Mr_value w a0 Q3 := by
  have h := fun i => Eq.mp (pb_Mr_value.eq_1 ..) (h i)
  refine Eq.mpr (pb_Mr_value.eq_1 ..) ?_
  exact ⟨(h i0).1, ⟨(fun h1 => ⟨((h i0).2.1 h1).1, (ir_Mr_value (fun i => ((h i).2.1 h1).2) (fun _ _ h2 => ⟨(fun h3 => (kQ _ _ (fun i => ((h2 i).1 h3)))), (fun h4 => (kQ _ _ (fun i => ((h2 i).2 h4))))⟩))⟩), (fun h5 => ⟨(fun h6 => ⟨(((h i0).2.2 h5).1 h6).1, (ir_Mr_value (fun i => (((h i).2.2 h5).1 h6).2) (fun _ _ h7 => ⟨(fun h8 => (kQ _ _ (fun i => ((h7 i).1 h8)))), (fun h9 => ⟨((h7 i0).2 h9).1, (ir_Mr_value (fun i => ((h7 i).2 h9).2) (fun _ _ h10 => ⟨(fun h11 => (kQ _ _ (fun i => ((h10 i).1 h11)))), (fun h12 => (kQ _ _ (fun i => ((h10 i).2 h12))))⟩))⟩)⟩))⟩), (fun h13 => ⟨(fun h14 => ⟨((((h i0).2.2 h5).2 h13).1 h14).1, (ir_Mr_value (fun i => ((((h i).2.2 h5).2 h13).1 h14).2) (fun _ _ h15 => ⟨(fun h16 => (kQ _ _ (fun i => ((h15 i).1 h16)))), (fun h17 => ⟨((h15 i0).2 h17).1, (ir_Mr_value (fun i => ((h15 i).2 h17).2) (fun _ _ h18 => ⟨(fun h19 => (kQ _ _ (fun i => ((h18 i).1 h19)))), (fun h20 => (kQ _ _ (fun i => ((h18 i).2 h20))))⟩))⟩)⟩))⟩), (fun h21 => ⟨((((h i0).2.2 h5).2 h13).2 h21).1, ⟨(fun h22 => (kQ _ _ (fun i => (((((h i).2.2 h5).2 h13).2 h21).2.1 h22)))), (fun h23 => (kQ _ _ (fun i => (((((h i).2.2 h5).2 h13).2 h21).2.2 h23))))⟩⟩)⟩)⟩)⟩⟩
theorem alg_Mr_value {I : Type} (i0 : I) : ∀ n : Nat, (∀ (w : MW) (a0 : Int32) (R1 : I → Int32 → MW → Prop) (R3 : Int32 → MW → Prop), (∀ i : I, pn_Mr_value n w a0 (R1 i)) → (∀ y0 y1, (∀ i : I, R1 i y0 y1) → R3 y0 y1) → pn_Mr_value n w a0 R3) := by
  intro n
  induction n with
  | zero =>
    exact fun _ _ _ _ h _ => False.elim (h i0)
  | succ n ih =>
    have i_Mr_value := ih
    exact fun v0 v1 _ _ h k => by
      have h := fun i => Eq.mp (pe_Mr_value ..) (h i)
      refine Eq.mpr (pe_Mr_value ..) ?_
      exact al_pb_Mr_value i0 (fun h k => i_Mr_value _ _ _ _ h k) h k
theorem al_pn_Mr_value {I : Type} (i0 : I) (n : Nat) {w : MW} {a0 : Int32} {Q1 : I → Int32 → MW → Prop} {Q3 : Int32 → MW → Prop} (h : ∀ i : I, pn_Mr_value n w a0 (Q1 i)) (kQ : ∀ x0 x1, (∀ i : I, Q1 i x0 x1) → Q3 x0 x1) : pn_Mr_value n w a0 Q3 := (alg_Mr_value i0 n) _ _ _ _ h kQ
theorem al_p_Mr_value {I : Type} (i0 : I) {w : MW} {a0 : Int32} {Q1 : I → Int32 → MW → Prop} {Q3 : Int32 → MW → Prop} (h : ∀ i : I, p_Mr_value w a0 (Q1 i)) (kQ : ∀ x0 x1, (∀ i : I, Q1 i x0 x1) → Q3 x0 x1) : p_Mr_value w a0 Q3 := al_pn_Mr_value i0 _ h kQ
theorem al_p_Mr_isOn {I : Type} (i0 : I) {w : MW} {a0 : Int32} {Q1 : I → Int32 → MW → Prop} {Q3 : Int32 → MW → Prop}  (h : ∀ i : I, p_Mr_isOn w a0 (Q1 i)) (kQ : ∀ x0 x1, (∀ i : I, Q1 i x0 x1) → Q3 x0 x1) : p_Mr_isOn w a0 Q3 := by
  have h := fun i => Eq.mp (p_Mr_isOn.eq_1 ..) (h i)
  refine Eq.mpr (p_Mr_isOn.eq_1 ..) ?_
  exact ⟨(h i0).1, (al_p_Mr_value i0 (fun i => (h i).2) (fun _ _ h1 => (kQ _ _ (fun i => (h1 i)))))⟩
theorem al_q_Mr_hasAct_16 {I : Type} (i0 : I) {x16_2 : Int32} {x16_3 : Int32} {E1 : I → Int32 → MW → Prop} {E3 : Int32 → MW → Prop} {Q1 : I → Int32 → MW → Prop} {Q3 : Int32 → MW → Prop}  (kE : ∀ x0 x1, (∀ i : I, E1 i x0 x1) → E3 x0 x1) (kQ : ∀ x0 x1, (∀ i : I, Q1 i x0 x1) → Q3 x0 x1) : ∀ (m : Nat) (x16_4 : Int32) (x16_5 : Int32) (w : MW), (∀ i : I, q_Mr_hasAct_16 x16_2 x16_3 (E1 i) (Q1 i) m x16_4 x16_5 w) → q_Mr_hasAct_16 x16_2 x16_3 E3 Q3 m x16_4 x16_5 w := by
  intro m
  induction m with
  | zero => exact fun _ _ _ h => False.elim (h i0)
  | succ m ih =>
    intro x16_4 x16_5 w h
    have h := fun i => Eq.mp (q_Mr_hasAct_16.eq_2 ..) (h i)
    refine Eq.mpr (q_Mr_hasAct_16.eq_2 ..) ?_
    exact ⟨(h i0).1, ⟨(fun h1 => (kE _ _ (fun i => ((h i).2.1 h1)))), (fun h2 => ⟨(fun h3 => (ih _ _ _ (fun i => (((h i).2.2 h2).1 h3)))), (fun h4 => ⟨(((h i0).2.2 h2).2 h4).1, ⟨(fun h5 => (ih _ _ _ (fun i => ((((h i).2.2 h2).2 h4).2.1 h5)))), (fun h6 => (ih _ _ _ (fun i => ((((h i).2.2 h2).2 h4).2.2 h6))))⟩⟩)⟩)⟩⟩
theorem al_p_Mr_hasAct {I : Type} (i0 : I) {w : MW} {a0 : Int32} {b0 : Int32} {Q1 : I → Int32 → MW → Prop} {Q3 : Int32 → MW → Prop}  (h : ∀ i : I, p_Mr_hasAct w a0 b0 (Q1 i)) (kQ : ∀ x0 x1, (∀ i : I, Q1 i x0 x1) → Q3 x0 x1) : p_Mr_hasAct w a0 b0 Q3 := by
  have h := fun i => Eq.mp (p_Mr_hasAct.eq_1 ..) (h i)
  refine Eq.mpr (p_Mr_hasAct.eq_1 ..) ?_
  exact (al_q_Mr_hasAct_16 i0  (fun _ _ h1 => ⟨(h1 i0).1, (kQ _ _ (fun i => (h1 i).2))⟩) kQ _ _ _ _ (fun i => (h i)))
theorem al_q_Mr_act1_76 {I : Type} (i0 : I) {x14_1 : Int32} {y76_2 : Int32} {ys76_0 : Int32} {w : MW} {A1 : I → Int32 → MW → Prop} {A3 : Int32 → MW → Prop} {E1 : I → MW → Prop} {E3 : MW → Prop} {Q1 : I → Int32 → MW → Prop} {Q3 : Int32 → MW → Prop}  (kA : ∀ x0 x1, (∀ i : I, A1 i x0 x1) → A3 x0 x1) (kE : ∀ x0, (∀ i : I, E1 i x0) → E3 x0) (kQ : ∀ x0 x1, (∀ i : I, Q1 i x0 x1) → Q3 x0 x1) (h : ∀ i : I, q_Mr_act1_76 x14_1 y76_2 ys76_0 w (A1 i) (E1 i) (Q1 i)) : q_Mr_act1_76 x14_1 y76_2 ys76_0 w A3 E3 Q3 := by
  have h := fun i => Eq.mp (q_Mr_act1_76.eq_1 ..) (h i)
  refine Eq.mpr (q_Mr_act1_76.eq_1 ..) ?_
  exact ⟨(fun h1 => (kA _ _ (fun i => ((h i).1 h1)))), (fun h2 => (al_p_Mr_hasAct i0 (fun i => ((h i).2 h2)) (fun _ _ h3 => ⟨(fun h4 => (kA _ _ (fun i => ((h3 i).1 h4)))), (fun h5 => (kQ _ _ (fun i => ((h3 i).2 h5))))⟩)))⟩
theorem al_q_Mr_act1_14 {I : Type} (i0 : I) {x14_1 : Int32} {E1 : I → MW → Prop} {E3 : MW → Prop} {Q1 : I → Int32 → MW → Prop} {Q3 : Int32 → MW → Prop}  (kE : ∀ x0, (∀ i : I, E1 i x0) → E3 x0) (kQ : ∀ x0 x1, (∀ i : I, Q1 i x0 x1) → Q3 x0 x1) : ∀ (m : Nat) (x14_2 : Int32) (w : MW), (∀ i : I, q_Mr_act1_14 x14_1 (E1 i) (Q1 i) m x14_2 w) → q_Mr_act1_14 x14_1 E3 Q3 m x14_2 w := by
  intro m
  induction m with
  | zero => exact fun _ _ h => False.elim (h i0)
  | succ m ih =>
    intro x14_2 w h
    have h := fun i => Eq.mp (q_Mr_act1_14.eq_2 ..) (h i)
    refine Eq.mpr (q_Mr_act1_14.eq_2 ..) ?_
    exact ⟨(fun h1 => (kE _ (fun i => ((h i).1 h1)))), (fun h2 => ⟨((h i0).2 h2).1, ⟨(fun h3 => (al_q_Mr_act1_76 i0  (fun _ _ h4 => (ih _ _ (fun i => (h4 i)))) kE kQ (fun i => (((h i).2 h2).2.1 h3)))), (fun h5 => ⟨(((h i0).2 h2).2.2 h5).1, ⟨(fun h6 => (al_q_Mr_act1_76 i0  (fun _ _ h7 => (ih _ _ (fun i => (h7 i)))) kE kQ (fun i => ((((h i).2 h2).2.2 h5).2.1 h6)))), (fun h8 => (al_p_Mr_isOn i0 (fun i => ((((h i).2 h2).2.2 h5).2.2 h8)) (fun _ _ h9 => ⟨(fun h10 => (al_q_Mr_act1_76 i0  (fun _ _ h11 => (ih _ _ (fun i => (h11 i)))) kE kQ (fun i => ((h9 i).1 h10)))), (fun h12 => ⟨((h9 i0).2 h12).1, ⟨((h9 i0).2 h12).2.1, ⟨(fun h13 => (al_q_Mr_act1_76 i0  (fun _ _ h14 => (ih _ _ (fun i => (h14 i)))) kE kQ (fun i => (((h9 i).2 h12).2.2.1 h13)))), (fun h15 => (al_q_Mr_act1_76 i0  (fun _ _ h16 => (ih _ _ (fun i => (h16 i)))) kE kQ (fun i => (((h9 i).2 h12).2.2.2 h15))))⟩⟩⟩)⟩)))⟩⟩)⟩⟩)⟩
theorem al_p_Mr_act1 {I : Type} (i0 : I) {w : MW} {a0 : Int32} {Q1 : I → Int32 → MW → Prop} {Q3 : Int32 → MW → Prop}  (h : ∀ i : I, p_Mr_act1 w a0 (Q1 i)) (kQ : ∀ x0 x1, (∀ i : I, Q1 i x0 x1) → Q3 x0 x1) : p_Mr_act1 w a0 Q3 := by
  have h := fun i => Eq.mp (p_Mr_act1.eq_1 ..) (h i)
  refine Eq.mpr (p_Mr_act1.eq_1 ..) ?_
  exact ⟨(fun h1 => (kQ _ _ (fun i => ((h i).1 h1)))), (fun h2 => ⟨(fun h3 => (al_q_Mr_act1_14 i0  (fun _ h4 => (kQ _ _ (fun i => (h4 i)))) kQ _ _ _ (fun i => (((h i).2 h2).1 h3)))), (fun h5 => (kQ _ _ (fun i => (((h i).2 h2).2 h5))))⟩)⟩
theorem al_q_Mo_perform_296 {I : Type} (i0 : I) {x296_2 : Int32} {E1 : I → MW → Prop} {E3 : MW → Prop} {Q1 : I → Int32 → MW → Prop} {Q3 : Int32 → MW → Prop}  (kE : ∀ x0, (∀ i : I, E1 i x0) → E3 x0) (kQ : ∀ x0 x1, (∀ i : I, Q1 i x0 x1) → Q3 x0 x1) : ∀ (m : Nat) (x296_6 : Int32) (w : MW), (∀ i : I, q_Mo_perform_296 x296_2 (E1 i) (Q1 i) m x296_6 w) → q_Mo_perform_296 x296_2 E3 Q3 m x296_6 w := by
  intro m
  induction m with
  | zero => exact fun _ _ h => False.elim (h i0)
  | succ m ih =>
    intro x296_6 w h
    have h := fun i => Eq.mp (q_Mo_perform_296.eq_2 ..) (h i)
    refine Eq.mpr (q_Mo_perform_296.eq_2 ..) ?_
    exact ⟨(fun h1 => (kE _ (fun i => ((h i).1 h1)))), (fun h2 => ⟨((h i0).2 h2).1, (ih _ _ (fun i => ((h i).2 h2).2))⟩)⟩
theorem al_q_Mo_perform_245 {I : Type} (i0 : I) {y245_2 : Int32} {y245_3 : Int32} {y245_4 : Int32} {w : MW} {Q1 : I → Int32 → MW → Prop} {Q3 : Int32 → MW → Prop}  (kQ : ∀ x0 x1, (∀ i : I, Q1 i x0 x1) → Q3 x0 x1) (h : ∀ i : I, q_Mo_perform_245 y245_2 y245_3 y245_4 w (Q1 i)) : q_Mo_perform_245 y245_2 y245_3 y245_4 w Q3 := by
  have h := fun i => Eq.mp (q_Mo_perform_245.eq_1 ..) (h i)
  refine Eq.mpr (q_Mo_perform_245.eq_1 ..) ?_
  exact ⟨(fun h1 => ⟨(fun h2 => (al_q_Mo_perform_296 i0  (fun _ h3 => (kQ _ _ (fun i => (h3 i)))) kQ _ _ _ (fun i => (((h i).1 h1).1 h2)))), (fun h4 => ⟨(((h i0).1 h1).2 h4).1, ⟨(((h i0).1 h1).2 h4).2.1, (kQ _ _ (fun i => (((h i).1 h1).2 h4).2.2))⟩⟩)⟩), (fun h5 => ⟨((h i0).2 h5).1, (kQ _ _ (fun i => ((h i).2 h5).2))⟩)⟩
theorem al_q_Mo_perform_95 {I : Type} (i0 : I) {y95_1 : Int32} {y95_2 : Int32} {y95_3 : Int32} {y95_4 : Int32} {ys95_0 : Int32} {w : MW} {Q1 : I → Int32 → MW → Prop} {Q3 : Int32 → MW → Prop}  (kQ : ∀ x0 x1, (∀ i : I, Q1 i x0 x1) → Q3 x0 x1) (h : ∀ i : I, q_Mo_perform_95 y95_1 y95_2 y95_3 y95_4 ys95_0 w (Q1 i)) : q_Mo_perform_95 y95_1 y95_2 y95_3 y95_4 ys95_0 w Q3 := by
  have h := fun i => Eq.mp (q_Mo_perform_95.eq_1 ..) (h i)
  refine Eq.mpr (q_Mo_perform_95.eq_1 ..) ?_
  exact ⟨(fun h1 => (al_p_Mr_act1 i0 (fun i => ((h i).1 h1)) (fun _ _ h2 => ⟨(fun h3 => ⟨(fun h4 => ⟨(fun h5 => ⟨(fun h6 => (al_p_Mo_isOnWay i0 (fun i => (((((h2 i).1 h3).1 h4).1 h5).1 h6)) (fun _ _ h7 => ⟨(fun h8 => (kQ _ _ (fun i => ((h7 i).1 h8)))), (fun h9 => ⟨(fun h10 => (al_q_Mo_perform_245 i0  kQ (fun i => (((h7 i).2 h9).1 h10)))), (fun h11 => (al_p_Mo_liquidIn i0 (fun i => (((h7 i).2 h9).2 h11)) (fun _ _ h12 => ⟨(fun h13 => (al_q_Mo_perform_245 i0  kQ (fun i => ((h12 i).1 h13)))), (fun h14 => (kQ _ _ (fun i => ((h12 i).2 h14))))⟩)))⟩)⟩))), (fun h15 => (al_p_Mo_held i0 (fun i => (((((h2 i).1 h3).1 h4).1 h5).2 h15)) (fun _ _ h16 => ⟨(fun h17 => ⟨((h16 i0).1 h17).1, ⟨((h16 i0).1 h17).2.1, (al_p_Mo_look i0 (fun i => ((h16 i).1 h17).2.2) (fun _ h18 => (al_p_Mo_isSafe i0 (fun i => (h18 i)) (fun _ _ h19 => ⟨(fun h20 => (kQ _ _ (fun i => ((h19 i).1 h20)))), (fun h21 => ⟨((h19 i0).2 h21).1, (kQ _ _ (fun i => ((h19 i).2 h21).2))⟩)⟩))))⟩⟩), (fun h22 => (kQ _ _ (fun i => ((h16 i).2 h22))))⟩)))⟩), (fun h23 => (al_p_Mo_openWay i0 (fun i => ((((h2 i).1 h3).1 h4).2 h23)) (fun _ _ h24 => ⟨(fun h25 => (al_p_Mo_close i0 (fun i => ((h24 i).1 h25)) (fun _ h26 => (kQ _ _ (fun i => (h26 i)))))), (fun h27 => (kQ _ _ (fun i => ((h24 i).2 h27))))⟩)))⟩), (fun h28 => ⟨(((h2 i0).1 h3).2 h28).1, (al_p_Mo_open i0 (fun i => (((h2 i).1 h3).2 h28).2) (fun _ _ h29 => (kQ _ _ (fun i => (h29 i)))))⟩)⟩), (fun h30 => (kQ _ _ (fun i => ((h2 i).2 h30))))⟩))), (fun h31 => (kQ _ _ (fun i => ((h i).2 h31))))⟩
theorem al_q_Mo_perform_33 {I : Type} (i0 : I) {y33_1 : Int32} {y33_2 : Int32} {y33_3 : Int32} {y33_4 : Int32} {w : MW} {Q1 : I → Int32 → MW → Prop} {Q3 : Int32 → MW → Prop}  (kQ : ∀ x0 x1, (∀ i : I, Q1 i x0 x1) → Q3 x0 x1) (h : ∀ i : I, q_Mo_perform_33 y33_1 y33_2 y33_3 y33_4 w (Q1 i)) : q_Mo_perform_33 y33_1 y33_2 y33_3 y33_4 w Q3 := by
  have h := fun i => Eq.mp (q_Mo_perform_33.eq_1 ..) (h i)
  refine Eq.mpr (q_Mo_perform_33.eq_1 ..) ?_
  exact (al_p_Mo_isTank i0 (fun i => (h i)) (fun _ _ h1 => ⟨(fun h2 => (al_q_Mo_perform_95 i0  kQ (fun i => ((h1 i).1 h2)))), (fun h3 => (al_p_Mo_isTank i0 (fun i => ((h1 i).2 h3)) (fun _ _ h4 => ⟨(fun h5 => (al_q_Mo_perform_95 i0  kQ (fun i => ((h4 i).1 h5)))), (fun h6 => ⟨(fun h7 => (al_q_Mo_perform_95 i0  kQ (fun i => (((h4 i).2 h6).1 h7)))), (fun h8 => (al_q_Mo_perform_95 i0  kQ (fun i => (((h4 i).2 h6).2 h8))))⟩)⟩)))⟩))
theorem al_p_Mo_perform {I : Type} (i0 : I) {w : MW} {a0 : Int32} {Q1 : I → Int32 → MW → Prop} {Q3 : Int32 → MW → Prop}  (h : ∀ i : I, p_Mo_perform w a0 (Q1 i)) (kQ : ∀ x0 x1, (∀ i : I, Q1 i x0 x1) → Q3 x0 x1) : p_Mo_perform w a0 Q3 := by
  have h := fun i => Eq.mp (p_Mo_perform.eq_1 ..) (h i)
  refine Eq.mpr (p_Mo_perform.eq_1 ..) ?_
  exact ⟨(h i0).1, ⟨(h i0).2.1, ⟨(h i0).2.2.1, ⟨(fun h1 => (al_q_Mo_perform_33 i0  kQ (fun i => ((h i).2.2.2.1 h1)))), (fun h2 => ⟨(fun h3 => ⟨(fun h4 => ⟨(fun h5 => (al_q_Mo_perform_95 i0  kQ (fun i => (((((h i).2.2.2.2 h2).1 h3).1 h4).1 h5)))), (fun h6 => (al_p_Mo_holdsLiquid i0 (fun i => (((((h i).2.2.2.2 h2).1 h3).1 h4).2 h6)) (fun _ _ h7 => ⟨(fun h8 => (al_q_Mo_perform_95 i0  kQ (fun i => ((h7 i).1 h8)))), (fun h9 => (al_q_Mo_perform_95 i0  kQ (fun i => ((h7 i).2 h9))))⟩)))⟩), (fun h10 => (al_p_Mo_isValve i0 (fun i => ((((h i).2.2.2.2 h2).1 h3).2 h10)) (fun _ _ h11 => (al_q_Mo_perform_95 i0  kQ (fun i => (h11 i))))))⟩), (fun h12 => (al_q_Mo_perform_33 i0  kQ (fun i => (((h i).2.2.2.2 h2).2 h12))))⟩)⟩⟩⟩⟩
theorem al_q_Wa_closeAll_7 {I : Type} (i0 : I)  {E1 : I → MW → Prop} {E3 : MW → Prop} {Q1 : I → MW → Prop} {Q3 : MW → Prop}  (kE : ∀ x0, (∀ i : I, E1 i x0) → E3 x0) (kQ : ∀ x0, (∀ i : I, Q1 i x0) → Q3 x0) : ∀ (m : Nat) (x7_1 : Int32) (w : MW), (∀ i : I, q_Wa_closeAll_7 (E1 i) (Q1 i) m x7_1 w) → q_Wa_closeAll_7 E3 Q3 m x7_1 w := by
  intro m
  induction m with
  | zero => exact fun _ _ h => False.elim (h i0)
  | succ m ih =>
    intro x7_1 w h
    have h := fun i => Eq.mp (q_Wa_closeAll_7.eq_2 ..) (h i)
    refine Eq.mpr (q_Wa_closeAll_7.eq_2 ..) ?_
    exact ⟨(fun h1 => (kE _ (fun i => ((h i).1 h1)))), (fun h2 => (al_p_Wa_remove i0 (fun i => ((h i).2 h2)) (fun _ h3 => (ih _ _ (fun i => (h3 i))))))⟩
theorem al_p_Wa_closeAll {I : Type} (i0 : I) {w : MW} {Q1 : I → MW → Prop} {Q3 : MW → Prop}  (h : ∀ i : I, p_Wa_closeAll w (Q1 i)) (kQ : ∀ x0, (∀ i : I, Q1 i x0) → Q3 x0) : p_Wa_closeAll w Q3 := by
  have h := fun i => Eq.mp (p_Wa_closeAll.eq_1 ..) (h i)
  refine Eq.mpr (p_Wa_closeAll.eq_1 ..) ?_
  exact (al_q_Wa_closeAll_7 i0  (fun _ h1 => (kQ _ (fun i => (h1 i)))) kQ _ _ _ (fun i => (h i)))
theorem al_q_Mo_closeAll_0 {I : Type} (i0 : I)  {E1 : I → MW → Prop} {E3 : MW → Prop} {Q1 : I → MW → Prop} {Q3 : MW → Prop}  (kE : ∀ x0, (∀ i : I, E1 i x0) → E3 x0) (kQ : ∀ x0, (∀ i : I, Q1 i x0) → Q3 x0) : ∀ (m : Nat) (w : MW), (∀ i : I, q_Mo_closeAll_0 (E1 i) (Q1 i) m w) → q_Mo_closeAll_0 E3 Q3 m w := by
  intro m
  induction m with
  | zero => exact fun _ h => False.elim (h i0)
  | succ m ih =>
    intro w h
    have h := fun i => Eq.mp (q_Mo_closeAll_0.eq_2 ..) (h i)
    refine Eq.mpr (q_Mo_closeAll_0.eq_2 ..) ?_
    exact ⟨(fun h1 => (kE _ (fun i => ((h i).1 h1)))), (fun h2 => (al_p_Mo_close i0 (fun i => ((h i).2 h2)) (fun _ h3 => (ih _ (fun i => (h3 i))))))⟩
theorem al_p_Mo_closeAll {I : Type} (i0 : I) {w : MW} {Q1 : I → MW → Prop} {Q3 : MW → Prop}  (h : ∀ i : I, p_Mo_closeAll w (Q1 i)) (kQ : ∀ x0, (∀ i : I, Q1 i x0) → Q3 x0) : p_Mo_closeAll w Q3 := by
  have h := fun i => Eq.mp (p_Mo_closeAll.eq_1 ..) (h i)
  refine Eq.mpr (p_Mo_closeAll.eq_1 ..) ?_
  exact (al_q_Mo_closeAll_0 i0  (fun _ h1 => (kQ _ (fun i => (h1 i)))) kQ _ _ (fun i => (h i)))
theorem al_p_Bh_sensed {I : Type} (i0 : I) {w : MW} {a0 : Int32} {b0 : Int32} {Q1 : I → Int64 → MW → Prop} {Q3 : Int64 → MW → Prop}  (h : ∀ i : I, p_Bh_sensed w a0 b0 (Q1 i)) (kQ : ∀ x0 x1, (∀ i : I, Q1 i x0 x1) → Q3 x0 x1) : p_Bh_sensed w a0 b0 Q3 := by
  have h := fun i => Eq.mp (p_Bh_sensed.eq_1 ..) (h i)
  refine Eq.mpr (p_Bh_sensed.eq_1 ..) ?_
  exact ⟨(fun h1 => (al_p_St_isTank i0 (fun i => ((h i).1 h1)) (fun _ _ h2 => ⟨(fun h3 => (kQ _ _ (fun i => ((h2 i).1 h3)))), (fun h4 => ⟨((h2 i0).2 h4).1, (kQ _ _ (fun i => ((h2 i).2 h4).2))⟩)⟩))), (fun h5 => ⟨(fun h6 => (al_p_St_isHolder i0 (fun i => (((h i).2 h5).1 h6)) (fun _ _ h7 => ⟨(fun h8 => (kQ _ _ (fun i => ((h7 i).1 h8)))), (fun h9 => ⟨((h7 i0).2 h9).1, (kQ _ _ (fun i => ((h7 i).2 h9).2))⟩)⟩))), (fun h10 => ⟨(fun h11 => (al_p_St_isValve i0 (fun i => ((((h i).2 h5).2 h10).1 h11)) (fun _ _ h12 => ⟨(fun h13 => (kQ _ _ (fun i => ((h12 i).1 h13)))), (fun h14 => ⟨((h12 i0).2 h14).1, (kQ _ _ (fun i => ((h12 i).2 h14).2))⟩)⟩))), (fun h15 => ⟨(fun h16 => (kQ _ _ (fun i => (((((h i).2 h5).2 h10).2 h15).1 h16)))), (fun h17 => (kQ _ _ (fun i => (((((h i).2 h5).2 h10).2 h15).2 h17))))⟩)⟩)⟩)⟩
theorem al_p_Pr_isSignal {I : Type} (i0 : I) {w : MW} {a0 : Int32} {Q1 : I → Int32 → MW → Prop} {Q3 : Int32 → MW → Prop}  (h : ∀ i : I, p_Pr_isSignal w a0 (Q1 i)) (kQ : ∀ x0 x1, (∀ i : I, Q1 i x0 x1) → Q3 x0 x1) : p_Pr_isSignal w a0 Q3 := by
  have h := fun i => Eq.mp (p_Pr_isSignal.eq_1 ..) (h i)
  refine Eq.mpr (p_Pr_isSignal.eq_1 ..) ?_
  exact ⟨(fun h1 => (kQ _ _ (fun i => ((h i).1 h1)))), (fun h2 => ⟨(fun h3 => (kQ _ _ (fun i => (((h i).2 h2).1 h3)))), (fun h4 => ⟨(((h i0).2 h2).2 h4).1, ⟨(fun h5 => (kQ _ _ (fun i => ((((h i).2 h2).2 h4).2.1 h5)))), (fun h6 => (kQ _ _ (fun i => ((((h i).2 h2).2 h4).2.2 h6))))⟩⟩)⟩)⟩
theorem al_p_Pr_isSensed {I : Type} (i0 : I) {w : MW} {a0 : Int32} {Q1 : I → Int32 → MW → Prop} {Q3 : Int32 → MW → Prop}  (h : ∀ i : I, p_Pr_isSensed w a0 (Q1 i)) (kQ : ∀ x0 x1, (∀ i : I, Q1 i x0 x1) → Q3 x0 x1) : p_Pr_isSensed w a0 Q3 := by
  have h := fun i => Eq.mp (p_Pr_isSensed.eq_1 ..) (h i)
  refine Eq.mpr (p_Pr_isSensed.eq_1 ..) ?_
  exact (al_p_Pr_isSignal i0 (fun i => (h i)) (fun _ _ h1 => ⟨(fun h2 => (kQ _ _ (fun i => ((h1 i).1 h2)))), (fun h3 => ⟨((h1 i0).2 h3).1, ⟨(fun h4 => (kQ _ _ (fun i => (((h1 i).2 h3).2.1 h4)))), (fun h5 => (kQ _ _ (fun i => (((h1 i).2 h3).2.2 h5))))⟩⟩)⟩))
theorem al_q_Bh_senseAll_10 {I : Type} (i0 : I)  {E1 : I → MW → Prop} {E3 : MW → Prop} {Q1 : I → MW → Prop} {Q3 : MW → Prop}  (kE : ∀ x0, (∀ i : I, E1 i x0) → E3 x0) (kQ : ∀ x0, (∀ i : I, Q1 i x0) → Q3 x0) : ∀ (m : Nat) (x10_2 : Int32) (w : MW), (∀ i : I, q_Bh_senseAll_10 (E1 i) (Q1 i) m x10_2 w) → q_Bh_senseAll_10 E3 Q3 m x10_2 w := by
  intro m
  induction m with
  | zero => exact fun _ _ h => False.elim (h i0)
  | succ m ih =>
    intro x10_2 w h
    have h := fun i => Eq.mp (q_Bh_senseAll_10.eq_2 ..) (h i)
    refine Eq.mpr (q_Bh_senseAll_10.eq_2 ..) ?_
    exact ⟨(fun h1 => (kE _ (fun i => ((h i).1 h1)))), (fun h2 => (al_p_Pr_isSensed i0 (fun i => ((h i).2 h2)) (fun _ _ h3 => ⟨(fun h4 => (ih _ _ (fun i => ((h3 i).1 h4)))), (fun h5 => ⟨((h3 i0).2 h5).1, ⟨((h3 i0).2 h5).2.1, (al_p_Bh_sensed i0 (fun i => ((h3 i).2 h5).2.2) (fun _ _ h6 => ⟨(fun h7 => ⟨((h6 i0).1 h7).1, (ih _ _ (fun i => ((h6 i).1 h7).2))⟩), (fun h8 => ⟨((h6 i0).2 h8).1, (ih _ _ (fun i => ((h6 i).2 h8).2))⟩)⟩))⟩⟩)⟩)))⟩
theorem al_q_Bh_senseAll_76 {I : Type} (i0 : I)  {E1 : I → Int32 → MW → Prop} {E3 : Int32 → MW → Prop} {Q1 : I → MW → Prop} {Q3 : MW → Prop}  (kE : ∀ x0 x1, (∀ i : I, E1 i x0 x1) → E3 x0 x1) (kQ : ∀ x0, (∀ i : I, Q1 i x0) → Q3 x0) : ∀ (m : Nat) (x76_2 : Int32) (x76_3 : Int32) (w : MW), (∀ i : I, q_Bh_senseAll_76 (E1 i) (Q1 i) m x76_2 x76_3 w) → q_Bh_senseAll_76 E3 Q3 m x76_2 x76_3 w := by
  intro m
  induction m with
  | zero => exact fun _ _ _ h => False.elim (h i0)
  | succ m ih =>
    intro x76_2 x76_3 w h
    have h := fun i => Eq.mp (q_Bh_senseAll_76.eq_2 ..) (h i)
    refine Eq.mpr (q_Bh_senseAll_76.eq_2 ..) ?_
    exact ⟨(fun h1 => (kE _ _ (fun i => ((h i).1 h1)))), (fun h2 => ⟨((h i0).2 h2).1, ⟨(fun h3 => (ih _ _ _ (fun i => (((h i).2 h2).2.1 h3)))), (fun h4 => ⟨(((h i0).2 h2).2.2 h4).1, ⟨(((h i0).2 h2).2.2 h4).2.1, (al_p_Bh_sensed i0 (fun i => (((h i).2 h2).2.2 h4).2.2) (fun _ _ h5 => ⟨(fun h6 => (ih _ _ _ (fun i => ((h5 i).1 h6)))), (fun h7 => ⟨((h5 i0).2 h7).1, ⟨(fun h8 => (ih _ _ _ (fun i => (((h5 i).2 h7).2.1 h8)))), (fun h9 => (ih _ _ _ (fun i => (((h5 i).2 h7).2.2 h9))))⟩⟩)⟩))⟩⟩)⟩⟩)⟩
theorem al_p_Bh_senseAll {I : Type} (i0 : I) {w : MW} {Q1 : I → MW → Prop} {Q3 : MW → Prop}  (h : ∀ i : I, p_Bh_senseAll w (Q1 i)) (kQ : ∀ x0, (∀ i : I, Q1 i x0) → Q3 x0) : p_Bh_senseAll w Q3 := by
  have h := fun i => Eq.mp (p_Bh_senseAll.eq_1 ..) (h i)
  refine Eq.mpr (p_Bh_senseAll.eq_1 ..) ?_
  exact ⟨(h i0).1, (al_q_Bh_senseAll_10 i0  (fun _ h1 => (al_q_Bh_senseAll_76 i0  (fun _ _ h2 => ⟨(h2 i0).1, (kQ _ (fun i => (h2 i).2))⟩) kQ _ _ _ _ (fun i => (h1 i)))) kQ _ _ _ (fun i => (h i).2))⟩
theorem al_p_Mo_sensed {I : Type} (i0 : I) {w : MW} {a0 : Int32} {b0 : Int32} {Q1 : I → Int64 → MW → Prop} {Q3 : Int64 → MW → Prop}  (h : ∀ i : I, p_Mo_sensed w a0 b0 (Q1 i)) (kQ : ∀ x0 x1, (∀ i : I, Q1 i x0 x1) → Q3 x0 x1) : p_Mo_sensed w a0 b0 Q3 := by
  have h := fun i => Eq.mp (p_Mo_sensed.eq_1 ..) (h i)
  refine Eq.mpr (p_Mo_sensed.eq_1 ..) ?_
  exact ⟨(fun h1 => (al_p_Mo_isTank i0 (fun i => ((h i).1 h1)) (fun _ _ h2 => ⟨(fun h3 => (kQ _ _ (fun i => ((h2 i).1 h3)))), (fun h4 => ⟨((h2 i0).2 h4).1, (kQ _ _ (fun i => ((h2 i).2 h4).2))⟩)⟩))), (fun h5 => ⟨(fun h6 => (al_p_Mo_holdsLiquid i0 (fun i => (((h i).2 h5).1 h6)) (fun _ _ h7 => ⟨(fun h8 => (kQ _ _ (fun i => ((h7 i).1 h8)))), (fun h9 => (al_p_Mo_liquidIn i0 (fun i => ((h7 i).2 h9)) (fun _ _ h10 => (kQ _ _ (fun i => (h10 i))))))⟩))), (fun h11 => ⟨(fun h12 => (al_p_Mo_isValve i0 (fun i => ((((h i).2 h5).2 h11).1 h12)) (fun _ _ h13 => ⟨(fun h14 => (kQ _ _ (fun i => ((h13 i).1 h14)))), (fun h15 => ⟨((h13 i0).2 h15).1, (kQ _ _ (fun i => ((h13 i).2 h15).2))⟩)⟩))), (fun h16 => ⟨(fun h17 => (kQ _ _ (fun i => (((((h i).2 h5).2 h11).2 h16).1 h17)))), (fun h18 => (kQ _ _ (fun i => (((((h i).2 h5).2 h11).2 h16).2 h18))))⟩)⟩)⟩)⟩
theorem al_q_Mo_senseAll_2 {I : Type} (i0 : I)  {E1 : I → MW → Prop} {E3 : MW → Prop} {Q1 : I → MW → Prop} {Q3 : MW → Prop}  (kE : ∀ x0, (∀ i : I, E1 i x0) → E3 x0) (kQ : ∀ x0, (∀ i : I, Q1 i x0) → Q3 x0) : ∀ (m : Nat) (x2_1 : Int32) (w : MW), (∀ i : I, q_Mo_senseAll_2 (E1 i) (Q1 i) m x2_1 w) → q_Mo_senseAll_2 E3 Q3 m x2_1 w := by
  intro m
  induction m with
  | zero => exact fun _ _ h => False.elim (h i0)
  | succ m ih =>
    intro x2_1 w h
    have h := fun i => Eq.mp (q_Mo_senseAll_2.eq_2 ..) (h i)
    refine Eq.mpr (q_Mo_senseAll_2.eq_2 ..) ?_
    exact ⟨(fun h1 => (kE _ (fun i => ((h i).1 h1)))), (fun h2 => ⟨((h i0).2 h2).1, ⟨(fun h3 => (ih _ _ (fun i => (((h i).2 h2).2.1 h3)))), (fun h4 => ⟨(((h i0).2 h2).2.2 h4).1, ⟨(fun h5 => (ih _ _ (fun i => ((((h i).2 h2).2.2 h4).2.1 h5)))), (fun h6 => ⟨((((h i0).2 h2).2.2 h4).2.2 h6).1, ⟨((((h i0).2 h2).2.2 h4).2.2 h6).2.1, (al_p_Mo_sensed i0 (fun i => ((((h i).2 h2).2.2 h4).2.2 h6).2.2) (fun _ _ h7 => ⟨(h7 i0).1, (ih _ _ (fun i => (h7 i).2))⟩))⟩⟩)⟩⟩)⟩⟩)⟩
theorem al_q_Mo_senseAll_146 {I : Type} (i0 : I) {y146_1 : Int32} {ys146_0 : Int32} {w : MW} {A1 : I → Int32 → MW → Prop} {A3 : Int32 → MW → Prop} {E1 : I → MW → Prop} {E3 : MW → Prop} {Q1 : I → MW → Prop} {Q3 : MW → Prop}  (kA : ∀ x0 x1, (∀ i : I, A1 i x0 x1) → A3 x0 x1) (kE : ∀ x0, (∀ i : I, E1 i x0) → E3 x0) (kQ : ∀ x0, (∀ i : I, Q1 i x0) → Q3 x0) (h : ∀ i : I, q_Mo_senseAll_146 y146_1 ys146_0 w (A1 i) (E1 i) (Q1 i)) : q_Mo_senseAll_146 y146_1 ys146_0 w A3 E3 Q3 := by
  have h := fun i => Eq.mp (q_Mo_senseAll_146.eq_1 ..) (h i)
  refine Eq.mpr (q_Mo_senseAll_146.eq_1 ..) ?_
  exact ⟨(fun h1 => (kA _ _ (fun i => ((h i).1 h1)))), (fun h2 => (kA _ _ (fun i => ((h i).2 h2))))⟩
theorem al_q_Mo_senseAll_109 {I : Type} (i0 : I) {y109_1 : Int32} {ys109_0 : Int64} {w : MW} {A1 : I → Int32 → MW → Prop} {A3 : Int32 → MW → Prop} {E1 : I → MW → Prop} {E3 : MW → Prop} {Q1 : I → MW → Prop} {Q3 : MW → Prop}  (kA : ∀ x0 x1, (∀ i : I, A1 i x0 x1) → A3 x0 x1) (kE : ∀ x0, (∀ i : I, E1 i x0) → E3 x0) (kQ : ∀ x0, (∀ i : I, Q1 i x0) → Q3 x0) (h : ∀ i : I, q_Mo_senseAll_109 y109_1 ys109_0 w (A1 i) (E1 i) (Q1 i)) : q_Mo_senseAll_109 y109_1 ys109_0 w A3 E3 Q3 := by
  have h := fun i => Eq.mp (q_Mo_senseAll_109.eq_1 ..) (h i)
  refine Eq.mpr (q_Mo_senseAll_109.eq_1 ..) ?_
  exact ⟨(h i0).1, ⟨(fun h1 => (al_q_Mo_senseAll_146 i0  kA kE kQ (fun i => ((h i).2.1 h1)))), (fun h2 => ⟨(fun h3 => (al_q_Mo_senseAll_146 i0  kA kE kQ (fun i => (((h i).2.2 h2).1 h3)))), (fun h4 => ⟨(((h i0).2.2 h2).2 h4).1, ⟨(fun h5 => (al_q_Mo_senseAll_146 i0  kA kE kQ (fun i => ((((h i).2.2 h2).2 h4).2.1 h5)))), (fun h6 => (al_q_Mo_senseAll_146 i0  kA kE kQ (fun i => ((((h i).2.2 h2).2 h4).2.2 h6))))⟩⟩)⟩)⟩⟩
theorem al_q_Mo_senseAll_63 {I : Type} (i0 : I)  {E1 : I → MW → Prop} {E3 : MW → Prop} {Q1 : I → MW → Prop} {Q3 : MW → Prop}  (kE : ∀ x0, (∀ i : I, E1 i x0) → E3 x0) (kQ : ∀ x0, (∀ i : I, Q1 i x0) → Q3 x0) : ∀ (m : Nat) (x63_1 : Int32) (w : MW), (∀ i : I, q_Mo_senseAll_63 (E1 i) (Q1 i) m x63_1 w) → q_Mo_senseAll_63 E3 Q3 m x63_1 w := by
  intro m
  induction m with
  | zero => exact fun _ _ h => False.elim (h i0)
  | succ m ih =>
    intro x63_1 w h
    have h := fun i => Eq.mp (q_Mo_senseAll_63.eq_2 ..) (h i)
    refine Eq.mpr (q_Mo_senseAll_63.eq_2 ..) ?_
    exact ⟨(fun h1 => (kE _ (fun i => ((h i).1 h1)))), (fun h2 => ⟨((h i0).2 h2).1, ⟨(fun h3 => (ih _ _ (fun i => (((h i).2 h2).2.1 h3)))), (fun h4 => ⟨(((h i0).2 h2).2.2 h4).1, ⟨(fun h5 => (al_q_Mo_senseAll_109 i0  (fun _ _ h6 => (ih _ _ (fun i => (h6 i)))) kE kQ (fun i => ((((h i).2 h2).2.2 h4).2.1 h5)))), (fun h7 => ⟨((((h i0).2 h2).2.2 h4).2.2 h7).1, ⟨((((h i0).2 h2).2.2 h4).2.2 h7).2.1, (al_p_Mo_sensed i0 (fun i => ((((h i).2 h2).2.2 h4).2.2 h7).2.2) (fun _ _ h8 => (al_q_Mo_senseAll_109 i0  (fun _ _ h9 => (ih _ _ (fun i => (h9 i)))) kE kQ (fun i => (h8 i)))))⟩⟩)⟩⟩)⟩⟩)⟩
theorem al_p_Mo_senseAll {I : Type} (i0 : I) {w : MW} {Q1 : I → MW → Prop} {Q3 : MW → Prop}  (h : ∀ i : I, p_Mo_senseAll w (Q1 i)) (kQ : ∀ x0, (∀ i : I, Q1 i x0) → Q3 x0) : p_Mo_senseAll w Q3 := by
  have h := fun i => Eq.mp (p_Mo_senseAll.eq_1 ..) (h i)
  refine Eq.mpr (p_Mo_senseAll.eq_1 ..) ?_
  exact (al_q_Mo_senseAll_2 i0  (fun _ h1 => (al_q_Mo_senseAll_63 i0  (fun _ h2 => (kQ _ (fun i => (h2 i)))) kQ _ _ _ (fun i => (h1 i)))) kQ _ _ _ (fun i => (h i)))
theorem al_q_Ro_countSecond_78 {I : Type} (i0 : I) {y78_1 : Int32} {w : MW} {A1 : I → Int32 → MW → Prop} {A3 : Int32 → MW → Prop} {E1 : I → MW → Prop} {E3 : MW → Prop} {Q1 : I → MW → Prop} {Q3 : MW → Prop}  (kA : ∀ x0 x1, (∀ i : I, A1 i x0 x1) → A3 x0 x1) (kE : ∀ x0, (∀ i : I, E1 i x0) → E3 x0) (kQ : ∀ x0, (∀ i : I, Q1 i x0) → Q3 x0) (h : ∀ i : I, q_Ro_countSecond_78 y78_1 w (A1 i) (E1 i) (Q1 i)) : q_Ro_countSecond_78 y78_1 w A3 E3 Q3 := by
  have h := fun i => Eq.mp (q_Ro_countSecond_78.eq_1 ..) (h i)
  refine Eq.mpr (q_Ro_countSecond_78.eq_1 ..) ?_
  exact ⟨(h i0).1, ⟨(fun h1 => (kA _ _ (fun i => ((h i).2.1 h1)))), (fun h2 => ⟨((h i0).2.2 h2).1, ⟨((h i0).2.2 h2).2.1, (kA _ _ (fun i => ((h i).2.2 h2).2.2))⟩⟩)⟩⟩
theorem al_q_Ro_countSecond_42 {I : Type} (i0 : I) {y42_1 : Int32} {y42_2 : Int32} {ys42_0 : Int32} {ys42_1 : Int32} {w : MW} {A1 : I → Int32 → MW → Prop} {A3 : Int32 → MW → Prop} {E1 : I → MW → Prop} {E3 : MW → Prop} {Q1 : I → MW → Prop} {Q3 : MW → Prop}  (kA : ∀ x0 x1, (∀ i : I, A1 i x0 x1) → A3 x0 x1) (kE : ∀ x0, (∀ i : I, E1 i x0) → E3 x0) (kQ : ∀ x0, (∀ i : I, Q1 i x0) → Q3 x0) (h : ∀ i : I, q_Ro_countSecond_42 y42_1 y42_2 ys42_0 ys42_1 w (A1 i) (E1 i) (Q1 i)) : q_Ro_countSecond_42 y42_1 y42_2 ys42_0 ys42_1 w A3 E3 Q3 := by
  have h := fun i => Eq.mp (q_Ro_countSecond_42.eq_1 ..) (h i)
  refine Eq.mpr (q_Ro_countSecond_42.eq_1 ..) ?_
  exact ⟨(h i0).1, ⟨(h i0).2.1, ⟨(fun h1 => (al_q_Ro_countSecond_78 i0  kA kE kQ (fun i => ((h i).2.2.1 h1)))), (fun h2 => ⟨(fun h3 => (al_q_Ro_countSecond_78 i0  kA kE kQ (fun i => (((h i).2.2.2 h2).1 h3)))), (fun h4 => ⟨(((h i0).2.2.2 h2).2 h4).1, ⟨(((h i0).2.2.2 h2).2 h4).2.1, ⟨(fun h5 => (al_q_Ro_countSecond_78 i0  kA kE kQ (fun i => ((((h i).2.2.2 h2).2 h4).2.2.1 h5)))), (fun h6 => ⟨((((h i0).2.2.2 h2).2 h4).2.2.2 h6).1, (al_q_Ro_countSecond_78 i0  kA kE kQ (fun i => ((((h i).2.2.2 h2).2 h4).2.2.2 h6).2))⟩)⟩⟩⟩)⟩)⟩⟩⟩
theorem al_q_Ro_countSecond_2 {I : Type} (i0 : I)  {E1 : I → MW → Prop} {E3 : MW → Prop} {Q1 : I → MW → Prop} {Q3 : MW → Prop}  (kE : ∀ x0, (∀ i : I, E1 i x0) → E3 x0) (kQ : ∀ x0, (∀ i : I, Q1 i x0) → Q3 x0) : ∀ (m : Nat) (x2_1 : Int32) (w : MW), (∀ i : I, q_Ro_countSecond_2 (E1 i) (Q1 i) m x2_1 w) → q_Ro_countSecond_2 E3 Q3 m x2_1 w := by
  intro m
  induction m with
  | zero => exact fun _ _ h => False.elim (h i0)
  | succ m ih =>
    intro x2_1 w h
    have h := fun i => Eq.mp (q_Ro_countSecond_2.eq_2 ..) (h i)
    refine Eq.mpr (q_Ro_countSecond_2.eq_2 ..) ?_
    exact ⟨(fun h1 => (kE _ (fun i => ((h i).1 h1)))), (fun h2 => (al_p_Ro_isOn i0 (fun i => ((h i).2 h2)) (fun _ _ h3 => ⟨(fun h4 => (al_q_Ro_countSecond_42 i0  (fun _ _ h5 => (ih _ _ (fun i => (h5 i)))) kE kQ (fun i => ((h3 i).1 h4)))), (fun h6 => ⟨((h3 i0).2 h6).1, (al_p_Ma_min i0 (fun i => ((h3 i).2 h6).2) (fun _ _ h7 => (al_q_Ro_countSecond_42 i0  (fun _ _ h8 => (ih _ _ (fun i => (h8 i)))) kE kQ (fun i => (h7 i)))))⟩)⟩)))⟩
theorem al_p_Ro_countSecond {I : Type} (i0 : I) {w : MW} {Q1 : I → MW → Prop} {Q3 : MW → Prop}  (h : ∀ i : I, p_Ro_countSecond w (Q1 i)) (kQ : ∀ x0, (∀ i : I, Q1 i x0) → Q3 x0) : p_Ro_countSecond w Q3 := by
  have h := fun i => Eq.mp (p_Ro_countSecond.eq_1 ..) (h i)
  refine Eq.mpr (p_Ro_countSecond.eq_1 ..) ?_
  exact (al_q_Ro_countSecond_2 i0  (fun _ h1 => (kQ _ (fun i => (h1 i)))) kQ _ _ _ (fun i => (h i)))
theorem al_q_Mr_tick_128 {I : Type} (i0 : I) {x14_1 : Int32} {y128_2 : Int32} {ys128_0 : Int32} {ys128_1 : Int32} {ys128_2 : Int32} {w : MW} {A1 : I → Int32 → MW → Prop} {A3 : Int32 → MW → Prop} {E1 : I → MW → Prop} {E3 : MW → Prop} {Q1 : I → Int32 → MW → Prop} {Q3 : Int32 → MW → Prop}  (kA : ∀ x0 x1, (∀ i : I, A1 i x0 x1) → A3 x0 x1) (kE : ∀ x0, (∀ i : I, E1 i x0) → E3 x0) (kQ : ∀ x0 x1, (∀ i : I, Q1 i x0 x1) → Q3 x0 x1) (h : ∀ i : I, q_Mr_tick_128 x14_1 y128_2 ys128_0 ys128_1 ys128_2 w (A1 i) (E1 i) (Q1 i)) : q_Mr_tick_128 x14_1 y128_2 ys128_0 ys128_1 ys128_2 w A3 E3 Q3 := by
  have h := fun i => Eq.mp (q_Mr_tick_128.eq_1 ..) (h i)
  refine Eq.mpr (q_Mr_tick_128.eq_1 ..) ?_
  exact ⟨(h i0).1, ⟨(h i0).2.1, ⟨(fun h1 => ⟨((h i0).2.2.1 h1).1, (kA _ _ (fun i => ((h i).2.2.1 h1).2))⟩), (fun h2 => ⟨((h i0).2.2.2 h2).1, ⟨((h i0).2.2.2 h2).2.1, (kA _ _ (fun i => ((h i).2.2.2 h2).2.2))⟩⟩)⟩⟩⟩
theorem al_q_Mr_tick_71 {I : Type} (i0 : I) {x14_1 : Int32} {y71_2 : Int32} {y71_3 : Int32} {ys71_0 : Int32} {ys71_1 : Int32} {w : MW} {A1 : I → Int32 → MW → Prop} {A3 : Int32 → MW → Prop} {E1 : I → MW → Prop} {E3 : MW → Prop} {Q1 : I → Int32 → MW → Prop} {Q3 : Int32 → MW → Prop}  (kA : ∀ x0 x1, (∀ i : I, A1 i x0 x1) → A3 x0 x1) (kE : ∀ x0, (∀ i : I, E1 i x0) → E3 x0) (kQ : ∀ x0 x1, (∀ i : I, Q1 i x0 x1) → Q3 x0 x1) (h : ∀ i : I, q_Mr_tick_71 x14_1 y71_2 y71_3 ys71_0 ys71_1 w (A1 i) (E1 i) (Q1 i)) : q_Mr_tick_71 x14_1 y71_2 y71_3 ys71_0 ys71_1 w A3 E3 Q3 := by
  have h := fun i => Eq.mp (q_Mr_tick_71.eq_1 ..) (h i)
  refine Eq.mpr (q_Mr_tick_71.eq_1 ..) ?_
  exact ⟨(h i0).1, ⟨(h i0).2.1, ⟨(fun h1 => (al_q_Mr_tick_128 i0  kA kE kQ (fun i => ((h i).2.2.1 h1)))), (fun h2 => ⟨((h i0).2.2.2 h2).1, ⟨(fun h3 => (al_q_Mr_tick_128 i0  kA kE kQ (fun i => (((h i).2.2.2 h2).2.1 h3)))), (fun h4 => ⟨(((h i0).2.2.2 h2).2.2 h4).1, ⟨(((h i0).2.2.2 h2).2.2 h4).2.1, ⟨(fun h5 => (al_q_Mr_tick_128 i0  kA kE kQ (fun i => ((((h i).2.2.2 h2).2.2 h4).2.2.1 h5)))), (fun h6 => (al_q_Mr_tick_128 i0  kA kE kQ (fun i => ((((h i).2.2.2 h2).2.2 h4).2.2.2 h6))))⟩⟩⟩)⟩⟩)⟩⟩⟩
theorem al_q_Mr_tick_14 {I : Type} (i0 : I) {x14_1 : Int32} {E1 : I → MW → Prop} {E3 : MW → Prop} {Q1 : I → Int32 → MW → Prop} {Q3 : Int32 → MW → Prop}  (kE : ∀ x0, (∀ i : I, E1 i x0) → E3 x0) (kQ : ∀ x0 x1, (∀ i : I, Q1 i x0 x1) → Q3 x0 x1) : ∀ (m : Nat) (x14_2 : Int32) (w : MW), (∀ i : I, q_Mr_tick_14 x14_1 (E1 i) (Q1 i) m x14_2 w) → q_Mr_tick_14 x14_1 E3 Q3 m x14_2 w := by
  intro m
  induction m with
  | zero => exact fun _ _ h => False.elim (h i0)
  | succ m ih =>
    intro x14_2 w h
    have h := fun i => Eq.mp (q_Mr_tick_14.eq_2 ..) (h i)
    refine Eq.mpr (q_Mr_tick_14.eq_2 ..) ?_
    exact ⟨(fun h1 => (kE _ (fun i => ((h i).1 h1)))), (fun h2 => ⟨(fun h3 => (kE _ (fun i => (((h i).2 h2).1 h3)))), (fun h4 => (al_p_Mr_isOn i0 (fun i => (((h i).2 h2).2 h4)) (fun _ _ h5 => ⟨(fun h6 => ⟨((h5 i0).1 h6).1, ⟨(fun h7 => ⟨(((h5 i0).1 h6).2.1 h7).1, (al_q_Mr_tick_71 i0  (fun _ _ h8 => (ih _ _ (fun i => (h8 i)))) kE kQ (fun i => (((h5 i).1 h6).2.1 h7).2))⟩), (fun h9 => (al_q_Mr_tick_71 i0  (fun _ _ h10 => (ih _ _ (fun i => (h10 i)))) kE kQ (fun i => (((h5 i).1 h6).2.2 h9))))⟩⟩), (fun h11 => (al_q_Mr_tick_71 i0  (fun _ _ h12 => (ih _ _ (fun i => (h12 i)))) kE kQ (fun i => ((h5 i).2 h11))))⟩)))⟩)⟩
theorem al_p_Mr_tick {I : Type} (i0 : I) {w : MW} {a0 : Int32} {Q1 : I → Int32 → MW → Prop} {Q3 : Int32 → MW → Prop}  (h : ∀ i : I, p_Mr_tick w a0 (Q1 i)) (kQ : ∀ x0 x1, (∀ i : I, Q1 i x0 x1) → Q3 x0 x1) : p_Mr_tick w a0 Q3 := by
  have h := fun i => Eq.mp (p_Mr_tick.eq_1 ..) (h i)
  refine Eq.mpr (p_Mr_tick.eq_1 ..) ?_
  exact ⟨(fun h1 => (kQ _ _ (fun i => ((h i).1 h1)))), (fun h2 => ⟨(fun h3 => (al_q_Mr_tick_14 i0  (fun _ h4 => (kQ _ _ (fun i => (h4 i)))) kQ _ _ _ (fun i => (((h i).2 h2).1 h3)))), (fun h5 => (kQ _ _ (fun i => (((h i).2 h2).2 h5))))⟩)⟩
theorem al_q_Mo_tick_67 {I : Type} (i0 : I) {x67_1 : Int32} {x67_2 : Int32} {E1 : I → MW → Prop} {E3 : MW → Prop} {Q1 : I → Int32 → MW → Prop} {Q3 : Int32 → MW → Prop}  (kE : ∀ x0, (∀ i : I, E1 i x0) → E3 x0) (kQ : ∀ x0 x1, (∀ i : I, Q1 i x0 x1) → Q3 x0 x1) : ∀ (m : Nat) (x67_4 : Int32) (w : MW), (∀ i : I, q_Mo_tick_67 x67_1 x67_2 (E1 i) (Q1 i) m x67_4 w) → q_Mo_tick_67 x67_1 x67_2 E3 Q3 m x67_4 w := by
  intro m
  induction m with
  | zero => exact fun _ _ h => False.elim (h i0)
  | succ m ih =>
    intro x67_4 w h
    have h := fun i => Eq.mp (q_Mo_tick_67.eq_2 ..) (h i)
    refine Eq.mpr (q_Mo_tick_67.eq_2 ..) ?_
    exact ⟨(fun h1 => (kE _ (fun i => ((h i).1 h1)))), (fun h2 => (al_p_Mo_flow i0 (fun i => ((h i).2 h2)) (fun _ h3 => (ih _ _ (fun i => (h3 i))))))⟩
theorem al_p_Bh_isLiquid {I : Type} (i0 : I) {w : MW} {a0 : Int32} {Q1 : I → Int32 → MW → Prop} {Q3 : Int32 → MW → Prop}  (h : ∀ i : I, p_Bh_isLiquid w a0 (Q1 i)) (kQ : ∀ x0 x1, (∀ i : I, Q1 i x0 x1) → Q3 x0 x1) : p_Bh_isLiquid w a0 Q3 := by
  have h := fun i => Eq.mp (p_Bh_isLiquid.eq_1 ..) (h i)
  refine Eq.mpr (p_Bh_isLiquid.eq_1 ..) ?_
  exact ⟨(fun h1 => (kQ _ _ (fun i => ((h i).1 h1)))), (fun h2 => ⟨(fun h3 => (kQ _ _ (fun i => (((h i).2 h2).1 h3)))), (fun h4 => (kQ _ _ (fun i => (((h i).2 h2).2 h4))))⟩)⟩
theorem al_p_Bh_need {I : Type} (i0 : I) {w : MW} {a0 : Int32} {b0 : Int32} {c0 : Int32} {Q1 : I → Int32 → MW → Prop} {Q3 : Int32 → MW → Prop}  (h : ∀ i : I, p_Bh_need w a0 b0 c0 (Q1 i)) (kQ : ∀ x0 x1, (∀ i : I, Q1 i x0 x1) → Q3 x0 x1) : p_Bh_need w a0 b0 c0 Q3 := by
  have h := fun i => Eq.mp (p_Bh_need.eq_1 ..) (h i)
  refine Eq.mpr (p_Bh_need.eq_1 ..) ?_
  exact (al_p_Bh_isLiquid i0 (fun i => (h i)) (fun _ _ h1 => ⟨(fun h2 => (kQ _ _ (fun i => ((h1 i).1 h2)))), (fun h3 => (al_p_Bh_isLiquid i0 (fun i => ((h1 i).2 h3)) (fun _ _ h4 => ⟨(fun h5 => (kQ _ _ (fun i => ((h4 i).1 h5)))), (fun h6 => ⟨(fun h7 => (kQ _ _ (fun i => (((h4 i).2 h6).1 h7)))), (fun h8 => ⟨(fun h9 => ⟨((((h4 i0).2 h6).2 h8).1 h9).1, (kQ _ _ (fun i => ((((h4 i).2 h6).2 h8).1 h9).2))⟩), (fun h10 => (kQ _ _ (fun i => ((((h4 i).2 h6).2 h8).2 h10))))⟩)⟩)⟩)))⟩))
theorem al_p_Bh_lasts {I : Type} (i0 : I) {w : MW} {a0 : Int32} {b0 : Int32} {Q1 : I → Int32 → MW → Prop} {Q3 : Int32 → MW → Prop}  (h : ∀ i : I, p_Bh_lasts w a0 b0 (Q1 i)) (kQ : ∀ x0 x1, (∀ i : I, Q1 i x0 x1) → Q3 x0 x1) : p_Bh_lasts w a0 b0 Q3 := by
  have h := fun i => Eq.mp (p_Bh_lasts.eq_1 ..) (h i)
  refine Eq.mpr (p_Bh_lasts.eq_1 ..) ?_
  exact ⟨(fun h1 => (kQ _ _ (fun i => ((h i).1 h1)))), (fun h2 => ⟨(fun h3 => (kQ _ _ (fun i => (((h i).2 h2).1 h3)))), (fun h4 => ⟨(fun h5 => (kQ _ _ (fun i => ((((h i).2 h2).2 h4).1 h5)))), (fun h6 => ⟨(fun h7 => ⟨(((((h i0).2 h2).2 h4).2 h6).1 h7).1, (kQ _ _ (fun i => (((((h i).2 h2).2 h4).2 h6).1 h7).2))⟩), (fun h8 => (kQ _ _ (fun i => (((((h i).2 h2).2 h4).2 h6).2 h8))))⟩)⟩)⟩)⟩
theorem al_p_St_mayMeet {I : Type} (i0 : I) {w : MW} {a0 : Int32} {b0 : Int32} {Q1 : I → Int32 → MW → Prop} {Q3 : Int32 → MW → Prop}  (h : ∀ i : I, p_St_mayMeet w a0 b0 (Q1 i)) (kQ : ∀ x0 x1, (∀ i : I, Q1 i x0 x1) → Q3 x0 x1) : p_St_mayMeet w a0 b0 Q3 := by
  have h := fun i => Eq.mp (p_St_mayMeet.eq_1 ..) (h i)
  refine Eq.mpr (p_St_mayMeet.eq_1 ..) ?_
  exact ⟨(h i0).1, ⟨(fun h1 => (kQ _ _ (fun i => ((h i).2.1 h1)))), (fun h2 => (kQ _ _ (fun i => ((h i).2.2 h2))))⟩⟩
theorem al_p_Bh_may {I : Type} (i0 : I) {w : MW} {a0 : Int32} {b0 : Int32} {Q1 : I → Int32 → MW → Prop} {Q3 : Int32 → MW → Prop}  (h : ∀ i : I, p_Bh_may w a0 b0 (Q1 i)) (kQ : ∀ x0 x1, (∀ i : I, Q1 i x0 x1) → Q3 x0 x1) : p_Bh_may w a0 b0 Q3 := by
  have h := fun i => Eq.mp (p_Bh_may.eq_1 ..) (h i)
  refine Eq.mpr (p_Bh_may.eq_1 ..) ?_
  exact (al_p_Bh_isLiquid i0 (fun i => (h i)) (fun _ _ h1 => ⟨(fun h2 => (kQ _ _ (fun i => ((h1 i).1 h2)))), (fun h3 => (al_p_Bh_isLiquid i0 (fun i => ((h1 i).2 h3)) (fun _ _ h4 => ⟨(fun h5 => (kQ _ _ (fun i => ((h4 i).1 h5)))), (fun h6 => ⟨(fun h7 => (kQ _ _ (fun i => (((h4 i).2 h6).1 h7)))), (fun h8 => (al_p_St_mayMeet i0 (fun i => (((h4 i).2 h6).2 h8)) (fun _ _ h9 => ⟨(fun h10 => ⟨((h9 i0).1 h10).1, ⟨((h9 i0).1 h10).2.1, ⟨((h9 i0).1 h10).2.2.1, ⟨((h9 i0).1 h10).2.2.2.1, (kQ _ _ (fun i => ((h9 i).1 h10).2.2.2.2))⟩⟩⟩⟩), (fun h11 => (kQ _ _ (fun i => ((h9 i).2 h11))))⟩)))⟩)⟩)))⟩))
theorem al_p_Bh_watch {I : Type} (i0 : I) {w : MW} {a0 : Int32} {b0 : Int32} {c0 : Int32} {e0 : Int64} {Q1 : I → Int32 → MW → Prop} {Q3 : Int32 → MW → Prop}  (h : ∀ i : I, p_Bh_watch w a0 b0 c0 e0 (Q1 i)) (kQ : ∀ x0 x1, (∀ i : I, Q1 i x0 x1) → Q3 x0 x1) : p_Bh_watch w a0 b0 c0 e0 Q3 := by
  have h := fun i => Eq.mp (p_Bh_watch.eq_1 ..) (h i)
  refine Eq.mpr (p_Bh_watch.eq_1 ..) ?_
  exact ⟨(fun h1 => (kQ _ _ (fun i => ((h i).1 h1)))), (fun h2 => ⟨(fun h3 => (kQ _ _ (fun i => (((h i).2 h2).1 h3)))), (fun h4 => ⟨(fun h5 => (kQ _ _ (fun i => ((((h i).2 h2).2 h4).1 h5)))), (fun h6 => ⟨(fun h7 => ⟨(((((h i0).2 h2).2 h4).2 h6).1 h7).1, ⟨(((((h i0).2 h2).2 h4).2 h6).1 h7).2.1, ⟨(((((h i0).2 h2).2 h4).2 h6).1 h7).2.2.1, (kQ _ _ (fun i => (((((h i).2 h2).2 h4).2 h6).1 h7).2.2.2))⟩⟩⟩), (fun h8 => (kQ _ _ (fun i => (((((h i).2 h2).2 h4).2 h6).2 h8))))⟩)⟩)⟩)⟩
theorem al_p_Bh_sense {I : Type} (i0 : I) {w : MW} {a0 : Int32} {b0 : Int32} {c0 : Int32} {Q1 : I → Int32 → MW → Prop} {Q3 : Int32 → MW → Prop}  (h : ∀ i : I, p_Bh_sense w a0 b0 c0 (Q1 i)) (kQ : ∀ x0 x1, (∀ i : I, Q1 i x0 x1) → Q3 x0 x1) : p_Bh_sense w a0 b0 c0 Q3 := by
  have h := fun i => Eq.mp (p_Bh_sense.eq_1 ..) (h i)
  refine Eq.mpr (p_Bh_sense.eq_1 ..) ?_
  exact ⟨(h i0).1, (al_p_Pr_isSignal i0 (fun i => (h i).2) (fun _ _ h1 => ⟨(fun h2 => (kQ _ _ (fun i => ((h1 i).1 h2)))), (fun h3 => ⟨(fun h4 => (kQ _ _ (fun i => (((h1 i).2 h3).1 h4)))), (fun h5 => ⟨(fun h6 => ⟨((((h1 i0).2 h3).2 h5).1 h6).1, ⟨((((h1 i0).2 h3).2 h5).1 h6).2.1, ⟨((((h1 i0).2 h3).2 h5).1 h6).2.2.1, ⟨((((h1 i0).2 h3).2 h5).1 h6).2.2.2.1, (kQ _ _ (fun i => ((((h1 i).2 h3).2 h5).1 h6).2.2.2.2))⟩⟩⟩⟩), (fun h7 => (kQ _ _ (fun i => ((((h1 i).2 h3).2 h5).2 h7))))⟩)⟩)⟩))⟩
theorem al_p_Bh_signal {I : Type} (i0 : I) {w : MW} {a0 : Int32} {b0 : Int64} {Q1 : I → Int32 → MW → Prop} {Q3 : Int32 → MW → Prop}  (h : ∀ i : I, p_Bh_signal w a0 b0 (Q1 i)) (kQ : ∀ x0 x1, (∀ i : I, Q1 i x0 x1) → Q3 x0 x1) : p_Bh_signal w a0 b0 Q3 := by
  have h := fun i => Eq.mp (p_Bh_signal.eq_1 ..) (h i)
  refine Eq.mpr (p_Bh_signal.eq_1 ..) ?_
  exact ⟨(h i0).1, (al_p_Pr_isSignal i0 (fun i => (h i).2) (fun _ _ h1 => ⟨(fun h2 => ⟨((h1 i0).1 h2).1, ⟨((h1 i0).1 h2).2.1, (kQ _ _ (fun i => ((h1 i).1 h2).2.2))⟩⟩), (fun h3 => (kQ _ _ (fun i => ((h1 i).2 h3))))⟩))⟩
theorem al_q_Ac_tie_71 {I : Type} (i0 : I) {y71_1 : Int32} {y71_2 : Int32} {y71_3 : Int32} {y71_4 : Int32} {y71_5 : Int32} {w : MW} {Q1 : I → Int32 → MW → Prop} {Q3 : Int32 → MW → Prop}  (kQ : ∀ x0 x1, (∀ i : I, Q1 i x0 x1) → Q3 x0 x1) (h : ∀ i : I, q_Ac_tie_71 y71_1 y71_2 y71_3 y71_4 y71_5 w (Q1 i)) : q_Ac_tie_71 y71_1 y71_2 y71_3 y71_4 y71_5 w Q3 := by
  have h := fun i => Eq.mp (q_Ac_tie_71.eq_1 ..) (h i)
  refine Eq.mpr (q_Ac_tie_71.eq_1 ..) ?_
  exact ⟨(h i0).1, ⟨(h i0).2.1, ⟨(h i0).2.2.1, ⟨(h i0).2.2.2.1, (kQ _ _ (fun i => (h i).2.2.2.2))⟩⟩⟩⟩
theorem al_q_Ac_tie_52 {I : Type} (i0 : I) {y52_1 : Int32} {y52_2 : Int32} {y52_3 : Int32} {y52_4 : Int32} {y52_5 : Int32} {w : MW} {Q1 : I → Int32 → MW → Prop} {Q3 : Int32 → MW → Prop}  (kQ : ∀ x0 x1, (∀ i : I, Q1 i x0 x1) → Q3 x0 x1) (h : ∀ i : I, q_Ac_tie_52 y52_1 y52_2 y52_3 y52_4 y52_5 w (Q1 i)) : q_Ac_tie_52 y52_1 y52_2 y52_3 y52_4 y52_5 w Q3 := by
  have h := fun i => Eq.mp (q_Ac_tie_52.eq_1 ..) (h i)
  refine Eq.mpr (q_Ac_tie_52.eq_1 ..) ?_
  exact ⟨(fun h1 => (al_q_Ac_tie_71 i0  kQ (fun i => ((h i).1 h1)))), (fun h2 => ⟨(fun h3 => (kQ _ _ (fun i => (((h i).2 h2).1 h3)))), (fun h4 => ⟨(fun h5 => (al_q_Ac_tie_71 i0  kQ (fun i => ((((h i).2 h2).2 h4).1 h5)))), (fun h6 => (kQ _ _ (fun i => ((((h i).2 h2).2 h4).2 h6))))⟩)⟩)⟩
theorem al_q_Ac_tie_35 {I : Type} (i0 : I) {y35_1 : Int32} {y35_2 : Int32} {y35_3 : Int32} {y35_4 : Int32} {y35_5 : Int32} {w : MW} {Q1 : I → Int32 → MW → Prop} {Q3 : Int32 → MW → Prop}  (kQ : ∀ x0 x1, (∀ i : I, Q1 i x0 x1) → Q3 x0 x1) (h : ∀ i : I, q_Ac_tie_35 y35_1 y35_2 y35_3 y35_4 y35_5 w (Q1 i)) : q_Ac_tie_35 y35_1 y35_2 y35_3 y35_4 y35_5 w Q3 := by
  have h := fun i => Eq.mp (q_Ac_tie_35.eq_1 ..) (h i)
  refine Eq.mpr (q_Ac_tie_35.eq_1 ..) ?_
  exact ⟨(fun h1 => (al_q_Ac_tie_52 i0  kQ (fun i => ((h i).1 h1)))), (fun h2 => ⟨(fun h3 => (kQ _ _ (fun i => (((h i).2 h2).1 h3)))), (fun h4 => ⟨(fun h5 => (kQ _ _ (fun i => ((((h i).2 h2).2 h4).1 h5)))), (fun h6 => (al_q_Ac_tie_52 i0  kQ (fun i => ((((h i).2 h2).2 h4).2 h6))))⟩)⟩)⟩
theorem al_p_Ac_tie {I : Type} (i0 : I) {w : MW} {a0 : Int32} {b0 : Int32} {c0 : Int32} {e0 : Int32} {f0 : Int32} {Q1 : I → Int32 → MW → Prop} {Q3 : Int32 → MW → Prop}  (h : ∀ i : I, p_Ac_tie w a0 b0 c0 e0 f0 (Q1 i)) (kQ : ∀ x0 x1, (∀ i : I, Q1 i x0 x1) → Q3 x0 x1) : p_Ac_tie w a0 b0 c0 e0 f0 Q3 := by
  have h := fun i => Eq.mp (p_Ac_tie.eq_1 ..) (h i)
  refine Eq.mpr (p_Ac_tie.eq_1 ..) ?_
  exact (al_p_Ac_isAct i0 (fun i => (h i)) (fun _ _ h1 => ⟨(fun h2 => (kQ _ _ (fun i => ((h1 i).1 h2)))), (fun h3 => ⟨(fun h4 => (kQ _ _ (fun i => (((h1 i).2 h3).1 h4)))), (fun h5 => ⟨(fun h6 => ⟨(fun h7 => (al_q_Ac_tie_35 i0  kQ (fun i => (((((h1 i).2 h3).2 h5).1 h6).1 h7)))), (fun h8 => ⟨(fun h9 => (kQ _ _ (fun i => ((((((h1 i).2 h3).2 h5).1 h6).2 h8).1 h9)))), (fun h10 => ⟨(fun h11 => (kQ _ _ (fun i => (((((((h1 i).2 h3).2 h5).1 h6).2 h8).2 h10).1 h11)))), (fun h12 => (al_q_Ac_tie_35 i0  kQ (fun i => (((((((h1 i).2 h3).2 h5).1 h6).2 h8).2 h10).2 h12))))⟩)⟩)⟩), (fun h13 => (kQ _ _ (fun i => ((((h1 i).2 h3).2 h5).2 h13))))⟩)⟩)⟩))
theorem al_p_Bh_bind {I : Type} (i0 : I) {w : MW} {a0 : Int32} {b0 : Int32} {c0 : Int32} {e0 : Int32} {f0 : Int32} {Q1 : I → Int32 → MW → Prop} {Q3 : Int32 → MW → Prop}  (h : ∀ i : I, p_Bh_bind w a0 b0 c0 e0 f0 (Q1 i)) (kQ : ∀ x0 x1, (∀ i : I, Q1 i x0 x1) → Q3 x0 x1) : p_Bh_bind w a0 b0 c0 e0 f0 Q3 := by
  have h := fun i => Eq.mp (p_Bh_bind.eq_1 ..) (h i)
  refine Eq.mpr (p_Bh_bind.eq_1 ..) ?_
  exact (al_p_Ac_tie i0 (fun i => (h i)) (fun _ _ h1 => (kQ _ _ (fun i => (h1 i)))))
theorem al_p_Bh_isPerson {I : Type} (i0 : I) {w : MW} {a0 : Int32} {Q1 : I → Int32 → MW → Prop} {Q3 : Int32 → MW → Prop}  (h : ∀ i : I, p_Bh_isPerson w a0 (Q1 i)) (kQ : ∀ x0 x1, (∀ i : I, Q1 i x0 x1) → Q3 x0 x1) : p_Bh_isPerson w a0 Q3 := by
  have h := fun i => Eq.mp (p_Bh_isPerson.eq_1 ..) (h i)
  refine Eq.mpr (p_Bh_isPerson.eq_1 ..) ?_
  exact ⟨(fun h1 => (kQ _ _ (fun i => ((h i).1 h1)))), (fun h2 => ⟨(fun h3 => (kQ _ _ (fun i => (((h i).2 h2).1 h3)))), (fun h4 => (kQ _ _ (fun i => (((h i).2 h2).2 h4))))⟩)⟩
theorem al_p_Ro_has {I : Type} (i0 : I) {w : MW} {a0 : Int32} {Q1 : I → Int32 → MW → Prop} {Q3 : Int32 → MW → Prop}  (h : ∀ i : I, p_Ro_has w a0 (Q1 i)) (kQ : ∀ x0 x1, (∀ i : I, Q1 i x0 x1) → Q3 x0 x1) : p_Ro_has w a0 Q3 := by
  have h := fun i => Eq.mp (p_Ro_has.eq_1 ..) (h i)
  refine Eq.mpr (p_Ro_has.eq_1 ..) ?_
  exact ⟨(fun h1 => (kQ _ _ (fun i => ((h i).1 h1)))), (fun h2 => ⟨(fun h3 => (kQ _ _ (fun i => (((h i).2 h2).1 h3)))), (fun h4 => (kQ _ _ (fun i => (((h i).2 h2).2 h4))))⟩)⟩
theorem al_p_Bh_pass {I : Type} (i0 : I) {w : MW} {a0 : Int32} {b0 : Int32} {c0 : Int32} {e0 : Int32} {Q1 : I → Int32 → MW → Prop} {Q3 : Int32 → MW → Prop}  (h : ∀ i : I, p_Bh_pass w a0 b0 c0 e0 (Q1 i)) (kQ : ∀ x0 x1, (∀ i : I, Q1 i x0 x1) → Q3 x0 x1) : p_Bh_pass w a0 b0 c0 e0 Q3 := by
  have h := fun i => Eq.mp (p_Bh_pass.eq_1 ..) (h i)
  refine Eq.mpr (p_Bh_pass.eq_1 ..) ?_
  exact ⟨(h i0).1, (al_p_Ro_has i0 (fun i => (h i).2) (fun _ _ h1 => ⟨(fun h2 => (al_p_Bh_isPerson i0 (fun i => ((h1 i).1 h2)) (fun _ _ h3 => ⟨(fun h4 => (kQ _ _ (fun i => ((h3 i).1 h4)))), (fun h5 => (al_p_Bh_isPerson i0 (fun i => ((h3 i).2 h5)) (fun _ _ h6 => ⟨(fun h7 => (kQ _ _ (fun i => ((h6 i).1 h7)))), (fun h8 => ⟨(fun h9 => ⟨(fun h10 => (kQ _ _ (fun i => ((((h6 i).2 h8).1 h9).1 h10)))), (fun h11 => ⟨(fun h12 => ⟨(((((h6 i0).2 h8).1 h9).2 h11).1 h12).1, ⟨(((((h6 i0).2 h8).1 h9).2 h11).1 h12).2.1, ⟨(fun h13 => ⟨((((((h6 i0).2 h8).1 h9).2 h11).1 h12).2.2.1 h13).1, ⟨((((((h6 i0).2 h8).1 h9).2 h11).1 h12).2.2.1 h13).2.1, (kQ _ _ (fun i => ((((((h6 i).2 h8).1 h9).2 h11).1 h12).2.2.1 h13).2.2))⟩⟩), (fun h14 => (kQ _ _ (fun i => ((((((h6 i).2 h8).1 h9).2 h11).1 h12).2.2.2 h14))))⟩⟩⟩), (fun h15 => (kQ _ _ (fun i => (((((h6 i).2 h8).1 h9).2 h11).2 h15))))⟩)⟩), (fun h16 => (kQ _ _ (fun i => (((h6 i).2 h8).2 h16))))⟩)⟩)))⟩))), (fun h17 => (kQ _ _ (fun i => ((h1 i).2 h17))))⟩))⟩
theorem al_p_Bh_reset {I : Type} (i0 : I) {w : MW} {a0 : Int32} {Q1 : I → Int32 → MW → Prop} {Q3 : Int32 → MW → Prop}  (h : ∀ i : I, p_Bh_reset w a0 (Q1 i)) (kQ : ∀ x0 x1, (∀ i : I, Q1 i x0 x1) → Q3 x0 x1) : p_Bh_reset w a0 Q3 := by
  have h := fun i => Eq.mp (p_Bh_reset.eq_1 ..) (h i)
  refine Eq.mpr (p_Bh_reset.eq_1 ..) ?_
  exact ⟨(h i0).1, (al_p_Ro_has i0 (fun i => (h i).2) (fun _ _ h1 => ⟨(fun h2 => (kQ _ _ (fun i => ((h1 i).1 h2)))), (fun h3 => ⟨((h1 i0).2 h3).1, ⟨(fun h4 => (kQ _ _ (fun i => (((h1 i).2 h3).2.1 h4)))), (fun h5 => (al_p_Ro_isOn i0 (fun i => (((h1 i).2 h3).2.2 h5)) (fun _ _ h6 => ⟨(fun h7 => ⟨((h6 i0).1 h7).1, (kQ _ _ (fun i => ((h6 i).1 h7).2))⟩), (fun h8 => (kQ _ _ (fun i => ((h6 i).2 h8))))⟩)))⟩⟩)⟩))⟩
theorem al_p_Bh_bars {I : Type} (i0 : I) {w : MW} {a0 : Int32} {Q1 : I → Int32 → MW → Prop} {Q3 : Int32 → MW → Prop}  (h : ∀ i : I, p_Bh_bars w a0 (Q1 i)) (kQ : ∀ x0 x1, (∀ i : I, Q1 i x0 x1) → Q3 x0 x1) : p_Bh_bars w a0 Q3 := by
  have h := fun i => Eq.mp (p_Bh_bars.eq_1 ..) (h i)
  refine Eq.mpr (p_Bh_bars.eq_1 ..) ?_
  exact (al_p_Ac_isAct i0 (fun i => (h i)) (fun _ _ h1 => ⟨(fun h2 => (kQ _ _ (fun i => ((h1 i).1 h2)))), (fun h3 => ⟨((h1 i0).2 h3).1, (al_p_Ro_barring i0 (fun i => ((h1 i).2 h3).2) (fun _ _ h4 => (kQ _ _ (fun i => (h4 i)))))⟩)⟩))
theorem al_p_Bh_row {I : Type} (i0 : I) {w : MW} {a0 : Int32} {b0 : Int32} {Q1 : I → Int32 → MW → Prop} {Q3 : Int32 → MW → Prop}  (h : ∀ i : I, p_Bh_row w a0 b0 (Q1 i)) (kQ : ∀ x0 x1, (∀ i : I, Q1 i x0 x1) → Q3 x0 x1) : p_Bh_row w a0 b0 Q3 := by
  have h := fun i => Eq.mp (p_Bh_row.eq_1 ..) (h i)
  refine Eq.mpr (p_Bh_row.eq_1 ..) ?_
  exact ⟨(h i0).1, (al_p_Ro_has i0 (fun i => (h i).2) (fun _ _ h1 => ⟨(fun h2 => ⟨(fun h3 => ⟨(((h1 i0).1 h2).1 h3).1, (kQ _ _ (fun i => (((h1 i).1 h2).1 h3).2))⟩), (fun h4 => ⟨(fun h5 => ⟨((((h1 i0).1 h2).2 h4).1 h5).1, ⟨(fun h6 => (kQ _ _ (fun i => (((((h1 i).1 h2).2 h4).1 h5).2.1 h6)))), (fun h7 => (kQ _ _ (fun i => (((((h1 i).1 h2).2 h4).1 h5).2.2 h7))))⟩⟩), (fun h8 => ⟨(fun h9 => ⟨(((((h1 i0).1 h2).2 h4).2 h8).1 h9).1, (kQ _ _ (fun i => (((((h1 i).1 h2).2 h4).2 h8).1 h9).2))⟩), (fun h10 => ⟨(fun h11 => (al_p_Ro_isOn i0 (fun i => ((((((h1 i).1 h2).2 h4).2 h8).2 h10).1 h11)) (fun _ _ h12 => ⟨(fun h13 => (kQ _ _ (fun i => ((h12 i).1 h13)))), (fun h14 => (kQ _ _ (fun i => ((h12 i).2 h14))))⟩))), (fun h15 => (kQ _ _ (fun i => ((((((h1 i).1 h2).2 h4).2 h8).2 h10).2 h15))))⟩)⟩)⟩)⟩), (fun h16 => (kQ _ _ (fun i => ((h1 i).2 h16))))⟩))⟩
theorem al_p_Pr_hasValue {I : Type} (i0 : I) {w : MW} {a0 : Int32} {Q1 : I → Int32 → MW → Prop} {Q3 : Int32 → MW → Prop}  (h : ∀ i : I, p_Pr_hasValue w a0 (Q1 i)) (kQ : ∀ x0 x1, (∀ i : I, Q1 i x0 x1) → Q3 x0 x1) : p_Pr_hasValue w a0 Q3 := by
  have h := fun i => Eq.mp (p_Pr_hasValue.eq_1 ..) (h i)
  refine Eq.mpr (p_Pr_hasValue.eq_1 ..) ?_
  exact ⟨(fun h1 => (kQ _ _ (fun i => ((h i).1 h1)))), (fun h2 => ⟨(fun h3 => (kQ _ _ (fun i => (((h i).2 h2).1 h3)))), (fun h4 => ⟨(((h i0).2 h2).2 h4).1, ⟨(fun h5 => (kQ _ _ (fun i => ((((h i).2 h2).2 h4).2.1 h5)))), (fun h6 => (kQ _ _ (fun i => ((((h i).2 h2).2 h4).2.2 h6))))⟩⟩)⟩)⟩
theorem al_p_Bh_value {I : Type} (i0 : I) {w : MW} {a0 : Int32} {Q1 : I → Int64 → MW → Prop} {Q3 : Int64 → MW → Prop}  (h : ∀ i : I, p_Bh_value w a0 (Q1 i)) (kQ : ∀ x0 x1, (∀ i : I, Q1 i x0 x1) → Q3 x0 x1) : p_Bh_value w a0 Q3 := by
  have h := fun i => Eq.mp (p_Bh_value.eq_1 ..) (h i)
  refine Eq.mpr (p_Bh_value.eq_1 ..) ?_
  exact ⟨(h i0).1, (al_p_Pr_hasValue i0 (fun i => (h i).2) (fun _ _ h1 => ⟨(fun h2 => (kQ _ _ (fun i => ((h1 i).1 h2)))), (fun h3 => ⟨((h1 i0).2 h3).1, ⟨((h1 i0).2 h3).2.1, (kQ _ _ (fun i => ((h1 i).2 h3).2.2))⟩⟩)⟩))⟩
theorem al_p_Bh_fill {I : Type} (i0 : I) {w : MW} {a0 : Int32} {b0 : Int32} {c0 : Int64} {Q1 : I → Int32 → MW → Prop} {Q3 : Int32 → MW → Prop}  (h : ∀ i : I, p_Bh_fill w a0 b0 c0 (Q1 i)) (kQ : ∀ x0 x1, (∀ i : I, Q1 i x0 x1) → Q3 x0 x1) : p_Bh_fill w a0 b0 c0 Q3 := by
  have h := fun i => Eq.mp (p_Bh_fill.eq_1 ..) (h i)
  refine Eq.mpr (p_Bh_fill.eq_1 ..) ?_
  exact (al_p_St_isTank i0 (fun i => (h i)) (fun _ _ h1 => ⟨(fun h2 => (kQ _ _ (fun i => ((h1 i).1 h2)))), (fun h3 => (al_p_Bh_isLiquid i0 (fun i => ((h1 i).2 h3)) (fun _ _ h4 => ⟨(fun h5 => (kQ _ _ (fun i => ((h4 i).1 h5)))), (fun h6 => ⟨(fun h7 => (kQ _ _ (fun i => (((h4 i).2 h6).1 h7)))), (fun h8 => ⟨(fun h9 => ⟨((((h4 i0).2 h6).2 h8).1 h9).1, ⟨((((h4 i0).2 h6).2 h8).1 h9).2.1, ⟨((((h4 i0).2 h6).2 h8).1 h9).2.2.1, ⟨(fun h10 => (kQ _ _ (fun i => (((((h4 i).2 h6).2 h8).1 h9).2.2.2.1 h10)))), (fun h11 => (al_p_St_mayCome i0 (fun i => (((((h4 i).2 h6).2 h8).1 h9).2.2.2.2 h11)) (fun _ _ h12 => ⟨(fun h13 => ⟨((h12 i0).1 h13).1, ⟨((h12 i0).1 h13).2.1, (al_p_Sf_isSafe i0 (fun i => ((h12 i).1 h13).2.2) (fun _ _ h14 => ⟨(h14 i0).1, ⟨(fun h15 => (kQ _ _ (fun i => ((h14 i).2.1 h15)))), (fun h16 => (al_p_St_arrive i0 (fun i => ((h14 i).2.2 h16)) (fun _ h17 => (kQ _ _ (fun i => (h17 i))))))⟩⟩))⟩⟩), (fun h18 => (kQ _ _ (fun i => ((h12 i).2 h18))))⟩)))⟩⟩⟩⟩), (fun h19 => (kQ _ _ (fun i => ((((h4 i).2 h6).2 h8).2 h19))))⟩)⟩)⟩)))⟩))
theorem al_p_St_levelOf {I : Type} (i0 : I) {w : MW} {a0 : Int32} {Q1 : I → Int32 → MW → Prop} {Q3 : Int32 → MW → Prop}  (h : ∀ i : I, p_St_levelOf w a0 (Q1 i)) (kQ : ∀ x0 x1, (∀ i : I, Q1 i x0 x1) → Q3 x0 x1) : p_St_levelOf w a0 Q3 := by
  have h := fun i => Eq.mp (p_St_levelOf.eq_1 ..) (h i)
  refine Eq.mpr (p_St_levelOf.eq_1 ..) ?_
  exact ⟨(h i0).1, ⟨(fun h1 => (kQ _ _ (fun i => ((h i).2.1 h1)))), (fun h2 => ⟨((h i0).2.2 h2).1, ⟨(fun h3 => (al_p_St_heldLevel i0 (fun i => (((h i).2.2 h2).2.1 h3)) (fun _ _ h4 => (kQ _ _ (fun i => (h4 i)))))), (fun h5 => (kQ _ _ (fun i => (((h i).2.2 h2).2.2 h5))))⟩⟩)⟩⟩
theorem al_p_Bh_space {I : Type} (i0 : I) {w : MW} {a0 : Int32} {b0 : Int32} {Q1 : I → Int32 → MW → Prop} {Q3 : Int32 → MW → Prop}  (h : ∀ i : I, p_Bh_space w a0 b0 (Q1 i)) (kQ : ∀ x0 x1, (∀ i : I, Q1 i x0 x1) → Q3 x0 x1) : p_Bh_space w a0 b0 Q3 := by
  have h := fun i => Eq.mp (p_Bh_space.eq_1 ..) (h i)
  refine Eq.mpr (p_Bh_space.eq_1 ..) ?_
  exact ⟨(fun h1 => (al_p_St_isHolder i0 (fun i => ((h i).1 h1)) (fun _ _ h2 => ⟨(fun h3 => ⟨(fun h4 => ⟨(((h2 i0).1 h3).1 h4).1, (kQ _ _ (fun i => (((h2 i).1 h3).1 h4).2))⟩), (fun h5 => ⟨(fun h6 => ⟨((((h2 i0).1 h3).2 h5).1 h6).1, (kQ _ _ (fun i => ((((h2 i).1 h3).2 h5).1 h6).2))⟩), (fun h7 => ⟨(fun h8 => ⟨(((((h2 i0).1 h3).2 h5).2 h7).1 h8).1, ⟨(fun h9 => ⟨((((((h2 i0).1 h3).2 h5).2 h7).1 h8).2.1 h9).1, (kQ _ _ (fun i => ((((((h2 i).1 h3).2 h5).2 h7).1 h8).2.1 h9).2))⟩), (fun h10 => ⟨((((((h2 i0).1 h3).2 h5).2 h7).1 h8).2.2 h10).1, (kQ _ _ (fun i => ((((((h2 i).1 h3).2 h5).2 h7).1 h8).2.2 h10).2))⟩)⟩⟩), (fun h11 => ⟨(fun h12 => (al_p_St_levelOf i0 (fun i => ((((((h2 i).1 h3).2 h5).2 h7).2 h11).1 h12)) (fun _ _ h13 => (kQ _ _ (fun i => (h13 i)))))), (fun h14 => (kQ _ _ (fun i => ((((((h2 i).1 h3).2 h5).2 h7).2 h11).2 h14))))⟩)⟩)⟩)⟩), (fun h15 => (kQ _ _ (fun i => ((h2 i).2 h15))))⟩))), (fun h16 => (al_p_St_isValve i0 (fun i => ((h i).2 h16)) (fun _ _ h17 => ⟨(fun h18 => (kQ _ _ (fun i => ((h17 i).1 h18)))), (fun h19 => ⟨((h17 i0).2 h19).1, (kQ _ _ (fun i => ((h17 i).2 h19).2))⟩)⟩)))⟩
theorem al_p_Mo_need {I : Type} (i0 : I) {w : MW} {a0 : Int32} {b0 : Int32} {c0 : Int32} {Q1 : I → Int32 → MW → Prop} {Q3 : Int32 → MW → Prop}  (h : ∀ i : I, p_Mo_need w a0 b0 c0 (Q1 i)) (kQ : ∀ x0 x1, (∀ i : I, Q1 i x0 x1) → Q3 x0 x1) : p_Mo_need w a0 b0 c0 Q3 := by
  have h := fun i => Eq.mp (p_Mo_need.eq_1 ..) (h i)
  refine Eq.mpr (p_Mo_need.eq_1 ..) ?_
  exact ⟨(fun h1 => (kQ _ _ (fun i => ((h i).1 h1)))), (fun h2 => ⟨(fun h3 => (kQ _ _ (fun i => (((h i).2 h2).1 h3)))), (fun h4 => ⟨(fun h5 => (kQ _ _ (fun i => ((((h i).2 h2).2 h4).1 h5)))), (fun h6 => ⟨(fun h7 => (kQ _ _ (fun i => (((((h i).2 h2).2 h4).2 h6).1 h7)))), (fun h8 => ⟨(fun h9 => (kQ _ _ (fun i => ((((((h i).2 h2).2 h4).2 h6).2 h8).1 h9)))), (fun h10 => ⟨(fun h11 => ⟨(((((((h i0).2 h2).2 h4).2 h6).2 h8).2 h10).1 h11).1, (kQ _ _ (fun i => (((((((h i).2 h2).2 h4).2 h6).2 h8).2 h10).1 h11).2))⟩), (fun h12 => (kQ _ _ (fun i => (((((((h i).2 h2).2 h4).2 h6).2 h8).2 h10).2 h12))))⟩)⟩)⟩)⟩)⟩)⟩
theorem al_p_Mo_lasts {I : Type} (i0 : I) {w : MW} {a0 : Int32} {b0 : Int32} {Q1 : I → Int32 → MW → Prop} {Q3 : Int32 → MW → Prop}  (h : ∀ i : I, p_Mo_lasts w a0 b0 (Q1 i)) (kQ : ∀ x0 x1, (∀ i : I, Q1 i x0 x1) → Q3 x0 x1) : p_Mo_lasts w a0 b0 Q3 := by
  have h := fun i => Eq.mp (p_Mo_lasts.eq_1 ..) (h i)
  refine Eq.mpr (p_Mo_lasts.eq_1 ..) ?_
  exact ⟨(fun h1 => (kQ _ _ (fun i => ((h i).1 h1)))), (fun h2 => ⟨(fun h3 => (kQ _ _ (fun i => (((h i).2 h2).1 h3)))), (fun h4 => ⟨(fun h5 => (kQ _ _ (fun i => ((((h i).2 h2).2 h4).1 h5)))), (fun h6 => ⟨(fun h7 => ⟨(((((h i0).2 h2).2 h4).2 h6).1 h7).1, (kQ _ _ (fun i => (((((h i).2 h2).2 h4).2 h6).1 h7).2))⟩), (fun h8 => (kQ _ _ (fun i => (((((h i).2 h2).2 h4).2 h6).2 h8))))⟩)⟩)⟩)⟩
theorem al_q_Mo_may_46 {I : Type} (i0 : I) {y46_1 : Int32} {y46_2 : Int32} {ys46_0 : Int32} {w : MW} {Q1 : I → Int32 → MW → Prop} {Q3 : Int32 → MW → Prop}  (kQ : ∀ x0 x1, (∀ i : I, Q1 i x0 x1) → Q3 x0 x1) (h : ∀ i : I, q_Mo_may_46 y46_1 y46_2 ys46_0 w (Q1 i)) : q_Mo_may_46 y46_1 y46_2 ys46_0 w Q3 := by
  have h := fun i => Eq.mp (q_Mo_may_46.eq_1 ..) (h i)
  refine Eq.mpr (q_Mo_may_46.eq_1 ..) ?_
  exact ⟨(fun h1 => ⟨((h i0).1 h1).1, (kQ _ _ (fun i => ((h i).1 h1).2))⟩), (fun h2 => ⟨((h i0).2 h2).1, ⟨((h i0).2 h2).2.1, ⟨((h i0).2 h2).2.2.1, (kQ _ _ (fun i => ((h i).2 h2).2.2.2))⟩⟩⟩)⟩
theorem al_p_Mo_may {I : Type} (i0 : I) {w : MW} {a0 : Int32} {b0 : Int32} {Q1 : I → Int32 → MW → Prop} {Q3 : Int32 → MW → Prop}  (h : ∀ i : I, p_Mo_may w a0 b0 (Q1 i)) (kQ : ∀ x0 x1, (∀ i : I, Q1 i x0 x1) → Q3 x0 x1) : p_Mo_may w a0 b0 Q3 := by
  have h := fun i => Eq.mp (p_Mo_may.eq_1 ..) (h i)
  refine Eq.mpr (p_Mo_may.eq_1 ..) ?_
  exact ⟨(fun h1 => (al_q_Mo_may_46 i0  kQ (fun i => ((h i).1 h1)))), (fun h2 => ⟨(fun h3 => (al_q_Mo_may_46 i0  kQ (fun i => (((h i).2 h2).1 h3)))), (fun h4 => ⟨(fun h5 => (al_q_Mo_may_46 i0  kQ (fun i => ((((h i).2 h2).2 h4).1 h5)))), (fun h6 => ⟨(fun h7 => (al_q_Mo_may_46 i0  kQ (fun i => (((((h i).2 h2).2 h4).2 h6).1 h7)))), (fun h8 => ⟨(fun h9 => (al_q_Mo_may_46 i0  kQ (fun i => ((((((h i).2 h2).2 h4).2 h6).2 h8).1 h9)))), (fun h10 => ⟨((((((h i0).2 h2).2 h4).2 h6).2 h8).2 h10).1, ⟨(fun h11 => (al_q_Mo_may_46 i0  kQ (fun i => (((((((h i).2 h2).2 h4).2 h6).2 h8).2 h10).2.1 h11)))), (fun h12 => (al_q_Mo_may_46 i0  kQ (fun i => (((((((h i).2 h2).2 h4).2 h6).2 h8).2 h10).2.2 h12))))⟩⟩)⟩)⟩)⟩)⟩)⟩
theorem al_p_Mo_watch {I : Type} (i0 : I) {w : MW} {a0 : Int32} {b0 : Int32} {c0 : Int32} {e0 : Int64} {Q1 : I → Int32 → MW → Prop} {Q3 : Int32 → MW → Prop}  (h : ∀ i : I, p_Mo_watch w a0 b0 c0 e0 (Q1 i)) (kQ : ∀ x0 x1, (∀ i : I, Q1 i x0 x1) → Q3 x0 x1) : p_Mo_watch w a0 b0 c0 e0 Q3 := by
  have h := fun i => Eq.mp (p_Mo_watch.eq_1 ..) (h i)
  refine Eq.mpr (p_Mo_watch.eq_1 ..) ?_
  exact ⟨(fun h1 => (kQ _ _ (fun i => ((h i).1 h1)))), (fun h2 => ⟨(fun h3 => (kQ _ _ (fun i => (((h i).2 h2).1 h3)))), (fun h4 => ⟨(fun h5 => (kQ _ _ (fun i => ((((h i).2 h2).2 h4).1 h5)))), (fun h6 => ⟨(fun h7 => ⟨(((((h i0).2 h2).2 h4).2 h6).1 h7).1, ⟨(((((h i0).2 h2).2 h4).2 h6).1 h7).2.1, ⟨(((((h i0).2 h2).2 h4).2 h6).1 h7).2.2.1, (kQ _ _ (fun i => (((((h i).2 h2).2 h4).2 h6).1 h7).2.2.2))⟩⟩⟩), (fun h8 => (kQ _ _ (fun i => (((((h i).2 h2).2 h4).2 h6).2 h8))))⟩)⟩)⟩)⟩
theorem al_p_Mo_isRole {I : Type} (i0 : I) {w : MW} {a0 : Int32} {b0 : Int32} {Q1 : I → Int32 → MW → Prop} {Q3 : Int32 → MW → Prop}  (h : ∀ i : I, p_Mo_isRole w a0 b0 (Q1 i)) (kQ : ∀ x0 x1, (∀ i : I, Q1 i x0 x1) → Q3 x0 x1) : p_Mo_isRole w a0 b0 Q3 := by
  have h := fun i => Eq.mp (p_Mo_isRole.eq_1 ..) (h i)
  refine Eq.mpr (p_Mo_isRole.eq_1 ..) ?_
  exact ⟨(fun h1 => (kQ _ _ (fun i => ((h i).1 h1)))), (fun h2 => ⟨(fun h3 => (kQ _ _ (fun i => (((h i).2 h2).1 h3)))), (fun h4 => ⟨(((h i0).2 h2).2 h4).1, ⟨(fun h5 => (kQ _ _ (fun i => ((((h i).2 h2).2 h4).2.1 h5)))), (fun h6 => (kQ _ _ (fun i => ((((h i).2 h2).2 h4).2.2 h6))))⟩⟩)⟩)⟩
theorem al_p_Mo_sense {I : Type} (i0 : I) {w : MW} {a0 : Int32} {b0 : Int32} {c0 : Int32} {Q1 : I → Int32 → MW → Prop} {Q3 : Int32 → MW → Prop}  (h : ∀ i : I, p_Mo_sense w a0 b0 c0 (Q1 i)) (kQ : ∀ x0 x1, (∀ i : I, Q1 i x0 x1) → Q3 x0 x1) : p_Mo_sense w a0 b0 c0 Q3 := by
  have h := fun i => Eq.mp (p_Mo_sense.eq_1 ..) (h i)
  refine Eq.mpr (p_Mo_sense.eq_1 ..) ?_
  exact (al_p_Mo_isRole i0 (fun i => (h i)) (fun _ _ h1 => ⟨(fun h2 => (kQ _ _ (fun i => ((h1 i).1 h2)))), (fun h3 => ⟨(fun h4 => (kQ _ _ (fun i => (((h1 i).2 h3).1 h4)))), (fun h5 => ⟨(fun h6 => ⟨((((h1 i0).2 h3).2 h5).1 h6).1, ⟨((((h1 i0).2 h3).2 h5).1 h6).2.1, (kQ _ _ (fun i => ((((h1 i).2 h3).2 h5).1 h6).2.2))⟩⟩), (fun h7 => (kQ _ _ (fun i => ((((h1 i).2 h3).2 h5).2 h7))))⟩)⟩)⟩))
theorem al_p_Mo_signal {I : Type} (i0 : I) {w : MW} {a0 : Int32} {b0 : Int64} {Q1 : I → Int32 → MW → Prop} {Q3 : Int32 → MW → Prop}  (h : ∀ i : I, p_Mo_signal w a0 b0 (Q1 i)) (kQ : ∀ x0 x1, (∀ i : I, Q1 i x0 x1) → Q3 x0 x1) : p_Mo_signal w a0 b0 Q3 := by
  have h := fun i => Eq.mp (p_Mo_signal.eq_1 ..) (h i)
  refine Eq.mpr (p_Mo_signal.eq_1 ..) ?_
  exact (al_p_Mo_isRole i0 (fun i => (h i)) (fun _ _ h1 => ⟨(fun h2 => ⟨((h1 i0).1 h2).1, (kQ _ _ (fun i => ((h1 i).1 h2).2))⟩), (fun h3 => (kQ _ _ (fun i => ((h1 i).2 h3))))⟩))
theorem al_q_Mo_bind_72 {I : Type} (i0 : I) {y72_1 : Int32} {y72_2 : Int32} {y72_3 : Int32} {y72_4 : Int32} {y72_5 : Int32} {w : MW} {Q1 : I → Int32 → MW → Prop} {Q3 : Int32 → MW → Prop}  (kQ : ∀ x0 x1, (∀ i : I, Q1 i x0 x1) → Q3 x0 x1) (h : ∀ i : I, q_Mo_bind_72 y72_1 y72_2 y72_3 y72_4 y72_5 w (Q1 i)) : q_Mo_bind_72 y72_1 y72_2 y72_3 y72_4 y72_5 w Q3 := by
  have h := fun i => Eq.mp (q_Mo_bind_72.eq_1 ..) (h i)
  refine Eq.mpr (q_Mo_bind_72.eq_1 ..) ?_
  exact ⟨(h i0).1, ⟨(h i0).2.1, ⟨(h i0).2.2.1, ⟨(h i0).2.2.2.1, (kQ _ _ (fun i => (h i).2.2.2.2))⟩⟩⟩⟩
theorem al_q_Mo_bind_53 {I : Type} (i0 : I) {y53_1 : Int32} {y53_2 : Int32} {y53_3 : Int32} {y53_4 : Int32} {y53_5 : Int32} {w : MW} {Q1 : I → Int32 → MW → Prop} {Q3 : Int32 → MW → Prop}  (kQ : ∀ x0 x1, (∀ i : I, Q1 i x0 x1) → Q3 x0 x1) (h : ∀ i : I, q_Mo_bind_53 y53_1 y53_2 y53_3 y53_4 y53_5 w (Q1 i)) : q_Mo_bind_53 y53_1 y53_2 y53_3 y53_4 y53_5 w Q3 := by
  have h := fun i => Eq.mp (q_Mo_bind_53.eq_1 ..) (h i)
  refine Eq.mpr (q_Mo_bind_53.eq_1 ..) ?_
  exact ⟨(fun h1 => (al_q_Mo_bind_72 i0  kQ (fun i => ((h i).1 h1)))), (fun h2 => ⟨(fun h3 => (kQ _ _ (fun i => (((h i).2 h2).1 h3)))), (fun h4 => ⟨(fun h5 => (al_q_Mo_bind_72 i0  kQ (fun i => ((((h i).2 h2).2 h4).1 h5)))), (fun h6 => (kQ _ _ (fun i => ((((h i).2 h2).2 h4).2 h6))))⟩)⟩)⟩
theorem al_q_Mo_bind_36 {I : Type} (i0 : I) {y36_1 : Int32} {y36_2 : Int32} {y36_3 : Int32} {y36_4 : Int32} {y36_5 : Int32} {w : MW} {Q1 : I → Int32 → MW → Prop} {Q3 : Int32 → MW → Prop}  (kQ : ∀ x0 x1, (∀ i : I, Q1 i x0 x1) → Q3 x0 x1) (h : ∀ i : I, q_Mo_bind_36 y36_1 y36_2 y36_3 y36_4 y36_5 w (Q1 i)) : q_Mo_bind_36 y36_1 y36_2 y36_3 y36_4 y36_5 w Q3 := by
  have h := fun i => Eq.mp (q_Mo_bind_36.eq_1 ..) (h i)
  refine Eq.mpr (q_Mo_bind_36.eq_1 ..) ?_
  exact ⟨(fun h1 => (al_q_Mo_bind_53 i0  kQ (fun i => ((h i).1 h1)))), (fun h2 => ⟨(fun h3 => (kQ _ _ (fun i => (((h i).2 h2).1 h3)))), (fun h4 => ⟨(fun h5 => (kQ _ _ (fun i => ((((h i).2 h2).2 h4).1 h5)))), (fun h6 => (al_q_Mo_bind_53 i0  kQ (fun i => ((((h i).2 h2).2 h4).2 h6))))⟩)⟩)⟩
theorem al_p_Mo_bind {I : Type} (i0 : I) {w : MW} {a0 : Int32} {b0 : Int32} {c0 : Int32} {e0 : Int32} {f0 : Int32} {Q1 : I → Int32 → MW → Prop} {Q3 : Int32 → MW → Prop}  (h : ∀ i : I, p_Mo_bind w a0 b0 c0 e0 f0 (Q1 i)) (kQ : ∀ x0 x1, (∀ i : I, Q1 i x0 x1) → Q3 x0 x1) : p_Mo_bind w a0 b0 c0 e0 f0 Q3 := by
  have h := fun i => Eq.mp (p_Mo_bind.eq_1 ..) (h i)
  refine Eq.mpr (p_Mo_bind.eq_1 ..) ?_
  exact ⟨(fun h1 => (kQ _ _ (fun i => ((h i).1 h1)))), (fun h2 => ⟨(fun h3 => (kQ _ _ (fun i => (((h i).2 h2).1 h3)))), (fun h4 => ⟨(fun h5 => (kQ _ _ (fun i => ((((h i).2 h2).2 h4).1 h5)))), (fun h6 => ⟨(fun h7 => (kQ _ _ (fun i => (((((h i).2 h2).2 h4).2 h6).1 h7)))), (fun h8 => ⟨(fun h9 => (al_q_Mo_bind_36 i0  kQ (fun i => ((((((h i).2 h2).2 h4).2 h6).2 h8).1 h9)))), (fun h10 => ⟨(fun h11 => (kQ _ _ (fun i => (((((((h i).2 h2).2 h4).2 h6).2 h8).2 h10).1 h11)))), (fun h12 => ⟨(fun h13 => (kQ _ _ (fun i => ((((((((h i).2 h2).2 h4).2 h6).2 h8).2 h10).2 h12).1 h13)))), (fun h14 => (al_q_Mo_bind_36 i0  kQ (fun i => ((((((((h i).2 h2).2 h4).2 h6).2 h8).2 h10).2 h12).2 h14))))⟩)⟩)⟩)⟩)⟩)⟩)⟩
theorem al_p_Mr_isRow {I : Type} (i0 : I) {w : MW} {a0 : Int32} {Q1 : I → Int32 → MW → Prop} {Q3 : Int32 → MW → Prop}  (h : ∀ i : I, p_Mr_isRow w a0 (Q1 i)) (kQ : ∀ x0 x1, (∀ i : I, Q1 i x0 x1) → Q3 x0 x1) : p_Mr_isRow w a0 Q3 := by
  have h := fun i => Eq.mp (p_Mr_isRow.eq_1 ..) (h i)
  refine Eq.mpr (p_Mr_isRow.eq_1 ..) ?_
  exact ⟨(fun h1 => (kQ _ _ (fun i => ((h i).1 h1)))), (fun h2 => ⟨(fun h3 => (kQ _ _ (fun i => (((h i).2 h2).1 h3)))), (fun h4 => (kQ _ _ (fun i => (((h i).2 h2).2 h4))))⟩)⟩
theorem al_p_Mr_pass {I : Type} (i0 : I) {w : MW} {a0 : Int32} {b0 : Int32} {c0 : Int32} {e0 : Int32} {Q1 : I → Int32 → MW → Prop} {Q3 : Int32 → MW → Prop}  (h : ∀ i : I, p_Mr_pass w a0 b0 c0 e0 (Q1 i)) (kQ : ∀ x0 x1, (∀ i : I, Q1 i x0 x1) → Q3 x0 x1) : p_Mr_pass w a0 b0 c0 e0 Q3 := by
  have h := fun i => Eq.mp (p_Mr_pass.eq_1 ..) (h i)
  refine Eq.mpr (p_Mr_pass.eq_1 ..) ?_
  exact (al_p_Mr_isRow i0 (fun i => (h i)) (fun _ _ h1 => ⟨(fun h2 => ⟨(fun h3 => (kQ _ _ (fun i => (((h1 i).1 h2).1 h3)))), (fun h4 => ⟨(fun h5 => (kQ _ _ (fun i => ((((h1 i).1 h2).2 h4).1 h5)))), (fun h6 => ⟨(fun h7 => (kQ _ _ (fun i => (((((h1 i).1 h2).2 h4).2 h6).1 h7)))), (fun h8 => ⟨(fun h9 => (kQ _ _ (fun i => ((((((h1 i).1 h2).2 h4).2 h6).2 h8).1 h9)))), (fun h10 => ⟨(fun h11 => ⟨(fun h12 => (kQ _ _ (fun i => ((((((((h1 i).1 h2).2 h4).2 h6).2 h8).2 h10).1 h11).1 h12)))), (fun h13 => ⟨(fun h14 => ⟨(((((((((h1 i0).1 h2).2 h4).2 h6).2 h8).2 h10).1 h11).2 h13).1 h14).1, ⟨(fun h15 => ⟨((((((((((h1 i0).1 h2).2 h4).2 h6).2 h8).2 h10).1 h11).2 h13).1 h14).2.1 h15).1, (kQ _ _ (fun i => ((((((((((h1 i).1 h2).2 h4).2 h6).2 h8).2 h10).1 h11).2 h13).1 h14).2.1 h15).2))⟩), (fun h16 => (kQ _ _ (fun i => ((((((((((h1 i).1 h2).2 h4).2 h6).2 h8).2 h10).1 h11).2 h13).1 h14).2.2 h16))))⟩⟩), (fun h17 => (kQ _ _ (fun i => (((((((((h1 i).1 h2).2 h4).2 h6).2 h8).2 h10).1 h11).2 h13).2 h17))))⟩)⟩), (fun h18 => (kQ _ _ (fun i => (((((((h1 i).1 h2).2 h4).2 h6).2 h8).2 h10).2 h18))))⟩)⟩)⟩)⟩)⟩), (fun h19 => (kQ _ _ (fun i => ((h1 i).2 h19))))⟩))
theorem al_p_Mo_pass {I : Type} (i0 : I) {w : MW} {a0 : Int32} {b0 : Int32} {c0 : Int32} {e0 : Int32} {Q1 : I → Int32 → MW → Prop} {Q3 : Int32 → MW → Prop}  (h : ∀ i : I, p_Mo_pass w a0 b0 c0 e0 (Q1 i)) (kQ : ∀ x0 x1, (∀ i : I, Q1 i x0 x1) → Q3 x0 x1) : p_Mo_pass w a0 b0 c0 e0 Q3 := by
  have h := fun i => Eq.mp (p_Mo_pass.eq_1 ..) (h i)
  refine Eq.mpr (p_Mo_pass.eq_1 ..) ?_
  exact (al_p_Mr_pass i0 (fun i => (h i)) (fun _ _ h1 => (kQ _ _ (fun i => (h1 i)))))
theorem al_p_Mr_reset {I : Type} (i0 : I) {w : MW} {a0 : Int32} {Q1 : I → Int32 → MW → Prop} {Q3 : Int32 → MW → Prop}  (h : ∀ i : I, p_Mr_reset w a0 (Q1 i)) (kQ : ∀ x0 x1, (∀ i : I, Q1 i x0 x1) → Q3 x0 x1) : p_Mr_reset w a0 Q3 := by
  have h := fun i => Eq.mp (p_Mr_reset.eq_1 ..) (h i)
  refine Eq.mpr (p_Mr_reset.eq_1 ..) ?_
  exact (al_p_Mr_isRow i0 (fun i => (h i)) (fun _ _ h1 => ⟨(fun h2 => (kQ _ _ (fun i => ((h1 i).1 h2)))), (fun h3 => ⟨((h1 i0).2 h3).1, ⟨(fun h4 => (kQ _ _ (fun i => (((h1 i).2 h3).2.1 h4)))), (fun h5 => (al_p_Mr_isOn i0 (fun i => (((h1 i).2 h3).2.2 h5)) (fun _ _ h6 => ⟨(fun h7 => ⟨((h6 i0).1 h7).1, (kQ _ _ (fun i => ((h6 i).1 h7).2))⟩), (fun h8 => (kQ _ _ (fun i => ((h6 i).2 h8))))⟩)))⟩⟩)⟩))
theorem al_p_Mo_reset {I : Type} (i0 : I) {w : MW} {a0 : Int32} {Q1 : I → Int32 → MW → Prop} {Q3 : Int32 → MW → Prop}  (h : ∀ i : I, p_Mo_reset w a0 (Q1 i)) (kQ : ∀ x0 x1, (∀ i : I, Q1 i x0 x1) → Q3 x0 x1) : p_Mo_reset w a0 Q3 := by
  have h := fun i => Eq.mp (p_Mo_reset.eq_1 ..) (h i)
  refine Eq.mpr (p_Mo_reset.eq_1 ..) ?_
  exact (al_p_Mr_reset i0 (fun i => (h i)) (fun _ _ h1 => (kQ _ _ (fun i => (h1 i)))))
theorem al_p_Mo_bars {I : Type} (i0 : I) {w : MW} {a0 : Int32} {Q1 : I → Int32 → MW → Prop} {Q3 : Int32 → MW → Prop}  (h : ∀ i : I, p_Mo_bars w a0 (Q1 i)) (kQ : ∀ x0 x1, (∀ i : I, Q1 i x0 x1) → Q3 x0 x1) : p_Mo_bars w a0 Q3 := by
  have h := fun i => Eq.mp (p_Mo_bars.eq_1 ..) (h i)
  refine Eq.mpr (p_Mo_bars.eq_1 ..) ?_
  exact (al_p_Mr_act1 i0 (fun i => (h i)) (fun _ _ h1 => (kQ _ _ (fun i => (h1 i)))))
theorem al_p_Mo_row {I : Type} (i0 : I) {w : MW} {a0 : Int32} {b0 : Int32} {Q1 : I → Int32 → MW → Prop} {Q3 : Int32 → MW → Prop}  (h : ∀ i : I, p_Mo_row w a0 b0 (Q1 i)) (kQ : ∀ x0 x1, (∀ i : I, Q1 i x0 x1) → Q3 x0 x1) : p_Mo_row w a0 b0 Q3 := by
  have h := fun i => Eq.mp (p_Mo_row.eq_1 ..) (h i)
  refine Eq.mpr (p_Mo_row.eq_1 ..) ?_
  exact ⟨(fun h1 => (kQ _ _ (fun i => ((h i).1 h1)))), (fun h2 => ⟨(fun h3 => (kQ _ _ (fun i => (((h i).2 h2).1 h3)))), (fun h4 => ⟨(fun h5 => (kQ _ _ (fun i => ((((h i).2 h2).2 h4).1 h5)))), (fun h6 => ⟨(fun h7 => ⟨(fun h8 => ⟨(fun h9 => ⟨(fun h10 => (al_p_Mr_isOn i0 (fun i => ((((((((h i).2 h2).2 h4).2 h6).1 h7).1 h8).1 h9).1 h10)) (fun _ _ h11 => ⟨(fun h12 => (kQ _ _ (fun i => ((h11 i).1 h12)))), (fun h13 => (kQ _ _ (fun i => ((h11 i).2 h13))))⟩))), (fun h14 => ⟨((((((((h i0).2 h2).2 h4).2 h6).1 h7).1 h8).1 h9).2 h14).1, (kQ _ _ (fun i => ((((((((h i).2 h2).2 h4).2 h6).1 h7).1 h8).1 h9).2 h14).2))⟩)⟩), (fun h15 => ⟨(((((((h i0).2 h2).2 h4).2 h6).1 h7).1 h8).2 h15).1, ⟨(fun h16 => (kQ _ _ (fun i => ((((((((h i).2 h2).2 h4).2 h6).1 h7).1 h8).2 h15).2.1 h16)))), (fun h17 => (kQ _ _ (fun i => ((((((((h i).2 h2).2 h4).2 h6).1 h7).1 h8).2 h15).2.2 h17))))⟩⟩)⟩), (fun h18 => ⟨((((((h i0).2 h2).2 h4).2 h6).1 h7).2 h18).1, (kQ _ _ (fun i => ((((((h i).2 h2).2 h4).2 h6).1 h7).2 h18).2))⟩)⟩), (fun h19 => (kQ _ _ (fun i => (((((h i).2 h2).2 h4).2 h6).2 h19))))⟩)⟩)⟩)⟩
theorem al_p_Mo_value {I : Type} (i0 : I) {w : MW} {a0 : Int32} {Q1 : I → Int64 → MW → Prop} {Q3 : Int64 → MW → Prop}  (h : ∀ i : I, p_Mo_value w a0 (Q1 i)) (kQ : ∀ x0 x1, (∀ i : I, Q1 i x0 x1) → Q3 x0 x1) : p_Mo_value w a0 Q3 := by
  have h := fun i => Eq.mp (p_Mo_value.eq_1 ..) (h i)
  refine Eq.mpr (p_Mo_value.eq_1 ..) ?_
  exact (al_p_Mo_isRole i0 (fun i => (h i)) (fun _ _ h1 => ⟨(fun h2 => ⟨((h1 i0).1 h2).1, (kQ _ _ (fun i => ((h1 i).1 h2).2))⟩), (fun h3 => (al_p_Mo_isRole i0 (fun i => ((h1 i).2 h3)) (fun _ _ h4 => ⟨(fun h5 => (kQ _ _ (fun i => ((h4 i).1 h5)))), (fun h6 => ⟨((h4 i0).2 h6).1, (kQ _ _ (fun i => ((h4 i).2 h6).2))⟩)⟩)))⟩))
theorem al_p_Mo_fill {I : Type} (i0 : I) {w : MW} {a0 : Int32} {b0 : Int32} {c0 : Int64} {Q1 : I → Int32 → MW → Prop} {Q3 : Int32 → MW → Prop}  (h : ∀ i : I, p_Mo_fill w a0 b0 c0 (Q1 i)) (kQ : ∀ x0 x1, (∀ i : I, Q1 i x0 x1) → Q3 x0 x1) : p_Mo_fill w a0 b0 c0 Q3 := by
  have h := fun i => Eq.mp (p_Mo_fill.eq_1 ..) (h i)
  refine Eq.mpr (p_Mo_fill.eq_1 ..) ?_
  exact (al_p_Mo_isTank i0 (fun i => (h i)) (fun _ _ h1 => ⟨(fun h2 => (kQ _ _ (fun i => ((h1 i).1 h2)))), (fun h3 => ⟨(fun h4 => (kQ _ _ (fun i => (((h1 i).2 h3).1 h4)))), (fun h5 => ⟨(fun h6 => (kQ _ _ (fun i => ((((h1 i).2 h3).2 h5).1 h6)))), (fun h7 => ⟨(fun h8 => (kQ _ _ (fun i => (((((h1 i).2 h3).2 h5).2 h7).1 h8)))), (fun h9 => ⟨(fun h10 => (kQ _ _ (fun i => ((((((h1 i).2 h3).2 h5).2 h7).2 h9).1 h10)))), (fun h11 => ⟨((((((h1 i0).2 h3).2 h5).2 h7).2 h9).2 h11).1, ⟨((((((h1 i0).2 h3).2 h5).2 h7).2 h9).2 h11).2.1, ⟨(fun h12 => (kQ _ _ (fun i => (((((((h1 i).2 h3).2 h5).2 h7).2 h9).2 h11).2.2.1 h12)))), (fun h13 => (al_p_Mo_mayCome i0 (fun i => (((((((h1 i).2 h3).2 h5).2 h7).2 h9).2 h11).2.2.2 h13)) (fun _ _ h14 => ⟨(fun h15 => (al_p_Mo_look i0 (fun i => ((h14 i).1 h15)) (fun _ h16 => ⟨(h16 i0).1, (al_p_Mo_isSafe i0 (fun i => (h16 i).2) (fun _ _ h17 => ⟨(fun h18 => ⟨((h17 i0).1 h18).1, ⟨((h17 i0).1 h18).2.1, ⟨((h17 i0).1 h18).2.2.1, (al_p_Mo_note i0 (fun i => ((h17 i).1 h18).2.2.2) (fun _ h19 => (kQ _ _ (fun i => (h19 i)))))⟩⟩⟩), (fun h20 => (kQ _ _ (fun i => ((h17 i).2 h20))))⟩))⟩))), (fun h21 => (kQ _ _ (fun i => ((h14 i).2 h21))))⟩)))⟩⟩⟩)⟩)⟩)⟩)⟩)⟩))
theorem al_q_Mo_litresIn_19 {I : Type} (i0 : I) {x19_1 : Int32} {E1 : I → Int32 → MW → Prop} {E3 : Int32 → MW → Prop} {Q1 : I → Int32 → MW → Prop} {Q3 : Int32 → MW → Prop}  (kE : ∀ x0 x1, (∀ i : I, E1 i x0 x1) → E3 x0 x1) (kQ : ∀ x0 x1, (∀ i : I, Q1 i x0 x1) → Q3 x0 x1) : ∀ (m : Nat) (x19_2 : Int32) (x19_3 : Int32) (w : MW), (∀ i : I, q_Mo_litresIn_19 x19_1 (E1 i) (Q1 i) m x19_2 x19_3 w) → q_Mo_litresIn_19 x19_1 E3 Q3 m x19_2 x19_3 w := by
  intro m
  induction m with
  | zero => exact fun _ _ _ h => False.elim (h i0)
  | succ m ih =>
    intro x19_2 x19_3 w h
    have h := fun i => Eq.mp (q_Mo_litresIn_19.eq_2 ..) (h i)
    refine Eq.mpr (q_Mo_litresIn_19.eq_2 ..) ?_
    exact ⟨(h i0).1, ⟨(fun h1 => (kE _ _ (fun i => ((h i).2.1 h1)))), (fun h2 => ⟨((h i0).2.2 h2).1, ⟨(fun h3 => (ih _ _ _ (fun i => (((h i).2.2 h2).2.1 h3)))), (fun h4 => (ih _ _ _ (fun i => (((h i).2.2 h2).2.2 h4))))⟩⟩)⟩⟩
theorem al_p_Mo_litresIn {I : Type} (i0 : I) {w : MW} {a0 : Int32} {Q1 : I → Int32 → MW → Prop} {Q3 : Int32 → MW → Prop}  (h : ∀ i : I, p_Mo_litresIn w a0 (Q1 i)) (kQ : ∀ x0 x1, (∀ i : I, Q1 i x0 x1) → Q3 x0 x1) : p_Mo_litresIn w a0 Q3 := by
  have h := fun i => Eq.mp (p_Mo_litresIn.eq_1 ..) (h i)
  refine Eq.mpr (p_Mo_litresIn.eq_1 ..) ?_
  exact ⟨(fun h1 => (al_q_Mo_litresIn_19 i0  (fun _ _ h2 => (kQ _ _ (fun i => (h2 i)))) kQ _ _ _ _ (fun i => ((h i).1 h1)))), (fun h3 => ⟨((h i0).2 h3).1, (kQ _ _ (fun i => ((h i).2 h3).2))⟩)⟩
theorem al_p_Mo_space {I : Type} (i0 : I) {w : MW} {a0 : Int32} {b0 : Int32} {Q1 : I → Int32 → MW → Prop} {Q3 : Int32 → MW → Prop}  (h : ∀ i : I, p_Mo_space w a0 b0 (Q1 i)) (kQ : ∀ x0 x1, (∀ i : I, Q1 i x0 x1) → Q3 x0 x1) : p_Mo_space w a0 b0 Q3 := by
  have h := fun i => Eq.mp (p_Mo_space.eq_1 ..) (h i)
  refine Eq.mpr (p_Mo_space.eq_1 ..) ?_
  exact ⟨(fun h1 => (al_p_Mo_holdsLiquid i0 (fun i => ((h i).1 h1)) (fun _ _ h2 => ⟨(fun h3 => (kQ _ _ (fun i => ((h2 i).1 h3)))), (fun h4 => ⟨(fun h5 => (kQ _ _ (fun i => (((h2 i).2 h4).1 h5)))), (fun h6 => ⟨(fun h7 => ⟨(fun h8 => ⟨(fun h9 => ⟨(fun h10 => (al_p_Mo_level i0 (fun i => (((((((h2 i).2 h4).2 h6).1 h7).1 h8).1 h9).1 h10)) (fun _ _ h11 => (kQ _ _ (fun i => (h11 i)))))), (fun h12 => ⟨(((((((h2 i0).2 h4).2 h6).1 h7).1 h8).1 h9).2 h12).1, (kQ _ _ (fun i => (((((((h2 i).2 h4).2 h6).1 h7).1 h8).1 h9).2 h12).2))⟩)⟩), (fun h13 => (al_p_Mo_litresIn i0 (fun i => ((((((h2 i).2 h4).2 h6).1 h7).1 h8).2 h13)) (fun _ _ h14 => (kQ _ _ (fun i => (h14 i))))))⟩), (fun h15 => (al_p_Mo_liquidIn i0 (fun i => (((((h2 i).2 h4).2 h6).1 h7).2 h15)) (fun _ _ h16 => (kQ _ _ (fun i => (h16 i))))))⟩), (fun h17 => (kQ _ _ (fun i => ((((h2 i).2 h4).2 h6).2 h17))))⟩)⟩)⟩))), (fun h18 => (al_p_Mo_isValve i0 (fun i => ((h i).2 h18)) (fun _ _ h19 => ⟨(fun h20 => (kQ _ _ (fun i => ((h19 i).1 h20)))), (fun h21 => ⟨((h19 i0).2 h21).1, (kQ _ _ (fun i => ((h19 i).2 h21).2))⟩)⟩)))⟩
