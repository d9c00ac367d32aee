/-! what is reached, and the reference's flood -/
def Rch (E : Nat → Nat → Prop) (S : Nat → Prop) : Nat → Nat → Prop
  | 0, x => S x
  | n + 1, x => Rch E S n x ∨ ∃ y, Rch E S n y ∧ E y x
/-- x is reached from S over E -/
def Rea (E : Nat → Nat → Prop) (S : Nat → Prop) (x : Nat) : Prop := ∃ n, Rch E S n x
theorem rs_src {E : Nat → Nat → Prop} {S : Nat → Prop} {x : Nat} (h : S x) : Rea E S x := ⟨0, h⟩
theorem rs_step {E : Nat → Nat → Prop} {S : Nat → Prop} {y x : Nat} (h : Rea E S y) (e : E y x) : Rea E S x := by
  obtain ⟨n, h⟩ := h
  exact ⟨n + 1, Or.inr ⟨y, h, e⟩⟩
theorem rs_min {E : Nat → Nat → Prop} {S T : Nat → Prop} (h0 : ∀ x, S x → T x) (h1 : ∀ y x, T y → E y x → T x) : ∀ x, Rea E S x → T x := by
  intro x h
  obtain ⟨n, h⟩ := h
  induction n generalizing x with
  | zero => exact h0 x h
  | succ n ih =>
    rcases h with h | ⟨y, h, e⟩
    · exact ih x h
    · exact h1 y x (ih y h) e
theorem rs_mono {E E' : Nat → Nat → Prop} {S S' : Nat → Prop} (h0 : ∀ x, S x → Rea E' S' x) (h1 : ∀ y x, E y x → E' y x) (x : Nat) (h : Rea E S x) : Rea E' S' x := rs_min h0 (fun y z hy e => rs_step hy (h1 y z e)) x h
/-- how many spaces there are -/
def nsp (w : MW) : Int := ((w.1 127 4) + (w.1 127 11)).toInt
def En (w : MW) (z y : Nat) : Prop := (z : Int) < nsp w ∧ lb (w.2.1 195 z) y = true
def Si (w : MW) (a : Int) (y : Nat) : Prop := (y : Int) < nsp w ∧ (w.1 194 y).toInt = a
theorem fl_5 {w : MW} {a : Int32} {E E' : Int64 → MW → Prop} {Q Q' : Int64 → MW → Prop} (k : ∀ v, (∀ y : Nat, lb v y = true ↔ Si w a.toInt y) → E v w → E' v w) : ∀ (m : Nat) (acc : Int64) (x : Int32), q_Mo_flood_5 a E Q m acc x w → 0 ≤ x.toInt → (x.toInt = 0 ∨ x.toInt ≤ nsp w) → (∀ y : Nat, lb acc y = true ↔ (y : Int) < x.toInt ∧ (w.1 194 y).toInt = a.toInt) → q_Mo_flood_5 a E' Q' m acc x w := by
  intro m
  induction m with
  | zero => exact fun _ _ h _ _ _ => False.elim h
  | succ m ih =>
    intro acc x h x0 x1 inv
    rw [q_Mo_flood_5.eq_2] at h ⊢
    refine ⟨fun c => k acc (fun y => ?_) (h.1 c), fun c => ?_⟩
    · rw [inv y]
      unfold Si nsp at *
      constructor
      · intro q
        exact ⟨by omega, q.2⟩
      · intro q
        exact ⟨by omega, q.2⟩
    · have g := h.2 c
      have g1 := g.1
      have e := ti_add2 (Eq.refl x.toInt) i_1 (by omega) (by omega)
      have c' : x.toInt < nsp w := by unfold nsp; omega
      refine ⟨g.1, fun d => ih _ _ (g.2.1 d) (by omega) (Or.inr (by omega)) (fun y => ?_), fun d => ih _ _ (g.2.2 d) (by omega) (Or.inr (by omega)) (fun y => ?_)⟩
      · rw [lb_or, lb_0, Bool.or_false, inv y, e]
        constructor
        · intro q
          exact ⟨by omega, q.2⟩
        · intro q
          by_cases z : (y : Int) = x.toInt
          · have z2 : y = x.toInt.toNat := by omega
            rw [z2] at q
            exact absurd q.2 d
          · exact ⟨by omega, q.2⟩
      · have d' := Classical.not_not.mp d
        rw [lb_or, lb_set g1.1 (by omega), Bool.or_eq_true, inv y, decide_eq_true_iff, e]
        constructor
        · intro q
          rcases q with q | q
          · exact ⟨by omega, q.2⟩
          · rw [q]
            exact ⟨by omega, d'⟩
        · intro q
          by_cases z : (y : Int) = x.toInt
          · exact Or.inr (by omega)
          · exact Or.inl ⟨by omega, q.2⟩
theorem fl_71 {w : MW} {s : Int64} {R : Nat → Prop} {E E' : Int64 → MW → Prop} {Q Q' : Int64 → MW → Prop} (hR : ∀ z y, R z → En w z y → R y) (n44 : nsp w ≤ 44) (k : ∀ v, (∀ y, lb s y = true → lb v y = true) → (∀ z y, lb s z = true → En w z y → lb v y = true) → (∀ y, lb v y = true → R y) → E v w → E' v w) : ∀ (m : Nat) (acc : Int64) (x : Int32), q_Mo_flood_71 s E Q m acc x w → 0 ≤ x.toInt → (∀ y, lb s y = true → lb acc y = true) → (∀ z y : Nat, (z : Int) < x.toInt → lb s z = true → En w z y → lb acc y = true) → (∀ y, lb acc y = true → R y) → q_Mo_flood_71 s E' Q' m acc x w := by
  intro m
  induction m with
  | zero => exact fun _ _ h _ _ _ _ => False.elim h
  | succ m ih =>
    intro acc x h x0 i1 i2 i3
    rw [q_Mo_flood_71.eq_2] at h ⊢
    refine ⟨fun c => k acc i1 (fun z y hz hy => i2 z y ?_ hz hy) i3 (h.1 c), fun c => ?_⟩
    · have := hy.1
      unfold nsp at this
      omega
    · have g := h.2 c
      have c' : x.toInt < nsp w := by unfold nsp; omega
      have e := ti_add2 (Eq.refl x.toInt) i_1 (by omega) (by omega)
      have tb := lb_bit acc x0 (show x.toInt < 63 by omega)
      refine ⟨fun d => ih _ _ (g.1 d) (by omega) (fun y hy => ?_) (fun z y hz hs hy => ?_) (fun y hy => ?_), fun d => ⟨(g.2 d).1, ih _ _ (g.2 d).2 (by omega) (fun y hy => ?_) (fun z y hz hs hy => ?_) (fun y hy => ?_)⟩⟩
      · rw [lb_or, i1 y hy]
        rfl
      · rw [lb_or, lb_0, Bool.or_false]
        by_cases q : (z : Int) = x.toInt
        · have f := tb.mp d
          rw [show x.toInt.toNat = z by omega] at f
          rw [i1 z hs] at f
          cases f
        · exact i2 z y (by omega) hs hy
      · rw [lb_or, lb_0, Bool.or_false] at hy
        exact i3 y hy
      · rw [lb_or, i1 y hy]
        rfl
      · rw [lb_or]
        by_cases q : (z : Int) = x.toInt
        · have f := hy.2
          rw [show z = x.toInt.toNat by omega] at f
          rw [f, Bool.or_true]
        · rw [i2 z y (by omega) hs hy]
          rfl
      · rw [lb_or, Bool.or_eq_true] at hy
        rcases hy with hy | hy
        · exact i3 y hy
        · have bx : lb acc x.toInt.toNat = true := by
            cases f : lb acc x.toInt.toNat with
            | true => rfl
            | false => exact absurd (tb.mpr f) d
          refine hR x.toInt.toNat y (i3 _ bx) ⟨by omega, hy⟩
theorem fl_60 {w : MW} {S R : Nat → Prop} {E E' : Int64 → MW → Prop} {Q Q' : Int64 → MW → Prop} (hR : ∀ z y, R z → En w z y → R y) (n44 : nsp w ≤ 44) (k : ∀ v, (∀ y, S y → lb v y = true) → (∀ z y, lb v z = true → En w z y → lb v y = true) → (∀ y, lb v y = true → R y) → E v w → E' v w) : ∀ (m : Nat) (all : Int64) (more : Int32), q_Mo_flood_60 E Q m all more w → (∀ y, S y → lb all y = true) → (∀ y, lb all y = true → R y) → (more.toInt = 0 → ∀ z y, lb all z = true → En w z y → lb all y = true) → q_Mo_flood_60 E' Q' m all more w := by
  intro m
  induction m with
  | zero => exact fun _ _ h _ _ _ => False.elim h
  | succ m ih =>
    intro all more h i1 i2 i3
    rw [q_Mo_flood_60.eq_2] at h ⊢
    refine ⟨fun c => k all i1 (i3 c) i2 (h.1 c), fun c => ?_⟩
    refine fl_71 hR n44 (fun v v1 v2 v3 g => ?_) _ _ _ (h.2 c) (by decide) (fun y hy => hy) (fun z y hz => by rw [i_0] at hz; omega) i2
    refine ⟨fun d => ih _ _ (g.1 d) (fun y hy => v1 y (i1 y hy)) v3 (fun _ z y hz hy => ?_), fun d => ih _ _ (g.2 d) (fun y hy => v1 y (i1 y hy)) v3 (fun z => absurd z (by decide))⟩
    have q := (cmp_0 _ _).mp d
    rw [q] at hz
    exact v2 z y hz hy
/-- the flood of a liquid -/
theorem fl_x {w : MW} {a : Int32} {Q Q' : Int64 → MW → Prop} (h : p_Mo_flood w a Q) (n44 : nsp w ≤ 44) (k : ∀ v, (∀ y : Nat, lb v y = true ↔ Rea (En w) (Si w a.toInt) y) → Q v w → Q' v w) : p_Mo_flood w a Q' := by
  rw [p_Mo_flood.eq_1] at h ⊢
  refine fl_5 (fun v hv g => ?_) _ _ _ h (by decide) (Or.inl (by decide)) (fun y => ?_)
  · have fin : ∀ (u : Int64), (∀ y, Si w a.toInt y → lb u y = true) → (∀ z y, lb u z = true → En w z y → lb u y = true) → (∀ y, lb u y = true → Rea (En w) (Si w a.toInt) y) → Q u w → Q' u w := fun u u1 u2 u3 q => k u (fun y => ⟨u3 y, fun r => rs_min u1 u2 y r⟩) q
    refine ⟨fun c => ?_, fun c => ?_⟩
    · refine fl_60 (S := Si w a.toInt) (R := Rea (En w) (Si w a.toInt)) (fun z y hz e => rs_step hz e) n44 (fun u u1 u2 u3 q => fin u u1 u2 u3 q) _ _ _ (g.1 c) (fun y hy => (hv y).mpr hy) (fun y hy => rs_src ((hv y).mp hy)) (fun _ z y hz => ?_)
      have q := (cmp_0 _ _).mp c
      rw [q, lb_0] at hz
      cases hz
    · exact fl_60 (S := Si w a.toInt) (R := Rea (En w) (Si w a.toInt)) (fun z y hz e => rs_step hz e) n44 (fun u u1 u2 u3 q => fin u u1 u2 u3 q) _ _ _ (g.2 c) (fun y hy => (hv y).mpr hy) (fun y hy => rs_src ((hv y).mp hy)) (fun z => absurd z (by decide))
  · rw [lb_0]
    constructor
    · intro q
      cases q
    · intro q
      rw [i_0] at q
      omega
