/-! the reference's isCalm: the first meeting of two liquids that may not meet -/
/-- liquids a and b meet in x, and may not -/
def Bd (F M : Nat → Nat → Prop) (n : Int) (x a b : Nat) : Prop := (x : Int) < n ∧ 1 ≤ a ∧ a < b ∧ b < 16 ∧ F a x ∧ F b x ∧ ¬ M a b
/-- the first of them -/
def LBd (F M : Nat → Nat → Prop) (n : Int) (x a b : Nat) : Prop := Bd F M n x a b ∧ ∀ x' a' b', Bd F M n x' a' b' → x < x' ∨ (x = x' ∧ (a < a' ∨ (a = a' ∧ b ≤ b')))
theorem lbd_u {F M : Nat → Nat → Prop} {n : Int} {x a b x' a' b' : Nat} (h : LBd F M n x a b) (h' : LBd F M n x' a' b') : x = x' ∧ a = a' ∧ b = b' := by
  have q := h.2 x' a' b' h'.1
  have q' := h'.2 x a b h.1
  omega
/-- what may meet by the reference's table -/
def Mt (w : MW) (a b : Nat) : Prop := a = b ∨ (a ≠ 15 ∧ b ≠ 15 ∧ ¬ (w.1 175 (16 * a + b)).toInt = 0)
/-- what the floods hold -/
def Fl (w : MW) (l x : Nat) : Prop := lb (w.2.1 196 l) x = true
def dgW (w : MW) (f x a b : Int32) : MW := sI (sI (sI (sI w 127 45 f) 127 46 x) 127 47 a) 127 48 b
theorem mm_x {w : MW} {a b : Int32} {Q Q' : Int32 → MW → Prop} (h : p_Mo_mayMeet w a b Q) (a0 : 1 ≤ a.toInt) (a1 : a.toInt < 16) (b0 : 1 ≤ b.toInt) (b1 : b.toInt < 16) (k : ∀ r : Int32, (r.toInt = 0 ↔ ¬ Mt w a.toInt.toNat b.toInt.toNat) → Q r w → Q' r w) : p_Mo_mayMeet w a b Q' := by
  rw [p_Mo_mayMeet.eq_1] at h ⊢
  have y1 : Mt w a.toInt.toNat b.toInt.toNat → ((1 : Int32).toInt = 0 ↔ ¬ Mt w a.toInt.toNat b.toInt.toNat) := fun q => ⟨fun z => absurd z (by decide), fun z => absurd q z⟩
  have y0 : ¬ Mt w a.toInt.toNat b.toInt.toNat → ((0 : Int32).toInt = 0 ↔ ¬ Mt w a.toInt.toNat b.toInt.toNat) := fun q => ⟨fun _ => q, fun _ => i_0⟩
  have m := ti_mul2 (by decide : ((16 : Int32)).toInt = 16) (Eq.refl a.toInt) (by omega) (by omega)
  have s := ti_add2 m (Eq.refl b.toInt) (by omega) (by omega)
  have es : (((16 : Int32) * a) + b).toInt.toNat = 16 * a.toInt.toNat + b.toInt.toNat := by omega
  refine ⟨fun c => k 1 (y1 (Or.inl (by omega))) (h.1 c), fun c => ⟨fun d => k 0 (y0 (fun z => ?_)) ((h.2 c).1 d), fun d => ⟨fun e => k 0 (y0 (fun z => ?_)) (((h.2 c).2 d).1 e), fun e => ⟨(((h.2 c).2 d).2 e).1, fun f => k 0 (y0 (fun z => ?_)) ((((h.2 c).2 d).2 e).2.1 f), fun f => k 1 (y1 (Or.inr ⟨by omega, by omega, ?_⟩)) ((((h.2 c).2 d).2 e).2.2 f)⟩⟩⟩⟩
  · rcases z with z | z
    · omega
    · have := z.1
      omega
  · rcases z with z | z
    · omega
    · have := z.2.1
      omega
  · rcases z with z | z
    · omega
    · rw [es] at f
      exact z.2.2 f
  · rw [es] at f
    exact f
theorem cm_57 {w : MW} {f x a : Int32} {E E' : MW → Prop} {Q Q' : Int32 → MW → Prop} (x0 : 0 ≤ x.toInt) (x1 : x.toInt < nsp w) (n44 : nsp w ≤ 44) (a0 : 1 ≤ a.toInt) (a1 : a.toInt < 16) (kE : (∀ b' : Nat, ¬ Bd (Fl w) (Mt w) (nsp w) x.toInt.toNat a.toInt.toNat b') → E w → E' w) (kQ : ∀ b : Int32, Bd (Fl w) (Mt w) (nsp w) x.toInt.toNat a.toInt.toNat b.toInt.toNat → (∀ b' : Nat, Bd (Fl w) (Mt w) (nsp w) x.toInt.toNat a.toInt.toNat b' → b.toInt.toNat ≤ b') → 0 ≤ b.toInt → Q 0 (dgW w f x a b) → Q' 0 (dgW w f x a b)) : ∀ (m : Nat) (b : Int32), q_Mo_isCalm_57 f x a E Q m b w → a.toInt < b.toInt → b.toInt ≤ 16 → (∀ b' : Nat, (b' : Int) < b.toInt → ¬ Bd (Fl w) (Mt w) (nsp w) x.toInt.toNat a.toInt.toNat b') → q_Mo_isCalm_57 f x a E' Q' m b w := by
  intro m
  induction m with
  | zero => exact fun _ h _ _ _ => False.elim h
  | succ m ih =>
    intro b h b0 b1 inv
    rw [q_Mo_isCalm_57.eq_2] at h ⊢
    refine ⟨fun c => kE (fun b' hb => inv b' (by have := hb.2.2.2.1; omega) hb) (h.1 c), fun c => ?_⟩
    have g := h.2 c
    have e := ti_add2 (Eq.refl b.toInt) i_1 (by omega) (by omega)
    have tb := lb_bit ((w.2.1 196 a.toInt.toNat) &&& (w.2.1 196 b.toInt.toNat)) x0 (show x.toInt < 63 by omega)
    have nx : ¬ Bd (Fl w) (Mt w) (nsp w) x.toInt.toNat a.toInt.toNat b.toInt.toNat → ∀ b' : Nat, (b' : Int) < (b + (1 : Int32)).toInt → ¬ Bd (Fl w) (Mt w) (nsp w) x.toInt.toNat a.toInt.toNat b' := fun nb b' hb => by
      by_cases q : (b' : Int) = b.toInt
      · rw [show b' = b.toInt.toNat by omega]
        exact nb
      · exact inv b' (by omega)
    refine ⟨g.1, g.2.1, fun d => ih _ (g.2.2.1 d) (by omega) (by omega) (nx (fun q => ?_)), fun d => ?_⟩
    · have f1 := tb.mp d
      have f2 : lb (w.2.1 196 a.toInt.toNat) x.toInt.toNat = true := q.2.2.2.2.1
      have f3 : lb (w.2.1 196 b.toInt.toNat) x.toInt.toNat = true := q.2.2.2.2.2.1
      rw [lb_and, f2, f3] at f1
      cases f1
    · have d2 : lb ((w.2.1 196 a.toInt.toNat) &&& (w.2.1 196 b.toInt.toNat)) x.toInt.toNat = true := by
        cases f1 : lb ((w.2.1 196 a.toInt.toNat) &&& (w.2.1 196 b.toInt.toNat)) x.toInt.toNat with
        | true => rfl
        | false => exact absurd (tb.mpr f1) d
      rw [lb_and, Bool.and_eq_true] at d2
      refine mm_x (g.2.2.2 d) a0 a1 (by omega) (by omega) (fun r hr gr => ⟨fun z => ih _ (gr.1 z) (by omega) (by omega) (nx (fun q => z (hr.mpr q.2.2.2.2.2.2))), fun z => ?_⟩)
      have z' := Classical.not_not.mp z
      refine kQ b ⟨by omega, by omega, by omega, by omega, d2.1, d2.2, hr.mp z'⟩ (fun b' hb' => ?_) (by omega) (gr.2 z)
      by_cases q : (b' : Int) < b.toInt
      · exact absurd hb' (inv b' q)
      · omega
theorem cm_46 {w : MW} {f x : Int32} {E E' : MW → Prop} {Q Q' : Int32 → MW → Prop} (x0 : 0 ≤ x.toInt) (x1 : x.toInt < nsp w) (n44 : nsp w ≤ 44) (kE : (∀ a' b' : Nat, ¬ Bd (Fl w) (Mt w) (nsp w) x.toInt.toNat a' b') → E w → E' w) (kQ : ∀ a b : Int32, Bd (Fl w) (Mt w) (nsp w) x.toInt.toNat a.toInt.toNat b.toInt.toNat → (∀ a' b' : Nat, Bd (Fl w) (Mt w) (nsp w) x.toInt.toNat a' b' → a.toInt.toNat < a' ∨ (a.toInt.toNat = a' ∧ b.toInt.toNat ≤ b')) → 0 ≤ a.toInt → 0 ≤ b.toInt → Q 0 (dgW w f x a b) → Q' 0 (dgW w f x a b)) : ∀ (m : Nat) (a : Int32), q_Mo_isCalm_46 f x E Q m a w → 1 ≤ a.toInt → a.toInt ≤ 16 → (∀ a' b' : Nat, (a' : Int) < a.toInt → ¬ Bd (Fl w) (Mt w) (nsp w) x.toInt.toNat a' b') → q_Mo_isCalm_46 f x E' Q' m a w := by
  intro m
  induction m with
  | zero => exact fun _ h _ _ _ => False.elim h
  | succ m ih =>
    intro a h a0 a1 inv
    rw [q_Mo_isCalm_46.eq_2] at h ⊢
    refine ⟨fun c => kE (fun a' b' hb => inv a' b' (by have := hb.2.2.1; have := hb.2.2.2.1; omega) hb) (h.1 c), fun c => ?_⟩
    have g := h.2 c
    have e := ti_add2 (Eq.refl a.toInt) i_1 (by omega) (by omega)
    refine cm_57 x0 x1 n44 a0 (by omega) (fun nb gE => ih _ gE (by omega) (by omega) (fun a' b' ha => ?_)) (fun b hb hm b0 gQ => kQ a b hb (fun a' b' hb' => ?_) (by omega) b0 gQ) _ _ g (by omega) (by omega) (fun b' hb' q => ?_)
    · by_cases q : (a' : Int) = a.toInt
      · rw [show a' = a.toInt.toNat by omega]
        exact nb b'
      · exact inv a' b' (by omega)
    · by_cases q : (a' : Int) < a.toInt
      · exact absurd hb' (inv a' b' q)
      · by_cases q2 : a.toInt.toNat = a'
        · rw [← q2] at hb'
          exact Or.inr ⟨q2, hm b' hb'⟩
        · exact Or.inl (by omega)
    · have := q.2.2.1
      omega
theorem cm_31 {w : MW} {f : Int32} {E E' : MW → Prop} {Q Q' : Int32 → MW → Prop} (n44 : nsp w ≤ 44) (kE : (∀ x' a' b' : Nat, ¬ Bd (Fl w) (Mt w) (nsp w) x' a' b') → E w → E' w) (kQ : ∀ x a b : Int32, LBd (Fl w) (Mt w) (nsp w) x.toInt.toNat a.toInt.toNat b.toInt.toNat → 0 ≤ x.toInt → 0 ≤ a.toInt → 0 ≤ b.toInt → Q 0 (dgW w f x a b) → Q' 0 (dgW w f x a b)) : ∀ (m : Nat) (x : Int32), q_Mo_isCalm_31 f E Q m x w → 0 ≤ x.toInt → (∀ x' a' b' : Nat, (x' : Int) < x.toInt → ¬ Bd (Fl w) (Mt w) (nsp w) x' a' b') → q_Mo_isCalm_31 f E' Q' m x w := by
  intro m
  induction m with
  | zero => exact fun _ h _ _ => False.elim h
  | succ m ih =>
    intro x h x0 inv
    rw [q_Mo_isCalm_31.eq_2] at h ⊢
    refine ⟨fun c => kE (fun x' a' b' hb => inv x' a' b' (by have := hb.1; unfold nsp at this; omega) hb) (h.1 c), fun c => ?_⟩
    have g := h.2 c
    have c' : x.toInt < nsp w := by unfold nsp; omega
    have e := ti_add2 (Eq.refl x.toInt) i_1 (by omega) (by omega)
    refine cm_46 x0 c' n44 (fun nb gE => ih _ gE (by omega) (fun x' a' b' hx => ?_)) (fun a b hb hm a0 b0 gQ => kQ x a b ⟨hb, fun x' a' b' hb' => ?_⟩ x0 a0 b0 gQ) _ _ g (by decide) (by decide) (fun a' b' ha q => ?_)
    · by_cases q : (x' : Int) = x.toInt
      · rw [show x' = x.toInt.toNat by omega]
        exact nb a' b'
      · exact inv x' a' b' (by omega)
    · by_cases q : (x' : Int) < x.toInt
      · exact absurd hb' (inv x' a' b' q)
      · by_cases q2 : x.toInt.toNat = x'
        · rw [← q2] at hb'
          exact Or.inr ⟨q2, hm a' b' hb'⟩
        · exact Or.inl (by omega)
    · rw [i_1] at ha
      have := q.2.1
      omega
