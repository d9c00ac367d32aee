/-! the class's sources and rivals -/
/-- the pipes of a way, one behind the other -/
def chn (w : MW) (p : Int) : Nat → Int
  | 0 => p
  | i + 1 => (w.1 35 (chn w p i).toNat).toInt
/-- pipe number i of way k -/
def wpi (w : MW) (k i : Nat) : Int := chn w (w.1 32 k).toInt i
def wok (w : MW) (k i : Nat) : Prop := (i : Int) < (w.1 31 k).toInt ∧ ∀ j, j ≤ i → 0 ≤ wpi w k j
/-- liquid l floods from y by an open way -/
def WyS (w : MW) (l y : Nat) : Prop := ∃ k : Nat, (k : Int) < (w.1 26 1).toInt ∧ (w.1 30 k).toInt = l ∧ ((y : Int) = (w.1 28 k).toInt ∨ ∃ i, wok w k i ∧ (y : Int) = tC w + wpi w k i)
theorem as_42 {w : MW} {T k : Int32} {E E' : Int64 → MW → Prop} {Q Q' : MW → Prop} (k0 : 0 ≤ k.toInt) (eT : T.toInt = tC w) (T0 : 0 ≤ tC w) (T1 : tC w ≤ 20) (h28 : 0 ≤ (w.1 28 k.toInt.toNat).toInt ∧ (w.1 28 k.toInt.toNat).toInt < 20) (kE : ∀ v, (∀ y : Nat, lb v y = true ↔ (y : Int) = (w.1 28 k.toInt.toNat).toInt ∨ ∃ i, wok w k.toInt.toNat i ∧ (y : Int) = tC w + wpi w k.toInt.toNat i) → E v w → E' v w) : ∀ (m : Nat) (acc : Int64) (p i : Int32), q_Wa_addSources_43_42 T k E Q m acc p i w → 0 ≤ i.toInt → p.toInt = wpi w k.toInt.toNat i.toInt.toNat → (∀ j : Nat, (j : Int) < i.toInt → 0 ≤ wpi w k.toInt.toNat j) → (∀ y : Nat, lb acc y = true ↔ (y : Int) = (w.1 28 k.toInt.toNat).toInt ∨ ∃ j : Nat, (j : Int) < i.toInt ∧ wok w k.toInt.toNat j ∧ (y : Int) = tC w + wpi w k.toInt.toNat j) → q_Wa_addSources_43_42 T k E' Q' m acc p i w := by
  intro m
  induction m with
  | zero => exact fun _ _ _ h _ _ _ _ => False.elim h
  | succ m ih =>
    intro acc p i h i0 ep pos inv
    rw [q_Wa_addSources_43_42.eq_2] at h ⊢
    have fin : ((w.1 31 k.toInt.toNat).toInt ≤ i.toInt ∨ p.toInt < 0) → ∀ y : Nat, lb acc y = true ↔ (y : Int) = (w.1 28 k.toInt.toNat).toInt ∨ ∃ i, wok w k.toInt.toNat i ∧ (y : Int) = tC w + wpi w k.toInt.toNat i := fun o y => by
      rw [inv y]
      constructor
      · intro q
        rcases q with q | ⟨j, _, q⟩
        · exact Or.inl q
        · exact Or.inr ⟨j, q⟩
      · intro q
        rcases q with q | ⟨j, q1, q2⟩
        · exact Or.inl q
        · refine Or.inr ⟨j, ?_, q1, q2⟩
          by_cases z : (j : Int) < i.toInt
          · exact z
          · have w1 := q1.1
            have w2 := q1.2 i.toInt.toNat (by omega)
            omega
    refine ⟨h.1, fun c => kE acc (fin (Or.inl c)) (h.2.1 c), fun c => ⟨fun d => kE acc (fin (Or.inr d)) ((h.2.2 c).1 d), fun d => ?_⟩⟩
    have H := (h.2.2 c).2 d
    have H1 := H.1
    have ei := ti_add2 (Eq.refl i.toInt) i_1 (by have := ti_hi (w.1 31 k.toInt.toNat); omega) (by have := ti_hi (w.1 31 k.toInt.toNat); omega)
    have es := ti_add2 eT (Eq.refl p.toInt) (by omega) (by omega)
    have en : (i + (1 : Int32)).toInt.toNat = i.toInt.toNat + 1 := by omega
    have wk : wok w k.toInt.toNat i.toInt.toNat := ⟨by omega, fun j hj => by
      by_cases z : j = i.toInt.toNat
      · rw [z, ← ep]
        omega
      · exact pos j (by omega)⟩
    refine ⟨H.1, ih _ _ _ H.2 (by omega) ?_ (fun j hj => ?_) (fun y => ?_)⟩
    · rw [en]
      unfold wpi at ep ⊢
      show _ = (w.1 35 (chn w _ i.toInt.toNat).toNat).toInt
      rw [← ep]
    · exact wk.2 j (by omega)
    · rw [lb_or, Bool.or_eq_true, lb_set (by omega) (by omega), decide_eq_true_iff, inv y]
      constructor
      · intro q
        rcases q with (q | ⟨j, q1, q⟩) | q
        · exact Or.inl q
        · exact Or.inr ⟨j, by omega, q⟩
        · exact Or.inr ⟨i.toInt.toNat, by omega, wk, by omega⟩
      · intro q
        rcases q with q | ⟨j, q1, q2, q3⟩
        · exact Or.inl (Or.inl q)
        · by_cases z : (j : Int) = i.toInt
          · rw [show j = i.toInt.toNat by omega] at q3
            exact Or.inr (by omega)
          · exact Or.inl (Or.inr ⟨j, by omega, q2, q3⟩)
theorem as_13 {w0 : MW} {T : Int32} {E E' : MW → Prop} {Q Q' : MW → Prop} (eT : T.toInt = tC w0) (T0 : 0 ≤ tC w0) (T1 : tC w0 ≤ 20) (h28 : ∀ k : Nat, k < 24 → 0 ≤ (w0.1 28 k).toInt ∧ (w0.1 28 k).toInt < 20) (kE : ∀ w', oJ 43 w0 w' → (∀ l y : Nat, lb (w'.2.1 43 l) y = true ↔ lb (w0.2.1 43 l) y = true ∨ WyS w0 l y) → E w' → E' w') : ∀ (m : Nat) (k : Int32) (w : MW), q_Wa_addSources_43_13 T E Q m k w → 0 ≤ k.toInt → oJ 43 w0 w → (∀ l y : Nat, lb (w.2.1 43 l) y = true ↔ lb (w0.2.1 43 l) y = true ∨ ∃ k' : Nat, (k' : Int) < k.toInt ∧ (k' : Int) < (w0.1 26 1).toInt ∧ (w0.1 30 k').toInt = l ∧ ((y : Int) = (w0.1 28 k').toInt ∨ ∃ i, wok w0 k' i ∧ (y : Int) = tC w0 + wpi w0 k' i)) → q_Wa_addSources_43_13 T E' Q' m k w := by
  intro m
  induction m with
  | zero => exact fun _ _ h _ _ _ => False.elim h
  | succ m ih =>
    intro k w h k0 o inv
    rw [q_Wa_addSources_43_13.eq_2] at h ⊢
    refine ⟨fun c => kE w o (fun l y => ?_) (h.1 c), fun c => ⟨(h.2 c).1, (h.2 c).2.1, ?_⟩⟩
    · rw [inv l y]
      rw [o.1] at c
      constructor
      · intro q
        rcases q with q | ⟨k', _, q⟩
        · exact Or.inl q
        · exact Or.inr ⟨k', q⟩
      · intro q
        rcases q with q | ⟨k', q1, q2⟩
        · exact Or.inl q
        · exact Or.inr ⟨k', by omega, q1, q2⟩
    have b := (h.2 c).1
    have c' : k.toInt < (w0.1 26 1).toInt := by
      rw [← o.1]
      omega
    have ek := ti_add2 (Eq.refl k.toInt) i_1 (by omega) (by omega)
    have ew : ∀ i, wpi w k.toInt.toNat i = wpi w0 k.toInt.toNat i := fun i => by
      unfold wpi
      have e : chn w = chn w0 := by
        funext p j
        induction j with
        | zero => rfl
        | succ j ihj =>
          show (w.1 35 (chn w p j).toNat).toInt = (w0.1 35 (chn w0 p j).toNat).toInt
          rw [ihj, o.1]
      rw [e, o.1]
    have et : tC w = tC w0 := by
      unfold tC
      rw [o.1]
    have eok : ∀ i, wok w k.toInt.toNat i ↔ wok w0 k.toInt.toNat i := fun i => by
      unfold wok
      rw [o.1]
      constructor
      · intro q
        exact ⟨q.1, fun j hj => by rw [← ew j]; exact q.2 j hj⟩
      · intro q
        exact ⟨q.1, fun j hj => by rw [ew j]; exact q.2 j hj⟩
    have h28' := h28 k.toInt.toNat (by omega)
    refine as_42 k0 (by rw [et]; exact eT) (by omega) (by omega) (by rw [o.1]; exact ⟨h28'.1, h28'.2⟩) (fun v hv g => ⟨g.1, g.2.1, g.2.2.1, ih _ _ g.2.2.2 (by omega) (oJ_s o _ _) (fun l y => ?p1)⟩) _ _ _ _ (h.2 c).2.2 (by decide) rfl (fun j hj => by rw [i_0] at hj; omega) (fun y => ?p2)
    case p1 =>
      have g1 := g.2.1
      have nl : ∀ l : Nat, l = (w.1 30 k.toInt.toNat).toInt.toNat ↔ (w0.1 30 k.toInt.toNat).toInt = (l : Int) := fun l => by
        rw [← o.1]
        omega
      have hv' : lb v y = true ↔ (y : Int) = (w0.1 28 k.toInt.toNat).toInt ∨ ∃ i, wok w0 k.toInt.toNat i ∧ (y : Int) = tC w0 + wpi w0 k.toInt.toNat i := by
        rw [hv y, o.1, et]
        constructor
        · intro q
          rcases q with q | ⟨i, q1, q2⟩
          · exact Or.inl q
          · exact Or.inr ⟨i, (eok i).mp q1, by rw [← ew i]; exact q2⟩
        · intro q
          rcases q with q | ⟨i, q1, q2⟩
          · exact Or.inl q
          · exact Or.inr ⟨i, (eok i).mpr q1, by rw [ew i]; exact q2⟩
      rw [sJ_if]
      by_cases q : l = (w.1 30 k.toInt.toNat).toInt.toNat
      · rw [if_pos q, lb_or, Bool.or_eq_true, ← q, inv l y, hv']
        constructor
        · intro r
          rcases r with (r | ⟨k', r1, r⟩) | r
          · exact Or.inl r
          · exact Or.inr ⟨k', by omega, r⟩
          · exact Or.inr ⟨k.toInt.toNat, by omega, by omega, (nl l).mp q, r⟩
        · intro r
          rcases r with r | ⟨k', r1, r2, r3, r4⟩
          · exact Or.inl (Or.inl r)
          · by_cases z : (k' : Int) = k.toInt
            · rw [show k' = k.toInt.toNat by omega] at r4
              exact Or.inr r4
            · exact Or.inl (Or.inr ⟨k', by omega, r2, r3, r4⟩)
      · rw [if_neg q, inv l y]
        constructor
        · intro r
          rcases r with r | ⟨k', r1, r⟩
          · exact Or.inl r
          · exact Or.inr ⟨k', by omega, r⟩
        · intro r
          rcases r with r | ⟨k', r1, r2, r3, r4⟩
          · exact Or.inl r
          · by_cases z : (k' : Int) = k.toInt
            · rw [show k' = k.toInt.toNat by omega] at r3
              exact absurd ((nl l).mpr r3) q
            · exact Or.inr ⟨k', by omega, r2, r3, r4⟩
    case p2 =>
      rw [lb_set (by rw [o.1]; exact h28'.1) (by rw [o.1]; omega), decide_eq_true_iff, i_0]
      constructor
      · intro q
        refine Or.inl ?_
        have := h28'.1
        rw [← o.1] at this
        omega
      · intro q
        rcases q with q | ⟨j, q, _⟩
        · omega
        · omega
theorem as_x {w : MW} {Q Q' : MW → Prop} (h : p_Wa_addSources_43 w Q) (T0 : 0 ≤ tC w) (T1 : tC w ≤ 20) (h28 : ∀ k : Nat, k < 24 → 0 ≤ (w.1 28 k).toInt ∧ (w.1 28 k).toInt < 20) (k : ∀ w', oJ 43 w w' → (∀ l y : Nat, lb (w'.2.1 43 l) y = true ↔ lb (w.2.1 43 l) y = true ∨ WyS w l y) → Q w' → Q' w') : p_Wa_addSources_43 w Q' := by
  rw [p_Wa_addSources_43.eq_1] at h ⊢
  refine ⟨h.1, as_13 rfl T0 T1 h28 (fun w' o b g => k w' o b g) _ _ _ h.2 (by decide) (oJ_r _ _) (fun l y => ⟨fun q => Or.inl q, fun q => ?_⟩)⟩
  rcases q with q | ⟨k', q, _⟩
  · exact q
  · rw [i_0] at q
    omega
/-- liquid l is in space y -/
def LqS (w : MW) (l y : Nat) : Prop := (y : Int) < tC w + pC w ∧ (w.1 17 y).toInt = l
theorem fr_2 {w0 : MW} {E E' : MW → Prop} {Q Q' : Int32 → MW → Prop} (T0 : 0 ≤ tC w0) (T1 : tC w0 ≤ 20) (P0 : 0 ≤ pC w0) (P1 : pC w0 ≤ 24) (kE : ∀ w', oJ 43 w0 w' → (∀ l y : Nat, lb (w'.2.1 43 l) y = true ↔ lb (w0.2.1 43 l) y = true ∨ LqS w0 l y) → E w' → E' w') : ∀ (m : Nat) (s : Int32) (w : MW), q_Sf_findRivals_2 E Q m s w → 0 ≤ s.toInt → oJ 43 w0 w → (∀ l y : Nat, lb (w.2.1 43 l) y = true ↔ lb (w0.2.1 43 l) y = true ∨ ((y : Int) < s.toInt ∧ LqS w0 l y)) → q_Sf_findRivals_2 E' Q' m s w := by
  have en : ((w0.1 8 0) + (w0.1 8 1)).toInt = tC w0 + pC w0 := ti_add2 rfl rfl (by unfold tC pC at *; omega) (by unfold tC pC at *; omega)
  intro m
  induction m with
  | zero => exact fun _ _ h _ _ _ => False.elim h
  | succ m ih =>
    intro s w h s0 o inv
    rw [q_Sf_findRivals_2.eq_2, o.1] at h ⊢
    refine ⟨h.1, h.2.1, fun c => kE w o (fun l y => ?_) (h.2.2.1 c), fun c => ?_⟩
    · rw [inv l y]
      constructor
      · intro q
        rcases q with q | q
        · exact Or.inl q
        · exact Or.inr q.2
      · intro q
        rcases q with q | q
        · exact Or.inl q
        · exact Or.inr ⟨by have := q.1; omega, q⟩
    · have H := h.2.2.2 c
      have H1 := H.1
      have H2 := H.2.1
      have es := ti_add2 (Eq.refl s.toInt) i_1 (by omega) (by omega)
      refine ⟨H.1, H.2.1, H.2.2.1, ih _ _ H.2.2.2 (by omega) (oJ_s o _ _) (fun l y => ?_)⟩
      rw [sJ_if]
      by_cases q : l = (w0.1 17 s.toInt.toNat).toInt.toNat
      · rw [if_pos q, lb_or, Bool.or_eq_true, ← q, inv l y, lb_set s0 (by omega), decide_eq_true_iff]
        constructor
        · intro r
          rcases r with (r | r) | r
          · exact Or.inl r
          · exact Or.inr ⟨by have := r.1; omega, r.2⟩
          · refine Or.inr ⟨by omega, by omega, ?_⟩
            rw [r]
            omega
        · intro r
          rcases r with r | ⟨r1, r2⟩
          · exact Or.inl (Or.inl r)
          · by_cases z : (y : Int) = s.toInt
            · exact Or.inr (by omega)
            · exact Or.inl (Or.inr ⟨by omega, r2⟩)
      · rw [if_neg q, inv l y]
        constructor
        · intro r
          rcases r with r | r
          · exact Or.inl r
          · exact Or.inr ⟨by have := r.1; omega, r.2⟩
        · intro r
          rcases r with r | ⟨r1, r2⟩
          · exact Or.inl r
          · by_cases z : (y : Int) = s.toInt
            · have r3 := r2.2
              rw [show y = s.toInt.toNat by omega] at r3
              omega
            · exact Or.inr ⟨by omega, r2⟩
theorem mb_set {a : Int32} (h0 : 0 ≤ a.toInt) (h1 : a.toInt < 32) (x : Nat) : mb ((1 : Int32) <<< (a &&& 31)) x = decide (x = a.toInt.toNat) := by
  have e := mb_or 0 (n := a.toInt.toNat) (j := x) (by omega)
  rw [nI_tn h0] at e
  have z : mb 0 x = false := by
    show (0#32).getLsbD x = false
    rw [BitVec.getLsbD_zero]
  have e2 : (0 : Int32) ||| ((1 : Int32) <<< (a &&& 31)) = (1 : Int32) <<< (a &&& 31) := by
    apply Int32.toBitVec_inj.mp
    rw [Int32.toBitVec_or]
    exact BitVec.zero_or
  rw [e2, z, Bool.false_or] at e
  exact e
theorem mb_orr (a b : Int32) (x : Nat) : mb (a ||| b) x = (mb a x || mb b x) := by
  unfold mb
  rw [Int32.toBitVec_or, BitVec.getLsbD_or]
theorem mb_andn (a b : Int32) {x : Nat} (h : x < 32) : mb (a &&& (b ^^^ ((-1) : Int32))) x = (mb a x && !(mb b x)) := by
  unfold mb
  rw [Int32.toBitVec_and, BitVec.getLsbD_and, Int32.toBitVec_xor, BitVec.getLsbD_xor, mb_m1 h]
  cases a.toBitVec.getLsbD x <;> cases b.toBitVec.getLsbD x <;> rfl
theorem mb_z (x : Nat) : mb 0 x = false := by
  show (0#32).getLsbD x = false
  rw [BitVec.getLsbD_zero]
theorem fr_57 {w : MW} {E E' : Int32 → MW → Prop} {Q Q' : Int32 → MW → Prop} (kE : ∀ v, (∀ a : Nat, a < 15 → (mb v a = true ↔ 1 ≤ a ∧ ¬ w.2.1 43 a = 0)) → E v w → E' v w) : ∀ (m : Nat) (v l : Int32), q_Sf_findRivals_57 E Q m v l w → 1 ≤ l.toInt → (∀ a : Nat, a < 15 → (mb v a = true ↔ 1 ≤ a ∧ (a : Int) < l.toInt ∧ ¬ w.2.1 43 a = 0)) → q_Sf_findRivals_57 E' Q' m v l w := by
  intro m
  induction m with
  | zero => exact fun _ _ h _ _ => False.elim h
  | succ m ih =>
    intro v l h l0 inv
    rw [q_Sf_findRivals_57.eq_2] at h ⊢
    refine ⟨fun c => kE v (fun a ha => ?_) (h.1 c), fun c => ⟨(h.2 c).1, fun d => ?_, fun d => ?_⟩⟩
    · rw [inv a ha]
      constructor
      · intro q
        exact ⟨q.1, q.2.2⟩
      · intro q
        exact ⟨q.1, by omega, q.2⟩
    · have el := ti_add2 (Eq.refl l.toInt) i_1 (by omega) (by omega)
      refine ih _ _ ((h.2 c).2.1 d) (by omega) (fun a ha => ?_)
      have d' := (cmp_0 _ _).mp d
      rw [mb_orr, mb_z, Bool.or_false, inv a ha, el]
      constructor
      · intro q
        exact ⟨q.1, by have := q.2.1; omega, q.2.2⟩
      · intro q
        refine ⟨q.1, ?_, q.2.2⟩
        by_cases z : (a : Int) = l.toInt
        · rw [show l.toInt.toNat = a by omega] at d'
          exact absurd d' q.2.2
        · have := q.2.1
          omega
    · have el := ti_add2 (Eq.refl l.toInt) i_1 (by omega) (by omega)
      refine ih _ _ ((h.2 c).2.2 d) (by omega) (fun a ha => ?_)
      have d' : ¬ w.2.1 43 l.toInt.toNat = 0 := fun q => d ((cmp_0 _ _).mpr q)
      rw [mb_orr, Bool.or_eq_true, inv a ha, mb_set (by omega) (by omega), decide_eq_true_iff, el]
      constructor
      · intro q
        rcases q with q | q
        · exact ⟨q.1, by have := q.2.1; omega, q.2.2⟩
        · rw [q]
          exact ⟨by omega, by omega, d'⟩
      · intro q
        by_cases z : (a : Int) = l.toInt
        · exact Or.inr (by omega)
        · exact Or.inl ⟨q.1, by have := q.2.1; omega, q.2.2⟩
/-- which liquids are rivals -/
def RvS (w : MW) (l a : Nat) : Prop := 1 ≤ a ∧ ¬ w.2.1 43 a = 0 ∧ ¬ w.2.1 43 l = 0 ∧ mb (w.1 22 l) a = false ∧ ¬ a = l
/-- only 44's numbers differ -/
def oI (c : Nat) (w0 w : MW) : Prop := w.2 = w0.2 ∧ ∀ k j, ¬ k = c → w.1 k j = w0.1 k j
theorem fr_143 {w : MW} {v f l s : Int32} {A A' : Int32 → Int32 → MW → Prop} {E E' : Int32 → MW → Prop} {Q Q' : Int32 → MW → Prop} (hf : f.toInt = 0 ∨ f.toInt = 1) (h : q_Sf_findRivals_143 v f l s l w A E Q) (k : ∀ f' : Int32, (f'.toInt = 0 ∨ f'.toInt = 1) → (f'.toInt = 0 ↔ f.toInt = 0 ∧ s.toInt = 0) → A f' (l + (1 : Int32)) (sI w 44 l.toInt.toNat s) → A' f' (l + (1 : Int32)) (sI w 44 l.toInt.toNat s)) : q_Sf_findRivals_143 v f l s l w A' E' Q' := by
  rw [q_Sf_findRivals_143.eq_1, sI_same] at h ⊢
  refine ⟨h.1, fun c => k 1 (Or.inr i_1) ⟨fun z => absurd z (by decide), fun z => absurd z.1 c⟩ (h.2.1 c), fun c => ⟨(h.2.2 c).1, fun d => k 0 (Or.inl i_0) ⟨fun _ => ⟨Classical.not_not.mp c, d⟩, fun _ => i_0⟩ ((h.2.2 c).2.1 d), fun d => k 1 (Or.inr i_1) ⟨fun z => absurd z (by decide), fun z => absurd z.2 d⟩ ((h.2.2 c).2.2 d)⟩⟩
theorem fr_94 {w0 : MW} {v : Int32} {E E' : Int32 → MW → Prop} {Q Q' : Int32 → MW → Prop} (hv : ∀ a : Nat, a < 15 → (mb v a = true ↔ 1 ≤ a ∧ ¬ w0.2.1 43 a = 0)) (kE : ∀ f w', oI 44 w0 w' → (∀ l a : Nat, 1 ≤ l → l < 15 → a < 15 → (mb (w'.1 44 l) a = true ↔ RvS w0 l a)) → (f.toInt = 0 ↔ ∀ l : Nat, 1 ≤ l → l < 15 → (w'.1 44 l).toInt = 0) → E f w' → E' f w') : ∀ (m : Nat) (f l : Int32) (w : MW), q_Sf_findRivals_94 v E Q m f l w → 1 ≤ l.toInt → l.toInt ≤ 15 → (f.toInt = 0 ∨ f.toInt = 1) → oI 44 w0 w → (∀ l' a : Nat, 1 ≤ l' → (l' : Int) < l.toInt → a < 15 → (mb (w.1 44 l') a = true ↔ RvS w0 l' a)) → (f.toInt = 0 ↔ ∀ l' : Nat, 1 ≤ l' → (l' : Int) < l.toInt → (w.1 44 l').toInt = 0) → q_Sf_findRivals_94 v E' Q' m f l w := by
  intro m
  induction m with
  | zero => exact fun _ _ _ h _ _ _ _ _ _ => False.elim h
  | succ m ih =>
    intro f l w h l0 l1 hf o inv fz
    have e43 : ∀ j, w.2.1 43 j = w0.2.1 43 j := fun j => by rw [o.1]
    have e22 : ∀ j, w.1 22 j = w0.1 22 j := fun j => o.2 22 j (by decide)
    rw [q_Sf_findRivals_94.eq_2, e43, e22] at h ⊢
    refine ⟨fun c => kE f w o (fun l' a h1 h2 h3 => inv l' a h1 (by omega) h3) ⟨fun z l' h1 h2 => fz.mp z l' h1 (by omega), fun z => fz.mpr (fun l' h1 h2 => z l' h1 (by omega))⟩ (h.1 c), fun c => ?_⟩
    have H := h.2 c
    have el := ti_add2 (Eq.refl l.toInt) i_1 (by omega) (by omega)
    have step : ∀ s : Int32, (∀ a : Nat, a < 15 → (mb s a = true ↔ RvS w0 l.toInt.toNat a)) → q_Sf_findRivals_143 v f l s l w (fun (x94_2 : Int32) (x94_3 : Int32) (w : MW) => q_Sf_findRivals_94 v E Q m x94_2 x94_3 w) E Q → q_Sf_findRivals_143 v f l s l w (fun (x94_2 : Int32) (x94_3 : Int32) (w : MW) => q_Sf_findRivals_94 v E' Q' m x94_2 x94_3 w) E' Q' := fun s hs g => by
      refine fr_143 hf g (fun f' hf' ff g' => ih _ _ _ g' (by omega) (by omega) hf' ⟨o.1, fun k j hk => by rw [sI_oth _ _ _ _ _ _ hk]; exact o.2 k j hk⟩ (fun l' a h1 h2 h3 => ?_) ⟨fun z l' h1 h2 => ?_, fun z => ?_⟩)
      · rw [sI_if]
        by_cases q : l' = l.toInt.toNat
        · rw [if_pos q, q]
          exact hs a h3
        · rw [if_neg q]
          exact inv l' a h1 (by omega) h3
      · have z2 := ff.mp z
        rw [sI_if]
        by_cases q : l' = l.toInt.toNat
        · rw [if_pos q]
          exact z2.2
        · rw [if_neg q]
          exact fz.mp z2.1 l' h1 (by omega)
      · refine ff.mpr ⟨fz.mpr (fun l' h1 h2 => ?_), ?_⟩
        · have z2 := z l' h1 (by omega)
          rw [sI_if, if_neg (by omega)] at z2
          exact z2
        · have z2 := z l.toInt.toNat (by omega) (by omega)
          rw [sI_if, if_pos rfl] at z2
          exact z2
    refine ⟨H.1, H.2.1, fun d => step 0 (fun a ha => ?_) (H.2.2.1 d), fun d => step _ (fun a ha => ?_) (H.2.2.2 d)⟩
    · have d' := (cmp_0 _ _).mp d
      rw [mb_z]
      constructor
      · intro q
        cases q
      · intro q
        exact absurd d' q.2.2.1
    · have d' : ¬ w0.2.1 43 l.toInt.toNat = 0 := fun q => d ((cmp_0 _ _).mpr q)
      rw [mb_andn _ _ (by omega), mb_andn _ _ (by omega), mb_set (by omega) (by omega), Bool.and_eq_true, Bool.and_eq_true, hv a ha]
      constructor
      · intro q
        refine ⟨q.1.1.1, q.1.1.2, d', ?_, fun z => ?_⟩
        · cases z : mb (w0.1 22 l.toInt.toNat) a with
          | false => rfl
          | true =>
            have := q.1.2
            rw [z] at this
            cases this
        · have := q.2
          rw [decide_eq_true z] at this
          cases this
      · intro q
        refine ⟨⟨⟨q.1, q.2.1⟩, ?_⟩, ?_⟩
        · rw [q.2.2.2.1]
          rfl
        · rw [decide_eq_false q.2.2.2.2]
          rfl
theorem fr_x {w : MW} {Q Q' : Int32 → MW → Prop} (h : p_Sf_findRivals w Q) (T0 : 0 ≤ tC w) (T1 : tC w ≤ 20) (P0 : 0 ≤ pC w) (P1 : pC w ≤ 24) (k : ∀ r w1 w', oJ 43 w w1 → (∀ l y : Nat, lb (w1.2.1 43 l) y = true ↔ lb (w.2.1 43 l) y = true ∨ LqS w l y) → oI 44 w1 w' → (∀ l a : Nat, 1 ≤ l → l < 15 → a < 15 → (mb (w'.1 44 l) a = true ↔ RvS w1 l a)) → (r.toInt = 0 ↔ ∀ l : Nat, 1 ≤ l → l < 15 → (w'.1 44 l).toInt = 0) → Q r w' → Q' r w') : p_Sf_findRivals w Q' := by
  rw [p_Sf_findRivals.eq_1] at h ⊢
  refine fr_2 T0 T1 P0 P1 (fun w1 o1 b1 g1 => ?_) _ _ _ h (by decide) (oJ_r _ _) (fun l y => ⟨fun q => Or.inl q, fun q => ?_⟩)
  · refine fr_57 (fun v hv g2 => ?_) _ _ _ g1 (by decide) (fun a ha => ?_)
    · refine fr_94 hv (fun f w' o' r' z' g3 => ⟨g3.1, k f w1 w' o1 b1 o' r' z' g3.2⟩) _ _ _ _ g2 (by decide) (by decide) (Or.inl i_0) ⟨rfl, fun _ _ _ => rfl⟩ (fun l' a h1 h2 => by rw [i_1] at h2; omega) ⟨fun _ l' h1 h2 => by rw [i_1] at h2; omega, fun _ => i_0⟩
    · rw [mb_z]
      constructor
      · intro q
        cases q
      · intro q
        have := q.2.1
        rw [i_1] at this
        omega
  · rcases q with q | q
    · exact q
    · have := q.1
      rw [i_0] at this
      omega
