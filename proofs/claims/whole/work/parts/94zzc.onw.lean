/-! the class goes on from an end: onward -/
/-- what the thing at exit o must be set to for its port j -/
def nee (w : MW) (o j : Nat) : Int32 := w.1 41 (16 * (kC w (atC w o).toNat).toNat + 4 * poC w o + j)
/-- one may go on from exit o over port j to entry g -/
def CAj (w : MW) (o j g : Nat) : Prop := 0 ≤ atC w o ∧ 0 ≤ (w.1 15 (4 * (atC w o).toNat + j)).toInt ∧ g = (w.1 15 (4 * (atC w o).toNat + j)).toInt.toNat ∧ 0 ≤ (nee w o j).toInt ∧ ((w.1 37 (atC w o).toNat).toInt = 0 ∨ (¬ kC w (atC w o).toNat = 8 ∧ w.1 16 (atC w o).toNat = nee w o j))
def leg (w : MW) (e : Nat) : Int := (w.1 38 e).toInt
/-- r is the best way on -/
def OnS (w : MW) (o : Nat) (r : Int32) : Prop := (r = -1 ∧ ∀ j g, j < 4 → CAj w o j g → 536870912 ≤ leg w g) ∨ (0 ≤ r.toInt ∧ leg w r.toInt.toNat < 536870912 ∧ ∃ j, j < 4 ∧ CAj w o j r.toInt.toNat ∧ ∀ j' g', j' < 4 → CAj w o j' g' → leg w r.toInt.toNat < leg w g' ∨ (leg w r.toInt.toNat = leg w g' ∧ j ≤ j'))
def OnI (w : MW) (o : Nat) (b l : Int32) (p : Int) : Prop := (b = -1 ∧ l.toInt = 536870912 ∧ ∀ j g : Nat, (j : Int) < p → CAj w o j g → 536870912 ≤ leg w g) ∨ (0 ≤ b.toInt ∧ l.toInt = leg w b.toInt.toNat ∧ leg w b.toInt.toNat < 536870912 ∧ ∃ j : Nat, (j : Int) < p ∧ CAj w o j b.toInt.toNat ∧ ∀ j' g' : Nat, (j' : Int) < p → CAj w o j' g' → leg w b.toInt.toNat < leg w g' ∨ (leg w b.toInt.toNat = leg w g' ∧ j ≤ j'))
theorem oi_skip {w : MW} {o : Nat} {b l : Int32} {p : Nat} (st : OnI w o b l p) (nn : (∀ g, ¬ CAj w o p g) ∨ l.toInt ≤ leg w (w.1 15 (4 * (atC w o).toNat + p)).toInt.toNat) : OnI w o b l ((p : Int) + 1) := by
  rcases st with ⟨s1, s2, s3⟩ | ⟨s1, s2, s3, j, hj, ca, s4⟩
  · refine Or.inl ⟨s1, s2, fun j g' hj ca => ?_⟩
    by_cases q : j = p
    · rw [q] at ca
      rcases nn with nn | nn
      · exact absurd ca (nn g')
      · rw [ca.2.2.1]
        omega
    · exact s3 j g' (by omega) ca
  · refine Or.inr ⟨s1, s2, s3, j, by omega, ca, fun j' g' hj' ca' => ?_⟩
    by_cases q : j' = p
    · rw [q] at ca'
      rcases nn with nn | nn
      · exact absurd ca' (nn g')
      · rw [ca'.2.2.1]
        omega
    · exact s4 j' g' (by omega) ca'
theorem oi_take {w : MW} {o : Nat} {b l en : Int32} {p : Nat} (st : OnI w o b l p) (ee : en = w.1 15 (4 * (atC w o).toNat + p)) (e0 : 0 ≤ en.toInt) (ca : CAj w o p en.toInt.toNat) (ll : leg w en.toInt.toNat < l.toInt) : OnI w o en (w.1 38 en.toInt.toNat) ((p : Int) + 1) := by
  have self : ∀ g', CAj w o p g' → g' = en.toInt.toNat := fun g' c => by
    rw [c.2.2.1, ee]
  have lw : leg w en.toInt.toNat < 536870912 := by
    rcases st with ⟨_, s2, _⟩ | ⟨_, s2, s3, _⟩
    · omega
    · omega
  refine Or.inr ⟨e0, rfl, lw, p, by omega, ca, fun j' g' hj' ca' => ?_⟩
  by_cases q : j' = p
  · rw [q] at ca'
    rw [self g' ca']
    exact Or.inr ⟨rfl, by omega⟩
  · rcases st with ⟨_, s2, s3⟩ | ⟨s1, s2, s3, j, hj, ca0, s4⟩
    · have := s3 j' g' (by omega) ca'
      exact Or.inl (by omega)
    · have := s4 j' g' (by omega) ca'
      exact Or.inl (by omega)
theorem ow_132 {w : MW} {o t b l p en ne f : Int32} {A A' : Int32 → Int32 → Int32 → MW → Prop} {E E' : Int32 → MW → Prop} {Q Q' : Int32 → MW → Prop} (h : q_Wa_onward_132 o t b l p en ne f w A E Q) (k0 : (ne.toInt < 0 ∨ f.toInt = 0) → A b l (p + (1 : Int32)) w → A' b l (p + (1 : Int32)) w) (k1 : ¬ ne.toInt < 0 → ¬ f.toInt = 0 → A en (w.1 38 en.toInt.toNat) (p + (1 : Int32)) w → A' en (w.1 38 en.toInt.toNat) (p + (1 : Int32)) w) : q_Wa_onward_132 o t b l p en ne f w A' E' Q' := by
  rw [q_Wa_onward_132.eq_1] at h ⊢
  exact ⟨fun z => k0 (Or.inl z) (h.1 z), fun z => ⟨fun z2 => k0 (Or.inr z2) ((h.2 z).1 z2), fun z2 => ⟨((h.2 z).2 z2).1, k1 z z2 ((h.2 z).2 z2).2⟩⟩⟩
theorem ow_25 {w : MW} {o t : Int32} {E E' : Int32 → MW → Prop} {Q Q' : Int32 → MW → Prop} (o0 : 0 ≤ o.toInt) (et : t = w.1 13 o.toInt.toNat) (t20 : t.toInt < 20) (hk : 0 ≤ atC w o.toInt.toNat → 0 ≤ kC w (atC w o.toInt.toNat).toNat ∧ kC w (atC w o.toInt.toNat).toNat ≤ 9) (h14 : 0 ≤ (w.1 14 o.toInt.toNat).toInt ∧ (w.1 14 o.toInt.toNat).toInt ≤ 3) (k : ∀ r, OnS w o.toInt.toNat r → E r w → E' r w) : ∀ (m : Nat) (b l p : Int32), q_Wa_onward_25 o t E Q m b l p w → 0 ≤ p.toInt → p.toInt ≤ 4 → OnI w o.toInt.toNat b l p.toInt → q_Wa_onward_25 o t E' Q' m b l p w := by
  have eat : atC w o.toInt.toNat = t.toInt := by
    unfold atC
    rw [← et]
  intro m
  induction m with
  | zero => exact fun _ _ _ h _ _ _ => False.elim h
  | succ m ih =>
    intro b l p h p0 p4 st
    have fin : (4 ≤ p.toInt ∨ t.toInt < 0) → OnS w o.toInt.toNat b := fun d => by
      have pj : ∀ j g : Nat, j < 4 → CAj w o.toInt.toNat j g → (j : Int) < p.toInt := fun j g hj ca => by
        rcases d with d | d
        · omega
        · have := ca.1
          omega
      rcases st with ⟨s1, s2, s3⟩ | ⟨s1, s2, s3, j, hj, ca, s4⟩
      · exact Or.inl ⟨s1, fun j g hj ca => s3 j g (pj j g hj ca) ca⟩
      · exact Or.inr ⟨s1, s3, j, by omega, ca, fun j' g' hj' ca' => s4 j' g' (pj j' g' hj' ca') ca'⟩
    rw [q_Wa_onward_25.eq_2] at h ⊢
    refine ⟨fun c => k b (fin (Or.inl c)) (h.1 c), fun c => ⟨fun d => k b (fin (Or.inr d)) ((h.2 c).1 d), fun d => ?_⟩⟩
    have H := (h.2 c).2 d
    have ep := ti_add2 (Eq.refl p.toInt) i_1 (by omega) (by omega)
    have kk := hk (by omega)
    have m1 := ti_mul2 (Eq.refl t.toInt) (by decide : ((4 : Int32)).toInt = 4) (by omega) (by omega)
    have m2 := ti_add2 m1 (Eq.refl p.toInt) (by omega) (by omega)
    have m3 : ((t * (4 : Int32)) + p).toInt.toNat = 4 * (atC w o.toInt.toNat).toNat + p.toInt.toNat := by omega
    have tn : t.toInt.toNat = (atC w o.toInt.toNat).toNat := by omega
    have a1 : ((w.1 9 (atC w o.toInt.toNat).toNat) * (16 : Int32)).toInt = kC w (atC w o.toInt.toNat).toNat * 16 := ti_mul2 rfl (by decide) (by unfold kC at *; omega) (by unfold kC at *; omega)
    have a2 : ((w.1 14 o.toInt.toNat) * (4 : Int32)).toInt = (w.1 14 o.toInt.toNat).toInt * 4 := ti_mul2 rfl (by decide) (by omega) (by omega)
    have a3 := ti_add2 a1 a2 (by omega) (by omega)
    have a4 := ti_add2 a3 (Eq.refl p.toInt) (by omega) (by omega)
    have a5 : ((((w.1 9 (atC w o.toInt.toNat).toNat) * (16 : Int32)) + ((w.1 14 o.toInt.toNat) * (4 : Int32))) + p).toInt.toNat = 16 * (kC w (atC w o.toInt.toNat).toNat).toNat + 4 * poC w o.toInt.toNat + p.toInt.toNat := by
      unfold poC
      omega
    have ne : w.1 41 (((((w.1 9 (atC w o.toInt.toNat).toNat) * (16 : Int32)) + ((w.1 14 o.toInt.toNat) * (4 : Int32))) + p).toInt.toNat) = nee w o.toInt.toNat p.toInt.toNat := by
      unfold nee
      rw [a5]
    rw [m3, tn, ne] at H
    rw [m3, tn, ne]
    have st' : OnI w o.toInt.toNat b l (p.toInt.toNat : Nat) := by
      rw [show ((p.toInt.toNat : Nat) : Int) = p.toInt by omega]
      exact st
    have pe : ((p.toInt.toNat : Nat) : Int) + 1 = (p + (1 : Int32)).toInt := by omega
    clear h fin a1 a2 a3 a4 a5 ne m1 m2
    have skip : ((∀ g, ¬ CAj w o.toInt.toNat p.toInt.toNat g) ∨ l.toInt ≤ leg w (w.1 15 (4 * (atC w o.toInt.toNat).toNat + p.toInt.toNat)).toInt.toNat) → q_Wa_onward_25 o t E Q m b l (p + (1 : Int32)) w → q_Wa_onward_25 o t E' Q' m b l (p + (1 : Int32)) w := fun nn g => ih _ _ _ g (by omega) (by omega) (by rw [← pe]; exact oi_skip st' nn)
    have at0 : 0 ≤ atC w o.toInt.toNat := by omega
    refine ⟨H.1, fun d1 => skip (Or.inl (fun g ca => by have := ca.2.1; omega)) (H.2.1 d1), fun d1 => ⟨(H.2.2 d1).1, fun d2 => skip (Or.inr d2) ((H.2.2 d1).2.1 d2), fun d2 => ?_⟩⟩
    have G := (H.2.2 d1).2.2 d2
    have ll : leg w (w.1 15 (4 * (atC w o.toInt.toNat).toNat + p.toInt.toNat)).toInt.toNat < l.toInt := Int.not_le.mp d2
    have d1' : 0 ≤ (w.1 15 (4 * (atC w o.toInt.toNat).toNat + p.toInt.toNat)).toInt := Int.not_lt.mp d1
    clear H
    have step : ∀ f : Int32, (¬ f.toInt = 0 ↔ ((w.1 37 (atC w o.toInt.toNat).toNat).toInt = 0 ∨ (¬ kC w (atC w o.toInt.toNat).toNat = 8 ∧ w.1 16 (atC w o.toInt.toNat).toNat = nee w o.toInt.toNat p.toInt.toNat))) → q_Wa_onward_132 o t b l p (w.1 15 (4 * (atC w o.toInt.toNat).toNat + p.toInt.toNat)) (nee w o.toInt.toNat p.toInt.toNat) f w (fun (x25_4 : Int32) (x25_5 : Int32) (x25_6 : Int32) (w : MW) => q_Wa_onward_25 o t E Q m x25_4 x25_5 x25_6 w) E Q → q_Wa_onward_132 o t b l p (w.1 15 (4 * (atC w o.toInt.toNat).toNat + p.toInt.toNat)) (nee w o.toInt.toNat p.toInt.toNat) f w (fun (x25_4 : Int32) (x25_5 : Int32) (x25_6 : Int32) (w : MW) => q_Wa_onward_25 o t E' Q' m x25_4 x25_5 x25_6 w) E' Q' := fun f hf g => ow_132 g (fun z r => skip (Or.inl (fun g' ca => by
        rcases z with z | z
        · exact absurd ca.2.2.2.1 (Int.not_le.mpr z)
        · exact hf.mpr ca.2.2.2.2 z)) r) (fun z z2 r => ih _ _ _ r (by omega) (by omega) (by rw [← pe]; exact oi_take st' rfl d1' ⟨at0, d1', rfl, Int.not_lt.mp z, hf.mp z2⟩ ll))
    have n1 : ¬ (1 : Int32).toInt = 0 := by decide
    refine ⟨G.1, G.2.1, G.2.2.1, G.2.2.2.1, fun d3 => step 1 ⟨fun _ => Or.inl d3, fun _ => n1⟩ (G.2.2.2.2.1 d3), fun d3 => ?_⟩
    have G2 := G.2.2.2.2.2 d3
    refine ⟨G2.1, fun d4 => step 0 ⟨fun z => absurd i_0 z, fun z => ?_⟩ (G2.2.1 d4), fun d4 => ⟨(G2.2.2 d4).1, fun d5 => step 0 ⟨fun z => absurd i_0 z, fun z => ?_⟩ ((G2.2.2 d4).2.1 d5), fun d5 => step 1 ⟨fun _ => Or.inr ⟨d4, ti_inj (Classical.not_not.mp d5)⟩, fun _ => n1⟩ ((G2.2.2 d4).2.2 d5)⟩⟩
    · rcases z with z | z
      · exact absurd z d3
      · exact absurd d4 z.1
    · rcases z with z | z
      · exact absurd z d3
      · exact absurd (by rw [z.2]) d5
theorem ow_x {w : MW} {o : Int32} {Q Q' : Int32 → MW → Prop} (h : p_Wa_onward w o Q) (o0 : 0 ≤ o.toInt) (at20 : atC w o.toInt.toNat < 20) (hk : 0 ≤ atC w o.toInt.toNat → 0 ≤ kC w (atC w o.toInt.toNat).toNat ∧ kC w (atC w o.toInt.toNat).toNat ≤ 9) (h14 : 0 ≤ (w.1 14 o.toInt.toNat).toInt ∧ (w.1 14 o.toInt.toNat).toInt ≤ 3) (k : ∀ r, OnS w o.toInt.toNat r → Q r w → Q' r w) : p_Wa_onward w o Q' := by
  rw [p_Wa_onward.eq_1] at h ⊢
  exact ⟨h.1, h.2.1, ow_25 o0 rfl at20 hk h14 k _ _ _ _ h.2.2 (by decide) (by decide) (Or.inl ⟨rfl, by decide, fun j g hj => by rw [i_0] at hj; omega⟩)⟩
