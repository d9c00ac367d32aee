/-! whether an open way has a space -/
def HsC (v : MW) (x : Int) : Prop := (tC v ≤ x ∧ x < tC v + pC v ∧ ¬ (v.1 36 (x - tC v).toNat).toInt = 0) ∨ (¬ (tC v ≤ x ∧ x < tC v + pC v) ∧ ∃ k : Nat, (k : Int) < (v.1 26 1).toInt ∧ ((v.1 27 k).toInt = x ∨ (v.1 28 k).toInt = x))
def IwM (w : MW) (x : Int) : Prop := ∃ k : Nat, (k : Int) < (w.1 127 26).toInt ∧ ((w.1 181 k).toInt = x ∨ (w.1 182 k).toInt = x ∨ ∃ i : Nat, (i : Int) < (w.1 185 k).toInt ∧ tM w + (w.1 186 (24 * k + i)).toInt / 2 = x)
theorem hs_31 {v : MW} {x : Int32} {E E' : MW → Prop} {Q Q' : Int32 → MW → Prop} (n : (v.1 26 1).toInt ≤ 24) (kE : (∀ k : Nat, (k : Int) < (v.1 26 1).toInt → ¬ (v.1 27 k).toInt = x.toInt ∧ ¬ (v.1 28 k).toInt = x.toInt) → E v → E' v) (kQ : (∃ k : Nat, (k : Int) < (v.1 26 1).toInt ∧ ((v.1 27 k).toInt = x.toInt ∨ (v.1 28 k).toInt = x.toInt)) → Q 1 v → Q' 1 v) : ∀ (m : Nat) (k : Int32), q_Wa_hasSpace_31 x E Q m k v → 0 ≤ k.toInt → (∀ k' : Nat, (k' : Int) < k.toInt → ¬ (v.1 27 k').toInt = x.toInt ∧ ¬ (v.1 28 k').toInt = x.toInt) → q_Wa_hasSpace_31 x E' Q' m k v := by
  intro m
  induction m with
  | zero => exact fun _ h _ _ => False.elim h
  | succ m ih =>
    intro k h k0 inv
    rw [q_Wa_hasSpace_31.eq_2] at h ⊢
    refine ⟨fun d => kE (fun k' hk' => inv k' (by omega)) (h.1 d), fun d => ?_⟩
    have H := h.2 d
    have ek := ti_add2 (Eq.refl k.toInt) i_1 (by omega) (by omega)
    refine ⟨H.1, fun c => kQ ⟨k.toInt.toNat, by omega, Or.inl c⟩ (H.2.1 c), fun c => ⟨(H.2.2 c).1, fun c2 => ih _ ((H.2.2 c).2.1 c2) (by omega) (fun k' hk' => ?_), fun c2 => kQ ⟨k.toInt.toNat, by omega, Or.inr (Classical.not_not.mp c2)⟩ ((H.2.2 c).2.2 c2)⟩⟩
    by_cases q : (k' : Int) = k.toInt
    · rw [show k' = k.toInt.toNat by omega]
      exact ⟨c, c2⟩
    · exact inv k' (by omega)
theorem cip_x {v : MW} {a : Int32} {Q Q' : Int32 → MW → Prop} (h : p_St_isPipe v a Q) (T : 0 ≤ tC v ∧ tC v ≤ 20) (P : 0 ≤ pC v ∧ pC v ≤ 24) (k : ∀ r : Int32, (r = 1 ∧ tC v ≤ a.toInt ∧ a.toInt < tC v + pC v) ∨ (r = 0 ∧ ¬ (tC v ≤ a.toInt ∧ a.toInt < tC v + pC v)) → Q r v → Q' r v) : p_St_isPipe v a Q' := by
  rw [p_St_isPipe.eq_1] at h ⊢
  have e : ((v.1 8 0) + (v.1 8 1)).toInt = tC v + pC v := ti_add2 rfl rfl (by unfold tC pC at *; omega) (by unfold tC pC at *; omega)
  have e0 : (v.1 8 0).toInt = tC v := rfl
  refine ⟨h.1, fun c => k 0 (Or.inr ⟨rfl, fun z => by have := z.1; omega⟩) (h.2.1 c), fun c => ⟨(h.2.2 c).1, (h.2.2 c).2.1, fun d => k 0 (Or.inr ⟨rfl, fun z => by have := z.2; omega⟩) ((h.2.2 c).2.2.1 d), fun d => k 1 (Or.inl ⟨rfl, by omega, by omega⟩) ((h.2.2 c).2.2.2 d)⟩⟩
theorem hs_x {v : MW} {x : Int32} {Q Q' : Int32 → MW → Prop} (h : p_Wa_hasSpace v x Q) (T : 0 ≤ tC v ∧ tC v ≤ 20) (P : 0 ≤ pC v ∧ pC v ≤ 24) (n : (v.1 26 1).toInt ≤ 24) (k : ∀ r : Int32, (r.toInt = 0 ↔ ¬ HsC v x.toInt) → Q r v → Q' r v) : p_Wa_hasSpace v x Q' := by
  rw [p_Wa_hasSpace.eq_1] at h ⊢
  refine cip_x h T P (fun r1 i1 g => ⟨fun c => ?_, fun c => ?_⟩)
  · rcases i1 with ⟨e, _⟩ | ⟨_, np⟩
    · rw [e] at c
      exact absurd c (by decide)
    · refine hs_31 n (fun al g2 => k 0 ⟨fun _ hs => ?_, fun _ => i_0⟩ g2) (fun ex g2 => k 1 ⟨fun z => absurd z (by decide), fun z => absurd (Or.inr ⟨np, ex⟩) z⟩ g2) _ _ (g.1 c) (by decide) (fun k' hk' => by rw [i_0] at hk'; omega)
      rcases hs with hs | ⟨_, k', h1, h2⟩
      · exact np ⟨hs.1, hs.2.1⟩
      · have := al k' h1
        rcases h2 with h2 | h2
        · exact this.1 h2
        · exact this.2 h2
  · rcases i1 with ⟨_, p1, p2⟩ | ⟨e, _⟩
    · have H := g.2 c
      have es : (x - (v.1 8 0)).toInt = x.toInt - tC v := ti_sub2 rfl rfl (by omega) (by omega)
      refine ⟨H.1, H.2.1, H.2.2.1, k _ ?_ H.2.2.2⟩
      rw [es]
      constructor
      · intro z hs
        rcases hs with hs | hs
        · exact hs.2.2 z
        · exact hs.1 ⟨p1, p2⟩
      · intro z
        exact Classical.not_not.mp (fun q => z (Or.inl ⟨p1, p2, q⟩))
    · rw [e] at c
      exact absurd i_0 c
theorem iw_34 {w : MW} {x k : Int32} {E E' : MW → Prop} {Q Q' : Int32 → MW → Prop} (T : 0 ≤ tM w ∧ tM w ≤ 20) (k0 : 0 ≤ k.toInt) (k1 : k.toInt < 24) (h186 : ∀ j, 0 ≤ (w.1 186 j).toInt ∧ (w.1 186 j).toInt < 48) (l24 : (w.1 185 k.toInt.toNat).toInt ≤ 24) (kE : (∀ i : Nat, (i : Int) < (w.1 185 k.toInt.toNat).toInt → ¬ tM w + (w.1 186 (24 * k.toInt.toNat + i)).toInt / 2 = x.toInt) → E w → E' w) (kQ : (∃ i : Nat, (i : Int) < (w.1 185 k.toInt.toNat).toInt ∧ tM w + (w.1 186 (24 * k.toInt.toNat + i)).toInt / 2 = x.toInt) → Q 1 w → Q' 1 w) : ∀ (m : Nat) (i : Int32), q_Mo_isOnWay_34 x k E Q m i w → 0 ≤ i.toInt → (∀ i' : Nat, (i' : Int) < i.toInt → ¬ tM w + (w.1 186 (24 * k.toInt.toNat + i')).toInt / 2 = x.toInt) → q_Mo_isOnWay_34 x k E' Q' m i w := by
  intro m
  induction m with
  | zero => exact fun _ h _ _ => False.elim h
  | succ m ih =>
    intro i h i0 inv
    rw [q_Mo_isOnWay_34.eq_2] at h ⊢
    refine ⟨h.1, fun d => kE (fun i' hi' => inv i' (by omega)) (h.2.1 d), fun d => ?_⟩
    have H := h.2.2 d
    have ei := ti_add2 (Eq.refl i.toInt) i_1 (by omega) (by omega)
    have m1 := ti_mul2 (by decide : ((24 : Int32)).toInt = 24) (Eq.refl k.toInt) (by omega) (by omega)
    have m2 := ti_add2 m1 (Eq.refl i.toInt) (by omega) (by omega)
    have m3 : (((24 : Int32) * k) + i).toInt.toNat = 24 * k.toInt.toNat + i.toInt.toNat := by omega
    have b := h186 (24 * k.toInt.toNat + i.toInt.toNat)
    have d2 : ((w.1 186 (24 * k.toInt.toNat + i.toInt.toNat)) / (2 : Int32)).toInt = (w.1 186 (24 * k.toInt.toNat + i.toInt.toNat)).toInt / 2 := nb_div b.1 (by decide) (by decide)
    have ea : ((w.1 127 4) + ((w.1 186 (24 * k.toInt.toNat + i.toInt.toNat)) / (2 : Int32))).toInt = tM w + (w.1 186 (24 * k.toInt.toNat + i.toInt.toNat)).toInt / 2 := ti_add2 rfl d2 (by omega) (by omega)
    rw [m3, ea] at H ⊢
    refine ⟨H.1, fun c => ih _ (H.2.1 c) (by omega) (fun i' hi' => ?_), fun c => kQ ⟨i.toInt.toNat, by omega, Classical.not_not.mp c⟩ (H.2.2 c)⟩
    by_cases q : (i' : Int) = i.toInt
    · rw [show i' = i.toInt.toNat by omega]
      exact c
    · exact inv i' (by omega)
theorem iw_2 {w : MW} {x : Int32} {E E' : MW → Prop} {Q Q' : Int32 → MW → Prop} (T : 0 ≤ tM w ∧ tM w ≤ 20) (h186 : ∀ j, 0 ≤ (w.1 186 j).toInt ∧ (w.1 186 j).toInt < 48) (l24 : ∀ k : Nat, (k : Int) < (w.1 127 26).toInt → (w.1 185 k).toInt ≤ 24) (kE : ¬ IwM w x.toInt → E w → E' w) (kQ : IwM w x.toInt → Q 1 w → Q' 1 w) : ∀ (m : Nat) (k : Int32), q_Mo_isOnWay_2 x E Q m k w → 0 ≤ k.toInt → (∀ k' : Nat, (k' : Int) < k.toInt → ¬ ((w.1 181 k').toInt = x.toInt ∨ (w.1 182 k').toInt = x.toInt ∨ ∃ i : Nat, (i : Int) < (w.1 185 k').toInt ∧ tM w + (w.1 186 (24 * k' + i)).toInt / 2 = x.toInt)) → q_Mo_isOnWay_2 x E' Q' m k w := by
  intro m
  induction m with
  | zero => exact fun _ h _ _ => False.elim h
  | succ m ih =>
    intro k h k0 inv
    rw [q_Mo_isOnWay_2.eq_2] at h ⊢
    refine ⟨fun d => kE (fun z => ?_) (h.1 d), fun d => ?_⟩
    · obtain ⟨k', z1, z2⟩ := z
      exact inv k' (by omega) z2
    · have H := h.2 d
      have kb := H.1
      have ek := ti_add2 (Eq.refl k.toInt) i_1 (by omega) (by omega)
      have hk : ((k.toInt.toNat : Nat) : Int) < (w.1 127 26).toInt := by omega
      refine ⟨H.1, fun c => kQ ⟨k.toInt.toNat, hk, Or.inl c⟩ (H.2.1 c), fun c => ⟨(H.2.2 c).1, fun c2 => ?_, fun c2 => kQ ⟨k.toInt.toNat, hk, Or.inr (Or.inl (Classical.not_not.mp c2))⟩ ((H.2.2 c).2.2 c2)⟩⟩
      refine iw_34 T k0 kb.2 h186 (l24 _ hk) (fun al g => ih _ g (by omega) (fun k' hk' => ?_)) (fun ex g => kQ ⟨k.toInt.toNat, hk, Or.inr (Or.inr ex)⟩ g) _ _ ((H.2.2 c).2.1 c2) (by decide) (fun i' hi' => by rw [i_0] at hi'; omega)
      by_cases q : (k' : Int) = k.toInt
      · rw [show k' = k.toInt.toNat by omega]
        intro z
        rcases z with z | z | ⟨i, z1, z2⟩
        · exact c z
        · exact c2 z
        · exact al i z1 z2
      · exact inv k' (by omega)
theorem iw_x {w : MW} {x : Int32} {Q Q' : Int32 → MW → Prop} (h : p_Mo_isOnWay w x Q) (T : 0 ≤ tM w ∧ tM w ≤ 20) (h186 : ∀ j, 0 ≤ (w.1 186 j).toInt ∧ (w.1 186 j).toInt < 48) (l24 : ∀ k : Nat, (k : Int) < (w.1 127 26).toInt → (w.1 185 k).toInt ≤ 24) (k : ∀ r : Int32, (r.toInt = 0 ↔ ¬ IwM w x.toInt) → Q r w → Q' r w) : p_Mo_isOnWay w x Q' := by
  rw [p_Mo_isOnWay.eq_1] at h ⊢
  exact iw_2 T h186 l24 (fun n g => k 0 ⟨fun _ => n, fun _ => i_0⟩ g) (fun y g => k 1 ⟨fun z => absurd z (by decide), fun z => absurd y z⟩ g) _ _ h (by decide) (fun k' hk' => by rw [i_0] at hk'; omega)
/-- both tell the same -/
theorem on_z {z : MW} {x : Int} (T : 0 ≤ tM z ∧ tM z ≤ 20) (P : 0 ≤ pM z ∧ pM z ≤ 24) (hp : HPl z) (hy : HWy z) (x0 : 0 ≤ x) (x1 : x < tM z + pM z) : HsC z x ↔ IwM z x := by
  have n := w_n hy.1
  have A := hy.1.2.2.2
  unfold HsC IwM
  rw [hp.1.1, hp.1.2.1, hy.1.1]
  constructor
  · intro q
    rcases q with ⟨q1, q2, q3⟩ | ⟨q1, k, hk, q2⟩
    · have px : (((x - tM z).toNat : Nat) : Int) < pM z := by omega
      have on : onN z (x - tM z).toNat := Classical.not_not.mp (fun no => q3 ((hy.2.2.1.1 _ px).mpr no))
      obtain ⟨k, i, hk, hi, e⟩ := on
      have l := w_l hy.1 hk
      have en := (w_e hy.2.1 hk hi).1
      exact ⟨k, by omega, Or.inr (Or.inr ⟨i, by omega, by omega⟩)⟩
    · have a := (A k (by omega)).1
      rw [a.1, a.2.1] at q2
      refine ⟨k, hk, ?_⟩
      rcases q2 with q2 | q2
      · exact Or.inl q2
      · exact Or.inr (Or.inl q2)
  · intro q
    obtain ⟨k, hk, q⟩ := q
    have kn : k < nwy z := by omega
    have a := A k kn
    rcases q with q | q | ⟨i, q1, q2⟩
    · refine Or.inr ⟨fun z2 => ?_, k, hk, Or.inl (by rw [a.1.1]; exact q)⟩
      have := a.2.2.2.2.1
      omega
    · refine Or.inr ⟨fun z2 => ?_, k, hk, Or.inr (by rw [a.1.2.1]; exact q)⟩
      have := a.2.2.2.2.2.1
      omega
    · have l := w_l hy.1 kn
      have hi : i < wln z k := by omega
      have en := w_e hy.2.1 kn hi
      have px : (((x - tM z).toNat : Nat) : Int) < pM z := by omega
      refine Or.inl ⟨by omega, x1, fun e36 => ?_⟩
      exact (hy.2.2.1.1 _ px).mp e36 ⟨k, i, kn, hi, by omega⟩
