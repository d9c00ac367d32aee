/-! drain: both sides -/
def MxS (x m : Int32) : Prop := (0 < x.toInt ∧ m = x) ∨ (¬ 0 < x.toInt ∧ m = 0)
/-- litres leave space a: m are left -/
def LvK (w w' : MW) (a : Nat) (m : Int32) : Prop := ((w.1 17 a).toInt = 0 ∧ w' = w) ∨ (¬ (w.1 17 a).toInt = 0 ∧ ¬ m.toInt = 0 ∧ w' = sI w 18 a m) ∨ (¬ (w.1 17 a).toInt = 0 ∧ m.toInt = 0 ∧ (∀ j, w'.1 17 j = if j = a then 0 else w.1 17 j) ∧ (∀ j, w'.1 18 j = if j = a then m else w.1 18 j) ∧ (∀ j, w'.1 19 j = if j = a then w.1 17 a else w.1 19 j) ∧ (∀ j, w'.1 23 j = if 6 * a + 1 ≤ j ∧ j ≤ 6 * a + 5 then -1 else w.1 23 j) ∧ (∀ c j, ¬ c = 17 → ¬ c = 18 → ¬ c = 19 → ¬ c = 23 → w'.1 c j = w.1 c j) ∧ w'.2 = w.2)
def lvI (w : MW) (a m : Int32) (Q : MW → Prop) : Prop := ((0 ≤ a.toInt ∧ a.toInt < 44) ∧ ((0 ≤ a.toInt ∧ a.toInt < 44) ∧ ((¬ ((sI w 18 a.toInt.toNat m).1 18 a.toInt.toNat).toInt = 0 → (Q (sI w 18 a.toInt.toNat m))) ∧ (¬ (¬ ((sI w 18 a.toInt.toNat m).1 18 a.toInt.toNat).toInt = 0) → ((0 ≤ a.toInt ∧ a.toInt < 44) ∧ ((0 ≤ a.toInt ∧ a.toInt < 44) ∧ ((0 ≤ a.toInt ∧ a.toInt < 44) ∧ (p_St_forgetCleanings (sI (sI (sI w 18 a.toInt.toNat m) 19 a.toInt.toNat (w.1 17 a.toInt.toNat)) 17 a.toInt.toNat 0) a (fun w11 => (Q w11))))))))))
theorem lvi_x {w : MW} {a m : Int32} {Q Q' : MW → Prop} (h : lvI w a m Q) (nz : ¬ (w.1 17 a.toInt.toNat).toInt = 0) (k : ∀ w', LvK w w' a.toInt.toNat m → Q w' → Q' w') : lvI w a m Q' := by
  unfold lvI at h ⊢
  rw [sI_same] at h ⊢
  refine ⟨h.1, h.2.1, fun c => k _ (Or.inr (Or.inl ⟨nz, c, rfl⟩)) (h.2.2.1 c), fun c => ?_⟩
  have H := h.2.2.2 c
  refine ⟨H.1, H.2.1, H.2.2.1, fc_x H.2.2.2 h.1.1 h.1.2 (fun w' o e g => k w' (Or.inr (Or.inr ⟨nz, Classical.not_not.mp c, fun j => ?_, fun j => ?_, fun j => ?_, fun j => ?_, fun c' j h1 h2 h3 h4 => ?_, ?_⟩)) g)⟩
  · rw [o.2 17 j (by decide), sI_if, sI_oth _ _ _ _ _ _ (by decide), sI_oth _ _ _ _ _ _ (by decide)]
  · rw [o.2 18 j (by decide), sI_oth _ _ _ _ _ _ (by decide), sI_oth _ _ _ _ _ _ (by decide), sI_if]
  · rw [o.2 19 j (by decide), sI_oth _ _ _ _ _ _ (by decide), sI_if, sI_oth _ _ _ _ _ _ (by decide)]
  · rw [e j, sI_oth _ _ _ _ _ _ (by decide), sI_oth _ _ _ _ _ _ (by decide), sI_oth _ _ _ _ _ _ (by decide)]
  · rw [o.2 c' j h4, sI_oth _ _ _ _ _ _ h1, sI_oth _ _ _ _ _ _ h3, sI_oth _ _ _ _ _ _ h2]
  · rw [o.1]
    rfl
theorem lvk_x {w : MW} {a n : Int32} {Q Q' : MW → Prop} (h : p_St_leave w a n Q) (k : ∀ m w', MxS ((w.1 18 a.toInt.toNat) - n) m → LvK w w' a.toInt.toNat m → Q w' → Q' w') : p_St_leave w a n Q' := by
  rw [p_St_leave.eq_1] at h ⊢
  refine ⟨h.1, fun c => ⟨(h.2.1 c).1, ?_⟩, fun c => ?_⟩
  · have H := (h.2.1 c).2
    rw [p_Ma_max.eq_1] at H ⊢
    refine ⟨fun d => lvi_x (H.1 d) c (fun w' l g => k _ w' (Or.inl ⟨by rw [i_0] at d; exact d, rfl⟩) l g), fun d => lvi_x (H.2 d) c (fun w' l g => k _ w' (Or.inr ⟨by rw [i_0] at d; exact d, rfl⟩) l g)⟩
  · have z := Classical.not_not.mp c
    by_cases d : 0 < ((w.1 18 a.toInt.toNat) - n).toInt
    · exact k _ w (Or.inl ⟨d, rfl⟩) (Or.inl ⟨z, rfl⟩) (h.2.2 c)
    · exact k _ w (Or.inr ⟨d, rfl⟩) (Or.inl ⟨z, rfl⟩) (h.2.2 c)
theorem em_12 {z : MW} {p : Int32} {E E' Q Q' : MW → Prop} (p1 : p.toInt < 24) (k : ∀ w', oJ 20 z w' → (∀ j, w'.2.1 20 j = if 0 ≤ p.toInt ∧ 4 * p.toInt.toNat ≤ j ∧ j < 4 * p.toInt.toNat + 4 then 0 else z.2.1 20 j) → E w' → E' w') : ∀ (m : Nat) (i : Int32) (w : MW), q_St_emptyCells_12 p E Q m i w → 0 ≤ i.toInt → i.toInt ≤ 4 → oJ 20 z w → (∀ j : Nat, w.2.1 20 j = if 0 ≤ p.toInt ∧ 4 * p.toInt.toNat ≤ j ∧ (j : Int) < 4 * p.toInt.toNat + i.toInt then 0 else z.2.1 20 j) → q_St_emptyCells_12 p E' Q' m i w := by
  intro m
  induction m with
  | zero => exact fun _ _ h _ _ _ _ => False.elim h
  | succ m ih =>
    intro i w h i0 i4 o inv
    rw [q_St_emptyCells_12.eq_2] at h ⊢
    refine ⟨fun c => k w o (fun j => ?_) (h.1 c), fun c => ⟨fun d => k w o (fun j => ?_) ((h.2 c).1 d), fun d => ?_⟩⟩
    · rw [inv j, if_neg (fun q => by have := q.1; omega), if_neg (fun q => by have := q.1; omega)]
    · rw [inv j]
      by_cases q : 0 ≤ p.toInt ∧ 4 * p.toInt.toNat ≤ j ∧ j < 4 * p.toInt.toNat + 4
      · rw [if_pos q, if_pos ⟨q.1, q.2.1, by omega⟩]
      · rw [if_neg q, if_neg (fun z2 => q ⟨z2.1, z2.2.1, by omega⟩)]
    · have H := (h.2 c).2 d
      have ei := ti_add2 (Eq.refl i.toInt) i_1 (by omega) (by omega)
      have m1 := ti_mul2 (Eq.refl p.toInt) (by decide : ((4 : Int32)).toInt = 4) (by omega) (by omega)
      have m2 := ti_add2 m1 (Eq.refl i.toInt) (by omega) (by omega)
      have m3 : ((p * (4 : Int32)) + i).toInt.toNat = 4 * p.toInt.toNat + i.toInt.toNat := by omega
      rw [m3] at H ⊢
      refine ⟨H.1, ih _ _ H.2 (by omega) (by omega) (oJ_s o _ _) (fun j => ?_)⟩
      rw [sJ_if]
      by_cases q : j = 4 * p.toInt.toNat + i.toInt.toNat
      · rw [if_pos q, if_pos ⟨by omega, by omega, by omega⟩]
      · rw [if_neg q, inv j]
        by_cases q2 : 0 ≤ p.toInt ∧ 4 * p.toInt.toNat ≤ j ∧ (j : Int) < 4 * p.toInt.toNat + i.toInt
        · rw [if_pos q2, if_pos ⟨q2.1, q2.2.1, by omega⟩]
        · rw [if_neg q2, if_neg (fun z2 => q2 ⟨z2.1, z2.2.1, by omega⟩)]
theorem em_x {w : MW} {a : Int32} {Q Q' : MW → Prop} (h : p_St_emptyCells w a Q) (T : 0 ≤ tC w ∧ tC w ≤ 20) (a0 : 0 ≤ a.toInt) (a1 : a.toInt < tC w + 24) (k : ∀ w', oJ 20 w w' → (∀ j, w'.2.1 20 j = if tC w ≤ a.toInt ∧ 4 * (a.toInt - tC w).toNat ≤ j ∧ j < 4 * (a.toInt - tC w).toNat + 4 then 0 else w.2.1 20 j) → Q w' → Q' w') : p_St_emptyCells w a Q' := by
  rw [p_St_emptyCells.eq_1] at h ⊢
  have es : (a - (w.1 8 0)).toInt = a.toInt - tC w := ti_sub2 rfl rfl (by omega) (by omega)
  refine ⟨h.1, em_12 (z := w) (by omega) (fun w' o e g => k w' o (fun j => ?_) g) _ _ _ h.2 (by decide) (by decide) (oJ_r _ _) (fun j => by rw [if_neg (fun q => by have := q.2.1; have := q.2.2; rw [i_0] at this; omega)])⟩
  rw [e j, es]
  by_cases q : tC w ≤ a.toInt ∧ 4 * (a.toInt - tC w).toNat ≤ j ∧ j < 4 * (a.toInt - tC w).toNat + 4
  · rw [if_pos q, if_pos ⟨by omega, q.2⟩]
  · rw [if_neg q, if_neg (fun z => q ⟨by omega, z.2⟩)]
/-- what the class's drain does -/
def DrC (v v' : MW) (a : Nat) : Prop := (∀ j, v'.1 17 j = if j = a then 0 else v.1 17 j) ∧ (∀ j, v'.1 18 j = if j = a ∧ ¬ (v.1 17 a).toInt = 0 then 0 else v.1 18 j) ∧ (∀ j, v'.1 19 j = if j = a ∧ ¬ (v.1 17 a).toInt = 0 then v.1 17 a else v.1 19 j) ∧ (∀ j, v'.1 23 j = if ¬ (v.1 17 a).toInt = 0 ∧ 6 * a + 1 ≤ j ∧ j ≤ 6 * a + 5 then -1 else v.1 23 j) ∧ (∀ c j, ¬ c = 17 → ¬ c = 18 → ¬ c = 19 → ¬ c = 23 → v'.1 c j = v.1 c j) ∧ ∀ j, v'.2.1 20 j = if tC v ≤ a ∧ 4 * ((a : Int) - tC v).toNat ≤ j ∧ j < 4 * ((a : Int) - tC v).toNat + 4 then 0 else v.2.1 20 j
theorem i32_z {x : Int32} (h : x.toInt = 0) : x = 0 := Int32.toInt_inj.mp (h.trans i_0.symm)
theorem crd_x {v : MW} {a : Int32} {Q Q' : Int32 → MW → Prop} (h : p_Ac_drainSpace v a Q) (T : 0 ≤ tC v ∧ tC v ≤ 20) (P : 0 ≤ pC v ∧ pC v ≤ 24) (n : (v.1 26 1).toInt ≤ 24) (a1 : a.toInt < tC v + pC v) (k3 : HsC v a.toInt → Q 3 v → Q' 3 v) (k0 : ¬ HsC v a.toInt → ∀ v', DrC v v' a.toInt.toNat → Q 0 v' → Q' 0 v') : p_Ac_drainSpace v a Q' := by
  rw [p_Ac_drainSpace.eq_1] at h ⊢
  refine hs_x h T P n (fun r hs g => ⟨fun z => ?_, fun z => k3 (Classical.not_not.mp (fun q => z (hs.mpr q))) (g.2 z)⟩)
  have H := g.1 z
  have hh := H.1
  have K := k0 (hs.mp z)
  refine ⟨H.1, lvk_x H.2 (fun m w' mx' lv g2 => ?_)⟩
  have m0 : m = 0 := by
    have e : ((v.1 18 a.toInt.toNat) - (v.1 18 a.toInt.toNat)).toInt = 0 := by
      rw [ti_sub2 rfl rfl (by omega) (by omega)]
      omega
    rcases mx' with ⟨q, _⟩ | ⟨_, q⟩
    · omega
    · exact q
  have an : ((a.toInt.toNat : Nat) : Int) = a.toInt := by omega
  have eT : tC w' = tC v := by
    unfold tC
    rcases lv with ⟨_, e⟩ | ⟨_, _, e⟩ | ⟨_, _, _, _, _, _, e, _⟩
    · rw [e]
    · rw [e, sI_oth _ _ _ _ _ _ (by decide)]
    · rw [e 8 0 (by decide) (by decide) (by decide) (by decide)]
  have e20 : ∀ j, w'.2.1 20 j = v.2.1 20 j := fun j => by
    rcases lv with ⟨_, e⟩ | ⟨_, _, e⟩ | ⟨_, _, _, _, _, _, _, e⟩
    · rw [e]
    · rw [e]
      rfl
    · rw [e]
  refine em_x g2 (by rw [eT]; exact T) (by omega) (by rw [eT]; omega) (fun v' o e g3 => K v' ?_ g3)
  have f20 : ∀ j, v'.2.1 20 j = if tC v ≤ (a.toInt.toNat : Nat) ∧ 4 * (((a.toInt.toNat : Nat) : Int) - tC v).toNat ≤ j ∧ j < 4 * (((a.toInt.toNat : Nat) : Int) - tC v).toNat + 4 then 0 else v.2.1 20 j := fun j => by
    rw [e j, eT, an, e20]
  rcases lv with ⟨z0, e'⟩ | ⟨_, e', _⟩ | ⟨nz, _, l17, l18, l19, l23, lo, _⟩
  · rw [e'] at o
    refine ⟨fun j => ?_, fun j => ?_, fun j => ?_, fun j => ?_, fun c j _ _ _ _ => by rw [o.1], f20⟩
    · rw [o.1]
      by_cases q : j = a.toInt.toNat
      · rw [if_pos q, q]
        exact i32_z z0
      · rw [if_neg q]
    · rw [o.1, if_neg (fun q => q.2 z0)]
    · rw [o.1, if_neg (fun q => q.2 z0)]
    · rw [o.1, if_neg (fun q => q.1 z0)]
  · rw [m0] at e'
    exact absurd i_0 e'
  · refine ⟨fun j => by rw [o.1]; exact l17 j, fun j => ?_, fun j => ?_, fun j => ?_, fun c j h1 h2 h3 h4 => by rw [o.1]; exact lo c j h1 h2 h3 h4, f20⟩
    · rw [o.1, l18 j, m0]
      by_cases q : j = a.toInt.toNat
      · rw [if_pos q, if_pos ⟨q, nz⟩]
      · rw [if_neg q, if_neg (fun z2 => q z2.1)]
    · rw [o.1, l19 j]
      by_cases q : j = a.toInt.toNat
      · rw [if_pos q, if_pos ⟨q, nz⟩]
      · rw [if_neg q, if_neg (fun z2 => q z2.1)]
    · rw [o.1, l23 j]
      by_cases q : 6 * a.toInt.toNat + 1 ≤ j ∧ j ≤ 6 * a.toInt.toNat + 5
      · rw [if_pos q, if_pos ⟨nz, q⟩]
      · rw [if_neg q, if_neg (fun z2 => q z2.2)]
/-- what the reference's drain does -/
def DrM (w w' : MW) (a : Nat) : Prop := (∀ j, w'.1 172 j = if tM w ≤ a ∧ 200 * ((a : Int) - tM w).toNat ≤ j ∧ j < 200 * ((a : Int) - tM w).toNat + 200 then 0 else w.1 172 j) ∧ (∀ j, w'.1 165 j = if (a : Int) < tM w ∧ j = a then 0 else w.1 165 j) ∧ (∀ j, w'.1 166 j = if (a : Int) < tM w ∧ j = a then 0 else w.1 166 j) ∧ ∀ c j, ¬ c = 172 → ¬ c = 165 → ¬ c = 166 → w'.1 c j = w.1 c j
theorem nar_z : vp_nar .byte (0 : Int32) = 0 := by
  first
    | rfl
    | decide
theorem dr_296 {z : MW} {a : Int32} {E E' : MW → Prop} {Q Q' : Int32 → MW → Prop} (T : 0 ≤ tM z ∧ tM z ≤ 20) (a0 : tM z ≤ a.toInt) (a1 : a.toInt < tM z + 24) (k : ∀ w', oI 172 z w' → (∀ j, w'.1 172 j = if 200 * (a.toInt - tM z).toNat ≤ j ∧ j < 200 * (a.toInt - tM z).toNat + 200 then 0 else z.1 172 j) → E w' → E' w') : ∀ (m : Nat) (i : Int32) (w : MW), q_Mo_perform_296 a E Q m i w → 0 ≤ i.toInt → i.toInt ≤ 200 → oI 172 z w → (∀ j : Nat, w.1 172 j = if 200 * (a.toInt - tM z).toNat ≤ j ∧ (j : Int) < 200 * (a.toInt - tM z).toNat + i.toInt then 0 else z.1 172 j) → q_Mo_perform_296 a E' Q' m i w := by
  intro m
  induction m with
  | zero => exact fun _ _ h _ _ _ _ => False.elim h
  | succ m ih =>
    intro i w h i0 i2 o inv
    rw [q_Mo_perform_296.eq_2, o.2 127 4 (by decide)] at h ⊢
    have es : (a - (z.1 127 4)).toInt = a.toInt - tM z := ti_sub2 rfl rfl (by omega) (by omega)
    refine ⟨fun c => k w o (fun j => ?_) (h.1 c), fun c => ?_⟩
    · rw [inv j]
      by_cases q : 200 * (a.toInt - tM z).toNat ≤ j ∧ j < 200 * (a.toInt - tM z).toNat + 200
      · rw [if_pos q, if_pos ⟨q.1, by omega⟩]
      · rw [if_neg q, if_neg (fun z2 => q ⟨z2.1, by omega⟩)]
    · have H := h.2 c
      have ei := ti_add2 (Eq.refl i.toInt) i_1 (by omega) (by omega)
      have m1 := ti_mul2 (by decide : ((200 : Int32)).toInt = 200) es (by omega) (by omega)
      have m2 := ti_add2 m1 (Eq.refl i.toInt) (by omega) (by omega)
      have m3 : (((200 : Int32) * (a - (z.1 127 4))) + i).toInt.toNat = 200 * (a.toInt - tM z).toNat + i.toInt.toNat := by omega
      rw [m3, nar_z] at H ⊢
      refine ⟨H.1, ih _ _ H.2 (by omega) (by omega) ⟨o.1, fun c' j hc => by rw [sI_oth _ _ _ _ _ _ hc]; exact o.2 c' j hc⟩ (fun j => ?_)⟩
      rw [sI_if]
      by_cases q : j = 200 * (a.toInt - tM z).toNat + i.toInt.toNat
      · rw [if_pos q, if_pos ⟨by omega, by omega⟩]
      · rw [if_neg q, inv j]
        by_cases q2 : 200 * (a.toInt - tM z).toNat ≤ j ∧ (j : Int) < 200 * (a.toInt - tM z).toNat + i.toInt
        · rw [if_pos q2, if_pos ⟨q2.1, by omega⟩]
        · rw [if_neg q2, if_neg (fun z2 => q2 ⟨z2.1, by omega⟩)]
theorem mdr_x {v w : MW} {a b y : Int32} {Q Q' : Int32 → MW → Prop} (h : mCD w a b y Q) (ey : y.toInt = 4) (hB : BND w) (hr : HRq (mx v w)) (a0 : 0 ≤ a.toInt) (a1 : a.toInt < tM w + pM w) (k3 : IwM w a.toInt → Q 3 w → Q' 3 w) (k0 : ¬ IwM w a.toInt → ∀ w', DrM w w' a.toInt.toNat → Q 0 w' → Q' 0 w') : mCD w a b y Q' := by
  have T := hb_T hB
  have P := hb_P hB
  have an : ((a.toInt.toNat : Nat) : Int) = a.toInt := by omega
  unfold mCD at h ⊢
  refine iw_x h T (fun j => m_186 hB j) (fun k hk => hr_l24 hr k hk) (fun r iw g => ⟨fun c => k3 (Classical.not_not.mp (fun q => c (iw.mpr q))) (g.1 c), fun c => ⟨fun d => ?_, fun d => absurd (by omega) d⟩⟩)
  have K := k0 (iw.mp (Classical.not_not.mp c))
  have H := (g.2 c).1 d
  rw [q_Mo_perform_245.eq_1] at H ⊢
  have eT : (w.1 127 4).toInt = tM w := rfl
  refine ⟨fun d2 => ⟨fun e => ?_, fun e => ?_⟩, fun d2 => absurd (by omega) d2⟩
  · refine dr_296 T (by omega) (by omega) (fun w' o e' g2 => K w' ⟨fun j => ?_, fun j => ?_, fun j => ?_, fun c' j h1 _ _ => o.2 c' j h1⟩ g2) _ _ _ ((H.1 d2).1 e) (by decide) (by decide) ⟨rfl, fun _ _ _ => rfl⟩ (fun j => by rw [if_neg (fun q => by have := q.1; have := q.2; rw [i_0] at this; omega)])
    · rw [e' j, an]
      by_cases q : 200 * (a.toInt - tM w).toNat ≤ j ∧ j < 200 * (a.toInt - tM w).toNat + 200
      · rw [if_pos q, if_pos ⟨by omega, q⟩]
      · rw [if_neg q, if_neg (fun z2 => q z2.2)]
    · rw [o.2 165 j (by decide), if_neg (fun q => by have := q.1; omega)]
    · rw [o.2 166 j (by decide), if_neg (fun q => by have := q.1; omega)]
  · have G := (H.1 d2).2 e
    refine ⟨G.1, G.2.1, K _ ⟨fun j => ?_, fun j => ?_, fun j => ?_, fun c' j _ h2 h3 => ?_⟩ G.2.2⟩
    · rw [sI_oth _ _ _ _ _ _ (by decide), sI_oth _ _ _ _ _ _ (by decide), if_neg (fun q => by have := q.1; omega)]
    · rw [sI_oth _ _ _ _ _ _ (by decide), sI_if]
      by_cases q : j = a.toInt.toNat
      · rw [if_pos q, if_pos ⟨by omega, q⟩]
      · rw [if_neg q, if_neg (fun z2 => q z2.2)]
    · rw [sI_if]
      by_cases q : j = a.toInt.toNat
      · rw [if_pos q, if_pos ⟨by omega, q⟩]
      · rw [if_neg q, if_neg (fun z2 => q z2.2), sI_oth _ _ _ _ _ _ (by decide)]
    · rw [sI_oth _ _ _ _ _ _ h3, sI_oth _ _ _ _ _ _ h2]
