/-! the reference closes a way -/
/-- way k alone holds thing t, a valve -/
def clT (z : MW) (k t : Nat) : Prop := ¬ (z.1 187 (20 * k + t)).toInt = -1 ∧ 2 ≤ (z.1 163 t).toInt ∧ ∀ k' : Nat, (k' : Int) < (z.1 127 26).toInt → ¬ k' = k → (z.1 187 (20 * k' + t)).toInt = -1
def clX (z : MW) (t : Nat) : Int32 := if (z.1 163 t).toInt = 3 then 2 else 0
def ClI (z : MW) (k x : Nat) (w : MW) : Prop := w.2 = z.2 ∧ (∀ c j, ¬ c = 167 → ¬ c = 187 → w.1 c j = z.1 c j) ∧ (∀ j, w.1 187 j = if 20 * k ≤ j ∧ j < 20 * k + x then -1 else z.1 187 j) ∧ ∀ t, (t < x ∧ clT z k t → w.1 167 t = clX z t) ∧ (¬ (t < x ∧ clT z k t) → w.1 167 t = z.1 167 t)
theorem cl_st {z w w' : MW} {k x : Nat} (h : ClI z k x w) (o2 : w'.2 = w.2) (o : ∀ c j, ¬ c = 167 → ¬ c = 187 → w'.1 c j = w.1 c j) (e187 : ∀ j, w'.1 187 j = if j = 20 * k + x then -1 else w.1 187 j) (e1 : clT z k x → w'.1 167 x = clX z x) (e2 : ¬ clT z k x → w'.1 167 x = w.1 167 x) (e3 : ∀ t, ¬ t = x → w'.1 167 t = w.1 167 t) : ClI z k (x + 1) w' := by
  obtain ⟨h1, h2, h3, h4⟩ := h
  refine ⟨o2.trans h1, fun c j c1 c2 => (o c j c1 c2).trans (h2 c j c1 c2), fun j => ?_, fun t => ?_⟩
  · rw [e187 j, h3 j]
    by_cases q : j = 20 * k + x
    · rw [if_pos q, if_pos ⟨by omega, by omega⟩]
    · rw [if_neg q]
      by_cases q2 : 20 * k ≤ j ∧ j < 20 * k + x
      · rw [if_pos q2, if_pos ⟨q2.1, by omega⟩]
      · rw [if_neg q2, if_neg (fun z2 => q2 ⟨z2.1, by omega⟩)]
  · by_cases q : t = x
    · rw [q]
      refine ⟨fun z2 => e1 z2.2, fun z2 => ?_⟩
      rw [e2 (fun c => z2 ⟨by omega, c⟩)]
      exact (h4 x).2 (fun c => by have := c.1; omega)
    · rw [e3 t q]
      exact ⟨fun z2 => (h4 t).1 ⟨by have := z2.1; omega, z2.2⟩, fun z2 => (h4 t).2 (fun c => z2 ⟨by have := c.1; omega, c.2⟩)⟩
theorem clo_40 {z : MW} {k x y : Int32} {w : MW} {A A' : Int32 → MW → Prop} {E E' Q Q' : MW → Prop} (h : q_Mo_close_40 k x y w A E Q) (k0 : 0 ≤ k.toInt) (k1 : k.toInt < 24) (x0 : 0 ≤ x.toInt) (x1 : x.toInt < 20) (n24 : (z.1 127 26).toInt ≤ 24) (kn : k.toInt < (z.1 127 26).toInt) (inv : ClI z k.toInt.toNat x.toInt.toNat w) (ey : ¬ y.toInt = 0 ↔ (¬ (z.1 187 (20 * k.toInt.toNat + x.toInt.toNat)).toInt = -1 ∧ 2 ≤ (z.1 163 x.toInt.toNat).toInt)) (kA : ∀ w', ClI z k.toInt.toNat (x.toInt.toNat + 1) w' → A (x + (1 : Int32)) w' → A' (x + (1 : Int32)) w') : q_Mo_close_40 k x y w A' E' Q' := by
  have m1 := ti_mul2 (by decide : ((20 : Int32)).toInt = 20) (Eq.refl k.toInt) (by omega) (by omega)
  have m2 := ti_add2 m1 (Eq.refl x.toInt) (by omega) (by omega)
  have m3 : (((20 : Int32) * k) + x).toInt.toNat = 20 * k.toInt.toNat + x.toInt.toNat := by omega
  rw [q_Mo_close_40.eq_1, m3] at h ⊢
  have o1 : ∀ c j, ¬ c = 167 → ¬ c = 187 → (sI w 187 (20 * k.toInt.toNat + x.toInt.toNat) (-1)).1 c j = w.1 c j := fun c j _ c2 => sI_oth _ _ _ _ _ _ c2
  have e187 : ∀ j, (sI w 187 (20 * k.toInt.toNat + x.toInt.toNat) (-1)).1 187 j = if j = 20 * k.toInt.toNat + x.toInt.toNat then -1 else w.1 187 j := fun j => sI_if _ _ _ _ _
  have r26 : (sI w 187 (20 * k.toInt.toNat + x.toInt.toNat) (-1)).1 127 26 = z.1 127 26 := by
    rw [sI_oth _ _ _ _ _ _ (by decide)]
    exact inv.2.1 127 26 (by decide) (by decide)
  have r163 : w.1 163 x.toInt.toNat = z.1 163 x.toInt.toNat := inv.2.1 163 _ (by decide) (by decide)
  have oth : ∀ k' : Nat, ¬ k' = k.toInt.toNat → (sI w 187 (20 * k.toInt.toNat + x.toInt.toNat) (-1)).1 187 (20 * k' + x.toInt.toNat) = z.1 187 (20 * k' + x.toInt.toNat) := fun k' hk => by
    rw [e187, if_neg (by omega), inv.2.2.1, if_neg (fun q => by have := q.1; have := q.2; omega)]
  refine ⟨h.1, fun c => kA _ (cl_st inv rfl o1 e187 (fun ct => absurd (ey.mpr ⟨ct.1, ct.2.1⟩) (fun q => q c)) (fun _ => sI_oth _ _ _ _ _ _ (by decide)) (fun t _ => sI_oth _ _ _ _ _ _ (by decide))) (h.2.1 c), fun c => ?_⟩
  have Y := ey.mp c
  refine hd_x (h.2.2 c) x0 x1 (by rw [r26]; exact n24) (fun r hd g => ⟨fun d => ?_, fun d => ?_⟩)
  · rcases hd with ⟨e, _⟩ | ⟨_, k', hk', er⟩
    · rw [e] at d
      exact absurd (by decide) d
    · rw [r26] at hk'
      have nk : ¬ k' = k.toInt.toNat := fun e => by
        rw [er, e, e187, if_pos (by omega)] at d
        exact d (by decide)
      have n' : ¬ clT z k.toInt.toNat x.toInt.toNat := fun ct => by
        rw [er, show ((x.toInt).toNat : Nat) = x.toInt.toNat from rfl, oth k' nk] at d
        exact d (ct.2.2 k' hk' nk)
      exact kA _ (cl_st inv rfl o1 e187 (fun ct => absurd ct n') (fun _ => sI_oth _ _ _ _ _ _ (by decide)) (fun t _ => sI_oth _ _ _ _ _ _ (by decide))) (g.1 d)
  · rcases hd with ⟨_, un⟩ | ⟨e, _⟩
    · have ct : clT z k.toInt.toNat x.toInt.toNat := ⟨Y.1, Y.2, fun k' hk' nk => by
        have q := un k' (by rw [r26]; exact hk')
        rw [oth k' nk] at q
        exact q⟩
      have G := g.2 d
      have r163' : (sI w 187 (20 * k.toInt.toNat + x.toInt.toNat) (-1)).1 163 x.toInt.toNat = z.1 163 x.toInt.toNat := by
        rw [sI_oth _ _ _ _ _ _ (by decide)]
        exact r163
      rw [r163'] at G ⊢
      have fin : ∀ y : Int32, y = clX z x.toInt.toNat → ClI z k.toInt.toNat (x.toInt.toNat + 1) (sI (sI w 187 (20 * k.toInt.toNat + x.toInt.toNat) (-1)) 167 x.toInt.toNat y) := fun y hy => by
        refine cl_st inv rfl (fun c' j c1 c2 => by rw [sI_oth _ _ _ _ _ _ c1]; exact o1 c' j c1 c2) (fun j => by rw [sI_oth _ _ _ _ _ _ (by decide)]; exact e187 j) (fun _ => by rw [sI_same]; exact hy) (fun n' => absurd ct n') (fun t nt => ?_)
        rw [sI_ne _ _ _ _ _ nt, sI_oth _ _ _ _ _ _ (by decide)]
      refine ⟨G.1, fun e => ⟨(G.2.1 e).1, kA _ (fin 0 ?_) (G.2.1 e).2⟩, fun e => ⟨(G.2.2 e).1, kA _ (fin 2 ?_) (G.2.2 e).2⟩⟩
      · unfold clX
        rw [if_neg e]
      · unfold clX
        rw [if_pos (Classical.not_not.mp e)]
    · exact absurd (Classical.not_not.mp d) e
theorem clo_2 {z : MW} {k : Int32} {E E' Q Q' : MW → Prop} (T : 0 ≤ tM z ∧ tM z ≤ 20) (k0 : 0 ≤ k.toInt) (k1 : k.toInt < 24) (n24 : (z.1 127 26).toInt ≤ 24) (kn : k.toInt < (z.1 127 26).toInt) (kE : ∀ w, ClI z k.toInt.toNat (tM z).toNat w → E w → E' w) : ∀ (m : Nat) (x : Int32) (w : MW), q_Mo_close_2 k E Q m x w → 0 ≤ x.toInt → x.toInt ≤ tM z → ClI z k.toInt.toNat x.toInt.toNat w → q_Mo_close_2 k E' Q' m x w := by
  intro m
  induction m with
  | zero => exact fun _ _ h _ _ _ => False.elim h
  | succ m ih =>
    intro x w h x0 xT inv
    have r4 : w.1 127 4 = z.1 127 4 := inv.2.1 127 4 (by decide) (by decide)
    have eT : (z.1 127 4).toInt = tM z := rfl
    rw [q_Mo_close_2.eq_2, r4, eT] at h ⊢
    refine ⟨fun c => kE w ?_ (h.1 c), fun c => ?_⟩
    · have e : x.toInt.toNat = (tM z).toNat := by omega
      rw [e] at inv
      exact inv
    · have ex := ti_add2 (Eq.refl x.toInt) i_1 (by omega) (by omega)
      have m1 := ti_mul2 (by decide : ((20 : Int32)).toInt = 20) (Eq.refl k.toInt) (by omega) (by omega)
      have m2 := ti_add2 m1 (Eq.refl x.toInt) (by omega) (by omega)
      have m3 : (((20 : Int32) * k) + x).toInt.toNat = 20 * k.toInt.toNat + x.toInt.toNat := by omega
      have H := h.2 c
      have r187 : w.1 187 (20 * k.toInt.toNat + x.toInt.toNat) = z.1 187 (20 * k.toInt.toNat + x.toInt.toNat) := by
        rw [inv.2.2.1, if_neg (fun q => by have := q.2; omega)]
      have r163 : w.1 163 x.toInt.toNat = z.1 163 x.toInt.toNat := inv.2.1 163 _ (by decide) (by decide)
      rw [m3, r187, r163] at H ⊢
      have nxt : ∀ w', ClI z k.toInt.toNat (x.toInt.toNat + 1) w' → q_Mo_close_2 k E Q m (x + (1 : Int32)) w' → q_Mo_close_2 k E' Q' m (x + (1 : Int32)) w' := fun w' i' g => ih _ w' g (by omega) (by omega) (by rw [show (x + (1 : Int32)).toInt.toNat = x.toInt.toNat + 1 by omega]; exact i')
      refine ⟨H.1, fun d => clo_40 (H.2.1 d) k0 k1 x0 (by omega) n24 kn inv ⟨fun q => absurd i_0 q, fun q => absurd d q.1⟩ nxt, fun d => ⟨(H.2.2 d).1, fun e => clo_40 ((H.2.2 d).2.1 e) k0 k1 x0 (by omega) n24 kn inv ⟨fun q => absurd i_0 q, fun q => by have := q.2; omega⟩ nxt, fun e => clo_40 ((H.2.2 d).2.2 e) k0 k1 x0 (by omega) n24 kn inv ⟨fun _ => ⟨d, by omega⟩, fun _ => by decide⟩ nxt⟩⟩
/-- rows of ways move up by one from k on -/
def msC (c : Nat) : Bool := c == 181 || c == 182 || c == 183 || c == 184 || c == 185
theorem ms_c {c : Nat} (h : msC c = true) : c = 181 ∨ c = 182 ∨ c = 183 ∨ c = 184 ∨ c = 185 := by
  unfold msC at h
  simp only [Bool.or_eq_true, beq_iff_eq] at h
  omega
/-- a rows of numbers, b entries, d holds have moved -/
def MsI (z : MW) (k a b d : Nat) (w : MW) : Prop := w.2 = z.2 ∧ (∀ c j, msC c = false → ¬ c = 186 → ¬ c = 187 → w.1 c j = z.1 c j) ∧ (∀ c j, msC c = true → w.1 c j = if k ≤ j ∧ j < a then z.1 c (j + 1) else z.1 c j) ∧ (∀ j, w.1 186 j = if 24 * k ≤ j ∧ j < b then z.1 186 (j + 24) else z.1 186 j) ∧ ∀ j, w.1 187 j = if 20 * k ≤ j ∧ j < d then z.1 187 (j + 20) else z.1 187 j
theorem ms_177 {z : MW} {k a d : Nat} {x : Int32} {E E' Q Q' : MW → Prop} (x0 : 0 ≤ x.toInt) (x1 : x.toInt < 23) (kx : (k : Int) ≤ x.toInt) (kE : ∀ w, MsI z k a (24 * x.toInt.toNat + 24) d w → E w → E' w) : ∀ (m : Nat) (i : Int32) (w : MW), q_Mo_close_177 x E Q m i w → 0 ≤ i.toInt → i.toInt ≤ 24 → MsI z k a (24 * x.toInt.toNat + i.toInt.toNat) d w → q_Mo_close_177 x E' Q' m i w := by
  intro m
  induction m with
  | zero => exact fun _ _ h _ _ _ => False.elim h
  | succ m ih =>
    intro i w h i0 i1 inv
    rw [q_Mo_close_177.eq_2] at h ⊢
    refine ⟨fun c => kE w ?_ (h.1 c), fun c => ?_⟩
    · rw [show i.toInt.toNat = 24 by omega] at inv
      exact inv
    · have H := h.2 c
      have ei := ti_add2 (Eq.refl i.toInt) i_1 (by omega) (by omega)
      have ex := ti_add2 (Eq.refl x.toInt) i_1 (by omega) (by omega)
      have m1 := ti_mul2 (by decide : ((24 : Int32)).toInt = 24) (Eq.refl x.toInt) (by omega) (by omega)
      have m2 := ti_add2 m1 (Eq.refl i.toInt) (by omega) (by omega)
      have m3 : (((24 : Int32) * x) + i).toInt.toNat = 24 * x.toInt.toNat + i.toInt.toNat := by omega
      have n1 := ti_mul2 (by decide : ((24 : Int32)).toInt = 24) ex (by omega) (by omega)
      have n2 := ti_add2 n1 (Eq.refl i.toInt) (by omega) (by omega)
      have n3 : (((24 : Int32) * (x + (1 : Int32))) + i).toInt.toNat = 24 * x.toInt.toNat + i.toInt.toNat + 24 := by omega
      rw [m3, n3] at H ⊢
      refine ⟨H.1, H.2.1, ih _ _ H.2.2 (by omega) (by omega) ?_⟩
      rw [show (i + (1 : Int32)).toInt.toNat = i.toInt.toNat + 1 by omega]
      obtain ⟨v1, v2, v3, v4, v5⟩ := inv
      refine ⟨v1, fun c' j c1 c2 c3 => by rw [sI_oth _ _ _ _ _ _ c2]; exact v2 c' j c1 c2 c3, fun c' j c1 => ?_, fun j => ?_, fun j => by rw [sI_oth _ _ _ _ _ _ (by decide)]; exact v5 j⟩
      · rw [sI_oth _ _ _ _ _ _ (fun e => by rw [e] at c1; cases c1)]
        exact v3 c' j c1
      · rw [sI_if]
        by_cases q : j = 24 * x.toInt.toNat + i.toInt.toNat
        · rw [if_pos q, v4, if_neg (fun z2 => by have := z2.2; omega), if_pos ⟨by omega, by omega⟩, q]
        · rw [if_neg q, v4 j]
          by_cases q2 : 24 * k ≤ j ∧ j < 24 * x.toInt.toNat + i.toInt.toNat
          · rw [if_pos q2, if_pos ⟨q2.1, by omega⟩]
          · rw [if_neg q2, if_neg (fun z2 => q2 ⟨z2.1, by omega⟩)]
theorem ms_215 {z : MW} {k a b : Nat} {x : Int32} {E E' Q Q' : MW → Prop} (x0 : 0 ≤ x.toInt) (x1 : x.toInt < 23) (kx : (k : Int) ≤ x.toInt) (kE : ∀ w, MsI z k a b (20 * x.toInt.toNat + 20) w → E w → E' w) : ∀ (m : Nat) (i : Int32) (w : MW), q_Mo_close_215 x E Q m i w → 0 ≤ i.toInt → i.toInt ≤ 20 → MsI z k a b (20 * x.toInt.toNat + i.toInt.toNat) w → q_Mo_close_215 x E' Q' m i w := by
  intro m
  induction m with
  | zero => exact fun _ _ h _ _ _ => False.elim h
  | succ m ih =>
    intro i w h i0 i1 inv
    rw [q_Mo_close_215.eq_2] at h ⊢
    refine ⟨fun c => kE w ?_ (h.1 c), fun c => ?_⟩
    · rw [show i.toInt.toNat = 20 by omega] at inv
      exact inv
    · have H := h.2 c
      have ei := ti_add2 (Eq.refl i.toInt) i_1 (by omega) (by omega)
      have ex := ti_add2 (Eq.refl x.toInt) i_1 (by omega) (by omega)
      have m1 := ti_mul2 (by decide : ((20 : Int32)).toInt = 20) (Eq.refl x.toInt) (by omega) (by omega)
      have m2 := ti_add2 m1 (Eq.refl i.toInt) (by omega) (by omega)
      have m3 : (((20 : Int32) * x) + i).toInt.toNat = 20 * x.toInt.toNat + i.toInt.toNat := by omega
      have n1 := ti_mul2 (by decide : ((20 : Int32)).toInt = 20) ex (by omega) (by omega)
      have n2 := ti_add2 n1 (Eq.refl i.toInt) (by omega) (by omega)
      have n3 : (((20 : Int32) * (x + (1 : Int32))) + i).toInt.toNat = 20 * x.toInt.toNat + i.toInt.toNat + 20 := by omega
      rw [m3, n3] at H ⊢
      refine ⟨H.1, H.2.1, ih _ _ H.2.2 (by omega) (by omega) ?_⟩
      rw [show (i + (1 : Int32)).toInt.toNat = i.toInt.toNat + 1 by omega]
      obtain ⟨v1, v2, v3, v4, v5⟩ := inv
      refine ⟨v1, fun c' j c1 c2 c3 => by rw [sI_oth _ _ _ _ _ _ c3]; exact v2 c' j c1 c2 c3, fun c' j c1 => ?_, fun j => by rw [sI_oth _ _ _ _ _ _ (by decide)]; exact v4 j, fun j => ?_⟩
      · rw [sI_oth _ _ _ _ _ _ (fun e => by rw [e] at c1; cases c1)]
        exact v3 c' j c1
      · rw [sI_if]
        by_cases q : j = 20 * x.toInt.toNat + i.toInt.toNat
        · rw [if_pos q, v5, if_neg (fun z2 => by have := z2.2; omega), if_pos ⟨by omega, by omega⟩, q]
        · rw [if_neg q, v5 j]
          by_cases q2 : 20 * k ≤ j ∧ j < 20 * x.toInt.toNat + i.toInt.toNat
          · rw [if_pos q2, if_pos ⟨q2.1, by omega⟩]
          · rw [if_neg q2, if_neg (fun z2 => q2 ⟨z2.1, by omega⟩)]
theorem ms_95 {z : MW} {k : Nat} {E E' Q Q' : MW → Prop} (n24 : (z.1 127 26).toInt ≤ 24) (kE : ∀ w, MsI z k ((z.1 127 26).toInt.toNat - 1) (24 * ((z.1 127 26).toInt.toNat - 1)) (20 * ((z.1 127 26).toInt.toNat - 1)) w → E w → E' w) : ∀ (m : Nat) (x : Int32) (w : MW), q_Mo_close_95 E Q m x w → (k : Int) ≤ x.toInt → x.toInt < (z.1 127 26).toInt → MsI z k x.toInt.toNat (24 * x.toInt.toNat) (20 * x.toInt.toNat) w → q_Mo_close_95 E' Q' m x w := by
  intro m
  induction m with
  | zero => exact fun _ _ h _ _ _ => False.elim h
  | succ m ih =>
    intro x w h kx xn inv
    have r26 : w.1 127 26 = z.1 127 26 := inv.2.1 127 26 rfl (by decide) (by decide)
    have ex := ti_add2 (Eq.refl x.toInt) i_1 (by omega) (by omega)
    rw [q_Mo_close_95.eq_2, r26] at h ⊢
    refine ⟨fun c => kE w ?_ (h.1 c), fun c => ?_⟩
    · rw [show x.toInt.toNat = (z.1 127 26).toInt.toNat - 1 by omega] at inv
      exact inv
    · have H := h.2 c
      have en : (x + (1 : Int32)).toInt.toNat = x.toInt.toNat + 1 := by omega
      rw [en] at H ⊢
      refine ⟨H.1, H.2.1, H.2.2.1, H.2.2.2.1, H.2.2.2.2.1, H.2.2.2.2.2.1, H.2.2.2.2.2.2.1, H.2.2.2.2.2.2.2.1, H.2.2.2.2.2.2.2.2.1, H.2.2.2.2.2.2.2.2.2.1, ?_⟩
      have K := H.2.2.2.2.2.2.2.2.2.2
      obtain ⟨v1, v2, v3, v4, v5⟩ := inv
      refine ms_177 (z := z) (k := k) (a := x.toInt.toNat + 1) (d := 20 * x.toInt.toNat) (by omega) (by omega) kx (fun w1 i1 g1 => ms_215 (by omega) (by omega) kx (fun w2 i2 g2 => ih _ _ g2 (by omega) (by omega) ?_) _ _ _ g1 (by decide) (by decide) (by rw [i_0]; exact i1)) _ _ _ K (by decide) (by decide) ?_
      · rw [en, show 24 * (x.toInt.toNat + 1) = 24 * x.toInt.toNat + 24 by omega, show 20 * (x.toInt.toNat + 1) = 20 * x.toInt.toNat + 20 by omega]
        exact i2
      · rw [i_0]
        refine ⟨v1, fun c' j c1 c2 c3 => ?_, fun c' j c1 => ?_, fun j => ?_, fun j => ?_⟩
        · have n : ∀ i : Nat, msC i = true → ¬ c' = i := fun i hi e => by rw [e, hi] at c1; cases c1
          rw [sI_oth _ _ _ _ _ _ (n 185 rfl), sI_oth _ _ _ _ _ _ (n 184 rfl), sI_oth _ _ _ _ _ _ (n 183 rfl), sI_oth _ _ _ _ _ _ (n 182 rfl), sI_oth _ _ _ _ _ _ (n 181 rfl)]
          exact v2 c' j c1 c2 c3
        · have g : ∀ y : Int32, y = w.1 c' (x.toInt.toNat + 1) → (if j = x.toInt.toNat then y else w.1 c' j) = if k ≤ j ∧ j < x.toInt.toNat + 1 then z.1 c' (j + 1) else z.1 c' j := fun y hy => by
            have i1 := v3 c' j c1
            have i2 := v3 c' (x.toInt.toNat + 1) c1
            by_cases q : j = x.toInt.toNat
            · rw [if_pos q, if_pos ⟨by omega, by omega⟩, hy, i2, if_neg (fun z => by have := z.2; omega), q]
            · rw [if_neg q, i1]
              by_cases q2 : k ≤ j ∧ j < x.toInt.toNat
              · rw [if_pos q2, if_pos ⟨q2.1, by omega⟩]
              · rw [if_neg q2, if_neg (fun z => q2 ⟨z.1, by omega⟩)]
          rcases ms_c c1 with e | e | e | e | e
          all_goals
            subst e
            rw [← g _ rfl]
            simp only [sI_at]
            by_cases q : j = x.toInt.toNat
            · simp [q]
            · simp [q]
        · rw [sI_oth _ _ _ _ _ _ (by decide), sI_oth _ _ _ _ _ _ (by decide), sI_oth _ _ _ _ _ _ (by decide), sI_oth _ _ _ _ _ _ (by decide), sI_oth _ _ _ _ _ _ (by decide)]
          exact v4 j
        · rw [sI_oth _ _ _ _ _ _ (by decide), sI_oth _ _ _ _ _ _ (by decide), sI_oth _ _ _ _ _ _ (by decide), sI_oth _ _ _ _ _ _ (by decide), sI_oth _ _ _ _ _ _ (by decide)]
          exact v5 j
/-- what is left behind close -/
def ClM (z : MW) (k : Nat) (w' : MW) : Prop := ∃ w1 w2 : MW, ClI z k (tM z).toNat w1 ∧ MsI w1 k ((z.1 127 26).toInt.toNat - 1) (24 * ((z.1 127 26).toInt.toNat - 1)) (20 * ((z.1 127 26).toInt.toNat - 1)) w2 ∧ w' = sI w2 127 26 ((w2.1 127 26) - (1 : Int32))
theorem mcl2_x {w : MW} {k : Int32} {Q Q' : MW → Prop} (h : p_Mo_close w k Q) (T : 0 ≤ tM w ∧ tM w ≤ 20) (k0 : 0 ≤ k.toInt) (k1 : k.toInt < (w.1 127 26).toInt) (n24 : (w.1 127 26).toInt ≤ 24) (kQ : ∀ w', ClM w k.toInt.toNat w' → Q w' → Q' w') : p_Mo_close w k Q' := by
  rw [p_Mo_close.eq_1] at h ⊢
  refine clo_2 T k0 (by omega) n24 k1 (fun w1 i1 g => ?_) _ _ _ h (by decide) (by rw [i_0]; exact T.1) ⟨rfl, fun _ _ _ _ => rfl, fun j => ?_, fun t => ⟨fun q => ?_, fun _ => rfl⟩⟩
  · have r26 : w1.1 127 26 = w.1 127 26 := i1.2.1 127 26 (by decide) (by decide)
    refine ms_95 (z := w1) (k := k.toInt.toNat) (by rw [r26]; exact n24) (fun w2 i2 g2 => kQ _ ⟨w1, w2, i1, ?_, rfl⟩ g2) _ _ _ g (by omega) (by rw [r26]; exact k1) ⟨rfl, fun _ _ _ _ _ => rfl, fun c j _ => ?_, fun j => ?_, fun j => ?_⟩
    · rw [r26] at i2
      exact i2
    · rw [if_neg (fun q => by have := q.1; have := q.2; omega)]
    · rw [if_neg (fun q => by have := q.1; have := q.2; omega)]
    · rw [if_neg (fun q => by have := q.1; have := q.2; omega)]
  · rw [i_0, if_neg (fun q => by have := q.1; have := q.2; omega)]
  · have := q.1
    rw [i_0] at this
    omega
