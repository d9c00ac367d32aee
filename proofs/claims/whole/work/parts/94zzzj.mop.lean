/-! the reference opens a way: its loops -/
theorem pl_i {T : Int32} {e : Nat} (t0 : 0 ≤ T.toInt) (t1 : T.toInt ≤ 20) (he : e < 48) : (T + (nI e / (2 : Int32))).toInt = T.toInt + ((e / 2 : Nat) : Int) := by
  have en : (nI e).toInt = (e : Int) := nI_toInt (by omega)
  have d : (nI e / (2 : Int32)).toInt = ((e / 2 : Nat) : Int) := by
    rw [nb_div (c := 2) (by omega) (by decide) (by decide), en]
    omega
  exact ti_add2 rfl d (by omega) (by omega)
/-- the way that was found: n entries en -/
def Fdw (w : MW) (n : Nat) (en : Nat → Nat) : Prop := (w.1 127 39).toInt = n ∧ 1 ≤ n ∧ n ≤ 24 ∧ ∀ i, i < n → w.1 191 i = nI (en i) ∧ en i < 48 ∧ ((en i / 2 : Nat) : Int) < pM w
theorem Fdw_g {w w' : MW} {n : Nat} {en : Nat → Nat} (h : Ag [(127, some 11), (127, some 39), (191, none)] w w') (f : Fdw w n en) : Fdw w' n en := by
  unfold Fdw pM
  rw [h 127 39 rfl, h 127 11 rfl]
  exact ⟨f.1, f.2.1, f.2.2.1, fun i hi => by rw [h 191 i rfl]; exact f.2.2.2 i hi⟩
theorem mo_54 {v w : MW} {a b c l : Int32} {n : Nat} {en : Nat → Nat} {M0 : Prop} {E E' : Int32 → MW → Prop} {Q Q' : Int32 → MW → Prop} (fd : Fdw w n en) (T : 0 ≤ tM w ∧ tM w ≤ 20) (mc : ∀ (x : Int32) (R R' : Int32 → MW → Prop), p_Mo_mayCome w l x R → 0 ≤ x.toInt → x.toInt < tM w + pM w → (∀ r : Int32, (r = 1 ∧ McO v x.toInt.toNat l) ∨ (r = 0 ∧ ¬ McO v x.toInt.toNat l) → R r w → R' r w) → p_Mo_mayCome w l x R') (kE : ∀ r : Int32, (¬ r.toInt = 0 ↔ M0 ∧ ∀ i, i < n → McO v ((tM w).toNat + en i / 2) l) → E r w → E' r w) : ∀ (m : Nat) (r i : Int32), q_Mo_open_54 a b c l E Q m r i w → 0 ≤ i.toInt → i.toInt ≤ n → (¬ r.toInt = 0 ↔ M0 ∧ ∀ j : Nat, (j : Int) < i.toInt → McO v ((tM w).toNat + en j / 2) l) → q_Mo_open_54 a b c l E' Q' m r i w := by
  intro m
  induction m with
  | zero => exact fun _ _ h _ _ _ => False.elim h
  | succ m ih =>
    intro r i h i0 iN inv
    have f1 := fd.1
    have f3 := fd.2.2.1
    rw [q_Mo_open_54.eq_2] at h ⊢
    refine ⟨fun d => kE r ?_ (h.1 d), fun d => ?_⟩
    · constructor
      · intro q
        exact ⟨(inv.mp q).1, fun j hj => (inv.mp q).2 j (by omega)⟩
      · intro q
        exact inv.mpr ⟨q.1, fun j hj => q.2 j (by omega)⟩
    have H := h.2 d
    have ei : (i + (1 : Int32)).toInt = i.toInt + 1 := ti_add2 rfl i_1 (by omega) (by omega)
    have il : i.toInt.toNat < n := by omega
    have F := fd.2.2.2 i.toInt.toNat il
    have ke := pl_i (T := w.1 127 4) (e := en i.toInt.toNat) T.1 T.2 F.2.1
    have kt : (w.1 127 4).toInt = tM w := rfl
    have b0 : 0 ≤ (i + (1 : Int32)).toInt := by omega
    have b1 : (i + (1 : Int32)).toInt ≤ n := by omega
    have dn : (∃ j : Nat, (j : Int) < (i + (1 : Int32)).toInt ∧ ¬ McO v ((tM w).toNat + en j / 2) l) ∨ ¬ M0 → ¬ (M0 ∧ ∀ j : Nat, (j : Int) < (i + (1 : Int32)).toInt → McO v ((tM w).toNat + en j / 2) l) := fun q z => by
      rcases q with ⟨j, hj, nj⟩ | q
      · exact nj (z.2 j hj)
      · exact q z.1
    refine ⟨fun z => ih 0 _ (H.1 z) b0 b1 ?_, fun z => ?_⟩
    · constructor
      · intro q
        exact absurd i_0 q
      · intro q
        exact absurd z (inv.mpr ⟨q.1, fun j hj => q.2 j (by omega)⟩)
    · have H2 := H.2 z
      have I := inv.mp z
      rw [F.1] at H2 ⊢
      have x0 : 0 ≤ ((w.1 127 4) + (nI (en i.toInt.toNat) / (2 : Int32))).toInt := by rw [ke]; omega
      have x1 : ((w.1 127 4) + (nI (en i.toInt.toNat) / (2 : Int32))).toInt < tM w + pM w := by rw [ke]; have := F.2.2; omega
      have xn : ((w.1 127 4) + (nI (en i.toInt.toNat) / (2 : Int32))).toInt.toNat = (tM w).toNat + en i.toInt.toNat / 2 := by rw [ke]; omega
      refine ⟨H2.1, mc _ _ _ H2.2 x0 x1 (fun r' hr' g => ⟨fun z2 => ih 0 _ (g.1 z2) b0 b1 ?_, fun z2 => ih 1 _ (g.2 z2) b0 b1 ?_⟩)⟩
      · rw [xn] at hr'
        rcases hr' with ⟨e, _⟩ | ⟨_, nm⟩
        · rw [e] at z2
          exact absurd z2 (by decide)
        · constructor
          · intro q
            exact absurd i_0 q
          · intro q
            exact absurd q (dn (Or.inl ⟨i.toInt.toNat, by omega, nm⟩))
      · rw [xn] at hr'
        rcases hr' with ⟨_, ym⟩ | ⟨e, _⟩
        · constructor
          · intro _
            refine ⟨I.1, fun j hj => ?_⟩
            by_cases q : (j : Int) = i.toInt
            · rw [show j = i.toInt.toNat by omega]
              exact ym
            · exact I.2 j (by omega)
          · intro _
            decide
        · rw [e] at z2
          exact absurd i_0 z2
/-- the pipes of the way are looked at as filled -/
theorem mo_127 {z : MW} {a b c l : Int32} {n : Nat} {en : Nat → Nat} {E E' : MW → Prop} {Q Q' : Int32 → MW → Prop} (fd : Fdw z n en) (T : 0 ≤ tM z ∧ tM z ≤ 20) (kE : ∀ w, oI 194 z w → (∀ x, ((∃ i, i < n ∧ x = (tM z).toNat + en i / 2) → w.1 194 x = l) ∧ ((∀ i, i < n → ¬ x = (tM z).toNat + en i / 2) → w.1 194 x = z.1 194 x)) → E w → E' w) : ∀ (m : Nat) (i : Int32) (w : MW), q_Mo_open_127 a b c l E Q m i w → 0 ≤ i.toInt → i.toInt ≤ n → oI 194 z w → (∀ x, ((∃ j : Nat, (j : Int) < i.toInt ∧ x = (tM z).toNat + en j / 2) → w.1 194 x = l) ∧ ((∀ j : Nat, (j : Int) < i.toInt → ¬ x = (tM z).toNat + en j / 2) → w.1 194 x = z.1 194 x)) → q_Mo_open_127 a b c l E' Q' m i w := by
  intro m
  induction m with
  | zero => exact fun _ _ h _ _ _ _ => False.elim h
  | succ m ih =>
    intro i w h i0 iN o inv
    have f1 := fd.1
    have f3 := fd.2.2.1
    have w39 : w.1 127 39 = z.1 127 39 := o.2 127 39 (by decide)
    have w4 : w.1 127 4 = z.1 127 4 := o.2 127 4 (by decide)
    rw [q_Mo_open_127.eq_2, w39, w4] at h
    rw [q_Mo_open_127.eq_2, w39, w4]
    refine ⟨fun d => kE w o (fun x => ⟨fun q => ?_, fun q => (inv x).2 (fun j hj => q j (by omega))⟩) (h.1 d), fun d => ?_⟩
    · obtain ⟨j, hj, ej⟩ := q
      exact (inv x).1 ⟨j, by omega, ej⟩
    have H := h.2 d
    have ei : (i + (1 : Int32)).toInt = i.toInt + 1 := ti_add2 rfl i_1 (by omega) (by omega)
    have il : i.toInt.toNat < n := by omega
    have F := fd.2.2.2 i.toInt.toNat il
    have w191 : w.1 191 i.toInt.toNat = nI (en i.toInt.toNat) := by rw [o.2 191 _ (by decide)]; exact F.1
    have ke := pl_i (T := z.1 127 4) (e := en i.toInt.toNat) T.1 T.2 F.2.1
    have kt : (z.1 127 4).toInt = tM z := rfl
    have xn : ((z.1 127 4) + (nI (en i.toInt.toNat) / (2 : Int32))).toInt.toNat = (tM z).toNat + en i.toInt.toNat / 2 := by rw [ke]; omega
    rw [w191] at H ⊢
    refine ⟨H.1, H.2.1, ?_⟩
    have H2 := H.2.2
    rw [xn] at H2 ⊢
    refine ih _ _ H2 (by omega) (by omega) ⟨o.1, fun k j hk => ?_⟩ (fun x => ⟨fun q => ?_, fun q => ?_⟩)
    · rw [sI_oth _ _ _ _ _ _ hk]
      exact o.2 k j hk
    · rw [sI_if]
      by_cases c2 : x = (tM z).toNat + en i.toInt.toNat / 2
      · rw [if_pos c2]
      · rw [if_neg c2]
        obtain ⟨j, hj, ej⟩ := q
        refine (inv x).1 ⟨j, ?_, ej⟩
        by_cases c3 : (j : Int) = i.toInt
        · rw [show j = i.toInt.toNat by omega] at ej
          exact absurd ej c2
        · omega
    · rw [sI_if, if_neg (q i.toInt.toNat (by omega))]
      exact (inv x).2 (fun j hj => q j (by omega))
/-- the position that a thing would get -/
def nwP (z : MW) (t : Nat) : Int32 := if 2 ≤ (z.1 163 t).toInt ∧ ¬ (z.1 192 t).toInt = -1 then z.1 192 t else z.1 167 t
def PoI (z : MW) (x : Int) (w : MW) : Prop := w.2 = z.2 ∧ (∀ c j, ¬ c = 190 → ¬ c = 167 → w.1 c j = z.1 c j) ∧ (∀ t : Nat, (t : Int) < x → w.1 190 t = z.1 167 t ∧ w.1 167 t = nwP z t) ∧ (∀ t : Nat, ¬ (t : Int) < x → w.1 167 t = z.1 167 t)
theorem po_s {z w : MW} {x : Nat} {y : Int32} (h : PoI z x w) (ey : y = nwP z x) : PoI z ((x : Int) + 1) (sI (sI w 190 x (w.1 167 x)) 167 x y) := by
  have wx : w.1 167 x = z.1 167 x := h.2.2.2 x (by omega)
  refine ⟨h.1, fun c j h1 h2 => ?_, fun t ht => ?_, fun t ht => ?_⟩
  · rw [sI_oth _ _ _ _ _ _ h2, sI_oth _ _ _ _ _ _ h1]
    exact h.2.1 c j h1 h2
  · rw [sI_oth _ _ _ _ _ _ (by decide), sI_if, sI_if]
    by_cases q : t = x
    · rw [if_pos q, if_pos q, wx, q]
      exact ⟨rfl, ey⟩
    · rw [if_neg q, if_neg q, sI_oth _ _ _ _ _ _ (by decide)]
      exact h.2.2.1 t (by omega)
  · rw [sI_if, if_neg (by omega), sI_oth _ _ _ _ _ _ (by decide)]
    exact h.2.2.2 t (by omega)
theorem mo_166 {z : MW} {a b c l : Int32} {E E' : MW → Prop} {Q Q' : Int32 → MW → Prop} (T : 0 ≤ tM z ∧ tM z ≤ 20) (kE : ∀ w, PoI z (tM z) w → E w → E' w) : ∀ (m : Nat) (x : Int32) (w : MW), q_Mo_open_166 a b c l E Q m x w → 0 ≤ x.toInt → x.toInt ≤ tM z → PoI z x.toInt w → q_Mo_open_166 a b c l E' Q' m x w := by
  intro m
  induction m with
  | zero => exact fun _ _ h _ _ _ => False.elim h
  | succ m ih =>
    intro x w h x0 xT inv
    have w4 : (w.1 127 4).toInt = tM z := by rw [inv.2.1 127 4 (by decide) (by decide)]; rfl
    have w163 : w.1 163 x.toInt.toNat = z.1 163 x.toInt.toNat := inv.2.1 163 _ (by decide) (by decide)
    have w192 : w.1 192 x.toInt.toNat = z.1 192 x.toInt.toNat := inv.2.1 192 _ (by decide) (by decide)
    rw [q_Mo_open_166.eq_2, w4, w163, w192] at h
    rw [q_Mo_open_166.eq_2, w4, w163, w192]
    refine ⟨fun d => kE w (by rw [show tM z = x.toInt by omega]; exact inv) (h.1 d), fun d => ?_⟩
    have H := h.2 d
    have ex : (x + (1 : Int32)).toInt = x.toInt + 1 := ti_add2 rfl i_1 (by omega) (by omega)
    have wx : w.1 167 x.toInt.toNat = z.1 167 x.toInt.toNat := inv.2.2.2 _ (by omega)
    have st : ∀ y : Int32, y = nwP z x.toInt.toNat → PoI z (x + (1 : Int32)).toInt (sI (sI w 190 x.toInt.toNat (w.1 167 x.toInt.toNat)) 167 x.toInt.toNat y) := fun y ey => by
      rw [ex, show x.toInt = ((x.toInt.toNat : Nat) : Int) by omega]
      refine po_s ?_ ey
      rw [show ((x.toInt.toNat : Nat) : Int) = x.toInt by omega]
      exact inv
    have b0 : 0 ≤ (x + (1 : Int32)).toInt := by omega
    have b1 : (x + (1 : Int32)).toInt ≤ tM z := by omega
    refine ⟨H.1, H.2.1, H.2.2.1, fun d1 => ?_, fun d1 => ?_⟩
    · have H1 := H.2.2.2.1 d1
      refine ⟨H1.1, H1.2.1, ih _ _ H1.2.2 b0 b1 (st _ ?_)⟩
      unfold nwP
      rw [if_neg (fun q => by have := q.1; omega)]
      exact wx
    · have H1 := H.2.2.2.2 d1
      refine ⟨H1.1, fun d2 => ?_, fun d2 => ?_⟩
      · have H2 := H1.2.1 d2
        refine ⟨H2.1, H2.2.1, ih _ _ H2.2.2 b0 b1 (st _ ?_)⟩
        unfold nwP
        rw [if_neg (fun q => q.2 d2)]
        exact wx
      · have H2 := H1.2.2 d2
        refine ⟨H2.1, H2.2.1, ih _ _ H2.2.2 b0 b1 (st _ ?_)⟩
        have c1 : 2 ≤ (z.1 163 x.toInt.toNat).toInt ∧ ¬ (z.1 192 x.toInt.toNat).toInt = -1 := ⟨by omega, d2⟩
        unfold nwP
        rw [if_pos c1]
/-- the positions of before -/
theorem mo_251 {z : MW} {E E' : MW → Prop} {Q Q' : Int32 → MW → Prop} (T : 0 ≤ tM z ∧ tM z ≤ 20) (kE : ∀ w, w.2 = z.2 → (∀ c j, ¬ c = 167 → w.1 c j = z.1 c j) → (∀ t : Nat, (t : Int) < tM z → w.1 167 t = z.1 190 t) → (∀ t : Nat, ¬ (t : Int) < tM z → w.1 167 t = z.1 167 t) → E w → E' w) : ∀ (m : Nat) (x : Int32) (w : MW), q_Mo_open_251 E Q m x w → 0 ≤ x.toInt → x.toInt ≤ tM z → w.2 = z.2 → (∀ c j, ¬ c = 167 → w.1 c j = z.1 c j) → (∀ t : Nat, (t : Int) < x.toInt → w.1 167 t = z.1 190 t) → (∀ t : Nat, ¬ (t : Int) < x.toInt → w.1 167 t = z.1 167 t) → q_Mo_open_251 E' Q' m x w := by
  intro m
  induction m with
  | zero => exact fun _ _ h _ _ _ _ _ _ => False.elim h
  | succ m ih =>
    intro x w h x0 xT w2 o i1 i2
    have w4 : (w.1 127 4).toInt = tM z := by rw [o 127 4 (by decide)]; rfl
    rw [q_Mo_open_251.eq_2, w4] at h
    rw [q_Mo_open_251.eq_2, w4]
    refine ⟨fun d => kE w w2 o (fun t ht => i1 t (by omega)) (fun t ht => i2 t (by omega)) (h.1 d), fun d => ?_⟩
    have H := h.2 d
    have ex : (x + (1 : Int32)).toInt = x.toInt + 1 := ti_add2 rfl i_1 (by omega) (by omega)
    refine ⟨H.1, H.2.1, ih _ _ H.2.2 (by omega) (by omega) w2 (fun c j hc => ?_) (fun t ht => ?_) (fun t ht => ?_)⟩
    · rw [sI_oth _ _ _ _ _ _ hc]
      exact o c j hc
    · rw [sI_if]
      by_cases q : t = x.toInt.toNat
      · rw [if_pos q, q]
        exact o 190 _ (by decide)
      · rw [if_neg q]
        exact i1 t (by omega)
    · rw [sI_if, if_neg (by omega)]
      exact i2 t (by omega)
/-- the row of the new way: its entries -/
theorem mo_340 {z : MW} {n : Nat} {W : Nat} {E E' : MW → Prop} {Q Q' : Int32 → MW → Prop} (eN : (z.1 127 39).toInt = n) (n24 : n ≤ 24) (eW : (z.1 127 26).toInt = W) (W24 : W < 24) (kE : ∀ w, oI 186 z w → (∀ j, w.1 186 j = if 24 * W ≤ j ∧ j < 24 * W + n then z.1 191 (j - 24 * W) else z.1 186 j) → E w → E' w) : ∀ (m : Nat) (i : Int32) (w : MW), q_Mo_open_340 E Q m i w → 0 ≤ i.toInt → i.toInt ≤ n → oI 186 z w → (∀ j, w.1 186 j = if 24 * W ≤ j ∧ j < 24 * W + i.toInt.toNat then z.1 191 (j - 24 * W) else z.1 186 j) → q_Mo_open_340 E' Q' m i w := by
  intro m
  induction m with
  | zero => exact fun _ _ h _ _ _ _ => False.elim h
  | succ m ih =>
    intro i w h i0 iN o inv
    have w39 : (w.1 127 39).toInt = n := by rw [o.2 127 39 (by decide)]; exact eN
    have w26 : w.1 127 26 = z.1 127 26 := o.2 127 26 (by decide)
    have w191 : w.1 191 i.toInt.toNat = z.1 191 i.toInt.toNat := o.2 191 _ (by decide)
    rw [q_Mo_open_340.eq_2, w39, w26, w191] at h
    rw [q_Mo_open_340.eq_2, w39, w26, w191]
    refine ⟨fun d => kE w o (fun j => ?_) (h.1 d), fun d => ?_⟩
    · rw [inv j, show i.toInt.toNat = n by omega]
    have H := h.2 d
    have ei : (i + (1 : Int32)).toInt = i.toInt + 1 := ti_add2 rfl i_1 (by omega) (by omega)
    have m1 := ti_mul2 (by decide : ((24 : Int32)).toInt = 24) eW (by omega) (by omega)
    have m2 := ti_add2 m1 (Eq.refl i.toInt) (by omega) (by omega)
    have m3 : (((24 : Int32) * (z.1 127 26)) + i).toInt.toNat = 24 * W + i.toInt.toNat := by omega
    rw [m3] at H ⊢
    refine ⟨H.1, H.2.1, ih _ _ H.2.2 (by omega) (by omega) ⟨o.1, fun k j hk => ?_⟩ (fun j => ?_)⟩
    · rw [sI_oth _ _ _ _ _ _ hk]
      exact o.2 k j hk
    · rw [sI_if, inv j]
      by_cases q : j = 24 * W + i.toInt.toNat
      · have c1 : 24 * W ≤ j ∧ j < 24 * W + (i + (1 : Int32)).toInt.toNat := ⟨by omega, by omega⟩
        rw [if_pos q, if_pos c1, show j - 24 * W = i.toInt.toNat by omega]
      · rw [if_neg q]
        by_cases c1 : 24 * W ≤ j ∧ j < 24 * W + i.toInt.toNat
        · have c2 : 24 * W ≤ j ∧ j < 24 * W + (i + (1 : Int32)).toInt.toNat := ⟨c1.1, by have := c1.2; omega⟩
          rw [if_pos c1, if_pos c2]
        · have c2 : ¬ (24 * W ≤ j ∧ j < 24 * W + (i + (1 : Int32)).toInt.toNat) := fun z2 => c1 ⟨z2.1, by have := z2.2; omega⟩
          rw [if_neg c1, if_neg c2]
/-- and what it holds -/
def hlN (z : MW) (t : Nat) : Int32 := if (t : Int) < tM z then z.1 192 t else -1
theorem mo_380 {z : MW} {W : Nat} {E E' : MW → Prop} {Q Q' : Int32 → MW → Prop} (eW : (z.1 127 26).toInt = W) (W24 : W < 24) (kE : ∀ w, oI 187 z w → (∀ j, w.1 187 j = if 20 * W ≤ j ∧ j < 20 * W + 20 then hlN z (j - 20 * W) else z.1 187 j) → E w → E' w) : ∀ (m : Nat) (i : Int32) (w : MW), q_Mo_open_380 E Q m i w → 0 ≤ i.toInt → i.toInt ≤ 20 → oI 187 z w → (∀ j, w.1 187 j = if 20 * W ≤ j ∧ j < 20 * W + i.toInt.toNat then hlN z (j - 20 * W) else z.1 187 j) → q_Mo_open_380 E' Q' m i w := by
  intro m
  induction m with
  | zero => exact fun _ _ h _ _ _ _ => False.elim h
  | succ m ih =>
    intro i w h i0 iN o inv
    have w26 : w.1 127 26 = z.1 127 26 := o.2 127 26 (by decide)
    have w4 : (w.1 127 4).toInt = tM z := by rw [o.2 127 4 (by decide)]; rfl
    have w192 : w.1 192 i.toInt.toNat = z.1 192 i.toInt.toNat := o.2 192 _ (by decide)
    rw [q_Mo_open_380.eq_2, w4, w26, w192] at h
    rw [q_Mo_open_380.eq_2, w4, w26, w192]
    refine ⟨fun d => kE w o (fun j => ?_) (h.1 d), fun d => ?_⟩
    · rw [inv j, show i.toInt.toNat = 20 by omega]
    have H := h.2 d
    have ei : (i + (1 : Int32)).toInt = i.toInt + 1 := ti_add2 rfl i_1 (by omega) (by omega)
    have m1 := ti_mul2 (by decide : ((20 : Int32)).toInt = 20) eW (by omega) (by omega)
    have m2 := ti_add2 m1 (Eq.refl i.toInt) (by omega) (by omega)
    have m3 : (((20 : Int32) * (z.1 127 26)) + i).toInt.toNat = 20 * W + i.toInt.toNat := by omega
    have st : ∀ y : Int32, y = hlN z i.toInt.toNat → q_Mo_open_380 E Q m (i + (1 : Int32)) (sI w 187 (20 * W + i.toInt.toNat) y) → q_Mo_open_380 E' Q' m (i + (1 : Int32)) (sI w 187 (20 * W + i.toInt.toNat) y) := fun y ey g => by
      refine ih _ _ g (by omega) (by omega) ⟨o.1, fun k j hk => ?_⟩ (fun j => ?_)
      · rw [sI_oth _ _ _ _ _ _ hk]
        exact o.2 k j hk
      · rw [sI_if, inv j]
        by_cases q : j = 20 * W + i.toInt.toNat
        · have c1 : 20 * W ≤ j ∧ j < 20 * W + (i + (1 : Int32)).toInt.toNat := ⟨by omega, by omega⟩
          rw [if_pos q, if_pos c1, show j - 20 * W = i.toInt.toNat by omega]
          exact ey
        · rw [if_neg q]
          by_cases c1 : 20 * W ≤ j ∧ j < 20 * W + i.toInt.toNat
          · have c2 : 20 * W ≤ j ∧ j < 20 * W + (i + (1 : Int32)).toInt.toNat := ⟨c1.1, by have := c1.2; omega⟩
            rw [if_pos c1, if_pos c2]
          · have c2 : ¬ (20 * W ≤ j ∧ j < 20 * W + (i + (1 : Int32)).toInt.toNat) := fun z2 => c1 ⟨z2.1, by have := z2.2; omega⟩
            rw [if_neg c1, if_neg c2]
    rw [m3] at H ⊢
    refine ⟨fun d1 => ⟨(H.1 d1).1, st _ ?_ (H.1 d1).2⟩, fun d1 => ⟨(H.2 d1).1, (H.2 d1).2.1, st _ ?_ (H.2 d1).2.2⟩⟩
    · unfold hlN
      rw [if_neg (by omega)]
    · unfold hlN
      rw [if_pos (by omega)]
/-- the row is added -/
def RowM (z : MW) (W n : Nat) (a b c l : Int32) (w : MW) : Prop := (∀ m : Pl, off [(127, some 26), (181, none), (182, none), (183, none), (184, none), (185, none), (186, none), (187, none)] m = true → Ag m z w) ∧ w.1 127 26 = z.1 127 26 + (1 : Int32) ∧ (∀ j, w.1 181 j = if j = W then a else z.1 181 j) ∧ (∀ j, w.1 182 j = if j = W then b else z.1 182 j) ∧ (∀ j, w.1 183 j = if j = W then l else z.1 183 j) ∧ (∀ j, w.1 184 j = if j = W then c else z.1 184 j) ∧ (∀ j, w.1 185 j = if j = W then z.1 127 39 else z.1 185 j) ∧ (∀ j, w.1 186 j = if 24 * W ≤ j ∧ j < 24 * W + n then z.1 191 (j - 24 * W) else z.1 186 j) ∧ (∀ j, w.1 187 j = if 20 * W ≤ j ∧ j < 20 * W + 20 then hlN z (j - 20 * W) else z.1 187 j)
/-- the row, as a world -/
def rwW (z : MW) (W n : Nat) (a b c l : Int32) : MW := (fun k j => if k = 127 ∧ j = 26 then z.1 127 26 + (1 : Int32) else if k = 181 then (if j = W then a else z.1 181 j) else if k = 182 then (if j = W then b else z.1 182 j) else if k = 183 then (if j = W then l else z.1 183 j) else if k = 184 then (if j = W then c else z.1 184 j) else if k = 185 then (if j = W then z.1 127 39 else z.1 185 j) else if k = 186 then (if 24 * W ≤ j ∧ j < 24 * W + n then z.1 191 (j - 24 * W) else z.1 186 j) else if k = 187 then (if 20 * W ≤ j ∧ j < 20 * W + 20 then hlN z (j - 20 * W) else z.1 187 j) else z.1 k j, z.2)
theorem rw_w (z : MW) (W n : Nat) (a b c l : Int32) : RowM z W n a b c l (rwW z W n a b c l) := by
  refine ⟨fun m hm k j hk => ?_, rfl, fun j => rfl, fun j => rfl, fun j => rfl, fun j => rfl, fun j => rfl, fun j => rfl, fun j => rfl⟩
  have q := off_hit hm hk
  show (if k = 127 ∧ j = 26 then z.1 127 26 + (1 : Int32) else if k = 181 then (if j = W then a else z.1 181 j) else if k = 182 then (if j = W then b else z.1 182 j) else if k = 183 then (if j = W then l else z.1 183 j) else if k = 184 then (if j = W then c else z.1 184 j) else if k = 185 then (if j = W then z.1 127 39 else z.1 185 j) else if k = 186 then (if 24 * W ≤ j ∧ j < 24 * W + n then z.1 191 (j - 24 * W) else z.1 186 j) else if k = 187 then (if 20 * W ≤ j ∧ j < 20 * W + 20 then hlN z (j - 20 * W) else z.1 187 j) else z.1 k j) = z.1 k j
  have c0 : ¬ (k = 127 ∧ j = 26) := fun e => by rw [e.1, e.2] at q; cases q
  have c1 : ¬ k = 181 := fun e => by rw [e] at q; cases q
  have c2 : ¬ k = 182 := fun e => by rw [e] at q; cases q
  have c3 : ¬ k = 183 := fun e => by rw [e] at q; cases q
  have c4 : ¬ k = 184 := fun e => by rw [e] at q; cases q
  have c5 : ¬ k = 185 := fun e => by rw [e] at q; cases q
  have c6 : ¬ k = 186 := fun e => by rw [e] at q; cases q
  have c7 : ¬ k = 187 := fun e => by rw [e] at q; cases q
  rw [if_neg c0, if_neg c1, if_neg c2, if_neg c3, if_neg c4, if_neg c5, if_neg c6, if_neg c7]
