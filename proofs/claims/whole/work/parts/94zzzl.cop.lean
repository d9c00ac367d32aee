/-! the class opens a way: its loops -/
theorem xo48 {e : Nat} (h : e < 48) : xo e < 48 := xo_lt (N := 24) (by omega)
theorem ps_i {T : Int32} {e : Nat} (t0 : 0 ≤ T.toInt) (t1 : T.toInt ≤ 20) (he : e < 48) : (T + (nI (xo e) >>> ((1 : Int32) &&& 31))).toInt = T.toInt + ((e / 2 : Nat) : Int) := by
  have x := xo48 he
  have en : (nI (xo e)).toInt = (xo e : Int) := nI_toInt (by omega)
  have x2 := xo_2 e
  have d : (nI (xo e) >>> ((1 : Int32) &&& 31)).toInt = ((e / 2 : Nat) : Int) := by
    rw [shr1, en]
    omega
  exact ti_add2 rfl d (by omega) (by omega)
theorem ps_n {e : Nat} (he : e < 48) : (nI (xo e) >>> ((1 : Int32) &&& 31)) = nI (e / 2) := by
  have x := xo48 he
  have x2 := xo_2 e
  apply ti_inj
  rw [shr1, nI_toInt (by omega), nI_toInt (by omega)]
  omega
theorem McO_c {v v' : MW} (h : Ag [(7, some 1), (17, none), (19, none), (23, none), (24, none), (25, none)] v v') (x : Nat) (l : Int32) : McO v' x l ↔ McO v x l := by
  have e : hlC v' x = hlC v x := by
    unfold hlC
    rw [h 7 1 rfl]
    exact hlF_c rfl 5 (-1) (fun j _ _ => ⟨h 23 _ rfl, h 25 _ rfl⟩)
  unfold McO
  rw [e, h 17 _ rfl, h 19 _ rfl, h 24 _ rfl]
theorem co_45 {v : MW} {a b c : Int32} {n : Nat} {en : Nat → Nat} {E E' : MW → Prop} {Q Q' : Int32 → MW → Prop} (h15 : (v.1 26 15).toInt = n) (n24 : n ≤ 24) (h39 : ∀ i, i < n → v.1 39 i = nI (xo (en i)) ∧ en i < 48) (T : 0 ≤ tC v ∧ tC v ≤ 20) (l0 : 1 ≤ (v.1 17 a.toInt.toNat).toInt) (l1 : (v.1 17 a.toInt.toNat).toInt ≤ 14) (h19 : ∀ x : Nat, 0 ≤ (v.1 19 x).toInt ∧ (v.1 19 x).toInt ≤ 14) (kE : (∀ i, i < n → McO v ((tC v).toNat + en i / 2) (v.1 17 a.toInt.toNat)) → E v → E' v) (kQ : (∃ i, i < n ∧ ¬ McO v ((tC v).toNat + en i / 2) (v.1 17 a.toInt.toNat)) → Q 6 v → Q' 6 v) : ∀ (m : Nat) (i : Int32), q_Ac_openWay_45 a b c E Q m i v → 0 ≤ i.toInt → (∀ j : Nat, (j : Int) < i.toInt → McO v ((tC v).toNat + en j / 2) (v.1 17 a.toInt.toNat)) → q_Ac_openWay_45 a b c E' Q' m i v := by
  intro m
  induction m with
  | zero => exact fun _ h _ _ => False.elim h
  | succ m ih =>
    intro i h i0 inv
    rw [q_Ac_openWay_45.eq_2] at h ⊢
    refine ⟨fun d => kE (fun j hj => inv j (by omega)) (h.1 d), fun d => ?_⟩
    have H := h.2 d
    have il : i.toInt.toNat < n := by omega
    have F := h39 i.toInt.toNat il
    have ei : (i + (1 : Int32)).toInt = i.toInt + 1 := ti_add2 rfl i_1 (by omega) (by omega)
    have ke := ps_i (T := v.1 8 0) (e := en i.toInt.toNat) T.1 T.2 F.2
    have kt : (v.1 8 0).toInt = tC v := rfl
    have xn : ((v.1 8 0) + (nI (xo (en i.toInt.toNat)) >>> ((1 : Int32) &&& 31))).toInt.toNat = (tC v).toNat + en i.toInt.toNat / 2 := by rw [ke]; omega
    rw [F.1] at H ⊢
    refine ⟨H.1, H.2.1, H.2.2.1, mc_x H.2.2.2 l0 l1 (h19 _) (fun r hr g => ⟨fun z => ih _ (g.1 z) (by omega) (fun j hj => ?_), fun z => kQ ⟨i.toInt.toNat, il, ?_⟩ (g.2 z)⟩)⟩
    · rw [xn] at hr
      by_cases q : (j : Int) = i.toInt
      · rw [show j = i.toInt.toNat by omega]
        rcases hr with hr | hr
        · exact hr.2
        · rw [hr.1] at z
          exact absurd i_0 z
      · exact inv j (by omega)
    · rw [xn] at hr
      rcases hr with hr | hr
      · rw [hr.1] at z
        exact absurd (by decide) z
      · exact hr.2
theorem nar_b1 : vp_nar .boolean (1 : Int32) = 1 := by
  decide
def ofC (c : Nat) : Bool := c == 16 || c == 34 || c == 35 || c == 36 || c == 37 || c == 40
theorem of_n {c : Nat} (h : ofC c = false) : ¬ c = 16 ∧ ¬ c = 34 ∧ ¬ c = 35 ∧ ¬ c = 36 ∧ ¬ c = 37 ∧ ¬ c = 40 := by
  refine ⟨?_, ?_, ?_, ?_, ?_, ?_⟩ <;> (intro e; rw [e] at h; cases h)
/-- what openFound wants -/
def OfH (v : MW) (n : Nat) (en tt : Nat → Nat) : Prop := (v.1 26 15).toInt = n ∧ (1 ≤ n ∧ n ≤ 24) ∧ (∀ i, i < n → v.1 39 i = nI (xo (en i)) ∧ en i < 48) ∧ (∀ i, i + 1 < n → (v.1 13 (xo (en i))).toInt = tt i) ∧ (∀ i j, i < n → j < n → en i / 2 = en j / 2 → i = j) ∧ (∀ i j, i + 1 < n → j + 1 < n → tt i = tt j → i = j) ∧ (∀ t, 0 ≤ (v.1 9 t).toInt ∧ (v.1 9 t).toInt ≤ 9) ∧ ∀ e, 0 ≤ (v.1 14 e).toInt ∧ (v.1 14 e).toInt ≤ 3
/-- what a thing must be set to -/
def ndV (v : MW) (o g t : Nat) : Int32 := v.1 41 (16 * (v.1 9 t).toInt.toNat + 4 * poC v o + poC v g)
def OfI (v : MW) (n : Nat) (en tt : Nat → Nat) (i : Nat) (w : MW) : Prop := w.2 = v.2 ∧ (∀ c j, ofC c = false → w.1 c j = v.1 c j) ∧ (∀ j, j < i → w.1 36 (en j / 2) = 1 ∧ w.1 34 (en j / 2) = nI (xo (en j)) ∧ w.1 35 (en j / 2) = (if j + 1 < n then nI (en (j + 1) / 2) else -1)) ∧ (∀ q, (∀ j, j < i → ¬ en j / 2 = q) → w.1 36 q = v.1 36 q ∧ w.1 34 q = v.1 34 q ∧ w.1 35 q = v.1 35 q) ∧ (∀ j, j < i → j + 1 < n → w.1 37 (tt j) = v.1 37 (tt j) + (1 : Int32) ∧ w.1 40 (tt j) = v.1 16 (tt j) ∧ w.1 16 (tt j) = (if (v.1 9 (tt j)).toInt = 8 then v.1 16 (tt j) else ndV v (xo (en j)) (en (j + 1)) (tt j))) ∧ (∀ t, (∀ j, j < i → j + 1 < n → ¬ tt j = t) → w.1 37 t = v.1 37 t ∧ w.1 40 t = v.1 40 t ∧ w.1 16 t = v.1 16 t)
/-- the pipes, a step on -/
theorem of_p {v w w' : MW} {n : Nat} {en tt : Nat → Nat} {i : Nat} (H : OfH v n en tt) (hi : i < n) (h : OfI v n en tt i w) (e36 : ∀ q, w'.1 36 q = if q = en i / 2 then 1 else w.1 36 q) (e34 : ∀ q, w'.1 34 q = if q = en i / 2 then nI (xo (en i)) else w.1 34 q) (e35 : ∀ q, w'.1 35 q = if q = en i / 2 then (if i + 1 < n then nI (en (i + 1) / 2) else -1) else w.1 35 q) : (∀ j, j < i + 1 → w'.1 36 (en j / 2) = 1 ∧ w'.1 34 (en j / 2) = nI (xo (en j)) ∧ w'.1 35 (en j / 2) = (if j + 1 < n then nI (en (j + 1) / 2) else -1)) ∧ (∀ q, (∀ j, j < i + 1 → ¬ en j / 2 = q) → w'.1 36 q = v.1 36 q ∧ w'.1 34 q = v.1 34 q ∧ w'.1 35 q = v.1 35 q) := by
  refine ⟨fun j hj => ?_, fun q hq => ?_⟩
  · rw [e36, e34, e35]
    by_cases c : j = i
    · rw [c, if_pos rfl, if_pos rfl, if_pos rfl]
      exact ⟨rfl, rfl, rfl⟩
    · have c1 : ¬ en j / 2 = en i / 2 := fun e => c (H.2.2.2.2.1 j i (by omega) hi e)
      rw [if_neg c1, if_neg c1, if_neg c1]
      exact h.2.2.1 j (by omega)
  · have c1 : ¬ q = en i / 2 := fun e => hq i (by omega) e.symm
    rw [e36, e34, e35, if_neg c1, if_neg c1, if_neg c1]
    exact h.2.2.2.1 q (fun j hj => hq j (by omega))
theorem of_last {v w w' : MW} {n : Nat} {en tt : Nat → Nat} {i : Nat} (H : OfH v n en tt) (hi : i < n) (hn : ¬ i + 1 < n) (h : OfI v n en tt i w) (o2 : w'.2 = w.2) (o : ∀ c j, ¬ c = 34 → ¬ c = 35 → ¬ c = 36 → w'.1 c j = w.1 c j) (e36 : ∀ q, w'.1 36 q = if q = en i / 2 then 1 else w.1 36 q) (e34 : ∀ q, w'.1 34 q = if q = en i / 2 then nI (xo (en i)) else w.1 34 q) (e35 : ∀ q, w'.1 35 q = if q = en i / 2 then (if i + 1 < n then nI (en (i + 1) / 2) else -1) else w.1 35 q) : OfI v n en tt (i + 1) w' := by
  have p := of_p H hi h e36 e34 e35
  refine ⟨o2.trans h.1, fun c j hc => ?_, p.1, p.2, fun j hj hj1 => ?_, fun t ht => ?_⟩
  · have q := of_n hc
    rw [o c j q.2.1 q.2.2.1 q.2.2.2.1]
    exact h.2.1 c j hc
  · rw [o 37 _ (by decide) (by decide) (by decide), o 40 _ (by decide) (by decide) (by decide), o 16 _ (by decide) (by decide) (by decide)]
    exact h.2.2.2.2.1 j (by omega) hj1
  · rw [o 37 _ (by decide) (by decide) (by decide), o 40 _ (by decide) (by decide) (by decide), o 16 _ (by decide) (by decide) (by decide)]
    exact h.2.2.2.2.2 t (fun j hj => ht j (by omega))
theorem of_mid {v w w' : MW} {n : Nat} {en tt : Nat → Nat} {i : Nat} (H : OfH v n en tt) (hn : i + 1 < n) (h : OfI v n en tt i w) (o2 : w'.2 = w.2) (o : ∀ c j, ofC c = false → w'.1 c j = w.1 c j) (e36 : ∀ q, w'.1 36 q = if q = en i / 2 then 1 else w.1 36 q) (e34 : ∀ q, w'.1 34 q = if q = en i / 2 then nI (xo (en i)) else w.1 34 q) (e35 : ∀ q, w'.1 35 q = if q = en i / 2 then (if i + 1 < n then nI (en (i + 1) / 2) else -1) else w.1 35 q) (e37 : ∀ t, w'.1 37 t = if t = tt i then w.1 37 (tt i) + (1 : Int32) else w.1 37 t) (e40 : ∀ t, w'.1 40 t = if t = tt i then w.1 16 (tt i) else w.1 40 t) (e16 : ∀ t, w'.1 16 t = if t = tt i then (if (v.1 9 (tt i)).toInt = 8 then w.1 16 (tt i) else ndV v (xo (en i)) (en (i + 1)) (tt i)) else w.1 16 t) : OfI v n en tt (i + 1) w' := by
  have p := of_p H (by omega) h e36 e34 e35
  have nw := h.2.2.2.2.2 (tt i) (fun j hj hj1 e => by have := H.2.2.2.2.2.1 j i hj1 hn e; omega)
  refine ⟨o2.trans h.1, fun c j hc => (o c j hc).trans (h.2.1 c j hc), p.1, p.2, fun j hj hj1 => ?_, fun t ht => ?_⟩
  · rw [e37, e40, e16]
    by_cases c : j = i
    · rw [c, if_pos rfl, if_pos rfl, if_pos rfl, nw.1, nw.2.2]
      exact ⟨rfl, rfl, rfl⟩
    · have c1 : ¬ tt j = tt i := fun e => c (H.2.2.2.2.2.1 j i hj1 hn e)
      rw [if_neg c1, if_neg c1, if_neg c1]
      exact h.2.2.2.2.1 j (by omega) hj1
  · have c1 : ¬ t = tt i := fun e => ht i (by omega) hn e.symm
    rw [e37, e40, e16, if_neg c1, if_neg c1, if_neg c1]
    exact h.2.2.2.2.2 t (fun j hj => ht j (by omega))
/-- the place where the roads meet -/
theorem of_86 {v w1 : MW} {a b c x y0 y1 : Int32} {n : Nat} {en tt : Nat → Nat} {i : Nat} {A A' : Int32 → MW → Prop} {E E' Q Q' : MW → Prop} (H : OfH v n en tt) (f : ∀ c j, ofC c = false → w1.1 c j = v.1 c j) (ex : x.toInt = i) (hi : i < n) (h : q_Wa_openFound_86 a b c x y0 y1 w1 A E Q) (k0 : ¬ i + 1 < n → A (x + (1 : Int32)) (sI w1 35 y1.toInt.toNat y0) → A' (x + (1 : Int32)) (sI w1 35 y1.toInt.toNat y0)) (k1 : i + 1 < n → (v.1 9 (tt i)).toInt = 8 → A (x + (1 : Int32)) (sI (sI (sI w1 35 y1.toInt.toNat y0) 40 (tt i) (w1.1 16 (tt i))) 37 (tt i) ((w1.1 37 (tt i)) + (1 : Int32))) → A' (x + (1 : Int32)) (sI (sI (sI w1 35 y1.toInt.toNat y0) 40 (tt i) (w1.1 16 (tt i))) 37 (tt i) ((w1.1 37 (tt i)) + (1 : Int32)))) (k2 : i + 1 < n → ¬ (v.1 9 (tt i)).toInt = 8 → A (x + (1 : Int32)) (sI (sI (sI (sI w1 35 y1.toInt.toNat y0) 40 (tt i) (w1.1 16 (tt i))) 16 (tt i) (ndV v (xo (en i)) (en (i + 1)) (tt i))) 37 (tt i) ((w1.1 37 (tt i)) + (1 : Int32))) → A' (x + (1 : Int32)) (sI (sI (sI (sI w1 35 y1.toInt.toNat y0) 40 (tt i) (w1.1 16 (tt i))) 16 (tt i) (ndV v (xo (en i)) (en (i + 1)) (tt i))) 37 (tt i) ((w1.1 37 (tt i)) + (1 : Int32)))) : q_Wa_openFound_86 a b c x y0 y1 w1 A' E' Q' := by
  have n24 := H.2.1.2
  have F := H.2.2.1 i hi
  have x48 := xo48 F.2
  have e1 : (x + (1 : Int32)).toInt = (i : Int) + 1 := ti_add2 ex i_1 (by omega) (by omega)
  have r15 : (w1.1 26 15).toInt = n := by rw [f 26 15 rfl]; exact H.1
  have r39 : (w1.1 39 x.toInt.toNat).toInt.toNat = xo (en i) := by
    rw [f 39 _ rfl, show x.toInt.toNat = i by omega, F.1, nI_toInt (by omega)]
    omega
  rw [q_Wa_openFound_86.eq_1, r15] at h ⊢
  refine ⟨h.1, fun d => k0 (by omega) (h.2.1 d), fun d => ?_⟩
  have hn : i + 1 < n := by omega
  have G := h.2.2 d
  have F2 := H.2.2.1 (i + 1) hn
  have r13 : (w1.1 13 (xo (en i))).toInt.toNat = tt i := by
    have q := H.2.2.2.1 i hn
    rw [f 13 _ rfl]
    omega
  have r9 : w1.1 9 (tt i) = v.1 9 (tt i) := f 9 _ rfl
  have y48 := xo48 F2.2
  have rx : ((w1.1 39 ((x + (1 : Int32)).toInt.toNat)) ^^^ (1 : Int32)).toInt.toNat = en (i + 1) := by
    rw [f 39 _ rfl, show (x + (1 : Int32)).toInt.toNat = i + 1 by omega, F2.1]
    have e := nI_toInt (n := xo (en (i + 1))) (by omega)
    have q := xo_i (e := nI (xo (en (i + 1)))) (by omega)
    rw [q, e, show ((xo (en (i + 1)) : Nat) : Int).toNat = xo (en (i + 1)) by omega, xo_x]
    omega
  have r14 : ∀ e, w1.1 14 e = v.1 14 e := fun e => f 14 e rfl
  have b9 := H.2.2.2.2.2.2.1 (tt i)
  have b14 := H.2.2.2.2.2.2.2 (xo (en i))
  have b14' := H.2.2.2.2.2.2.2 (en (i + 1))
  have m1 := ti_mul2 (Eq.refl (v.1 9 (tt i)).toInt) (by decide : ((16 : Int32)).toInt = 16) (by omega) (by omega)
  have m2 := ti_mul2 (Eq.refl (v.1 14 (xo (en i))).toInt) (by decide : ((4 : Int32)).toInt = 4) (by omega) (by omega)
  have m3 := ti_add2 m2 (Eq.refl (v.1 14 (en (i + 1))).toInt) (by omega) (by omega)
  have m4 := ti_add2 m1 m3 (by omega) (by omega)
  have r41 : w1.1 41 ((((v.1 9 (tt i)) * (16 : Int32)) + (((v.1 14 (xo (en i))) * (4 : Int32)) + (v.1 14 (en (i + 1))))).toInt.toNat) = ndV v (xo (en i)) (en (i + 1)) (tt i) := by
    rw [f 41 _ rfl, m4]
    unfold ndV poC
    rw [show ((v.1 9 (tt i)).toInt * 16 + ((v.1 14 (xo (en i))).toInt * 4 + (v.1 14 (en (i + 1))).toInt)).toNat = 16 * (v.1 9 (tt i)).toInt.toNat + 4 * (v.1 14 (xo (en i))).toInt.toNat + (v.1 14 (en (i + 1))).toInt.toNat by omega]
  rw [r39, rx, r13, r9, r14, r14, r41] at G ⊢
  refine ⟨G.1, G.2.1, G.2.2.1, G.2.2.2.1, G.2.2.2.2.1, fun d2 => ?_, fun d2 => ?_⟩
  · have G1 := G.2.2.2.2.2.1 d2
    exact ⟨G1.1, G1.2.1, k1 hn d2 G1.2.2⟩
  · have G1 := G.2.2.2.2.2.2 d2
    exact ⟨G1.1, G1.2.1, G1.2.2.1, G1.2.2.2.1, G1.2.2.2.2.1, G1.2.2.2.2.2.1, G1.2.2.2.2.2.2.1, G1.2.2.2.2.2.2.2.1, G1.2.2.2.2.2.2.2.2.1, k2 hn d2 G1.2.2.2.2.2.2.2.2.2⟩
/-- the pipes and things of the way are taken -/
theorem of_12 {v : MW} {a b c : Int32} {n : Nat} {en tt : Nat → Nat} {E E' Q Q' : MW → Prop} (H : OfH v n en tt) (kE : ∀ w, OfI v n en tt n w → E w → E' w) : ∀ (m : Nat) (x : Int32) (i : Nat) (w : MW), q_Wa_openFound_12 a b c E Q m x w → x.toInt = i → i ≤ n → OfI v n en tt i w → q_Wa_openFound_12 a b c E' Q' m x w := by
  intro m
  induction m with
  | zero => exact fun _ _ _ h _ _ _ => False.elim h
  | succ m ih =>
    intro x i w h ex iN inv
    have n24 := H.2.1.2
    have f := inv.2.1
    have r15 : (w.1 26 15).toInt = n := by rw [f 26 15 rfl]; exact H.1
    rw [q_Wa_openFound_12.eq_2, r15] at h ⊢
    refine ⟨fun d => kE w (by rw [show n = i by omega] at inv ⊢; exact inv) (h.1 d), fun d => ?_⟩
    have hi : i < n := by omega
    have G := h.2 d
    have F := H.2.2.1 i hi
    have e1 : (x + (1 : Int32)).toInt = (i : Int) + 1 := ti_add2 ex i_1 (by omega) (by omega)
    have r39 : w.1 39 x.toInt.toNat = nI (xo (en i)) := by
      rw [f 39 _ rfl, show x.toInt.toNat = i by omega]
      exact F.1
    have pn := ps_n F.2
    have pt : (nI (en i / 2)).toInt.toNat = en i / 2 := by
      rw [nI_toInt (by have := F.2; omega)]
      omega
    rw [r39, pn, pt, nar_b1] at G ⊢
    have f1 : ∀ c j, ofC c = false → (sI (sI w 36 (en i / 2) 1) 34 (en i / 2) (nI (xo (en i)))).1 c j = v.1 c j := fun c j hc => by
      have q := of_n hc
      rw [sI_oth _ _ _ _ _ _ q.2.1, sI_oth _ _ _ _ _ _ q.2.2.2.1]
      exact f c j hc
    have st : ∀ y0 : Int32, y0 = (if i + 1 < n then nI (en (i + 1) / 2) else -1) → q_Wa_openFound_86 a b c x y0 (nI (en i / 2)) (sI (sI w 36 (en i / 2) 1) 34 (en i / 2) (nI (xo (en i)))) (fun (x12_5 : Int32) (w : MW) => q_Wa_openFound_12 a b c E Q m x12_5 w) E Q → q_Wa_openFound_86 a b c x y0 (nI (en i / 2)) (sI (sI w 36 (en i / 2) 1) 34 (en i / 2) (nI (xo (en i)))) (fun (x12_5 : Int32) (w : MW) => q_Wa_openFound_12 a b c E' Q' m x12_5 w) E' Q' := fun y0 ey g => by
      refine of_86 H f1 ex hi g (fun hn g1 => ?_) (fun hn d2 g1 => ?_) (fun hn d2 g1 => ?_)
      · rw [pt] at g1 ⊢
        refine ih _ (i + 1) _ g1 (by omega) (by omega) (of_last H hi hn inv rfl (fun c j h1 h2 h3 => ?_) (fun q => ?_) (fun q => ?_) (fun q => ?_))
        · rw [sI_oth _ _ _ _ _ _ h2, sI_oth _ _ _ _ _ _ h1, sI_oth _ _ _ _ _ _ h3]
        · rw [sI_oth _ _ _ _ _ _ (by decide), sI_oth _ _ _ _ _ _ (by decide), sI_if]
        · rw [sI_oth _ _ _ _ _ _ (by decide), sI_if, sI_oth _ _ _ _ _ _ (by decide)]
        · rw [sI_if, ey, sI_oth _ _ _ _ _ _ (by decide), sI_oth _ _ _ _ _ _ (by decide)]
      · rw [pt] at g1 ⊢
        refine ih _ (i + 1) _ g1 (by omega) (by omega) (of_mid H hn inv rfl (fun c j hc => ?_) (fun q => ?_) (fun q => ?_) (fun q => ?_) (fun t => ?_) (fun t => ?_) (fun t => ?_))
        · have q := of_n hc
          rw [sI_oth _ _ _ _ _ _ q.2.2.2.2.1, sI_oth _ _ _ _ _ _ q.2.2.2.2.2, sI_oth _ _ _ _ _ _ q.2.2.1, sI_oth _ _ _ _ _ _ q.2.1, sI_oth _ _ _ _ _ _ q.2.2.2.1]
        · rw [sI_oth _ _ _ _ _ _ (by decide), sI_oth _ _ _ _ _ _ (by decide), sI_oth _ _ _ _ _ _ (by decide), sI_oth _ _ _ _ _ _ (by decide), sI_if]
        · rw [sI_oth _ _ _ _ _ _ (by decide), sI_oth _ _ _ _ _ _ (by decide), sI_oth _ _ _ _ _ _ (by decide), sI_if, sI_oth _ _ _ _ _ _ (by decide)]
        · rw [sI_oth _ _ _ _ _ _ (by decide), sI_oth _ _ _ _ _ _ (by decide), sI_if, ey, sI_oth _ _ _ _ _ _ (by decide), sI_oth _ _ _ _ _ _ (by decide)]
        · rw [sI_if]
          by_cases c2 : t = tt i
          · rw [if_pos c2, if_pos c2, sI_oth _ _ _ _ _ _ (by decide), sI_oth _ _ _ _ _ _ (by decide)]
          · rw [if_neg c2, if_neg c2, sI_oth _ _ _ _ _ _ (by decide), sI_oth _ _ _ _ _ _ (by decide), sI_oth _ _ _ _ _ _ (by decide), sI_oth _ _ _ _ _ _ (by decide)]
        · rw [sI_oth _ _ _ _ _ _ (by decide), sI_if]
          by_cases c2 : t = tt i
          · rw [if_pos c2, if_pos c2, sI_oth _ _ _ _ _ _ (by decide), sI_oth _ _ _ _ _ _ (by decide)]
          · rw [if_neg c2, if_neg c2, sI_oth _ _ _ _ _ _ (by decide), sI_oth _ _ _ _ _ _ (by decide), sI_oth _ _ _ _ _ _ (by decide)]
        · rw [sI_oth _ _ _ _ _ _ (by decide), sI_oth _ _ _ _ _ _ (by decide), sI_oth _ _ _ _ _ _ (by decide), sI_oth _ _ _ _ _ _ (by decide), sI_oth _ _ _ _ _ _ (by decide), if_pos d2]
          by_cases c2 : t = tt i
          · rw [if_pos c2, c2]
          · rw [if_neg c2]
      · rw [pt] at g1 ⊢
        refine ih _ (i + 1) _ g1 (by omega) (by omega) (of_mid H hn inv rfl (fun c j hc => ?_) (fun q => ?_) (fun q => ?_) (fun q => ?_) (fun t => ?_) (fun t => ?_) (fun t => ?_))
        · have q := of_n hc
          rw [sI_oth _ _ _ _ _ _ q.2.2.2.2.1, sI_oth _ _ _ _ _ _ q.1, sI_oth _ _ _ _ _ _ q.2.2.2.2.2, sI_oth _ _ _ _ _ _ q.2.2.1, sI_oth _ _ _ _ _ _ q.2.1, sI_oth _ _ _ _ _ _ q.2.2.2.1]
        · rw [sI_oth _ _ _ _ _ _ (by decide), sI_oth _ _ _ _ _ _ (by decide), sI_oth _ _ _ _ _ _ (by decide), sI_oth _ _ _ _ _ _ (by decide), sI_oth _ _ _ _ _ _ (by decide), sI_if]
        · rw [sI_oth _ _ _ _ _ _ (by decide), sI_oth _ _ _ _ _ _ (by decide), sI_oth _ _ _ _ _ _ (by decide), sI_oth _ _ _ _ _ _ (by decide), sI_if, sI_oth _ _ _ _ _ _ (by decide)]
        · rw [sI_oth _ _ _ _ _ _ (by decide), sI_oth _ _ _ _ _ _ (by decide), sI_oth _ _ _ _ _ _ (by decide), sI_if, ey, sI_oth _ _ _ _ _ _ (by decide), sI_oth _ _ _ _ _ _ (by decide)]
        · rw [sI_if]
          by_cases c2 : t = tt i
          · rw [if_pos c2, if_pos c2, sI_oth _ _ _ _ _ _ (by decide), sI_oth _ _ _ _ _ _ (by decide)]
          · rw [if_neg c2, if_neg c2, sI_oth _ _ _ _ _ _ (by decide), sI_oth _ _ _ _ _ _ (by decide), sI_oth _ _ _ _ _ _ (by decide), sI_oth _ _ _ _ _ _ (by decide), sI_oth _ _ _ _ _ _ (by decide)]
        · rw [sI_oth _ _ _ _ _ _ (by decide), sI_oth _ _ _ _ _ _ (by decide), sI_if]
          by_cases c2 : t = tt i
          · rw [if_pos c2, if_pos c2, sI_oth _ _ _ _ _ _ (by decide), sI_oth _ _ _ _ _ _ (by decide)]
          · rw [if_neg c2, if_neg c2, sI_oth _ _ _ _ _ _ (by decide), sI_oth _ _ _ _ _ _ (by decide), sI_oth _ _ _ _ _ _ (by decide)]
        · rw [sI_oth _ _ _ _ _ _ (by decide), sI_if]
          by_cases c2 : t = tt i
          · rw [if_pos c2, if_pos c2, if_neg d2]
          · rw [if_neg c2, if_neg c2, sI_oth _ _ _ _ _ _ (by decide), sI_oth _ _ _ _ _ _ (by decide), sI_oth _ _ _ _ _ _ (by decide), sI_oth _ _ _ _ _ _ (by decide)]
    refine ⟨G.1, G.2.1, G.2.2.1, G.2.2.2.1, fun d2 => st _ ?_ (G.2.2.2.2.1 d2), fun d2 => ?_⟩
    · rw [if_neg (by omega)]
    · have G1 := G.2.2.2.2.2 d2
      have hn : i + 1 < n := by omega
      have F2 := H.2.2.1 (i + 1) hn
      have r39' : w.1 39 ((x + (1 : Int32)).toInt.toNat) = nI (xo (en (i + 1))) := by
        rw [f 39 _ rfl, show (x + (1 : Int32)).toInt.toNat = i + 1 by omega]
        exact F2.1
      rw [r39', ps_n F2.2] at G1 ⊢
      refine ⟨G1.1, st _ ?_ G1.2⟩
      rw [if_pos hn]
