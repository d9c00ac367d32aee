/-! what opening leaves, on each side -/
/-- the class -/
def OcF (v v' : MW) (W n : Nat) (en tt : Nat → Nat) (a b c l : Int32) : Prop := (∀ k j, k < 127 → hit lOw k j = false → v'.1 k j = v.1 k j) ∧ v'.2 = v.2 ∧ v'.1 26 1 = v.1 26 1 + (1 : Int32) ∧ (∀ k j, shC k = true → ¬ j = W → v'.1 k j = v.1 k j) ∧ (v'.1 27 W = a ∧ v'.1 28 W = b ∧ v'.1 29 W = c ∧ v'.1 30 W = l ∧ (v'.1 31 W).toInt = n ∧ v'.1 32 W = nI (en 0 / 2) ∧ v'.1 33 W = nI (en (n - 1) / 2)) ∧ (∀ j, j < n → v'.1 36 (en j / 2) = 1 ∧ v'.1 34 (en j / 2) = nI (xo (en j)) ∧ v'.1 35 (en j / 2) = (if j + 1 < n then nI (en (j + 1) / 2) else -1)) ∧ (∀ q, (∀ j, j < n → ¬ en j / 2 = q) → v'.1 36 q = v.1 36 q ∧ v'.1 34 q = v.1 34 q ∧ v'.1 35 q = v.1 35 q) ∧ (∀ j, j + 1 < n → v'.1 37 (tt j) = v.1 37 (tt j) + (1 : Int32) ∧ v'.1 40 (tt j) = v.1 16 (tt j) ∧ v'.1 16 (tt j) = (if (v.1 9 (tt j)).toInt = 8 then v.1 16 (tt j) else ndV v (xo (en j)) (en (j + 1)) (tt j))) ∧ (∀ t, (∀ j, j + 1 < n → ¬ tt j = t) → v'.1 37 t = v.1 37 t ∧ v'.1 16 t = v.1 16 t)
theorem lOw_c {k j : Nat} (h : hit lOw k j = false) : ofC k = false ∧ shC k = false ∧ ¬ k = 38 ∧ ¬ k = 39 ∧ ¬ (k = 26 ∧ j = 1) ∧ ¬ (k = 26 ∧ j = 15) ∧ ¬ k = 42 ∧ ¬ k = 44 := by
  refine ⟨?_, ?_, (fun e => by rw [e] at h; cases h), (fun e => by rw [e] at h; cases h), (fun e => by rw [e.1, e.2] at h; cases h), (fun e => by rw [e.1, e.2] at h; cases h), (fun e => by rw [e] at h; cases h), fun e => by rw [e] at h; cases h⟩
  · cases q : ofC k with
    | false => rfl
    | true =>
      unfold ofC at q
      simp only [Bool.or_eq_true, beq_iff_eq] at q
      rcases q with ((((q | q) | q) | q) | q) | q <;> (rw [q] at h; cases h)
  · cases q : shC k with
    | false => rfl
    | true => rcases sh_c q with q | q | q | q | q | q | q <;> (rw [q] at h; cases h)
theorem oc_f {v v5 v28 : MW} {n : Nat} {en tt : Nat → Nat} {a b c l : Int32} {W : Nat} (o5 : oF v v5) (H : OfH v5 n en tt) (of : OfI v5 n en tt n v28) (eW : (v28.1 26 1).toInt.toNat = W) (el : v.1 17 a.toInt.toNat = l) : OcF v (sI (sI (sI (sI (sI (sI (sI (sI v28 27 ((v28.1 26 1).toInt.toNat) a) 28 ((v28.1 26 1).toInt.toNat) b) 29 ((v28.1 26 1).toInt.toNat) c) 30 ((v28.1 26 1).toInt.toNat) (v28.1 17 a.toInt.toNat)) 31 ((v28.1 26 1).toInt.toNat) (v28.1 26 15)) 32 ((v28.1 26 1).toInt.toNat) ((v28.1 39 0) >>> ((1 : Int32) &&& 31))) 33 ((v28.1 26 1).toInt.toNat) ((v28.1 39 (((v28.1 26 15) - (1 : Int32)).toInt.toNat)) >>> ((1 : Int32) &&& 31))) 26 1 ((v28.1 26 1) + (1 : Int32))) W n en tt a b c l := by
  have n1 := H.2.1.1
  have n24 := H.2.1.2
  rw [eW]
  have e15 : v28.1 26 15 = v5.1 26 15 := of.2.1 26 15 rfl
  have t15 : (v28.1 26 15).toInt = n := by rw [e15]; exact H.1
  have s15 : ((v28.1 26 15) - (1 : Int32)).toInt.toNat = n - 1 := by
    have q := ti_sub2 t15 i_1 (by omega) (by omega)
    omega
  have e26 : v28.1 26 1 = v.1 26 1 := by
    rw [of.2.1 26 1 rfl]
    exact o5.2.2 1 (by decide)
  have e17 : v28.1 17 a.toInt.toNat = l := by
    rw [of.2.1 17 _ rfl, oF_1 o5 (by decide) (by decide) (by decide)]
    exact el
  have g39 : ∀ i, i < n → (v28.1 39 i) >>> ((1 : Int32) &&& 31) = nI (en i / 2) := fun i hi => by
    have F := H.2.2.1 i hi
    rw [of.2.1 39 i rfl, F.1, ps_n F.2]
  rw [e17, s15, g39 0 (by omega), g39 (n - 1) (by omega)]
  generalize hX : sI (sI (sI (sI (sI (sI (sI v28 27 W a) 28 W b) 29 W c) 30 W l) 31 W (v28.1 26 15)) 32 W (nI (en 0 / 2))) 33 W (nI (en (n - 1) / 2)) = X
  have rX : ∀ k j, shC k = false → X.1 k j = v28.1 k j := fun k j hk => by
    have n0 : ∀ y, shC y = true → ¬ k = y := fun y hy e => by rw [e, hy] at hk; cases hk
    rw [← hX, sI_oth _ _ _ _ _ _ (n0 33 rfl), sI_oth _ _ _ _ _ _ (n0 32 rfl), sI_oth _ _ _ _ _ _ (n0 31 rfl), sI_oth _ _ _ _ _ _ (n0 30 rfl), sI_oth _ _ _ _ _ _ (n0 29 rfl), sI_oth _ _ _ _ _ _ (n0 28 rfl), sI_oth _ _ _ _ _ _ (n0 27 rfl)]
  have rXo : ∀ k j, ¬ j = W → X.1 k j = v28.1 k j := fun k j hj => by
    have n0 : ∀ y, ¬ (k = y ∧ j = W) := fun y e => hj e.2
    rw [← hX, sI_at, if_neg (n0 33), sI_at, if_neg (n0 32), sI_at, if_neg (n0 31), sI_at, if_neg (n0 30), sI_at, if_neg (n0 29), sI_at, if_neg (n0 28), sI_at, if_neg (n0 27)]
  have r5 : ∀ k j, ofC k = false → ¬ k = 38 → ¬ k = 39 → ¬ (k = 26 ∧ j = 15) → v28.1 k j = v.1 k j := fun k j h1 h2 h3 h4 => by
    rw [of.2.1 k j h1]
    by_cases q : k = 26
    · rw [q]
      exact o5.2.2 j (fun e => h4 ⟨q, e⟩)
    · exact oF_1 o5 h2 h3 q j
  have nd : ∀ o g t, ndV v5 o g t = ndV v o g t := fun o g t => by
    unfold ndV poC
    rw [oF_1 o5 (by decide) (by decide) (by decide), oF_1 o5 (by decide) (by decide) (by decide), oF_1 o5 (by decide) (by decide) (by decide), oF_1 o5 (by decide) (by decide) (by decide)]
  have s5 : ∀ k j, ¬ k = 38 → ¬ k = 39 → ¬ k = 26 → v5.1 k j = v.1 k j := fun k j h1 h2 h3 => oF_1 o5 h1 h2 h3 j
  have rd : ∀ k j, shC k = false → ¬ k = 26 → (sI X 26 1 ((v28.1 26 1) + (1 : Int32))).1 k j = v28.1 k j := fun k j h1 h2 => by
    rw [sI_oth _ _ _ _ _ _ h2]
    exact rX k j h1
  refine ⟨fun k j _ hk => ?_, ?_, ?_, fun k j hk hj => ?_, ⟨?_, ?_, ?_, ?_, ?_, ?_, ?_⟩, fun j hj => ?_, fun q hq => ?_, fun j hj => ?_, fun t ht => ?_⟩
  · have q := lOw_c hk
    rw [sI_at, if_neg q.2.2.2.2.1, rX k j q.2.1]
    exact r5 k j q.1 q.2.2.1 q.2.2.2.1 q.2.2.2.2.2.1
  · show X.2 = v.2
    rw [← hX]
    show v28.2 = v.2
    rw [of.1, o5.1]
  · rw [sI_same, e26]
  · have q := sh_c hk
    rw [sI_oth _ _ _ _ _ _ (by omega), rXo k j hj]
    refine r5 k j ?_ (by omega) (by omega) (fun e => by have := e.1; omega)
    rcases q with q | q | q | q | q | q | q <;> (rw [q]; rfl)
  · rw [sI_oth _ _ _ _ _ _ (by decide), ← hX, sI_oth _ _ _ _ _ _ (by decide), sI_oth _ _ _ _ _ _ (by decide), sI_oth _ _ _ _ _ _ (by decide), sI_oth _ _ _ _ _ _ (by decide), sI_oth _ _ _ _ _ _ (by decide), sI_oth _ _ _ _ _ _ (by decide), sI_same]
  · rw [sI_oth _ _ _ _ _ _ (by decide), ← hX, sI_oth _ _ _ _ _ _ (by decide), sI_oth _ _ _ _ _ _ (by decide), sI_oth _ _ _ _ _ _ (by decide), sI_oth _ _ _ _ _ _ (by decide), sI_oth _ _ _ _ _ _ (by decide), sI_same]
  · rw [sI_oth _ _ _ _ _ _ (by decide), ← hX, sI_oth _ _ _ _ _ _ (by decide), sI_oth _ _ _ _ _ _ (by decide), sI_oth _ _ _ _ _ _ (by decide), sI_oth _ _ _ _ _ _ (by decide), sI_same]
  · rw [sI_oth _ _ _ _ _ _ (by decide), ← hX, sI_oth _ _ _ _ _ _ (by decide), sI_oth _ _ _ _ _ _ (by decide), sI_oth _ _ _ _ _ _ (by decide), sI_same]
  · rw [sI_oth _ _ _ _ _ _ (by decide), ← hX, sI_oth _ _ _ _ _ _ (by decide), sI_oth _ _ _ _ _ _ (by decide), sI_same]
    exact t15
  · rw [sI_oth _ _ _ _ _ _ (by decide), ← hX, sI_oth _ _ _ _ _ _ (by decide), sI_same]
  · rw [sI_oth _ _ _ _ _ _ (by decide), ← hX, sI_same]
  · rw [rd 36 _ rfl (by decide), rd 34 _ rfl (by decide), rd 35 _ rfl (by decide)]
    exact of.2.2.1 j hj
  · rw [rd 36 _ rfl (by decide), rd 34 _ rfl (by decide), rd 35 _ rfl (by decide), ← s5 36 q (by decide) (by decide) (by decide), ← s5 34 q (by decide) (by decide) (by decide), ← s5 35 q (by decide) (by decide) (by decide)]
    exact of.2.2.2.1 q hq
  · rw [rd 37 _ rfl (by decide), rd 40 _ rfl (by decide), rd 16 _ rfl (by decide), ← s5 37 _ (by decide) (by decide) (by decide), ← s5 16 _ (by decide) (by decide) (by decide), ← s5 9 _ (by decide) (by decide) (by decide), ← nd]
    exact of.2.2.2.2.1 j (by omega) hj
  · rw [rd 37 _ rfl (by decide), rd 16 _ rfl (by decide), ← s5 37 _ (by decide) (by decide) (by decide), ← s5 16 _ (by decide) (by decide) (by decide)]
    have q := of.2.2.2.2.2 t (fun j _ hj => ht j hj)
    exact ⟨q.1, q.2.2⟩
/-- one place -/
theorem hit_1 (k j : Nat) : hit [(k, some j)] k j = true := by
  unfold hit
  simp only [List.any_cons, List.any_nil, beq_self_eq_true, Bool.and_self, Bool.or_false]
theorem off_1 {l : Pl} {k j : Nat} (h : hit l k j = false) : off l [(k, some j)] = true := by
  unfold hit at h
  unfold off
  simp only [List.all_cons, List.all_nil, Bool.and_true]
  rw [List.all_eq_true]
  intro e he
  rw [List.any_eq_false] at h
  have q := h e he
  cases he2 : e.2 with
  | none =>
    rw [he2] at q
    simp only [Bool.and_true, Bool.not_eq_true] at q
    simp only [Bool.and_true, q, Bool.not_false]
  | some i =>
    rw [he2] at q
    simp only [Bool.not_eq_true] at q
    simp only [q, Bool.not_false]
/-- the reference -/
def OmF (w w' f : MW) (W n : Nat) (en : Nat → Nat) (a b c l : Int32) : Prop := (∀ k j, ¬ k < 127 → hit lOw k j = false → w'.1 k j = w.1 k j) ∧ w'.1 127 26 = w.1 127 26 + (1 : Int32) ∧ (∀ k j, msC k = true → ¬ j = W → w'.1 k j = w.1 k j) ∧ (w'.1 181 W = a ∧ w'.1 182 W = b ∧ w'.1 183 W = l ∧ w'.1 184 W = c ∧ (w'.1 185 W).toInt = n) ∧ ((∀ j i, j < W → i < 24 → w'.1 186 (24 * j + i) = w.1 186 (24 * j + i)) ∧ ∀ i, i < n → w'.1 186 (24 * W + i) = nI (en i)) ∧ ((∀ j t, j < W → t < 20 → w'.1 187 (20 * j + t) = w.1 187 (20 * j + t)) ∧ ∀ t : Nat, (t : Int) < tM w → w'.1 187 (20 * W + t) = f.1 192 t) ∧ (∀ t : Nat, (t : Int) < tM w → w'.1 167 t = (if 2 ≤ (w.1 163 t).toInt ∧ ¬ (f.1 192 t).toInt = -1 then f.1 192 t else w.1 167 t))
theorem lOw_m {k j : Nat} (h : hit lOw k j = false) : hit lF5 k j = false ∧ ¬ k = 194 ∧ ¬ k = 190 ∧ ¬ k = 167 ∧ hit [(127, some 26), (181, none), (182, none), (183, none), (184, none), (185, none), (186, none), (187, none)] k j = false := by
  have s : ∀ m : Pl, sub m lOw = true → hit m k j = false := fun m hm => by
    cases q : hit m k j with
    | false => rfl
    | true =>
      rw [sub_hit hm q] at h
      cases h
  exact ⟨s lF5 (by decide), (fun e => by rw [e] at h; cases h), (fun e => by rw [e] at h; cases h), (fun e => by rw [e] at h; cases h), s _ (by decide)⟩
theorem om_mk {w z w5 y w' : MW} {W n : Nat} {en : Nat → Nat} {a b c l : Int32} (T : 0 ≤ tM w ∧ tM w ≤ 20) (bz : BsZ w z) (om : oM z w5) (p39 : (w5.1 127 39).toInt = n) (n24 : n ≤ 24) (p191 : ∀ i, i < n → w5.1 191 i = nI (en i)) (yr : ∀ k j, ¬ k = 194 → ¬ k = 190 → ¬ k = 167 → y.1 k j = w5.1 k j) (y167 : ∀ t : Nat, (t : Int) < tM w → y.1 167 t = nwP w5 t) (rm : RowM y W n a b c l w') : OmF w w' w5 W n en a b c l := by
  have a5 := fun m hm => ag5 bz om m hm
  obtain ⟨r0, r1, r2, r3, r4, r5, r6, r7, r8⟩ := rm
  have yw : ∀ k j, hit lF5 k j = false → ¬ k = 194 → ¬ k = 190 → ¬ k = 167 → y.1 k j = w.1 k j := fun k j h h1 h2 h3 => by
    rw [yr k j h1 h2 h3, om.2 k j (okM_h h), bz.1.1]
  have ty : tM y = tM w := by
    unfold tM
    rw [yw 127 4 rfl (by decide) (by decide) (by decide)]
  refine ⟨fun k j _ hk => ?_, ?_, fun k j hk hj => ?_, ⟨?_, ?_, ?_, ?_, ?_⟩, ⟨fun j i hj hi => ?_, fun i hi => ?_⟩, ⟨fun j t hj ht => ?_, fun t ht => ?_⟩, fun t ht => ?_⟩
  · have q := lOw_m hk
    have g : w'.1 k j = y.1 k j := by
      refine r0 [(k, some j)] ?_ k j ?_
      · exact off_1 q.2.2.2.2
      · exact hit_1 k j
    rw [g]
    exact yw k j q.1 q.2.1 q.2.2.1 q.2.2.2.1
  · rw [r1, yw 127 26 rfl (by decide) (by decide) (by decide)]
  · rcases ms_c hk with e | e | e | e | e
    · rw [e, r2, if_neg hj]
      exact yw 181 j rfl (by decide) (by decide) (by decide)
    · rw [e, r3, if_neg hj]
      exact yw 182 j rfl (by decide) (by decide) (by decide)
    · rw [e, r4, if_neg hj]
      exact yw 183 j rfl (by decide) (by decide) (by decide)
    · rw [e, r5, if_neg hj]
      exact yw 184 j rfl (by decide) (by decide) (by decide)
    · rw [e, r6, if_neg hj]
      exact yw 185 j rfl (by decide) (by decide) (by decide)
  · rw [r2, if_pos rfl]
  · rw [r3, if_pos rfl]
  · rw [r4, if_pos rfl]
  · rw [r5, if_pos rfl]
  · rw [r6, if_pos rfl, yr 127 39 (by decide) (by decide) (by decide)]
    exact p39
  · have c0 : ¬ (24 * W ≤ 24 * j + i ∧ 24 * j + i < 24 * W + n) := fun q => by have := q.1; omega
    rw [r7, if_neg c0]
    exact yw 186 _ rfl (by decide) (by decide) (by decide)
  · have c0 : 24 * W ≤ 24 * W + i ∧ 24 * W + i < 24 * W + n := ⟨by omega, by omega⟩
    rw [r7, if_pos c0, show 24 * W + i - 24 * W = i by omega, yr 191 _ (by decide) (by decide) (by decide)]
    exact p191 i hi
  · have c0 : ¬ (20 * W ≤ 20 * j + t ∧ 20 * j + t < 20 * W + 20) := fun q => by have := q.1; omega
    rw [r8, if_neg c0]
    exact yw 187 _ rfl (by decide) (by decide) (by decide)
  · have c0 : 20 * W ≤ 20 * W + t ∧ 20 * W + t < 20 * W + 20 := ⟨by omega, by omega⟩
    rw [r8, if_pos c0, show 20 * W + t - 20 * W = t by omega]
    unfold hlN
    rw [ty, if_pos ht]
    exact yr 192 t (by decide) (by decide) (by decide)
  · have g : w'.1 167 t = y.1 167 t := r0 [(167, none)] rfl 167 t rfl
    rw [g, y167 t ht]
    unfold nwP
    rw [a5 [(163, none)] rfl 163 t rfl, a5 [(167, none)] rfl 167 t rfl]
/-- both -/
theorem op_mk {v w v' w' f : MW} {W n : Nat} {en : Nat → Nat} {a b c l : Int32} (hr : HRq (mx v w)) (eW : (w.1 127 26).toInt = W) (W24 : W < 24) (oc : OcF v v' W n en (fun i => (atM w (en (i + 1))).toNat) a b c l) (om : OmF w w' f W n en a b c l) : OpF (mx v w) (mx v' w') f W n en a b c l := by
  obtain ⟨c1, c2, c3, c4, c5, c6, c7, c8, c9⟩ := oc
  obtain ⟨m1, m2, m3, m4, m5, m6, m7⟩ := om
  have v26 : v.1 26 1 = w.1 127 26 := hr.2.2.2.1.1
  have s26 : (w.1 127 26 + (1 : Int32)).toInt = (W : Int) + 1 := ti_add2 eW i_1 (by omega) (by omega)
  refine ⟨fun m hm => mx_ag (fun k j hk => ⟨fun h => c1 k j h (off_hit hm hk), fun h => m1 k j h (off_hit hm hk)⟩), ⟨?_, ?_, ?_, W24⟩, fun k j hk hj => ?_, ⟨⟨c5.1, c5.2.1, c5.2.2.1, c5.2.2.2.1, ?_, c5.2.2.2.2.2.1, c5.2.2.2.2.2.2⟩, m4⟩, m5, m6, ⟨c6, c7⟩, ⟨fun j hj => ⟨(c8 j hj).1, (c8 j hj).2.2⟩, c9⟩, m7⟩
  · show v'.1 26 1 = w'.1 127 26
    rw [c3, m2, v26]
  · show (w'.1 127 26).toInt = (W : Int) + 1
    rw [m2]
    exact s26
  · have e : nwy (mx v w) = (w.1 127 26).toInt.toNat := rfl
    rw [e]
    omega
  · rcases hk with hk | hk
    · have q := sh_c hk
      rw [mx_c _ _ (by omega), mx_c _ _ (by omega)]
      exact c4 k j hk (by omega)
    · have q := ms_c hk
      rw [mx_m _ _ (by omega), mx_m _ _ (by omega)]
      exact m3 k j hk (by omega)
  · show v'.1 31 W = w'.1 185 W
    exact ti_inj (by rw [c5.2.2.2.2.1, m4.2.2.2.2])
