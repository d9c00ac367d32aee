/-! opening: the insides, and what undoing leaves -/
theorem sC_t {w : MW} (T : 0 ≤ tM w ∧ tM w ≤ 20) (P : 0 ≤ pM w ∧ pM w ≤ 24) (hp : HPl w) (hw : HWy w) {l y : Nat} (h : SrC w l y) : y < 44 := by
  have n := w_n hw.1
  have e1 := hp.1.1
  have e2 := hp.1.2.1
  rcases h with s | s
  · obtain ⟨k, hk, _, want⟩ := (wys_e hw.1 hw.2.1 P.2 e1 l y).mp s
    rcases (wnt_e hw.1 hw.2.1 hk).mp want with q | ⟨i, hi, q⟩
    · have A := (hw.1.2.2.2 k hk).2.2.2.2.2.1
      omega
    · have E := (w_e hw.2.1 hk hi).2
      omega
  · have := s.1
    omega
theorem op_ins {u u' f : MW} {W n : Nat} {en : Nat → Nat} {a b c l : Int32} {g : Nat → Int32} (hy1 : WRa u) (e48 : ∀ i, i < n → en i < 48) (T : 0 ≤ tM u ∧ tM u ≤ 20) (tb0 : 0 ≤ b.toInt) (o : OpF u u' f W n en a b c l) (lk : ∀ x : Nat, (x : Int) < tM u + pM u → (¬ (u.1 17 x).toInt = 0 ∧ g x = u.1 17 x) ∨ ((u.1 17 x).toInt = 0 ∧ ((g x = 0 ∧ ∀ k, k < W → ¬ wnt u k x) ∨ ∃ k, k < W ∧ wnt u k x ∧ g x = u.1 183 k))) (e1 : ∀ x : Nat, (x = b.toInt.toNat ∨ ∃ i, i < n ∧ x = (tM u).toNat + en i / 2) → u'.1 194 x = l) (e0 : ∀ x : Nat, ¬ (x = b.toInt.toNat ∨ ∃ i, i < n ∧ x = (tM u).toNat + en i / 2) → u'.1 194 x = g x) (h17 : ∀ x : Nat, (x = b.toInt.toNat ∨ ∃ i, i < n ∧ x = (tM u).toNat + en i / 2) → u.1 17 x = 0 ∨ u.1 17 x = l) : INs u' := by
  obtain ⟨ag, ⟨o1, o2, oW, W24⟩, o3, ⟨o4, o5⟩, ⟨o6, o7⟩, _⟩ := o
  obtain ⟨m1, m2, m3, m4⟩ := tM_m (ag lPm rfl)
  have wn := w_n hy1
  have nn : nwy u' = W + 1 := by
    unfold nwy
    omega
  have wo : ∀ k x, k < W → (wnt u' k x ↔ wnt u k x) := fun k x hk => by
    have l := w_l hy1 (show k < nwy u by omega)
    unfold wnt
    rw [m1, o3 182 k (Or.inr rfl) hk, o3 185 k (Or.inr rfl) hk]
    constructor
    · intro q
      rcases q with q | ⟨i, q1, q2⟩
      · exact Or.inl q
      · exact Or.inr ⟨i, q1, by rw [← o6 k i hk (by omega)]; exact q2⟩
    · intro q
      rcases q with q | ⟨i, q1, q2⟩
      · exact Or.inl q
      · exact Or.inr ⟨i, q1, by rw [o6 k i hk (by omega)]; exact q2⟩
  have ww : ∀ x : Nat, wnt u' W x ↔ (x = b.toInt.toNat ∨ ∃ i, i < n ∧ x = (tM u).toNat + en i / 2) := fun x => by
    unfold wnt
    rw [m1, o5.2.1, o5.2.2.2.2]
    constructor
    · intro q
      rcases q with q | ⟨i, q1, q2⟩
      · exact Or.inl (by omega)
      · have hi : i < n := by omega
        have := e48 i hi
        rw [o7 i hi, nI_toInt (by omega)] at q2
        exact Or.inr ⟨i, hi, by omega⟩
    · intro q
      rcases q with q | ⟨i, hi, q2⟩
      · exact Or.inl (by omega)
      · have := e48 i hi
        refine Or.inr ⟨i, by omega, ?_⟩
        rw [o7 i hi, nI_toInt (by omega)]
        omega
  intro x hx
  rw [m1, m2] at hx
  have e17 : u'.1 17 x = u.1 17 x := ag [(17, none)] rfl 17 x rfl
  rw [e17, nn]
  by_cases q : x = b.toInt.toNat ∨ ∃ i, i < n ∧ x = (tM u).toNat + en i / 2
  · rw [e1 x q]
    by_cases z : (u.1 17 x).toInt = 0
    · exact Or.inr ⟨z, Or.inr ⟨W, by omega, (ww x).mpr q, o5.2.2.1.symm⟩⟩
    · refine Or.inl ⟨z, ?_⟩
      rcases h17 x q with y | y
      · rw [y] at z
        exact absurd i_0 z
      · exact y.symm
  · rw [e0 x q]
    rcases lk x hx with y | ⟨y1, ⟨y2, y3⟩ | ⟨k, y2, y3, y4⟩⟩
    · exact Or.inl y
    · refine Or.inr ⟨y1, Or.inl ⟨y2, fun k hk want => ?_⟩⟩
      by_cases c1 : k = W
      · rw [c1] at want
        exact q ((ww x).mp want)
      · exact y3 k (by omega) ((wo k x (by omega)).mp want)
    · refine Or.inr ⟨y1, Or.inr ⟨k, by omega, (wo k x y2).mpr y3, ?_⟩⟩
      rw [y4, o3 183 k (Or.inr rfl) y2]
theorem SRr_g {w w' : MW} (h : Ag [(127, some 4), (127, some 11), (163, none), (170, none), (194, none)] w w') (hc : ∀ c j, c < 127 → w'.1 c j = w.1 c j) (s : SRr w) : SRr w' := by
  have en : nsp w' = nsp w := by
    unfold nsp
    rw [h 127 4 rfl, h 127 11 rfl]
  have et : tM w' = tM w := by
    unfold tM
    rw [h 127 4 rfl]
  have ep : pM w' = pM w := by
    unfold pM
    rw [h 127 11 rfl]
  have ea : atM w' = atM w := by
    funext e
    unfold atM
    rw [h 170 e rfl]
  have ek : tkM w' = tkM w := by
    funext e
    unfold tkM
    rw [h 163 _ rfl]
  have es : ∀ a y, Si w' a y ↔ Si w a y := fun a y => by
    unfold Si
    rw [en, h 194 y rfl]
  have ec : ∀ l y, SrC w' l y ↔ SrC w l y := fun l y => srC_s (fun c j hc' => hc c j (by
    unfold sS at hc'
    simp only [Bool.or_eq_true, beq_iff_eq] at hc'
    omega)) l y
  refine ⟨fun y hy => ?_, fun l y h1 h2 q => (ec l y).mpr (s.2.1 l y h1 h2 ((es l y).mp q)), fun l y h1 h2 q => ?_⟩
  · rw [en] at hy
    rw [h 194 y rfl]
    exact s.1 y hy
  · rw [ep, ea, ek, et]
    rcases s.2.2 l y h1 h2 ((ec l y).mp q) with q | ⟨e, q1, q2, q3, x, q4, q5⟩
    · exact Or.inl ((es l y).mpr q)
    · exact Or.inr ⟨e, q1, q2, q3, x, q4, (es l x).mpr q5⟩
def lWf : Pl := [(26, some 1), (36, none), (37, none), (127, some 26), (181, none), (182, none), (183, none), (184, none), (185, none), (186, none), (187, none)]
/-- the ways, where what is free may have changed -/
theorem HWy_f {w w' : MW} (hp : Ag lPm w w') (h : Ag lWf w w') (hs : ∀ c k, shC c = true → k < nwy w → w'.1 c k = w.1 c k) (h34 : ∀ p, onN w p → w'.1 34 p = w.1 34 p ∧ w'.1 35 p = w.1 35 p) (h17 : ∀ p : Nat, w'.1 17 ((tM w).toNat + p) = w.1 17 ((tM w).toNat + p)) (hh : HP w') (s : HWy w) : HWy w' := by
  obtain ⟨m1, m2, m3, m4⟩ := tM_m hp
  obtain ⟨s1, s2, s3, s4, s5, s6⟩ := s
  have en : nwy w' = nwy w := by
    unfold nwy
    rw [h 127 26 rfl]
  have el : wln w' = wln w := by
    funext k
    unfold wln
    rw [h 185 k rfl]
  have ee : ent w' = ent w := by
    funext k i
    unfold ent
    rw [h 186 _ rfl]
  have eo : onN w' = onN w := by
    funext p
    unfold onN
    rw [en, el, ee]
  have eh : ∀ t, hldB w' t = hldB w t := fun t => by
    funext k
    unfold hldB
    rw [h 187 _ rfl]
  refine ⟨?_, ?_, ?_, ?_, ?_, ?_⟩
  · unfold WRa
    rw [en, m1, m4, h 26 1 rfl, h 127 26 rfl]
    refine ⟨s1.1, s1.2.1, s1.2.2.1, fun k hk => ?_⟩
    rw [hs 27 k rfl hk, hs 28 k rfl hk, hs 29 k rfl hk, hs 30 k rfl hk, hs 31 k rfl hk, h 181 k rfl, h 182 k rfl, h 183 k rfl, h 184 k rfl, h 185 k rfl]
    exact s1.2.2.2 k hk
  · unfold WRb
    rw [en, el, ee, m2]
    intro k hk
    rw [hs 32 k rfl hk, hs 33 k rfl hk]
    refine ⟨fun i hi => ?_, (s2 k hk).2⟩
    have q := h34 (ent w k i / 2) ⟨k, i, hk, hi, rfl⟩
    rw [h 186 _ rfl, q.1, q.2]
    exact (s2 k hk).1 i hi
  · unfold WRc
    rw [en, el, ee, m2, eo]
    refine ⟨fun p hp' => ?_, s3.2⟩
    rw [h 36 p rfl]
    exact s3.1 p hp'
  · unfold WRd
    rw [en, el, ee, m3, m4]
    intro k hk
    rw [h 181 k rfl, h 182 k rfl]
    exact s4 k hk
  · unfold WRe
    rw [en, el, ee, m1, m3]
    refine ⟨fun k t hk ht => ?_, hh, fun t ht => ?_⟩
    · rw [h 187 _ rfl]
      exact s5.1 k t hk ht
    · rw [h 37 t rfl, eh]
      exact s5.2.2 t ht
  · unfold WRf
    rw [en, el, ee, m1]
    intro k i hk hi
    rw [h17 _, h 183 k rfl]
    exact s6 k i hk hi
/-- what is wanted to take it back -/
theorem oc_rm {v v17 v18 : MW} {W n : Nat} {en tt : Nat → Nat} {a b c l : Int32} (n24 : 1 ≤ n ∧ n ≤ 24) (e48 : ∀ i, i < n → en i < 48) (h13 : ∀ i, i + 1 < n → (v.1 13 (xo (en i))).toInt = tt i) (ij : ∀ i j, i < n → j < n → en i / 2 = en j / 2 → i = j) (it : ∀ i j, i + 1 < n → j + 1 < n → tt i = tt j → i = j) (oc : OcF v v17 W n en tt a b c l) (os : oSf v17 v18) : RmH v18 W n (fun i => en i / 2) tt := by
  obtain ⟨c1, c2, c3, c4, c5, c6, c7, c8, c9⟩ := oc
  have r : ∀ k j, ¬ k = 42 → ¬ k = 44 → v18.1 k j = v17.1 k j := os.1
  refine ⟨?_, n24.2, fun i hi => ⟨?_, ?_⟩, fun i hi => ?_, ij, it, ?_⟩
  · rw [r 31 W (by decide) (by decide)]
    exact c5.2.2.2.2.1
  · have := e48 i hi
    show en i / 2 < 24
    omega
  · show v18.1 35 (en i / 2) = if i + 1 < n then nI (en (i + 1) / 2) else -1
    rw [r 35 _ (by decide) (by decide)]
    exact (c6 i hi).2.2
  · show (v18.1 13 (v18.1 34 (en i / 2)).toInt.toNat).toInt = (tt i : Int)
    have := xo48 (e48 i (by omega))
    rw [r 34 _ (by decide) (by decide), (c6 i (by omega)).2.1, nI_toInt (by omega), show ((xo (en i) : Nat) : Int).toNat = xo (en i) by omega, r 13 _ (by decide) (by decide), c1 13 _ (by decide) rfl]
    exact h13 i hi
  · show v18.1 32 W = nI (en 0 / 2)
    rw [r 32 W (by decide) (by decide)]
    exact c5.2.2.2.2.2.1
def lUn : Pl := [(127, some 39), (127, some 45), (127, some 46), (127, some 47), (127, some 48), (167, none), (188, none), (189, none), (190, none), (191, none), (192, none), (194, none)]
theorem i32_pm {x : Int32} {y : Int} (h : x.toInt = y) (h0 : 0 ≤ y) (h1 : y ≤ 1000) : x + (1 : Int32) - (1 : Int32) = x := by
  apply ti_inj
  have e := ti_add2 h i_1 (by omega) (by omega)
  have e2 := ti_sub2 e i_1 (by omega) (by omega)
  rw [e2, h]
  omega
/-- it is taken back -/
theorem op_undo {v w v17 v18 v20 w' f : MW} {W n : Nat} {en : Nat → Nat} {a b c l : Int32} (hv : BND v) (hw : BND w) (hr : HRq (mx v w)) (eW : (w.1 127 26).toInt = W) (pa : PaU (mx v w) f a.toInt b.toInt n en) (oc : OcF v v17 W n en (fun i => (atM w (en (i + 1))).toNat) a b c l) (os : oSf v17 v18) (rc : RmC v18 W n (fun i => en i / 2) (fun i => (atM w (en (i + 1))).toNat) 1 v20) (uw : ∀ k j, hit lUn k j = false → w'.1 k j = w.1 k j) (uw7 : ∀ t : Nat, (t : Int) < tM w → w'.1 167 t = w.1 167 t) : HRq (mx v20 w') := by
  have T := hb_T hw
  have P := hb_P hw
  have hy := hr.2.2.2
  have pb : PB (mx v w) := PB_b (BND_mx hv hw)
  have v26 : v.1 26 1 = w.1 127 26 := hr.2.2.2.1.1
  have n24 := (bd_127_26 hw).2
  obtain ⟨c1, c2, c3, c4, c5, c6, c7, c8, c9⟩ := oc
  obtain ⟨w0, ri, sh⟩ := rc
  have r8 : ∀ k j, ¬ k = 42 → ¬ k = 44 → v18.1 k j = v17.1 k j := os.1
  have e26 : w0.1 26 1 = v.1 26 1 + (1 : Int32) := by
    rw [ri.1 26 1 (by decide) (by decide) (by decide), r8 26 1 (by decide) (by decide), c3]
  have s26 : (w0.1 26 1) - (1 : Int32) = v.1 26 1 := by
    rw [e26]
    exact i32_pm (show (v.1 26 1).toInt = (W : Int) by rw [v26]; exact eW) (by omega) (by omega)
  have eN : ((w0.1 26 1) - (1 : Int32)).toInt.toNat = W := by
    rw [s26, v26, eW]
    omega
  rw [eN, s26] at sh
  have s20 : ∀ k j, ¬ (k = 26 ∧ j = 1) → v20.1 k j = w0.1 k j := fun k j hk => by
    cases q : shC k with
    | false => rw [sh.2.1 k j q, sI_at, if_neg hk]
    | true =>
      have q2 := sh_c q
      rw [sh.2.2 k j q, if_neg (fun z => by have := z.1; have := z.2; omega), sI_oth _ _ _ _ _ _ (by omega)]
  have r20 : ∀ k j, ¬ (k = 26 ∧ j = 1) → ¬ k = 16 → ¬ k = 36 → ¬ k = 37 → ¬ k = 42 → ¬ k = 44 → v20.1 k j = v17.1 k j := fun k j h0 h1 h2 h3 h4 h5 => by
    rw [s20 k j h0, ri.1 k j h1 h2 h3, r8 k j h4 h5]
  have z26 : v20.1 26 1 = v.1 26 1 := by
    rw [sh.2.1 26 1 rfl, sI_same]
  have fr0 : ∀ i, i < n → v.1 36 (en i / 2) = 0 := fun i hi => i32_z (pa.2.1 i hi).2
  have z36 : ∀ p, v20.1 36 p = v.1 36 p := fun p => by
    rw [s20 36 p (fun e => absurd e.1 (by decide))]
    by_cases q : ∃ j, j < n ∧ en j / 2 = p
    · rw [(ri.2.2.1 p).1 q]
      obtain ⟨j, hj, e⟩ := q
      rw [← e]
      exact (fr0 j hj).symm
    · have q' : ∀ j, j < n → ¬ en j / 2 = p := fun j hj e => q ⟨j, hj, e⟩
      rw [(ri.2.2.1 p).2 q', r8 36 p (by decide) (by decide)]
      exact (c7 p q').1
  have pn := pa.1
  have zth : ∀ t : Nat, v20.1 37 t = v.1 37 t ∧ v20.1 16 t = v.1 16 t := fun t => by
    rw [s20 37 t (fun e => absurd e.1 (by decide)), s20 16 t (fun e => absurd e.1 (by decide))]
    by_cases q : ∃ j, j + 1 < n ∧ (atM w (en (j + 1))).toNat = t
    · obtain ⟨j, hj, ej⟩ := q
      have R := (ri.2.2.2 t).1 ⟨j, by omega, hj, ej⟩
      have C := c8 j hj
      rw [show (fun i => (atM w (en (i + 1))).toNat) j = t from ej] at C
      obtain ⟨m, al⟩ := pa.2.2.2.1 j hj
      have a0 : 0 ≤ atM w (xo (en j)) := al.1
      have a1 : atM w (en (j + 1)) = atM w (xo (en j)) := al.2.1
      have eb := (pa.2.1 j (by omega)).1
      have eb' : ((en j : Nat) : Int) < 2 * pM w := eb
      have xb := xo_lt (e := en j) (N := (pM w).toNat) (by omega)
      have at1 : atM w (xo (en j)) < tM w := by
        have q1 := (hr.1.2.1.1 (xo (en j)) (by have q : pC (mx v w) = pM w := hr.1.1.2.1; rw [q]; omega)).1
        have q2 : atC (mx v w) (xo (en j)) = atM w (xo (en j)) := (hr.1.1.2.2.2 (xo (en j)) (by show ((xo (en j) : Nat) : Int) < 2 * pM w; omega)).1
        have q3 : tC (mx v w) = tM w := hr.1.1.1
        rw [q2, q3] at q1
        exact q1
      have ht : (t : Int) < tM w := by omega
      have cn : (v.1 37 t).toInt = ctb (hldB (mx v w) t) (nwy (mx v w)) := hy.2.2.2.2.1.2.2 t ht
      have ln := ctb_n (hldB (mx v w) t) (nwy (mx v w))
      have nw := (w_n hy.1).2
      have k17 : v18.1 37 t = v.1 37 t + (1 : Int32) := by
        rw [r8 37 t (by decide) (by decide)]
        exact C.1
      have k37 : v18.1 37 t - (1 : Int32) = v.1 37 t := by
        rw [k17]
        exact i32_pm cn (by omega) (by omega)
      have k9 : v18.1 9 t = v.1 9 t := by
        rw [r8 9 t (by decide) (by decide)]
        exact c1 9 t (by decide) rfl
      have k40 : v18.1 40 t = v.1 16 t := by
        rw [r8 40 t (by decide) (by decide)]
        exact C.2.1
      have k16 : v18.1 16 t = (if (v.1 9 t).toInt = 8 then v.1 16 t else ndV v (xo (en j)) (en (j + 1)) t) := by
        rw [r8 16 t (by decide) (by decide)]
        exact C.2.2
      have xr : xR v18 1 t = v.1 16 t := by
        unfold xR
        rw [if_neg (by decide), k40]
      rw [R.1, R.2, k37, k9, xr]
      refine ⟨rfl, ?_⟩
      by_cases d : (v.1 37 t).toInt = 0 ∧ ¬ (v.1 9 t).toInt = 8
      · rw [if_pos d]
      · rw [if_neg d, k16]
        by_cases d2 : (v.1 9 t).toInt = 8
        · rw [if_pos d2]
        · rw [if_neg d2]
          have n0 : ¬ (v.1 37 t).toInt = 0 := fun e => d ⟨e, d2⟩
          have nu : ¬ unH (mx v w) t := fun un => n0 ((ov_x hy.1 hy.2.2.2.2.1 t ht).mpr un)
          rcases op_th (u := mx v w) T hr.1 pb hr.2.1.1 pa ht with ⟨_, y2⟩ | ⟨i, y1, y2, y3, y4, y5⟩
          · exact absurd ej (y2 j hj)
          · have ij : i = j := pa.2.2.2.2.2.1 i j y1 hj (by rw [y3]; show (t : Int) = atM w (en (j + 1)); omega)
            rw [ij] at y5
            rcases y5 with y5 | y5
            · exact absurd y5.2.2 nu
            · have e1 : ndV v (xo (en j)) (en (j + 1)) t = f.1 192 t := y5.2.2.1
              rw [e1]
              rcases y5.2.2.2.2 with y6 | y6
              · exact absurd y6 nu
              · have e2 : v.1 16 t = w.1 167 t := (hr.1.1.2.2.1 t ht).2.2
                have e3 : w.1 167 t = f.1 192 t := y6
                rw [e2, e3]
    · have q' : ∀ j, j + 1 < n → ¬ (fun i => (atM w (en (i + 1))).toNat) j = t := fun j hj e => q ⟨j, hj, e⟩
      have R := (ri.2.2.2 t).2 (fun j _ hj => q' j hj)
      have C := c9 t q'
      rw [R.1, R.2, r8 37 t (by decide) (by decide), r8 16 t (by decide) (by decide)]
      exact C
  have agU : ∀ m : Pl, off lOw m = true → Ag m (mx v w) (mx v20 w') := fun m hm => mx_ag (fun k j hk => by
    have q := off_hit hm hk
    refine ⟨fun h => ?_, fun _ => uw k j ?_⟩
    · have z := lOw_c q
      have nz := of_n z.1
      rw [r20 k j z.2.2.2.2.1 nz.1 nz.2.2.2.1 nz.2.2.2.2.1 z.2.2.2.2.2.2.1 z.2.2.2.2.2.2.2]
      exact c1 k j h q
    · cases q6 : hit lUn k j with
      | false => rfl
      | true =>
        rw [sub_hit (show sub lUn lOw = true by decide) q6] at q
        cases q)
  have agW : Ag lWf (mx v w) (mx v20 w') := mx_ag (fun k j hk => by
    refine ⟨fun h => ?_, fun h => uw k j ?_⟩
    · by_cases k36 : k = 36
      · rw [k36]
        exact z36 j
      · by_cases k37 : k = 37
        · rw [k37]
          exact (zth j).1
        · by_cases k26 : k = 26 ∧ j = 1
          · rw [k26.1, k26.2]
            exact z26
          · exfalso
            obtain ⟨x, hx, ex⟩ := hit_in hk
            have hk' := hk
            unfold lWf at hx
            simp only [List.mem_cons, List.not_mem_nil, or_false] at hx
            rcases hx with hx | hx | hx | hx | hx | hx | hx | hx | hx | hx | hx
            · rw [hx] at ex
              have j1 : ¬ j = 1 := fun e => k26 ⟨ex.symm, e⟩
              rw [← ex] at hk'
              have : hit lWf 26 j = true := hk'
              unfold hit lWf at this
              simp only [List.any_cons, List.any_nil] at this
              have b1 : (1 == j) = false := beq_false_of_ne (fun e => j1 e.symm)
              rw [b1] at this
              cases this
            · rw [hx] at ex
              exact k36 ex.symm
            · rw [hx] at ex
              exact k37 ex.symm
            all_goals (rw [hx] at ex; simp only at ex; omega)
    · cases q6 : hit lUn k j with
      | false => rfl
      | true =>
        have := off_hit (l := lWf) (d := lUn) (by decide) q6
        rw [this] at hk
        cases hk)
  have e16 : ∀ t : Nat, (t : Int) < tM w → (mx v20 w').1 16 t = (mx v20 w').1 167 t := fun t ht => by
    rw [mx_c _ _ (by decide), mx_m _ _ (by decide), (zth t).2, uw7 t ht]
    exact (hr.1.1.2.2.1 t ht).2.2
  have m := tM_m (agU lPm rfl)
  refine ⟨HPl_p (agU lP0 rfl) e16 hr.1, HTb_ag (agU lTq rfl) hr.2.1, HSk_p (agU lPm rfl) (agU lSk rfl) (fun j => ?_) hr.2.2.1, HWy_f (agU lPm rfl) agW (fun k j hk hj => ?_) (fun p hp => ?_) (fun p => agU [(17, none)] rfl 17 _ rfl) (fun k t hk ht n1 k2 => ?_) hy⟩
  · rw [mx_j _ _ (by decide), mx_j _ _ (by decide), sh.1]
    show w0.2.1 20 j = v.2.1 20 j
    rw [ri.2.1, os.2.1 20 j (by decide) (by decide) (by decide), c2]
  · have q := sh_c hk
    have jW : ¬ j = W := by
      have e : nwy (mx v w) = (w.1 127 26).toInt.toNat := rfl
      omega
    rw [mx_c _ _ (by omega), mx_c _ _ (by omega), r20 k j (fun e => by have := e.1; omega) (by omega) (by omega) (by omega) (by omega) (by omega)]
    exact c4 k j hk jW
  · have np : ∀ j, j < n → ¬ en j / 2 = p := fun j hj e => by
      have b := (pa.2.1 j hj).1
      have b' : ((en j : Nat) : Int) < 2 * pM w := b
      have q := (hy.2.2.1.1 p (by show (p : Int) < pM w; omega)).mp (by rw [← e]; exact (pa.2.1 j hj).2)
      exact q hp
    have C := c7 p np
    rw [mx_c _ _ (by decide), mx_c _ _ (by decide), mx_c v20 w' (c := 35) (by decide), mx_c v w (c := 35) (by decide), r20 34 p (fun e => absurd e.1 (by decide)) (by decide) (by decide) (by decide) (by decide) (by decide), r20 35 p (fun e => absurd e.1 (by decide)) (by decide) (by decide) (by decide) (by decide) (by decide)]
    exact C.2
  · rw [m.1] at ht
    have ht' : (t : Int) < tM w := ht
    rw [agW 127 26 rfl] at hk
    rw [agW 187 _ rfl] at n1 ⊢
    rw [agU [(163, none)] rfl 163 t rfl] at k2
    have q := hy.2.2.2.2.1.2.1 k t hk ht n1 k2
    rw [q]
    show w.1 167 t = w'.1 167 t
    exact (uw7 t ht').symm
