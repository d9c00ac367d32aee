/-! a way is added: the house behind it -/
/-- the class's table tells what the reference wants -/
theorem al_nd {z : MW} {fr : Nat → Prop} (h : PLq z) (hx : PX z) (hb : PB z) (nd : NDt z) {o g : Nat} {m : Int32} (ho : (o : Int) < 2 * pM z) (hg : (g : Int) < 2 * pM z) (al : ALf fr z o g m) (k1 : ¬ (z.1 163 (atM z o).toNat).toInt = 1) : ndV z o g (atM z o).toNat = m ∧ 0 ≤ m.toInt ∧ m.toInt ≤ 9 := by
  obtain ⟨a0, eg, ngo, ntM, _, q⟩ := al
  have T := hb.1
  have oC : (o : Int) < 2 * pC z := by rw [h.2.1]; exact ho
  have gC : (g : Int) < 2 * pC z := by rw [h.2.1]; exact hg
  have aO := (h.2.2.2 o ho).1
  have aG := (h.2.2.2 g hg).1
  have alM : atM z o < tM z := by rw [← aO, ← h.1]; exact (hx.1 o oC).1
  have ntC : ¬ tkC z (atC z o) := by
    rw [aO, tk_e h a0 alM]
    exact ntM
  have eC : atC z g = atC z o := by rw [aG, eg, aO]
  have pO := (h.2.2.2 o ho).2 a0 ntM
  have pG := (h.2.2.2 g hg).2 (by rw [eg]; exact a0) (by rw [eg]; exact ntM)
  rw [eg] at pG
  have K := h.2.2.1 (atM z o).toNat (by omega)
  have km := K.2.1
  have kb := K.1
  have nK0 : ¬ (z.1 163 (atM z o).toNat).toInt = 0 := ntM
  unfold kmp at km
  rw [if_neg nK0, if_neg k1] at km
  have npo : ¬ poC z o = poC z g := fun e => ngo (px_inj hx hb oC gC (by rw [aO]; exact a0) ntC eC e.symm)
  have p4 : poC z o < 4 := by
    have := hb.2.2.2.2 o
    unfold poC
    omega
  have g4 : poC z g < 4 := by
    have := hb.2.2.2.2 g
    unfold poC
    omega
  have kN : (kC z (atM z o).toNat).toNat < 8 := by omega
  have t := ndt_v kN p4 g4 npo pO.2 pG.2
  have eK : nI (kC z (atM z o).toNat).toNat = (z.1 163 (atM z o).toNat) - (2 : Int32) := by
    apply ti_inj
    rw [nI_toInt (by omega), ti_sub2 rfl (by decide : ((2 : Int32)).toInt = 2) (by omega) (by omega)]
    omega
  have e1 : nI (poC z o) = z.1 171 o := by
    rw [← pO.1]
    exact nI_tn (hb.2.2.2.2 o).1
  have e2 : nI (poC z g) = z.1 171 g := by
    rw [← pG.1]
    exact nI_tn (hb.2.2.2.2 g).1
  rw [eK, e1, e2] at t
  rcases q with q | ⟨_, ls, nn, _⟩
  · exact absurd q.1 k1
  · have en := LsS_u t ls
    refine ⟨?_, ?_⟩
    · unfold ndV
      have ek : (z.1 9 (atM z o).toNat).toInt = kC z (atM z o).toNat := rfl
      rw [ek, nd _ (by omega)]
      exact en
    · rcases ls with ⟨e, _⟩ | ⟨p, hp, e, _⟩
      · rw [e, m1_i] at nn
        exact absurd rfl nn
      · rw [e, nI_toInt (by omega)]
        omega
def aTr : Nat → Prop := fun _ => True
/-- the path, in the house's words -/
def PaU (u f : MW) (a b : Int) (n : Nat) (en : Nat → Nat) : Prop := (1 ≤ n ∧ n ≤ 24) ∧ (∀ i, i < n → (en i : Int) < 2 * pM u ∧ (u.1 36 (en i / 2)).toInt = 0) ∧ (atM u (en 0) = a ∧ atM u (xo (en (n - 1))) = b) ∧ (∀ i, i + 1 < n → ∃ m, ALf aTr u (xo (en i)) (en (i + 1)) m) ∧ (∀ i j, i < n → j < n → en i / 2 = en j / 2 → i = j) ∧ (∀ i j, i + 1 < n → j + 1 < n → atM u (en (i + 1)) = atM u (en (j + 1)) → i = j) ∧ ∀ t : Nat, t < 20 → ((f.1 192 t).toInt = -1 ∧ ∀ i, i + 1 < n → ¬ atM u (en (i + 1)) = t) ∨ ∃ i, i + 1 < n ∧ atM u (en (i + 1)) = t ∧ ALf aTr u (xo (en i)) (en (i + 1)) (f.1 192 t)
theorem pa_u {v w z w5 : MW} {a b : Int} {n : Nat} {en : Nat → Nat} (hr : HRq (mx v w)) (bz : BsZ w z) (p : PaF w z w5 a b n en) : PaU (mx v w) w5 a b n en := by
  obtain ⟨p1, _, p3, p4, p5, p6, p7, p8, p9⟩ := p
  have al : ∀ o g m, AL z o g m → ALf aTr (mx v w) o g m := fun o g m q => by
    have q' : ALf (fun _ => frM z g) w o g m := (ALf_c (fr := fun _ => frM z g) (fr' := frM z) bz.1.1 Iff.rfl m).mp q
    exact ⟨q'.1, q'.2.1, q'.2.2.1, q'.2.2.2.1, trivial, q'.2.2.2.2.2⟩
  refine ⟨p1, fun i hi => ⟨(p3 i hi).2.1, (fr_two hr bz (p3 i hi).2.1).mpr (p3 i hi).2.2⟩, ⟨p4, p5⟩, fun i hi => ?_, p7, p8, fun t ht => ?_⟩
  · obtain ⟨m, q⟩ := p6 i hi
    exact ⟨m, al _ _ _ q⟩
  · rcases p9 t ht with q | ⟨i, q1, q2, q3⟩
    · exact Or.inl q
    · exact Or.inr ⟨i, q1, q2, al _ _ _ q3⟩
def lOw : Pl := [(16, none), (26, some 1), (26, some 15), (27, none), (28, none), (29, none), (30, none), (31, none), (32, none), (33, none), (34, none), (35, none), (36, none), (37, none), (38, none), (39, none), (40, none), (42, none), (44, none), (127, some 26), (127, some 39), (127, some 45), (127, some 46), (127, some 47), (127, some 48), (167, none), (181, none), (182, none), (183, none), (184, none), (185, none), (186, none), (187, none), (188, none), (189, none), (190, none), (191, none), (192, none), (194, none)]
/-- what opening leaves -/
def OpF (u u' f : MW) (W n : Nat) (en : Nat → Nat) (a b c l : Int32) : Prop := (∀ m : Pl, off lOw m = true → Ag m u u') ∧ (u'.1 26 1 = u'.1 127 26 ∧ (u'.1 127 26).toInt = (W : Int) + 1 ∧ W = nwy u ∧ W < 24) ∧ (∀ k j, shC k = true ∨ msC k = true → j < W → u'.1 k j = u.1 k j) ∧ ((u'.1 27 W = a ∧ u'.1 28 W = b ∧ u'.1 29 W = c ∧ u'.1 30 W = l ∧ u'.1 31 W = u'.1 185 W ∧ u'.1 32 W = nI (en 0 / 2) ∧ u'.1 33 W = nI (en (n - 1) / 2)) ∧ (u'.1 181 W = a ∧ u'.1 182 W = b ∧ u'.1 183 W = l ∧ u'.1 184 W = c ∧ (u'.1 185 W).toInt = n)) ∧ ((∀ j i, j < W → i < 24 → u'.1 186 (24 * j + i) = u.1 186 (24 * j + i)) ∧ ∀ i, i < n → u'.1 186 (24 * W + i) = nI (en i)) ∧ ((∀ j t, j < W → t < 20 → u'.1 187 (20 * j + t) = u.1 187 (20 * j + t)) ∧ ∀ t : Nat, (t : Int) < tM u → u'.1 187 (20 * W + t) = f.1 192 t) ∧ ((∀ j, j < n → u'.1 36 (en j / 2) = 1 ∧ u'.1 34 (en j / 2) = nI (xo (en j)) ∧ u'.1 35 (en j / 2) = (if j + 1 < n then nI (en (j + 1) / 2) else -1)) ∧ ∀ q, (∀ j, j < n → ¬ en j / 2 = q) → u'.1 36 q = u.1 36 q ∧ u'.1 34 q = u.1 34 q ∧ u'.1 35 q = u.1 35 q) ∧ ((∀ j, j + 1 < n → u'.1 37 (atM u (en (j + 1))).toNat = u.1 37 (atM u (en (j + 1))).toNat + (1 : Int32) ∧ u'.1 16 (atM u (en (j + 1))).toNat = (if (u.1 9 (atM u (en (j + 1))).toNat).toInt = 8 then u.1 16 (atM u (en (j + 1))).toNat else ndV u (xo (en j)) (en (j + 1)) (atM u (en (j + 1))).toNat)) ∧ ∀ t, (∀ j, j + 1 < n → ¬ (atM u (en (j + 1))).toNat = t) → u'.1 37 t = u.1 37 t ∧ u'.1 16 t = u.1 16 t) ∧ (∀ t : Nat, (t : Int) < tM u → u'.1 167 t = (if 2 ≤ (u.1 163 t).toInt ∧ ¬ (f.1 192 t).toInt = -1 then f.1 192 t else u.1 167 t))
/-- a thing of the way -/
theorem op_th {u f : MW} {a b : Int} {n : Nat} {en : Nat → Nat} (T : 0 ≤ tM u ∧ tM u ≤ 20) (hp : HPl u) (hb : PB u) (nd : NDt u) (pa : PaU u f a b n en) {t : Nat} (ht : (t : Int) < tM u) : (((f.1 192 t).toInt = -1 ∧ ∀ i, i + 1 < n → ¬ (atM u (en (i + 1))).toNat = t) ∨ ∃ i, i + 1 < n ∧ (atM u (en (i + 1))).toNat = t ∧ atM u (en (i + 1)) = t ∧ ¬ (f.1 192 t).toInt = -1 ∧ (((u.1 163 t).toInt = 1 ∧ (u.1 9 t).toInt = 8 ∧ unH u t) ∨ (2 ≤ (u.1 163 t).toInt ∧ ¬ (u.1 9 t).toInt = 8 ∧ ndV u (xo (en i)) (en (i + 1)) t = f.1 192 t ∧ (0 ≤ (f.1 192 t).toInt ∧ (f.1 192 t).toInt ≤ 9) ∧ (unH u t ∨ u.1 167 t = f.1 192 t)))) := by
  rcases pa.2.2.2.2.2.2 t (by omega) with ⟨q1, q2⟩ | ⟨i, q1, q2, al⟩
  · refine Or.inl ⟨q1, fun i hi e => q2 i hi ?_⟩
    obtain ⟨m, al⟩ := pa.2.2.2.1 i hi
    have a0 := al.1
    have a1 := al.2.1
    omega
  · have P := hb.2.1
    have eP := hp.1.2.1
    have e1 := (pa.2.1 i (by omega)).1
    have e2 := (pa.2.1 (i + 1) q1).1
    have x := xo_lt (e := en i) (N := (pM u).toNat) (by omega)
    have ao : atM u (xo (en i)) = (t : Int) := by rw [← al.2.1]; exact q2
    have an : (atM u (xo (en i))).toNat = t := by omega
    have K := hp.1.2.2.1 t ht
    have nt : ¬ (u.1 163 t).toInt = 0 := by
      have z := al.2.2.2.1
      rw [ao] at z
      exact z
    have km := K.2.1
    have kb := K.1
    unfold kC kmp at km
    rw [if_neg nt] at km
    refine Or.inr ⟨i, q1, by omega, q2, ?_, ?_⟩
    · have z := al.2.2.2.2.2
      rcases z with z | z
      · rw [z.2.2.2]
        decide
      · exact z.2.2.1
    · by_cases k1 : (u.1 163 t).toInt = 1
      · rw [if_pos k1] at km
        have z := al.2.2.2.2.2
        rw [ao] at z
        rcases z with z | z
        · exact Or.inl ⟨k1, km, z.2.2.1⟩
        · exact absurd k1 z.1
      · rw [if_neg k1] at km
        have N := al_nd hp.1 hp.2.1 hb nd (by omega) e2 al (by rw [an]; exact k1)
        rw [an] at N
        have z := al.2.2.2.2.2
        rw [ao] at z
        refine Or.inr ⟨by omega, by omega, N.1, N.2, ?_⟩
        rcases z with z | z
        · exact absurd z.1 k1
        · exact z.2.2.2
/-- positions, and how many ways go over a thing -/
theorem op_t {u u' f : MW} {W n : Nat} {en : Nat → Nat} {a b c l : Int32} (T : 0 ≤ tM u ∧ tM u ≤ 20) (hp : HPl u) (hb : PB u) (nd : NDt u) (hy : HWy u) (pa : PaU u f a.toInt b.toInt n en) (o : OpF u u' f W n en a b c l) {t : Nat} (ht : (t : Int) < tM u) : u'.1 16 t = u'.1 167 t ∧ (0 ≤ (u'.1 16 t).toInt ∧ (u'.1 16 t).toInt ≤ 9) ∧ (u'.1 37 t).toInt = ctb (hldB u' t) (W + 1) ∧ ((∃ k, k < W ∧ hldB u t k = true) → u'.1 167 t = u.1 167 t) ∧ (hldB u' t W = true ↔ ∃ i, i + 1 < n ∧ atM u (en (i + 1)) = t) := by
  obtain ⟨ag, ⟨_, _, oW, W24⟩, _, _, _, ⟨o187, o187n⟩, _, ⟨o37, o37n⟩, o167⟩ := o
  have tC' : (t : Int) < tC u := by rw [hp.1.1]; exact ht
  have b16 := hb.2.2.2.1 t tC'
  have e16 := (hp.1.2.2.1 t ht).2.2
  have n26 := (w_n hy.1).1
  have c37 := hy.2.2.2.2.1.2.2 t ht
  rw [← oW] at c37
  have cs : ctb (hldB u' t) W = ctb (hldB u t) W := ctb_same _ (fun k hk => by
    unfold hldB
    rw [o187 k t hk (by omega)])
  have le := ctb_n (hldB u t) W
  have hW : hldB u' t W = decide (¬ (f.1 192 t).toInt = -1) := by
    unfold hldB
    rw [o187n t ht]
  have heldn : (∃ k, k < W ∧ hldB u t k = true) → ¬ unH u t := fun q un => by
    obtain ⟨k, hk, e⟩ := q
    have e' : ¬ (u.1 187 (20 * k + t)).toInt = -1 := of_decide_eq_true e
    exact e' (un k (by omega))
  rw [ctb_s, cs]
  rcases op_th T hp hb nd pa ht with ⟨q1, q2⟩ | ⟨i, q1, q2, q2', q3, q4⟩
  · have z := o37n t q2
    have z7 := o167 t ht
    rw [if_neg (fun y => y.2 q1)] at z7
    rw [z.1, z.2, z7, hW, decide_eq_false (fun y => y q1), if_neg (by decide)]
    refine ⟨e16, b16, by omega, fun _ => rfl, ⟨(fun y => by cases y), fun y => ?_⟩⟩
    obtain ⟨i, hi, ei⟩ := y
    exact absurd (by omega) (q2 i hi)
  · have z := o37 i q1
    rw [q2] at z
    have z7 := o167 t ht
    have s37 : (u.1 37 t + (1 : Int32)).toInt = (u.1 37 t).toInt + 1 := ti_add2 rfl i_1 (by omega) (by omega)
    rw [z.1, z.2, z7, hW, decide_eq_true q3, if_pos rfl, s37]
    refine ⟨?_, ?_, by omega, fun y => ?_, ⟨fun _ => ⟨i, q1, q2'⟩, fun _ => rfl⟩⟩
    · rcases q4 with q4 | q4
      · have c1 : ¬ (2 ≤ (u.1 163 t).toInt ∧ ¬ (f.1 192 t).toInt = -1) := fun y => by have := y.1; omega
        rw [if_pos q4.2.1, if_neg c1]
        exact e16
      · have c1 : 2 ≤ (u.1 163 t).toInt ∧ ¬ (f.1 192 t).toInt = -1 := ⟨q4.1, q3⟩
        rw [if_neg q4.2.1, if_pos c1]
        exact q4.2.2.1
    · rcases q4 with q4 | q4
      · rw [if_pos q4.2.1]
        exact b16
      · rw [if_neg q4.2.1, q4.2.2.1]
        exact q4.2.2.2.1
    · have nu := heldn y
      rcases q4 with q4 | q4
      · exact absurd q4.2.2 nu
      · have c1 : 2 ≤ (u.1 163 t).toInt ∧ ¬ (f.1 192 t).toInt = -1 := ⟨q4.1, q3⟩
        rw [if_pos c1]
        rcases q4.2.2.2.2 with y | y
        · exact absurd y nu
        · exact y.symm
/-- the ways, with the new one -/
theorem op_wy {u u' f : MW} {W n : Nat} {en : Nat → Nat} {a b c l : Int32} (T : 0 ≤ tM u ∧ tM u ≤ 20) (P : 0 ≤ pM u ∧ pM u ≤ 24) (hp : HPl u) (hb : PB u) (nd : NDt u) (hy : HWy u) (ta : 0 ≤ a.toInt ∧ a.toInt < tM u ∧ tkM u a.toInt) (tb : 0 ≤ b.toInt ∧ b.toInt < tM u ∧ tkM u b.toInt) (ab : ¬ a.toInt = b.toInt) (hc : 1 ≤ c.toInt ∧ c.toInt ≤ 100) (hl : 1 ≤ l.toInt ∧ l.toInt ≤ 14) (h17 : ∀ i, i < n → u.1 17 ((tM u).toNat + en i / 2) = 0 ∨ u.1 17 ((tM u).toNat + en i / 2) = l) (pa : PaU u f a.toInt b.toInt n en) (o : OpF u u' f W n en a b c l) : HWy u' := by
  have ot := fun (t : Nat) (ht : (t : Int) < tM u) => op_t T hp hb nd hy pa o ht
  obtain ⟨ag, ⟨o1, o2, oW, W24⟩, o3, ⟨o4, o5⟩, ⟨o6, o7⟩, ⟨o8, o9⟩, ⟨o10, o11⟩, _, o167⟩ := o
  obtain ⟨pn, p2, p3, p4, p5, p6, p7⟩ := pa
  obtain ⟨hy1, hy2, hy3, hy4, hy5, hy6⟩ := hy
  obtain ⟨m1, m2, m3, m4⟩ := tM_m (ag lPm rfl)
  have wn := w_n hy1
  have nn : nwy u' = W + 1 := by
    unfold nwy
    omega
  have old : ∀ k, k < W → k < nwy u := fun k hk => by omega
  have fl : ∀ k, k < W → wln u' k = wln u k := fun k hk => by
    unfold wln
    rw [o3 185 k (Or.inr rfl) hk]
  have flW : wln u' W = n := by
    unfold wln
    omega
  have l24 : ∀ k, k < W → 1 ≤ wln u k ∧ wln u k ≤ 24 := fun k hk => (w_l hy1 (old k hk)).2
  have fe : ∀ k i, k < W → i < wln u k → ent u' k i = ent u k i := fun k i hk hi => by
    unfold ent
    rw [o6 k i hk (by have := l24 k hk; omega)]
  have e48 : ∀ i, i < n → en i < 48 := fun i hi => by
    have := (p2 i hi).1
    omega
  have feW : ∀ i, i < n → ent u' W i = en i := fun i hi => by
    have := e48 i hi
    unfold ent
    rw [o7 i hi, nI_toInt (by omega)]
    omega
  have np : ∀ k i j, k < W → i < wln u k → j < n → ¬ en j / 2 = ent u k i / 2 := fun k i j hk hi hj e => by
    have q := (p2 j hj).2
    have e1 := (p2 j hj).1
    refine (hy3.1 (en j / 2) (by omega)).mp q ⟨k, i, old k hk, hi, e.symm⟩
  have on : ∀ p, onN u' p ↔ onN u p ∨ ∃ i, i < n ∧ en i / 2 = p := fun p => by
    constructor
    · intro q
      obtain ⟨k, i, hk, hi, e⟩ := q
      rw [nn] at hk
      by_cases c1 : k = W
      · rw [c1, flW] at hi
        rw [c1, feW i hi] at e
        exact Or.inr ⟨i, hi, e⟩
      · rw [fl k (by omega)] at hi
        rw [fe k i (by omega) hi] at e
        exact Or.inl ⟨k, i, old k (by omega), hi, e⟩
    · intro q
      rcases q with ⟨k, i, hk, hi, e⟩ | ⟨i, hi, e⟩
      · have hk' : k < W := by omega
        exact ⟨k, i, by omega, by rw [fl k hk']; exact hi, by rw [fe k i hk' hi]; exact e⟩
      · exact ⟨W, i, by omega, by rw [flW]; exact hi, by rw [feW i hi]; exact e⟩
  refine ⟨?_, ?_, ?_, ?_, ?_, ?_⟩
  · unfold WRa
    rw [nn, m1, m4]
    refine ⟨o1, by omega, by omega, fun k hk => ?_⟩
    by_cases c1 : k = W
    · rw [c1, o4.1, o4.2.1, o4.2.2.1, o4.2.2.2.1, o4.2.2.2.2.1, o5.1, o5.2.1, o5.2.2.1, o5.2.2.2.1, o5.2.2.2.2]
      exact ⟨⟨rfl, rfl, rfl, rfl, rfl⟩, by omega, hl, hc, ta, tb, ab⟩
    · have hj : k < W := by omega
      rw [o3 27 k (Or.inl rfl) hj, o3 28 k (Or.inl rfl) hj, o3 29 k (Or.inl rfl) hj, o3 30 k (Or.inl rfl) hj, o3 31 k (Or.inl rfl) hj, o3 181 k (Or.inr rfl) hj, o3 182 k (Or.inr rfl) hj, o3 183 k (Or.inr rfl) hj, o3 184 k (Or.inr rfl) hj, o3 185 k (Or.inr rfl) hj]
      exact hy1.2.2.2 k (old k hj)
  · unfold WRb
    rw [nn, m2]
    intro k hk
    by_cases c1 : k = W
    · rw [c1, flW, o4.2.2.2.2.2.1, o4.2.2.2.2.2.2, feW 0 (by omega), feW (n - 1) (by omega)]
      refine ⟨fun i hi => ?_, rfl, rfl⟩
      have q := o10 i hi
      rw [o7 i hi, feW i hi, q.2.1, q.2.2, nI_toInt (by have := e48 i hi; omega)]
      refine ⟨⟨by omega, (p2 i hi).1⟩, rfl, ?_⟩
      by_cases c2 : i + 1 < n
      · rw [if_pos c2, if_pos c2, feW (i + 1) c2]
      · rw [if_neg c2, if_neg c2]
    · have hj : k < W := by omega
      have B := hy2 k (old k hj)
      have l1 := l24 k hj
      rw [fl k hj, o3 32 k (Or.inl rfl) hj, o3 33 k (Or.inl rfl) hj, fe k 0 hj (by omega), fe k _ hj (by omega)]
      refine ⟨fun i hi => ?_, B.2⟩
      have B1 := B.1 i hi
      have q := o11 (ent u k i / 2) (fun j hj' => np k i j hj hi hj')
      rw [o6 k i hj (by omega), fe k i hj hi, q.2.1, q.2.2]
      refine ⟨B1.1, B1.2.1, ?_⟩
      rw [B1.2.2]
      by_cases c2 : i + 1 < wln u k
      · rw [if_pos c2, if_pos c2, fe k (i + 1) hj c2]
      · rw [if_neg c2, if_neg c2]
  · unfold WRc
    rw [nn, m2]
    refine ⟨fun p hp' => ?_, fun k i k' i' hk hi hk' hi' e => ?_⟩
    · rw [on p]
      by_cases q : ∃ i, i < n ∧ en i / 2 = p
      · obtain ⟨i, hi, e⟩ := q
        rw [← e, (o10 i hi).1]
        exact ⟨fun z => absurd z (by decide), fun z => absurd (Or.inr ⟨i, hi, rfl⟩) z⟩
      · rw [(o11 p (fun j hj e => q ⟨j, hj, e⟩)).1, hy3.1 p hp']
        exact ⟨fun z y => y.elim z q, fun z y => z (Or.inl y)⟩
    · by_cases c1 : k = W
      · rw [c1, flW] at hi
        rw [c1, feW i hi] at e
        by_cases c2 : k' = W
        · rw [c2, flW] at hi'
          rw [c2, feW i' hi'] at e
          exact ⟨by omega, p5 i i' hi hi' e⟩
        · rw [fl k' (by omega)] at hi'
          rw [fe k' i' (by omega) hi'] at e
          exact absurd e (np k' i' i (by omega) hi' hi)
      · rw [fl k (by omega)] at hi
        rw [fe k i (by omega) hi] at e
        by_cases c2 : k' = W
        · rw [c2, flW] at hi'
          rw [c2, feW i' hi'] at e
          exact absurd e.symm (np k i i' (by omega) hi hi')
        · rw [fl k' (by omega)] at hi'
          rw [fe k' i' (by omega) hi'] at e
          exact hy3.2 k i k' i' (old k (by omega)) hi (old k' (by omega)) hi' e
  · unfold WRd
    rw [nn, m3, m4]
    intro k hk
    by_cases c1 : k = W
    · rw [c1, flW, o5.1, o5.2.1, feW 0 (by omega), feW (n - 1) (by omega)]
      refine ⟨p3.1, p3.2, fun i hi => ?_, fun i j hi hj e => ?_⟩
      · obtain ⟨m, al⟩ := p4 i hi
        rw [feW i (by omega), feW (i + 1) hi, al.2.1]
        exact ⟨rfl, al.1, al.2.2.2.1⟩
      · rw [feW (i + 1) hi, feW (j + 1) hj] at e
        exact p6 i j hi hj e
    · have hj : k < W := by omega
      have D := hy4 k (old k hj)
      have l1 := l24 k hj
      rw [fl k hj, o3 181 k (Or.inr rfl) hj, o3 182 k (Or.inr rfl) hj, fe k 0 hj (by omega), fe k _ hj (by omega)]
      refine ⟨D.1, D.2.1, fun i hi => ?_, fun x y hx hy' e => ?_⟩
      · rw [fe k i hj (by omega), fe k (i + 1) hj hi]
        exact D.2.2.1 i hi
      · rw [fe k (x + 1) hj hx, fe k (y + 1) hj hy'] at e
        exact D.2.2.2 x y hx hy' e
  · unfold WRe
    rw [nn, m1, m3]
    refine ⟨fun k t hk ht => ?_, fun k t hk ht n1 k2 => ?_, fun t ht => (ot t ht).2.2.1⟩
    · by_cases c1 : k = W
      · have q := (ot t ht).2.2.2.2
        unfold hldB at q
        rw [decide_eq_true_iff] at q
        rw [c1, flW, q]
        constructor
        · intro z
          obtain ⟨i, z1, z2⟩ := z
          exact ⟨i, z1, by rw [feW (i + 1) z1]; exact z2⟩
        · intro z
          obtain ⟨i, z1, z2⟩ := z
          rw [feW (i + 1) z1] at z2
          exact ⟨i, z1, z2⟩
      · have hj : k < W := by omega
        rw [o8 k t hj (by omega), fl k hj, hy5.1 k t (old k hj) ht]
        constructor
        · intro q
          obtain ⟨i, q1, q2⟩ := q
          exact ⟨i, q1, by rw [fe k (i + 1) hj q1]; exact q2⟩
        · intro q
          obtain ⟨i, q1, q2⟩ := q
          rw [fe k (i + 1) hj q1] at q2
          exact ⟨i, q1, q2⟩
    · rw [m1] at ht
      rw [ag [(163, none)] rfl 163 t rfl] at k2
      by_cases c1 : k = W
      · rw [c1, o9 t ht] at n1 ⊢
        have c2 : 2 ≤ (u.1 163 t).toInt ∧ ¬ (f.1 192 t).toInt = -1 := ⟨k2, n1⟩
        rw [o167 t ht, if_pos c2]
      · have hj : k < W := by omega
        rw [o8 k t hj (by omega)] at n1 ⊢
        rw [(ot t ht).2.2.2.1 ⟨k, hj, decide_eq_true n1⟩]
        exact hy5.2.1 k t (by omega) ht n1 k2
  · unfold WRf
    rw [nn, m1]
    intro k i hk hi
    by_cases c1 : k = W
    · rw [c1, flW] at hi
      rw [c1, feW i hi, o5.2.2.1, ag [(17, none)] rfl 17 _ rfl]
      exact h17 i hi
    · have hj : k < W := by omega
      rw [fl k hj] at hi
      rw [fe k i hj hi, o3 183 k (Or.inr rfl) hj, ag [(17, none)] rfl 17 _ rfl]
      exact hy6 k i (old k hj) hi
theorem op_hr {u u' f : MW} {W n : Nat} {en : Nat → Nat} {a b c l : Int32} (T : 0 ≤ tM u ∧ tM u ≤ 20) (P : 0 ≤ pM u ∧ pM u ≤ 24) (hr : HRq u) (hb : PB u) (ta : 0 ≤ a.toInt ∧ a.toInt < tM u ∧ tkM u a.toInt) (tb : 0 ≤ b.toInt ∧ b.toInt < tM u ∧ tkM u b.toInt) (ab : ¬ a.toInt = b.toInt) (hc : 1 ≤ c.toInt ∧ c.toInt ≤ 100) (hl : 1 ≤ l.toInt ∧ l.toInt ≤ 14) (h17 : ∀ i, i < n → u.1 17 ((tM u).toNat + en i / 2) = 0 ∨ u.1 17 ((tM u).toNat + en i / 2) = l) (pa : PaU u f a.toInt b.toInt n en) (o : OpF u u' f W n en a b c l) (h20 : ∀ j, u'.2.1 20 j = u.2.1 20 j) : HRq u' := ⟨HPl_p (o.1 lP0 rfl) (fun t ht => (op_t T hr.1 hb hr.2.1.1 hr.2.2.2 pa o ht).1) hr.1, HTb_ag (o.1 lTq rfl) hr.2.1, HSk_p (o.1 lPm rfl) (o.1 lSk rfl) h20 hr.2.2.1, op_wy T P hr.1 hb hr.2.1.1 hr.2.2.2 ta tb ab hc hl h17 pa o⟩
