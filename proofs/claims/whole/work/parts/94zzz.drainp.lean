/-! drain: the pair -/
theorem ctb_z {f : Nat → Bool} : ∀ n, (∀ x, x < n → f x = false) → ctb f n = 0 := by
  intro n h
  have z : ctb f n = ctb (fun _ => false) n := ctb_same _ (fun x hx => h x hx)
  rw [z]
  have z2 : ∀ n, ctb (fun _ => false) n = 0 := fun n => by
    induction n with
    | zero => rfl
    | succ n ih =>
      show ctb (fun _ => false) n + (if false = true then 1 else 0) = 0
      rw [ih]
      rfl
  exact z2 n
def lHp : Pl := [(127, some 4), (127, some 26), (163, none), (167, none), (187, none)]
theorem HP_a {w w' : MW} (h : Ag lHp w w') (s : HP w) : HP w' := by
  intro k t hk ht n1 k2
  have m1 : tM w' = tM w := by
    unfold tM
    rw [h 127 4 rfl]
  rw [m1] at ht
  rw [h 127 26 rfl] at hk
  rw [h 187 _ rfl] at n1
  rw [h 163 _ rfl] at k2
  rw [h 187 _ rfl, h 167 _ rfl]
  exact s k t hk ht n1 k2
/-- a tank or pipe is drained: the house stays one -/
theorem dr_hr {v w v' w' : MW} {a : Nat} (hw : BND w) (hr : HRq (mx v w)) (a1 : (a : Int) < tM w + pM w) (dc : DrC v v' a) (dm : DrM w w' a) : HRq (mx v' w') := by
  have T := hb_T hw
  have P := hb_P hw
  obtain ⟨d17, d18, d19, d23, dO, d20⟩ := dc
  obtain ⟨d172, d165, d166, dN⟩ := dm
  have ag : ∀ m : Pl, off [(17, none), (18, none), (19, none), (23, none), (165, none), (166, none), (172, none)] m = true → Ag m (mx v w) (mx v' w') := fun m hm => mx_ag (fun k j hk => by
    have q := off_hit hm hk
    exact ⟨fun _ => dO k j (fun e => by rw [e] at q; cases q) (fun e => by rw [e] at q; cases q) (fun e => by rw [e] at q; cases q) (fun e => by rw [e] at q; cases q), fun _ => dN k j (fun e => by rw [e] at q; cases q) (fun e => by rw [e] at q; cases q) (fun e => by rw [e] at q; cases q)⟩)
  have tm := tM_m (ag lPm rfl)
  have tw : tM (mx v w) = tM w := rfl
  have pw : pM (mx v w) = pM w := rfl
  have tv : tC v = tM w := hr.1.1.1
  have e17 : ∀ j, (mx v' w').1 17 j = if j = a then 0 else (mx v w).1 17 j := fun j => by
    rw [mx_c _ _ (by decide), d17 j, mx_c _ _ (by decide)]
  have e18 : ∀ j, (mx v' w').1 18 j = if j = a ∧ ¬ ((mx v w).1 17 a).toInt = 0 then 0 else (mx v w).1 18 j := fun j => by
    rw [mx_c _ _ (by decide), d18 j, mx_c v w (c := 17) (by decide), mx_c v w (c := 18) (by decide)]
  have e19 : ∀ j, (mx v' w').1 19 j = if j = a ∧ ¬ ((mx v w).1 17 a).toInt = 0 then (mx v w).1 17 a else (mx v w).1 19 j := fun j => by
    rw [mx_c _ _ (by decide), d19 j, mx_c v w (c := 17) (by decide), mx_c v w (c := 19) (by decide)]
  have e23 : ∀ j, (mx v' w').1 23 j = if ¬ ((mx v w).1 17 a).toInt = 0 ∧ 6 * a + 1 ≤ j ∧ j ≤ 6 * a + 5 then -1 else (mx v w).1 23 j := fun j => by
    rw [mx_c _ _ (by decide), d23 j, mx_c v w (c := 17) (by decide), mx_c v w (c := 23) (by decide)]
  have e172 : ∀ j, (mx v' w').1 172 j = if tM w ≤ a ∧ 200 * ((a : Int) - tM w).toNat ≤ j ∧ j < 200 * ((a : Int) - tM w).toNat + 200 then 0 else (mx v w).1 172 j := fun j => by
    rw [mx_m _ _ (by decide), d172 j, mx_m v w (c := 172) (by decide)]
  have e165 : ∀ j, (mx v' w').1 165 j = if (a : Int) < tM w ∧ j = a then 0 else (mx v w).1 165 j := fun j => by
    rw [mx_m _ _ (by decide), d165 j, mx_m v w (c := 165) (by decide)]
  have e166 : ∀ j, (mx v' w').1 166 j = if (a : Int) < tM w ∧ j = a then 0 else (mx v w).1 166 j := fun j => by
    rw [mx_m _ _ (by decide), d166 j, mx_m v w (c := 166) (by decide)]
  have e20 : ∀ p i : Nat, i < 256 → ¬ (p : Int) = (a : Int) - tM w → cel (mx v' w') p i = cel (mx v w) p i := fun p i hi np => by
    unfold cel
    rw [mx_j _ _ (by decide), mx_j _ _ (by decide), d20, tv, if_neg (fun q => by have := q.1; have := q.2.1; have := q.2.2; omega)]
  have z20 : ∀ p i : Nat, i < 256 → (p : Int) = (a : Int) - tM w → cel (mx v' w') p i = false := fun p i hi np => by
    unfold cel
    rw [mx_j _ _ (by decide), d20, tv, if_pos ⟨by omega, by omega, by omega⟩]
    exact lb_0 _
  generalize mx v' w' = z' at *
  generalize mx v w = z at *
  obtain ⟨s1, s2, s3, s4, s5⟩ := hr.2.2.1
  refine ⟨HPl_ag (ag lPL rfl) hr.1, HTb_ag (ag lTq rfl) hr.2.1, ⟨?_, ?_, ?_, ?_, ?_⟩, HWy_q (ag lPm rfl) (ag lWy rfl) (fun p => ?_) (HP_a (ag lHp rfl) hr.2.2.2.2.2.2.2.1.2.1) hr.2.2.2⟩
  · unfold SKl
    rw [tm.1, tm.2.1, tm.2.2.2]
    refine ⟨fun t ht => ?_, fun p hp => ?_⟩
    · rw [e17, e165, e166]
      by_cases q : t = a
      · have c1 : (a : Int) < tM w ∧ t = a := ⟨by rw [← q, ← tw]; exact ht, q⟩
        rw [if_pos q, if_pos c1]
        exact ⟨fun _ => by rw [if_neg (by decide)], fun _ => rfl⟩
      · have c1 : ¬ ((a : Int) < tM w ∧ t = a) := fun z2 => q z2.2
        rw [if_neg q, if_neg c1, if_neg c1]
        exact s1.1 t ht
    · rw [ag [(169, none)] rfl 169 p rfl, e17]
      have s200 := (s4 p hp).2.1.2
      by_cases q : (tM z).toNat + p = a
      · rw [if_pos q]
        refine Or.inl ⟨rfl, fun k hk => ?_⟩
        rw [e172, if_pos ⟨by omega, by omega, by omega⟩]
      · rw [if_neg q]
        have same : ∀ k : Nat, (k : Int) < (z.1 169 p).toInt → z'.1 172 (200 * p + k) = z.1 172 (200 * p + k) := fun k hk => by
          rw [e172, if_neg (fun z2 => by have := z2.1; have := z2.2.1; have := z2.2.2; omega)]
        rcases s1.2 p hp with ⟨b, c⟩ | ⟨b, c, k, hk, d⟩
        · exact Or.inl ⟨b, fun k hk => by rw [same k hk]; exact c k hk⟩
        · exact Or.inr ⟨b, fun k hk => by rw [same k hk]; exact c k hk, k, hk, by rw [same k hk]; exact d⟩
  · unfold SKv
    rw [tm.1, tm.2.1, ag [(7, some 1)] rfl 7 1 rfl, ag [(127, some 78)] rfl 127 78 rfl]
    refine ⟨fun x hx => ?_, fun x l hx h1 h2 => ?_, s2.2.2⟩
    · rw [e17, e19, ag [(173, none)] rfl 173 x rfl]
      by_cases q : x = a
      · rw [if_pos q]
        refine ⟨fun _ => ?_, fun z2 => absurd i_0 z2⟩
        by_cases q2 : (z.1 17 a).toInt = 0
        · have c1 : ¬ (x = a ∧ ¬ (z.1 17 a).toInt = 0) := fun z2 => z2.2 q2
          rw [if_neg c1]
          exact (s2.1 x hx).1 (by rw [q]; exact q2)
        · have c1 : x = a ∧ ¬ (z.1 17 a).toInt = 0 := ⟨q, q2⟩
          rw [if_pos c1, ← q]
          exact (s2.1 x hx).2 (by rw [q]; exact q2)
      · have c1 : ¬ (x = a ∧ ¬ (z.1 17 a).toInt = 0) := fun z2 => q z2.1
        rw [if_neg q, if_neg c1]
        exact s2.1 x hx
    · rw [e23, ag [(174, none)] rfl 174 _ rfl]
      by_cases q : ¬ (z.1 17 a).toInt = 0 ∧ 6 * a + 1 ≤ 6 * x + l ∧ 6 * x + l ≤ 6 * a + 5
      · have xa : x = a := by
          have := q.2
          omega
        rw [if_pos q, ← s2.2.1 x l hx h1 h2]
        exact (s5 x l hx h1 h2 (by rw [xa]; exact q.1)).symm
      · rw [if_neg q]
        exact s2.2.1 x l hx h1 h2
  · unfold SKt
    rw [tm.1, tm.2.2.2]
    intro t ht tk
    have o := s3 t ht tk
    rw [e18, e165, e166, ag [(10, none)] rfl 10 t rfl, ag [(164, none)] rfl 164 t rfl]
    by_cases q : t = a
    · have at1 : (a : Int) < tM w := by rw [← q, ← tw]; exact ht
      have c1 : (a : Int) < tM w ∧ t = a := ⟨at1, q⟩
      rw [if_pos c1, if_pos c1]
      refine ⟨?_, o.2.1, by decide, by rw [i_0]; omega, fun z2 => absurd z2 (by decide)⟩
      by_cases q2 : (z.1 17 a).toInt = 0
      · have c3 : ¬ (t = a ∧ ¬ (z.1 17 a).toInt = 0) := fun z2 => z2.2 q2
        rw [if_neg c3, o.1]
        have e := (s1.1 t ht).1 tk
        have n0 : ¬ 0 < (z.1 165 t).toInt := fun z2 => by
          rw [if_pos z2, q] at e
          have := o.2.2.2.2 z2
          rw [q] at this
          rw [e] at q2
          omega
        exact i32_z (by omega)
      · have c3 : t = a ∧ ¬ (z.1 17 a).toInt = 0 := ⟨q, q2⟩
        rw [if_pos c3]
    · have c1 : ¬ ((a : Int) < tM w ∧ t = a) := fun z2 => q z2.2
      have c2 : ¬ (t = a ∧ ¬ (z.1 17 a).toInt = 0) := fun z2 => q z2.1
      rw [if_neg c2, if_neg c1, if_neg c1]
      exact o
  · unfold SKp
    rw [tm.1, tm.2.1]
    intro p hp
    have o := s4 p hp
    have r1 := o.2.1
    have r2 := o.2.2.1
    rw [ag [(12, none)] rfl 12 p rfl, ag [(169, none)] rfl 169 p rfl, ag [(21, none)] rfl 21 p rfl]
    have md : ∀ k, ((z.1 21 p).toInt.toNat + k) % (z.1 169 p).toInt.toNat < 256 := fun k => by
      have := Nat.mod_lt ((z.1 21 p).toInt.toNat + k) (show 0 < (z.1 169 p).toInt.toNat by omega)
      omega
    by_cases q : (tM z).toNat + p = a
    · have np : (p : Int) = (a : Int) - tM w := by omega
      have z172 : ∀ k : Nat, k < 200 → z'.1 172 (200 * p + k) = 0 := fun k hk => by
        rw [e172, if_pos ⟨by omega, by omega, by omega⟩]
      refine ⟨o.1, r1, r2, fun k hk => ?_, ?_⟩
      · rw [z20 p _ (md k) np, z172 k (by omega)]
        exact ⟨fun z2 => (by cases z2), fun z2 => absurd rfl z2⟩
      · rw [ctb_z _ (fun k hk => ?_), e18]
        · by_cases q2 : (z.1 17 a).toInt = 0
          · rw [if_neg (fun z2 => z2.2 q2), o.2.2.2.2]
            rw [ctb_z _ (fun k hk => ?_)]
            rcases s1.2 p hp with ⟨b, c⟩ | ⟨b, _⟩
            · rw [c k (by omega)]
              rfl
            · rw [q] at b
              exact absurd (i32_z q2) b
          · rw [if_pos ⟨q, q2⟩]
            rfl
        · rw [z172 k (by omega)]
          rfl
    · have np : ¬ (p : Int) = (a : Int) - tM w := by omega
      have same : ∀ k : Nat, k < 200 → z'.1 172 (200 * p + k) = z.1 172 (200 * p + k) := fun k hk => by
        rw [e172, if_neg (fun z2 => by have := z2.1; have := z2.2.1; have := z2.2.2; omega)]
      refine ⟨o.1, r1, r2, fun k hk => ?_, ?_⟩
      · rw [e20 p _ (md k) np, same k (by omega)]
        exact o.2.2.2.1 k hk
      · rw [e18, if_neg (fun z2 => q z2.1), o.2.2.2.2]
        exact congrArg (fun x : Nat => (x : Int)) (ctb_same _ (fun k hk => by
          show decide (¬ z.1 172 (200 * p + k) = 0) = decide (¬ z'.1 172 (200 * p + k) = 0)
          rw [same k (by omega)]))
  · rw [tm.1, tm.2.1]
    intro x l hx h1 h2 nx
    rw [e17] at nx
    by_cases q : x = a
    · rw [if_pos q] at nx
      exact absurd i_0 nx
    · rw [if_neg q] at nx
      rw [e23, if_neg (fun z2 => by have := z2.2; omega)]
      exact s5 x l hx h1 h2 nx
  · rw [e17]
    by_cases q : (tM z).toNat + p = a
    · rw [if_pos q]
      exact Or.inr rfl
    · rw [if_neg q]
      exact Or.inl rfl
theorem dr_pair {v w : MW} {a b y : Int32} {Q Q' : Int32 → MW → Prop} (ey : y.toInt = 4) (hw : BND w) (hr : HRq (mx v w)) (a0 : 0 ≤ a.toInt) (a1 : a.toInt < tM w + pM w) (h : p_Ac_drainSpace v a Q) (kQ : ∀ r v', (∀ R R', mCD w a b y R → (∀ w', HRq (mx v' w') → R r w' → R' r w') → mCD w a b y R') → Q r v' → Q' r v') : p_Ac_drainSpace v a Q' := by
  obtain ⟨T, P, eT, eP, n⟩ := hr_T hw hr
  have on := on_m hw hr a0 a1
  refine crd_x h T P n (by omega) (fun c g => kQ _ _ (fun R R' hR kR => ?_) g) (fun c v' dc g => kQ _ _ (fun R R' hR kR => ?_) g)
  · exact mdr_x hR ey hw hr a0 a1 (fun _ g2 => kR _ hr g2) (fun d => absurd (on.mp c) d)
  · exact mdr_x hR ey hw hr a0 a1 (fun d => absurd (on.mpr d) c) (fun _ w' dm g2 => kR _ (dr_hr hw hr (by omega) dc dm) g2)
