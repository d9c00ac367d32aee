/-! end on both sides: a plant -/
def PtL (ls : List Ln) : Prop := (∀ (t : Nat) (y : Ln), (thg ls)[t]? = some y → prt ls t ≤ pcn (ckd y)) ∧ ∀ t : Nat, (thg ls).length ≤ t → prt ls t = 0
theorem pcn_0 : ∀ k : Nat, k < 10 → 0 ≤ ((stT 1000).getD k 0).toInt := by decide +kernel
theorem pcn_x : ∀ k : Nat, k < 9 → ((stT 1000).getD k 0).toInt ≤ (pcx k : Int) := by decide +kernel
theorem ptl_s {ls : List Ln} {x : Ln} (h : PtL ls) (ok : okL ls x) : PtL (ls ++ [x]) := by
  by_cases x3 : x.1 = 3
  · rw [PtL, thg_p ls x x3]
    rcases ok with o | o | o | ⟨_, _, _, _, o1, o2⟩
    · omega
    · omega
    · omega
    · refine ⟨fun t y ht => ?_, fun t ht => ?_⟩
      · rw [prt_p ls x x3]
        have q := h.1 t y ht
        by_cases a : x.2.1 = (t : Int)
        · rcases o1 with z | ⟨_, _, z⟩
          · omega
          · have z1 := z y (by rw [a, Int.toNat_natCast]; exact ht)
            rw [a] at z1
            by_cases b : x.2.2.1 = (t : Int)
            · rcases o2 with u | ⟨_, _, u⟩
              · omega
              · have u1 := u y (by rw [b, Int.toNat_natCast]; exact ht)
                rw [if_pos (a.trans b.symm), b] at u1
                rw [if_pos a, if_pos b]
                omega
            · rw [if_pos a, if_neg b]
              omega
        · by_cases b : x.2.2.1 = (t : Int)
          · rcases o2 with u | ⟨_, _, u⟩
            · omega
            · have u1 := u y (by rw [b, Int.toNat_natCast]; exact ht)
              rw [if_neg (fun e => a (e.trans b)), b] at u1
              rw [if_neg a, if_pos b]
              omega
          · rw [if_neg a, if_neg b]
            omega
      · rw [prt_p ls x x3]
        have q := h.2 t ht
        rw [if_neg (by rcases o1 with z | ⟨_, z, _⟩ <;> omega), if_neg (by rcases o2 with z | ⟨_, z, _⟩ <;> omega)]
        omega
  · rw [PtL, thg_t ls x x3]
    have kx : 0 ≤ ckd x ∧ ckd x < 10 := by
      unfold ckd
      rcases ok with o | o | o | o
      · rw [if_pos o.1]; decide
      · rw [if_neg (by omega), if_pos o.1]; decide
      · rw [if_neg (by omega), if_neg (by omega)]; omega
      · omega
    refine ⟨fun t y ht => ?_, fun t ht => ?_⟩
    · rw [prt_t ls x x3]
      by_cases lt : t < (thg ls).length
      · rw [List.getElem?_append_left lt] at ht
        exact h.1 t y ht
      · rw [h.2 t (by omega)]
        have tl := (List.getElem?_eq_some_iff.mp ht).1
        rw [List.length_append, List.length_singleton] at tl
        have e : t = (thg ls).length := by omega
        rw [e, List.getElem?_concat_length] at ht
        rw [← Option.some.inj ht]
        unfold pcn
        exact pcn_0 _ (by omega)
    · rw [prt_t ls x x3]
      rw [List.length_append] at ht
      exact h.2 t (by omega)
theorem plr_pt {f : Int → Int} {n : Int} : ∀ (k : Nat) (p : Int) (ls : List Ln) (r : Int) (ls' : List Ln), PlR f n k p ls r ls' → PtL ls → PtL ls' := by
  intro k
  induction k with
  | zero => intro p ls r ls' h; exact absurd h (fun y => y)
  | succ k ih =>
    intro p ls r ls' h g
    rcases h with ⟨_, _, e⟩ | ⟨_, _, _, e⟩ | ⟨_, _, ok, q⟩
    · rw [e]
      exact g
    · rw [e]
      exact g
    · exact ih _ _ _ _ q (ptl_s g ok)
theorem ptl_0 : PtL [] := ⟨fun t y h => (by
  have q : ([] : List Ln)[t]? = some y := h
  rw [List.getElem?_nil] at q
  cases q), fun t _ => rfl⟩
theorem kmp_m {y : Ln} (g : gdT y) : (0 ≤ mkd y ∧ mkd y ≤ 9) ∧ ckd y = kmp (mkd y) ∧ (mkd y = 0 ↔ y.1 = 0) ∧ (ckd y = 9 ↔ y.1 = 0) := by
  unfold mkd ckd kmp
  rcases g with g | g | g
  · rw [if_pos g, if_pos g]
    exact ⟨⟨by decide, by decide⟩, by decide, ⟨fun _ => g, fun _ => rfl⟩, ⟨fun _ => g, fun _ => rfl⟩⟩
  · rw [if_neg (by omega), if_pos g, if_neg (by omega), if_pos g]
    exact ⟨⟨by decide, by decide⟩, by decide, ⟨fun z => absurd z (by decide), fun z => by omega⟩, ⟨fun z => absurd z (by decide), fun z => by omega⟩⟩
  · rw [if_neg (by omega), if_neg (by omega), if_neg (by omega), if_neg (by omega), if_neg (by omega), if_neg (by omega)]
    exact ⟨⟨by omega, by omega⟩, by omega, ⟨fun z => by omega, fun z => by omega⟩, ⟨fun z => by omega, fun z => by omega⟩⟩
/-- the house of both sides with a plant that was just taken -/
theorem hr_new {u w : MW} {ls : List Ln} (hB : BND u) (hB' : BND w) (ht : HTb (mx u w)) (now : u.1 7 1 = w.1 127 78) (gl : GL ls) (pl : PtL ls) (pd : PWc (sw sP u) ls) (ix : IX (sw sP u) (2 * ((sw sP u).1 91 1).toInt)) (pn : PNy (sw sP u) ls) (zc : ZrC u) (pt : PTk w ls) : HRq (mx u w) := by
  obtain ⟨s1, s2, s3, s4⟩ := pt.1
  obtain ⟨z1, z2, z3⟩ := pt.2.1
  obtain ⟨_, _, y26, _, y173, y174⟩ := pt
  obtain ⟨c1, c2, c3, c4, _⟩ := pd
  obtain ⟨k16, k17, k18, k19, k23, k20, k21, k26, k36, k37, _⟩ := zc
  obtain ⟨g1, g2, g3, g4⟩ := gl
  have c1' : (u.1 8 0).toInt = ((thg ls).length : Int) := c1
  have c2' : (u.1 8 1).toInt = ((pip ls).length : Int) := c2
  have c3' : ∀ (t : Nat) (y : Ln), (thg ls)[t]? = some y → (u.1 9 t).toInt = ckd y ∧ (u.1 10 t).toInt = (if y.1 = 0 then y.2.1 else 0) ∧ (u.1 11 t).toInt = prt ls t := c3
  have c4' : ∀ (p : Nat) (y : Ln), (pip ls)[p]? = some y → (u.1 12 p).toInt = y.2.2.2 ∧ (u.1 13 (2 * p)).toInt = y.2.1 ∧ (u.1 13 (2 * p + 1)).toInt = y.2.2.1 := c4
  have eT : tM (mx u w) = ((thg ls).length : Int) := s1
  have eP : pM (mx u w) = ((pip ls).length : Int) := s2
  have eTC : tC (mx u w) = ((thg ls).length : Int) := c1'
  have ePC : pC (mx u w) = ((pip ls).length : Int) := c2'
  have ths : ∀ t : Nat, t < (thg ls).length → ∃ y, (thg ls)[t]? = some y ∧ gdT y ∧ (y.1 = 0 → 1 ≤ y.2.1 ∧ y.2.1 ≤ 100000) := fun t h => ⟨(thg ls)[t], List.getElem?_eq_getElem h, g1 _ (List.getElem_mem h)⟩
  have tk : ∀ (t : Nat) (y : Ln), (thg ls)[t]? = some y → gdT y → ((w.1 163 t).toInt = 0 ↔ (u.1 9 t).toInt = 9) := fun t y h g => by
    rw [(s3 t y h).1, (c3' t y h).1]
    exact (kmp_m g).2.2.1.trans (kmp_m g).2.2.2.symm
  -- the ends
  have en : ∀ e : Nat, e < 2 * (pip ls).length → (u.1 13 e).toInt = (w.1 170 e).toInt ∧ (0 ≤ (u.1 13 e).toInt → ¬ (u.1 9 (u.1 13 e).toInt.toNat).toInt = 9 → (u.1 14 e).toInt = (w.1 171 e).toInt) := fun e he => by
    have hp : e / 2 < (pip ls).length := by omega
    have hy := List.getElem?_eq_getElem hp
    have d := c4' (e / 2) _ hy
    have m := s4 (e / 2) _ hy
    have q := pn (e / 2) _ hy
    by_cases od : e = 2 * (e / 2)
    · have q1 := q.1
      rw [← od] at d m q1
      refine ⟨d.2.1.trans m.2.1.symm, fun a0 n9 => ?_⟩
      rw [d.2.1] at a0 n9
      rcases q1 with z | z | z
      · omega
      · exact absurd z n9
      · have z' : (u.1 14 e).toInt = pNo ls (e / 2) ((pip ls)[e / 2]).2.1 := z
        rw [z', m.2.2.2.1, if_neg (by omega)]
    · have oe : 2 * (e / 2) + 1 = e := by omega
      have q1 := q.2
      rw [oe] at d m q1
      refine ⟨d.2.2.trans m.2.2.1.symm, fun a0 n9 => ?_⟩
      rw [d.2.2] at a0 n9
      rcases q1 with z | z | z
      · omega
      · exact absurd z n9
      · have z' : (u.1 14 e).toInt = pNo ls (e / 2) ((pip ls)[e / 2]).2.2.1 + (if ((pip ls)[e / 2]).2.1 = ((pip ls)[e / 2]).2.2.1 then 1 else 0) := z
        rw [z', m.2.2.2.2, if_neg (show ¬ ((pip ls)[e / 2]).2.2.1 = -1 by omega)]
  have ix1 : ∀ e : Nat, (e : Int) < 2 * (u.1 8 1).toInt → ((u.1 13 e).toInt = -1 ∨ (0 ≤ (u.1 13 e).toInt ∧ (u.1 13 e).toInt < (u.1 8 0).toInt)) ∧ (0 ≤ (u.1 13 e).toInt → ¬ (u.1 9 (u.1 13 e).toInt.toNat).toInt = 9 → (u.1 14 e).toInt < 4 ∧ 0 ≤ (u.1 14 e).toInt ∧ (u.1 14 e).toInt < (u.1 11 (u.1 13 e).toInt.toNat).toInt ∧ u.1 15 (4 * (u.1 13 e).toInt.toNat + (u.1 14 e).toInt.toNat) = nI e) := ix.1
  have ix2 : ∀ t j : Nat, (t : Int) < (u.1 8 0).toInt → j < 4 → 0 ≤ (u.1 15 (4 * t + j)).toInt → (u.1 15 (4 * t + j)).toInt < 2 * (u.1 8 1).toInt ∧ (u.1 13 (u.1 15 (4 * t + j)).toInt.toNat).toInt = t ∧ (u.1 14 (u.1 15 (4 * t + j)).toInt.toNat).toInt = j := ix.2.1
  have ix3 : ∀ e g : Nat, e < g → (g : Int) < 2 * (u.1 8 1).toInt → (u.1 13 e).toInt = (u.1 13 g).toInt → 0 ≤ (u.1 13 e).toInt → ¬ (u.1 9 (u.1 13 e).toInt.toNat).toInt = 9 → (u.1 14 e).toInt < (u.1 14 g).toInt := ix.2.2
  have nw0 : nwy (mx u w) = 0 := by
    show (w.1 127 26).toInt.toNat = 0
    rw [y26]
    rfl
  have i0 : (w.1 127 26).toInt = 0 := by rw [y26]; exact i_0
  refine ⟨⟨⟨eTC.trans eT.symm, ePC.trans eP.symm, fun t hT => ?_, fun e he => ?_⟩, ⟨fun e he => ⟨?_, fun a0 nt => ?_⟩, fun t j hT hj h0 => ?_⟩, fun e he a0 nt => ?_, fun e g eg hg ea a0 nt => ?_⟩, ht, ⟨⟨fun t hT => ⟨fun _ => ?_, fun _ => ?_⟩, fun p hp => Or.inl ⟨?_, fun k hk => ?_⟩⟩, ⟨fun x hx => ⟨fun _ => ?_, fun z => ?_⟩, fun x l hx l1 l5 => ?_, now⟩, fun t hT tkt => ?_, fun p hp => ?_, fun x l hx _ _ z => ?_⟩, ⟨?_, ?_, ?_, fun k hk => ?_⟩, fun k hk => ?_, ⟨fun p hp => ?_, fun k i k' i' hk => ?_⟩, fun k hk => ?_, ⟨fun k t hk => ?_, fun k t hk => ?_, fun t hT => ?_⟩, fun k i hk => ?_⟩
  · rw [eT] at hT
    obtain ⟨y, hy, gy, _⟩ := ths t (by omega)
    have km := kmp_m gy
    have a := (s3 t y hy).1
    have b := (c3' t y hy).1
    refine ⟨?_, ?_, ?_⟩
    · show 0 ≤ (w.1 163 t).toInt ∧ (w.1 163 t).toInt ≤ 9
      rw [a]
      exact km.1
    · show (u.1 9 t).toInt = kmp (w.1 163 t).toInt
      rw [a, b]
      exact km.2.1
    · show u.1 16 t = w.1 167 t
      rw [k16 t (by omega), (z1 t (by omega)).2.2.2]
  · rw [eP] at he
    have q := en e (by omega)
    have i1 := ix1 e (by rw [c2']; exact he)
    refine ⟨q.1, fun a0 nt => ?_⟩
    have a0' : 0 ≤ (w.1 170 e).toInt := a0
    have nt' : ¬ (w.1 163 (w.1 170 e).toInt.toNat).toInt = 0 := nt
    rw [← q.1] at a0' nt'
    have lt : (u.1 13 e).toInt < ((thg ls).length : Int) := by
      rcases i1.1 with z | z
      · omega
      · rw [← c1']; exact z.2
    obtain ⟨y, hy, gy, _⟩ := ths (u.1 13 e).toInt.toNat (by omega)
    have n9 : ¬ (u.1 9 (u.1 13 e).toInt.toNat).toInt = 9 := fun z => nt' ((tk _ y hy gy).mpr z)
    have i2 := i1.2 a0' n9
    refine ⟨Int32.toInt_inj.mp (q.2 a0' n9), ?_⟩
    show (u.1 14 e).toInt.toNat < pcx (u.1 9 (w.1 170 e).toInt.toNat).toInt.toNat
    rw [← q.1]
    have cc := c3' _ y hy
    have pp := pl.1 _ y hy
    have km := kmp_m gy
    have kb : 0 ≤ ckd y ∧ ckd y < 9 := by
      have k9 : ¬ ckd y = 9 := fun z => n9 (cc.1.trans z)
      have kk := km.2.1
      have k1 := km.1
      unfold kmp at kk
      by_cases e0 : mkd y = 0
      · rw [if_pos e0] at kk
        omega
      · rw [if_neg e0] at kk
        by_cases e1 : mkd y = 1
        · rw [if_pos e1] at kk
          omega
        · rw [if_neg e1] at kk
          omega
    have px := pcn_x (ckd y).toNat (by omega)
    rw [cc.1]
    unfold pcn at pp
    omega
  · show (u.1 13 e).toInt < (u.1 8 0).toInt
    rcases (ix1 e he).1 with z | z
    · have b := c1'
      omega
    · exact z.2
  · have i2 := (ix1 e he).2 a0 nt
    have l4 := i2.1
    exact ⟨show (u.1 14 e).toInt.toNat < 4 by omega, i2.2.2.2⟩
  · have i2 := ix2 t j hT hj h0
    refine ⟨i2.1, i2.2.1, ?_⟩
    show (u.1 14 (u.1 15 (4 * t + j)).toInt.toNat).toInt.toNat = j
    rw [i2.2.2, Int.toNat_natCast]
  · have i2 := (ix1 e he).2 a0 nt
    show ((u.1 14 e).toInt.toNat : Int) < (u.1 11 (u.1 13 e).toInt.toNat).toInt
    have l1 := i2.2.1
    have l2 := i2.2.2.1
    omega
  · have i3 := ix3 e g eg hg ea a0 nt
    have p0 := ((ix1 e (by have := hg; omega)).2 a0 nt).2.1
    show (u.1 14 e).toInt.toNat < (u.1 14 g).toInt.toNat
    omega
  · rw [eT] at hT
    have z := z1 t (by omega)
    show u.1 17 t = if 0 < (w.1 165 t).toInt then w.1 166 t else 0
    rw [z.2.1, if_neg (by decide)]
    exact k17 t (by omega)
  · rw [eT] at hT
    exact k17 t (by omega)
  · rw [eP] at hp
    rw [eT]
    exact k17 _ (by omega)
  · rw [eP] at hp
    have b : (k : Int) < (w.1 169 p).toInt := hk
    have hy := List.getElem?_eq_getElem (show p < (pip ls).length by omega)
    have m := (s4 p _ hy).1
    have gg := g2 _ (List.getElem_mem (show p < (pip ls).length by omega))
    exact z2 p k (by omega) (by omega)
  · rw [eT, eP] at hx
    show w.1 173 x = u.1 19 x
    rw [y173 x (by omega), k19 x (by omega)]
  · rw [eT, eP] at hx
    have z' : ¬ (u.1 17 x).toInt = 0 := z
    rw [k17 x (by omega)] at z'
    exact absurd i_0 z'
  · rw [eT, eP] at hx
    show u.1 23 (6 * x + l) = w.1 174 (6 * x + l)
    rw [k23 _ (by omega), y174 _ (by omega)]
  · rw [eT] at hT
    obtain ⟨y, hy, gy, cap⟩ := ths t (by omega)
    have z := z1 t (by omega)
    have tk0 : (w.1 163 t).toInt = 0 := tkt
    have y0 : y.1 = 0 := (kmp_m gy).2.2.1.mp ((s3 t y hy).1.symm.trans tk0)
    have ca := (s3 t y hy).2
    rw [if_pos y0] at ca
    have cc := (c3' t y hy).2.1
    rw [if_pos y0] at cc
    have cb := cap y0
    refine ⟨?_, Int32.toInt_inj.mp (cc.trans ca.symm), ?_, ?_, fun q => ?_⟩
    · show u.1 18 t = w.1 165 t
      rw [z.2.1]
      exact k18 t (by omega)
    · show 0 ≤ (w.1 165 t).toInt
      rw [z.2.1]; decide
    · show (w.1 165 t).toInt ≤ (w.1 164 t).toInt
      rw [z.2.1, ca, i_0]
      omega
    · have q' : 0 < (w.1 165 t).toInt := q
      rw [z.2.1] at q'
      exact absurd q' (by decide)
  · rw [eP] at hp
    have hl : p < (pip ls).length := by omega
    have hy := List.getElem?_eq_getElem hl
    have m := (s4 p _ hy).1
    have d := (c4' p _ hy).1
    have gg := g2 _ (List.getElem_mem hl)
    have z172 : ∀ k : Nat, (k : Int) < (w.1 169 p).toInt → w.1 172 (200 * p + k) = 0 := fun k hk => z2 p k hl (by omega)
    have e21 : u.1 21 p = 0 := k21 p (by omega)
    refine ⟨Int32.toInt_inj.mp (d.trans m.symm), ?_, ?_, fun k hk => ?_, ?_⟩
    · show 1 ≤ (w.1 169 p).toInt ∧ (w.1 169 p).toInt ≤ 200
      omega
    · show 0 ≤ (u.1 21 p).toInt ∧ (u.1 21 p).toInt < (w.1 169 p).toInt
      rw [e21, i_0]
      omega
    · have hk' : (k : Int) < (w.1 169 p).toInt := hk
      have q0 : (w.1 172 (200 * p + k)) = 0 := z172 k hk'
      have fl : cel (mx u w) p ((((mx u w).1 21 p).toInt.toNat + k) % ((mx u w).1 169 p).toInt.toNat) = false := by
        have e1 : ((mx u w).1 21 p).toInt.toNat = 0 := by
          show (u.1 21 p).toInt.toNat = 0
          rw [e21]
          rfl
        have e2 : ((mx u w).1 169 p).toInt.toNat = (w.1 169 p).toInt.toNat := rfl
        rw [e1, e2, Nat.zero_add, Nat.mod_eq_of_lt (by omega)]
        unfold cel
        have e3 : (mx u w).2.1 20 (4 * p + k / 64) = 0 := k20 _ (by omega)
        rw [e3]
        exact lb_0 _
      rw [fl]
      exact ⟨fun z => absurd z (by decide), fun z => absurd q0 z⟩
    · show (u.1 18 ((tM (mx u w)).toNat + p)).toInt = ((ctb (fun k => decide (¬ w.1 172 (200 * p + k) = 0)) (w.1 169 p).toInt.toNat : Nat) : Int)
      rw [eT, k18 _ (by omega), ctb_z _ (fun k hk => by
        rw [z172 k (by omega)]
        decide)]
      rfl
  · rw [eT, eP] at hx
    have z' : ¬ (u.1 17 x).toInt = 0 := z
    rw [k17 x (by omega)] at z'
    exact absurd i_0 z'
  · exact k26.trans y26.symm
  · show 0 ≤ (w.1 127 26).toInt
    omega
  · show (w.1 127 26).toInt ≤ 24
    omega
  · rw [nw0] at hk
    exact absurd hk (Nat.not_lt_zero k)
  · rw [nw0] at hk
    exact absurd hk (Nat.not_lt_zero k)
  · rw [eP] at hp
    have e36 : (u.1 36 p).toInt = 0 := by rw [k36 p (by omega)]; exact i_0
    exact ⟨fun _ ⟨k, i, hk, _⟩ => by rw [nw0] at hk; exact absurd hk (Nat.not_lt_zero k), fun _ => e36⟩
  · rw [nw0] at hk
    exact absurd hk (Nat.not_lt_zero k)
  · rw [nw0] at hk
    exact absurd hk (Nat.not_lt_zero k)
  · rw [nw0] at hk
    exact absurd hk (Nat.not_lt_zero k)
  · have hk' : (k : Int) < (w.1 127 26).toInt := hk
    omega
  · rw [eT] at hT
    rw [nw0]
    show (u.1 37 t).toInt = ((0 : Nat) : Int)
    rw [k37 t (by omega)]
    rfl
  · rw [nw0] at hk
    exact absurd hk (Nat.not_lt_zero k)
