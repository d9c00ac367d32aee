/-! a line of a plant is the same to both sides: pipes, and all -/
theorem pl_pipe {t : MW} (hl : (t.1 127 22).toInt ≤ 4000) {p1 r q : Int32} {a : Nat → Int32} (q0 : 0 ≤ p1.toInt) (q1 : p1.toInt ≤ 4000) (h : (∃ m, WRn m 3 (cnt_ 3) 0 t p1 0 q a) ∧ r = -1 ∨ (∃ m, WRn m 3 (cnt_ 3) 0 t p1 1 q a) ∧ ((((3 : Int32)).toInt = -1 ∧ r = -1) ∨ (¬ ((3 : Int32)).toInt = -1 ∧ ¬ (hv t q).toInt = 10 ∧ r = -1) ∨ (¬ ((3 : Int32)).toInt = -1 ∧ (hv t q).toInt = 10 ∧ r = 3))) : LnE r q a (lnW1 (hf t) p1.toInt) ∧ 0 ≤ q.toInt ∧ q.toInt ≤ 4000 := by
  rw [cn_3] at h
  have t1 : decide (¬ ((1 : Int32)).toInt = 0) = true := by decide
  have t0 : decide (¬ ((0 : Int32)).toInt = 0) = false := by decide
  have n0 : (0 : Int32).toInt.toNat = 0 := by decide
  have n1 : ((0 : Int32) + 1).toInt.toNat = 1 := by decide
  have n2 : ((0 : Int32) + 1 + 1).toInt.toNat = 2 := by decide
  have all : ∀ f, (∃ m, WRn m 3 3 0 t p1 f q a) → (0 ≤ q.toInt ∧ q.toInt ≤ 4000) ∧ ((f = 0 ∧ lnW1 (hf t) p1.toInt = (-1, 0, 0, 0, q.toInt)) ∨ (f = 1 ∧ lnW1 (hf t) p1.toInt = if hf t q.toInt = 10 then (3, (a 0).toInt, (a 1).toInt, (a 2).toInt, q.toInt) else (-1, 0, 0, 0, q.toInt))) := fun f hm => by
    obtain ⟨m, hm⟩ := hm
    obtain ⟨p2, hn, hh⟩ := wr_1 hm (by decide)
    rw [a30] at hn
    rw [n0] at hn hh
    have g := nm_nmS hl q0 q1 hn
    rw [t1] at g
    have e1 : lnW1 (hf t) p1.toInt = if (a 0).toInt = -2 then (-1, 0, 0, 0, p2.toInt) else lnW2 (hf t) (a 0).toInt p2.toInt := by
      unfold lnW1
      rw [g.1]
    rcases hh with ⟨c, f1, f2⟩ | ⟨c, m2, hm2⟩
    · rw [f2, e1, if_pos c]
      exact ⟨⟨g.2.1, g.2.2.1⟩, Or.inl ⟨f1, rfl⟩⟩
    rw [if_neg c] at e1
    obtain ⟨p3, hn2, hh2⟩ := wr_1 hm2 (by decide)
    have x1 : aN 3 ((0 : Int32) + 1) = 1 := by decide
    rw [x1] at hn2
    rw [n1] at hn2 hh2
    have g2 := nm_nmS hl g.2.1 g.2.2.1 hn2
    rw [t1] at g2
    have e2 : lnW2 (hf t) (a 0).toInt p2.toInt = if (a 1).toInt = -2 then (-1, 0, 0, 0, p3.toInt) else lnW3 (hf t) (a 0).toInt (a 1).toInt p3.toInt := by
      unfold lnW2
      rw [g2.1]
    rcases hh2 with ⟨c2, f1, f2⟩ | ⟨c2, m3, hm3⟩
    · rw [f2, e1, e2, if_pos c2]
      exact ⟨⟨g2.2.1, g2.2.2.1⟩, Or.inl ⟨f1, rfl⟩⟩
    rw [if_neg c2] at e2
    obtain ⟨p4, hn3, hh3⟩ := wr_1 hm3 (by decide)
    have x2 : aN 3 ((0 : Int32) + 1 + 1) = 0 := by decide
    rw [x2] at hn3
    rw [n2] at hn3 hh3
    have g3 := nm_nmS hl g2.2.1 g2.2.2.1 hn3
    rw [t0] at g3
    have e3 : lnW3 (hf t) (a 0).toInt (a 1).toInt p3.toInt = if (a 2).toInt = -2 then (-1, 0, 0, 0, p4.toInt) else if hf t p4.toInt = 10 then (3, (a 0).toInt, (a 1).toInt, (a 2).toInt, p4.toInt) else (-1, 0, 0, 0, p4.toInt) := by
      unfold lnW3
      rw [g3.1]
    rcases hh3 with ⟨c3, f1, f2⟩ | ⟨c3, m4, hm4⟩
    · rw [f2, e1, e2, e3, if_pos c3]
      exact ⟨⟨g3.2.1, g3.2.2.1⟩, Or.inl ⟨f1, rfl⟩⟩
    rw [if_neg c3] at e3
    have ee := wr_e hm4 (by decide)
    rw [ee.2]
    exact ⟨⟨g3.2.1, g3.2.2.1⟩, Or.inr ⟨ee.1, by rw [e1, e2, e3]⟩⟩
  rcases h with ⟨hm, er⟩ | ⟨hm, hh⟩
  · have o := all 0 hm
    refine ⟨?_, o.1⟩
    rcases o.2 with ⟨_, e⟩ | ⟨e, _⟩
    · rw [e, er]
      exact ⟨rfl, Or.inl ⟨i_m1, rfl⟩⟩
    · exact absurd e ne01
  · have o := all 1 hm
    refine ⟨?_, o.1⟩
    rcases o.2 with ⟨e, _⟩ | ⟨_, e⟩
    · exact absurd e.symm ne01
    · rw [e]
      rcases hh with ⟨c, _⟩ | ⟨_, c, er⟩ | ⟨_, c, er⟩
      · exact absurd c (by decide)
      · rw [hv_hf t o.1.1] at c
        rw [if_neg c, er]
        exact ⟨rfl, Or.inl ⟨i_m1, rfl⟩⟩
      · rw [hv_hf t o.1.1] at c
        rw [if_pos c, er]
        exact ⟨rfl, Or.inr (Or.inr (Or.inr (Or.inr ⟨by decide, rfl, rfl, rfl, rfl⟩)))⟩
theorem pl_lnS {t : MW} (hl : (t.1 127 22).toInt ≤ 4000) {p r q : Int32} {a : Nat → Int32} (p0 : 0 ≤ p.toInt) (p4 : p.toInt ≤ 4000) (h : PLR t p r q a) : LnE r q a (lnS (hf t) p.toInt) ∧ 0 ≤ q.toInt ∧ q.toInt ≤ 4000 := by
  obtain ⟨k, p1, hk, h⟩ := h
  unfold lnS
  rcases hk with ⟨c, rr, ho, hk⟩ | ⟨c, c2, rr, ho, hk⟩ | ⟨c, c2, rr, pp, ho, hk⟩
  · rw [hv_hf t p0] at c
    rw [if_pos c, ltr_1]
    have g := ov_tks hl _ _ lt_tank p rr p1 p0 p4 ho
    have z := dz (b := true) g.1
    rcases hk with ⟨d, ek⟩ | ⟨d, ek⟩
    · subst ek
      have b := pl_bad h
      refine ⟨?_, by rw [b.2]; exact g.2.1, by rw [b.2]; exact g.2.2⟩
      have e : lnN (hf t) 0 ([116, 97, 110, 107] ++ [32]) p.toInt = (-1, 0, 0, 0, p1.toInt) := by
        unfold lnN
        rw [tks_f _ _ [32] _ _ (z.1 d)]
        rfl
      rw [e]
      exact ln_bad (t := t) b
    · subst ek
      exact pl_one hl (Or.inl rfl) p0 g.2.1 g.2.2 (z.2 d) h
  · rw [hv_hf t p0] at c c2
    rw [if_neg c, if_pos c2, ltr_2]
    have g := ov_tks hl _ _ lt_valve p rr p1 p0 p4 ho
    have z := dz (b := true) g.1
    rcases hk with ⟨d, ek⟩ | ⟨d, ek⟩
    · subst ek
      have b := pl_bad h
      refine ⟨?_, by rw [b.2]; exact g.2.1, by rw [b.2]; exact g.2.2⟩
      have e : lnN (hf t) 2 ([118, 97, 108, 118, 101] ++ [32]) p.toInt = (-1, 0, 0, 0, p1.toInt) := by
        unfold lnN
        rw [tks_f _ _ [32] _ _ (z.1 d)]
        rfl
      rw [e]
      exact ln_bad (t := t) b
    · subst ek
      exact pl_one hl (Or.inr rfl) p0 g.2.1 g.2.2 (z.2 d) h
  · rw [hv_hf t p0] at c c2
    rw [if_neg c, if_neg c2]
    have g := ov_tks hl _ _ lt_p p rr pp p0 p4 ho
    have z := dz (b := true) g.1
    have e1 : tks (hf t) [112] p.toInt = if hf t p.toInt = 112 then (true, p.toInt + 1) else (false, p.toInt) := rfl
    rcases hk with ⟨d, ek, eq⟩ | ⟨d, c3, s, ho2, hk⟩ | ⟨d, c3, s, ho2, hk⟩
    · subst ek
      have b := pl_bad h
      have z1 := z.1 d
      have n112 : ¬ hf t p.toInt = 112 := fun y => by
        rw [e1, if_pos y] at z1
        exact absurd (show true = false from congrArg Prod.fst z1) (by decide)
      refine ⟨?_, by rw [b.2, eq]; exact g.2.1, by rw [b.2, eq]; exact g.2.2⟩
      rw [if_neg (fun y => n112 y.1)]
      have e : lnP (hf t) p.toInt = (-1, 0, 0, 0, p1.toInt) := by
        unfold lnP
        rw [ltr_4, List.append_assoc, tks_f _ _ ([105, 112, 101] ++ [32]) _ _ z1, eq]
        rfl
      rw [e]
      exact ln_bad (t := t) b
    · have z2 := z.2 d
      have y112 : hf t p.toInt = 112 := by
        by_cases y : hf t p.toInt = 112
        · exact y
        · rw [e1, if_neg y] at z2
          exact absurd (show false = true from congrArg Prod.fst z2) (by decide)
      have epp : pp.toInt = p.toInt + 1 := tks_t _ _ _ _ z2
      rw [hv_hf t g.2.1, epp] at c3
      rw [if_pos ⟨y112, c3⟩]
      have g2 := ov_tks hl _ _ lt_ump pp s p1 g.2.1 g.2.2 ho2
      have w := dz (b := true) g2.1
      have st := tks_st (hf t) [112] [117, 109, 112] p.toInt (by rw [z2])
      have st2 : tks (hf t) (ltr 3 4) p.toInt = tks (hf t) [117, 109, 112] pp.toInt := by
        rw [ltr_3, st, epp]
        rfl
      rcases hk with ⟨d2, ek⟩ | ⟨d2, ek⟩
      · subst ek
        have b := pl_bad h
        refine ⟨?_, by rw [b.2]; exact g2.2.1, by rw [b.2]; exact g2.2.2⟩
        have e : lnU (hf t) p.toInt = (-1, 0, 0, 0, p1.toInt) := by
          unfold lnU
          rw [st2, w.1 d2]
          rfl
        rw [e]
        exact ln_bad (t := t) b
      · subst ek
        rw [cn_1] at h
        have e : lnU (hf t) p.toInt = if hf t p1.toInt = 10 then (1, 0, 0, 0, p1.toInt) else (-1, 0, 0, 0, p1.toInt) := by
          unfold lnU
          rw [st2, w.2 d2, if_pos rfl]
        rcases h with ⟨⟨m, hm⟩, er⟩ | ⟨⟨m, hm⟩, hh⟩
        · exact absurd (wr_0 hm).1 ne01
        · have ee := (wr_0 hm).2
          rw [ee, e]
          refine ⟨?_, g2.2.1, g2.2.2⟩
          rcases hh with ⟨k1, _⟩ | ⟨_, k1, er⟩ | ⟨_, k1, er⟩
          · exact absurd k1 (by decide)
          · rw [ee, hv_hf t g2.2.1] at k1
            rw [if_neg k1, er]
            exact ⟨rfl, Or.inl ⟨i_m1, rfl⟩⟩
          · rw [ee, hv_hf t g2.2.1] at k1
            rw [if_pos k1, er]
            exact ⟨rfl, Or.inr (Or.inr (Or.inl ⟨i_1, rfl⟩))⟩
    · have z2 := z.2 d
      have epp : pp.toInt = p.toInt + 1 := tks_t _ _ _ _ z2
      rw [hv_hf t g.2.1, epp] at c3
      rw [if_neg (fun y => c3 y.2)]
      have g2 := ov_tks hl _ _ lt_ipe pp s p1 g.2.1 g.2.2 ho2
      have w := dz (b := true) g2.1
      have st := tks_st (hf t) [112] [105, 112, 101] p.toInt (by rw [z2])
      have st2 : tks (hf t) ([112] ++ [105, 112, 101]) p.toInt = tks (hf t) [105, 112, 101] pp.toInt := by
        rw [st, epp]
        rfl
      rcases hk with ⟨d2, ek⟩ | ⟨d2, ek⟩
      · subst ek
        have b := pl_bad h
        refine ⟨?_, by rw [b.2]; exact g2.2.1, by rw [b.2]; exact g2.2.2⟩
        have e : lnP (hf t) p.toInt = (-1, 0, 0, 0, p1.toInt) := by
          unfold lnP
          rw [ltr_4, tks_f _ _ [32] _ _ (by rw [st2]; exact w.1 d2)]
          rfl
        rw [e]
        exact ln_bad (t := t) b
      · subst ek
        have e := lw1 (hf t) ([112] ++ [105, 112, 101]) p.toInt p1.toInt (by rw [st2]; exact w.2 d2) ltr_4
        rw [e]
        exact pl_pipe hl g2.2.1 g2.2.2 h
