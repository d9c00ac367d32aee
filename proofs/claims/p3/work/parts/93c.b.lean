/-! a line of a plant is the same to both sides: pipes, and all -/
theorem pl_pipe {t : MW} (hl : (t.1 127 22).toInt ≤ 4000) {p1 r q : Int32} {a : Nat → Int32} (q0 : 0 ≤ p1.toInt) (q1 : p1.toInt ≤ 4000) (h : (∃ m, WRn m 3 (cnt_ 3) 0 t p1 0 q a) ∧ r = -1 ∨ (∃ m, WRn m 3 (cnt_ 3) 0 t p1 1 q a) ∧ ((((3 : Int32)).toInt = -1 ∧ r = -1) ∨ (¬ ((3 : Int32)).toInt = -1 ∧ ¬ (hv t q).toInt = 10 ∧ r = -1) ∨ (¬ ((3 : Int32)).toInt = -1 ∧ (hv t q).toInt = 10 ∧ r = 3))) : LnE r q a (lnW1 (hf t) p1.toInt) ∧ 0 ≤ q.toInt ∧ q.toInt ≤ 4000 := by
  rw [cn_3] at h
  have t1 : decide (¬ ((1 : Int32)).toInt = 0) = true := by decide
  have t0 : decide (¬ ((0 : Int32)).toInt = 0) = false := by decide
  have n0 : (0 : Int32).toInt.toNat = 0 := by decide
  have n1 : ((0 : Int32) + 1).toInt.toNat = 1 := by decide
  have n2 : ((0 : Int32) + 1 + 1).toInt.toNat = 2 := by decide
  have all : ∀ f, (∃ m, WRn m 3 3 0 t p1 f q a) → (0 ≤ q.toInt ∧ q.toInt ≤ 4000) ∧ ((f = 0 ∧ lnW1 (hf t) p1.toInt = (-1, 0, 0, 0, q.toInt)) ∨ (f = 1 ∧ lnW1 (hf t) p1.toInt = if hf t q.toInt = 10 then (3, (a 0).toInt, (a 1).toInt, (a 2).toInt, q.toInt) else (-1, 0, 0, 0, q.toInt))) := fun f hm => by
    obtain ⟨m, hm⟩ := hm
    obtain ⟨p2, hn, hh⟩ := wr_1 hm (by decide)
    rw [a30] at hn
    rw [n0] at hn hh
    have g := nm_nmS hl q0 q1 hn
    rw [t1] at g
    have e1 : lnW1 (hf t) p1.toInt = if (a 0).toInt = -2 then (-1, 0, 0, 0, p2.toInt) else lnW2 (hf t) (a 0).toInt p2.toInt := by
      unfold lnW1
      rw [g.1]
    rcases hh with ⟨c, f1, f2⟩ | ⟨c, m2, hm2⟩
    · rw [f2, e1, if_pos c]
      exact ⟨⟨g.2.1, g.2.2.1⟩, Or.inl ⟨f1, rfl⟩⟩
    rw [if_neg c] at e1
    obtain ⟨p3, hn2, hh2⟩ := wr_1 hm2 (by decide)
    have x1 : aN 3 ((0 : Int32) + 1) = 1 := by decide
    rw [x1] at hn2
    rw [n1] at hn2 hh2
    have g2 := nm_nmS hl g.2.1 g.2.2.1 hn2
    rw [t1] at g2
    have e2 : lnW2 (hf t) (a 0).toInt p2.toInt = if (a 1).toInt = -2 then (-1, 0, 0, 0, p3.toInt) else lnW3 (hf t) (a 0).toInt (a 1).toInt p3.toInt := by
      unfold lnW2
      rw [g2.1]
    rcases hh2 with ⟨c2, f1, f2⟩ | ⟨c2, m3, hm3⟩
    · rw [f2, e1, e2, if_pos c2]
      exact ⟨⟨g2.2.1, g2.2.2.1⟩, Or.inl ⟨f1, rfl⟩⟩
    rw [if_neg c2] at e2
    obtain ⟨p4, hn3, hh3⟩ := wr_1 hm3 (by decide)
    have x2 : aN 3 ((0 : Int32) + 1 + 1) = 0 := by decide
    rw [x2] at hn3
    rw [n2] at hn3 hh3
    have g3 := nm_nmS hl g2.2.1 g2.2.2.1 hn3
    rw [t0] at g3
    have e3 : lnW3 (hf t) (a 0).toInt (a 1).toInt p3.toInt = if (a 2).toInt = -2 then (-1, 0, 0, 0, p4.toInt) else if hf t p4.toInt = 10 then (3, (a 0).toInt, (a 1).toInt, (a 2).toInt, p4.toInt) else (-1, 0, 0, 0, p4.toInt) := by
      unfold lnW3
      rw [g3.1]
    rcases hh3 with ⟨c3, f1, f2⟩ | ⟨c3, m4, hm4⟩
    · rw [f2, e1, e2, e3, if_pos c3]
      exact ⟨⟨g3.2.1, g3.2.2.1⟩, Or.inl ⟨f1, rfl⟩⟩
    rw [if_neg c3] at e3
    have ee := wr_e hm4 (by decide)
    rw [ee.2]
    exact ⟨⟨g3.2.1, g3.2.2.1⟩, Or.inr ⟨ee.1, by rw [e1, e2, e3]⟩⟩
  rcases h with ⟨hm, er⟩ | ⟨hm, hh⟩
  · have o := all 0 hm
    refine ⟨?_, o.1⟩
    rcases o.2 with ⟨_, e⟩ | ⟨e, _⟩
    · rw [e, er]
      exact ⟨rfl, Or.inl ⟨i_m1, rfl⟩⟩
    · exact absurd e ne01
  · have o := all 1 hm
    refine ⟨?_, o.1⟩
    rcases o.2 with ⟨e, _⟩ | ⟨_, e⟩
    · exact absurd e.symm ne01
    · rw [e]
      rcases hh with ⟨c, _⟩ | ⟨_, c, er⟩ | ⟨_, c, er⟩
      · exact absurd c (by decide)
      · rw [hv_hf t o.1.1] at c
        rw [if_neg c, er]
        exact ⟨rfl, Or.inl ⟨i_m1, rfl⟩⟩
      · rw [hv_hf t o.1.1] at c
        rw [if_pos c, er]
        exact ⟨rfl, Or.inr (Or.inr (Or.inr (Or.inr ⟨by decide, rfl, rfl, rfl, rfl⟩)))⟩
theorem pl_lnS {t : MW} (hl : (t.1 127 22).toInt ≤ 4000) {p r q : Int32} {a : Nat → Int32} (p0 : 0 ≤ p.toInt) (p4 : p.toInt ≤ 4000) (h : PLR t p r q a) : LnE r q a (lnS (hf t) p.toInt) ∧ 0 ≤ q.toInt ∧ q.toInt ≤ 4000 := by
  obtain ⟨k, p1, hk, h⟩ := h
  unfold lnS
  rcases hk with ⟨c, rr, ho, hk⟩ | ⟨c, c2, rr, ho, hk⟩ | ⟨c, c2, rr, pp, ho, hk⟩
  · rw [hv_hf t p0] at c
    rw [if_pos c, ltr_1]
    have g := ov_tks hl _ _ lt_tank p rr p1 p0 p4 ho
    have z := dz (b := true) g.1
    rcases hk with ⟨d, ek⟩ | ⟨d, ek⟩
    · subst ek
      have b := pl_bad h
      refine ⟨?_, by rw [b.2]; exact g.2.1, by rw [b.2]; exact g.2.2⟩
      have e : lnN (hf t) 0 ([116, 97, 110, 107] ++ [32]) p.toInt = (-1, 0, 0, 0, p1.toInt) := by
        unfold lnN
        rw [tks_f _ _ [32] _ _ (z.1 d)]
        rfl
      rw [e]
      exact ln_bad (t := t) b
    · subst ek
      exact pl_one hl (Or.inl rfl) p0 g.2.1 g.2.2 (z.2 d) h
  · rw [hv_hf t p0] at c c2
    rw [if_neg c, if_pos c2, ltr_2]
    have g := ov_tks hl _ _ lt_valve p rr p1 p0 p4 ho
    have z := dz (b := true) g.1
    rcases hk with ⟨d, ek⟩ | ⟨d, ek⟩
    · subst ek
      have b := pl_bad h
      refine ⟨?_, by rw [b.2]; exact g.2.1, by rw [b.2]; exact g.2.2⟩
      have e : lnN (hf t) 2 ([118, 97, 108, 118, 101] ++ [32]) p.toInt = (-1, 0, 0, 0, p1.toInt) := by
        unfold lnN
        rw [tks_f _ _ [32] _ _ (z.1 d)]
        rfl
      rw [e]
      exact ln_bad (t := t) b
    · subst ek
      exact pl_one hl (Or.inr rfl) p0 g.2.1 g.2.2 (z.2 d) h
  · rw [hv_hf t p0] at c c2
    rw [if_neg c, if_neg c2]
    have g := ov_tks hl _ _ lt_p p rr pp p0 p4 ho
    have z := dz (b := true) g.1
    have e1 : tks (hf t) [112] p.toInt = if hf t p.toInt = 112 then (true, p.toInt + 1) else (false, p.toInt) := rfl
    rcases hk with ⟨d, ek, eq⟩ | ⟨d, c3, s, ho2, hk⟩ | ⟨d, c3, s, ho2, hk⟩
    · subst ek
      have b := pl_bad h
      have z1 := z.1 d
      have n112 : ¬ hf t p.toInt = 112 := fun y => by
        rw [e1, if_pos y] at z1
        exact absurd (show true = false from congrArg Prod.fst z1) (by decide)
      refine ⟨?_, by rw [b.2, eq]; exact g.2.1, by rw [b.2, eq]; exact g.2.2⟩
      rw [if_neg (fun y => n112 y.1)]
      have e : lnP (hf t) p.toInt = (-1, 0, 0, 0, p1.toInt) := by
        unfold lnP
        rw [ltr_4, List.append_assoc, tks_f _ _ ([105, 112, 101] ++ [32]) _ _ z1, eq]
        rfl
      rw [e]
      exact ln_bad (t := t) b
    · have z2 := z.2 d
      have y112 : hf t p.toInt = 112 := by
        by_cases y : hf t p.toInt = 112
        · exact y
        · rw [e1, if_neg y] at z2
          exact absurd (show false = true from congrArg Prod.fst z2) (by decide)
      have epp : pp.toInt = p.toInt + 1 := tks_t _ _ _ _ z2
      rw [hv_hf t g.2.1, epp] at c3
      rw [if_pos ⟨y112, c3⟩]
      have g2 := ov_tks hl _ _ lt_ump pp s p1 g.2.1 g.2.2 ho2
      have w := dz (b := true) g2.1
      have st := tks_st (hf t) [112] [117, 109, 112] p.toInt (by rw [z2])
      have st2 : tks (hf t) (ltr 3 4) p.toInt = tks (hf t) [117, 109, 112] pp.toInt := by
        rw [ltr_3, st, epp]
        rfl
      rcases hk with ⟨d2, ek⟩ | ⟨d2, ek⟩
      · subst ek
        have b := pl_bad h
        refine ⟨?_, by rw [b.2]; exact g2.2.1, by rw [b.2]; exact g2.2.2⟩
        have e : lnU (hf t) p.toInt = (-1, 0, 0, 0, p1.toInt) := by
          unfold lnU
          rw [st2, w.1 d2]
          rfl
        rw [e]
        exact ln_bad (t := t) b
      · subst ek
        rw [cn_1] at h
        have e : lnU (hf t) p.toInt = if hf t p1.toInt = 10 then (1, 0, 0, 0, p1.toInt) else (-1, 0, 0, 0, p1.toInt) := by
          unfold lnU
          rw [st2, w.2 d2, if_pos rfl]
        rcases h with ⟨⟨m, hm⟩, er⟩ | ⟨⟨m, hm⟩, hh⟩
        · exact absurd (wr_0 hm).1 ne01
        · have ee := (wr_0 hm).2
          rw [ee, e]
          refine ⟨?_, g2.2.1, g2.2.2⟩
          rcases hh with ⟨k1, _⟩ | ⟨_, k1, er⟩ | ⟨_, k1, er⟩
          · exact absurd k1 (by decide)
          · rw [ee, hv_hf t g2.2.1] at k1
            rw [if_neg k1, er]
            exact ⟨rfl, Or.inl ⟨i_m1, rfl⟩⟩
          · rw [ee, hv_hf t g2.2.1] at k1
            rw [if_pos k1, er]
            exact ⟨rfl, Or.inr (Or.inr (Or.inl ⟨i_1, rfl⟩))⟩
    · have z2 := z.2 d
      have epp : pp.toInt = p.toInt + 1 := tks_t _ _ _ _ z2
      rw [hv_hf t g.2.1, epp] at c3
      rw [if_neg (fun y => c3 y.2)]
      have g2 := ov_tks hl _ _ lt_ipe pp s p1 g.2.1 g.2.2 ho2
      have w := dz (b := true) g2.1
      have st := tks_st (hf t) [112] [105, 112, 101] p.toInt (by rw [z2])
      have st2 : tks (hf t) ([112] ++ [105, 112, 101]) p.toInt = tks (hf t) [105, 112, 101] pp.toInt := by
        rw [st, epp]
        rfl
      rcases hk with ⟨d2, ek⟩ | ⟨d2, ek⟩
      · subst ek
        have b := pl_bad h
        refine ⟨?_, by rw [b.2]; exact g2.2.1, by rw [b.2]; exact g2.2.2⟩
        have e : lnP (hf t) p.toInt = (-1, 0, 0, 0, p1.toInt) := by
          unfold lnP
          rw [ltr_4, tks_f _ _ [32] _ _ (by rw [st2]; exact w.1 d2)]
          rfl
        rw [e]
        exact ln_bad (t := t) b
      · subst ek
        have e := lw1 (hf t) ([112] ++ [105, 112, 101]) p.toInt p1.toInt (by rw [st2]; exact w.2 d2) ltr_4
        rw [e]
        exact pl_pipe hl g2.2.1 g2.2.2 h
/-! the line's meaning does not see what lies behind the end -/
theorem pos_1 : ∀ c ∈ ltr 1 5, (1 : Int) ≤ c := by rw [ltr_1]; decide
theorem pos_2 : ∀ c ∈ ltr 2 6, (1 : Int) ≤ c := by rw [ltr_2]; decide
theorem pos_3 : ∀ c ∈ ltr 3 4, (1 : Int) ≤ c := by rw [ltr_3]; decide
theorem pos_4 : ∀ c ∈ ltr 4 5, (1 : Int) ≤ c := by rw [ltr_4]; decide
theorem pos_5 : ∀ c ∈ ltr 5 1, (1 : Int) ≤ c := by rw [ltr_5]; decide
theorem if_ag {α : Type} {P R : Prop} [Decidable P] [Decidable R] {x y x' y' : α} (h : P ↔ R) (hx : x = x') (hy : y = y') : (if P then x else y) = (if R then x' else y') := by
  rw [hx, hy]
  by_cases c : P
  · rw [if_pos c, if_pos (h.mp c)]
  · rw [if_neg c, if_neg (fun q => c (h.mpr q))]
theorem pes_ag {f g : Int → Int} (h : AgF f g) (p : Int) : pes f p = pes g p := by
  unfold pes
  rw [dgs_ag h]
  exact if_ag (ag_c h (by decide)) rfl rfl
theorem lnN_ag {f g : Int → Int} (h : AgF f g) (k : Int) {l : List Int} (hl : ∀ c ∈ l, (1 : Int) ≤ c) (p : Int) : lnN f k l p = lnN g k l p := by
  unfold lnN
  rw [tks_ag h l hl, dgs_ag h]
  exact if_ag Iff.rfl (if_ag Iff.rfl rfl (if_ag (ag_c h (by decide)) rfl rfl)) rfl
theorem lnU_ag {f g : Int → Int} (h : AgF f g) (p : Int) : lnU f p = lnU g p := by
  unfold lnU
  rw [tks_ag h _ pos_3]
  exact if_ag Iff.rfl (if_ag (ag_c h (by decide)) rfl rfl) rfl
theorem lnP_ag {f g : Int → Int} (h : AgF f g) (p : Int) : lnP f p = lnP g p := by
  have a5 : ∀ a b q, lnP5 f a b q = lnP5 g a b q := fun a b q => by
    unfold lnP5
    rw [dgs_ag h]
    exact if_ag Iff.rfl rfl (if_ag (ag_c h (by decide)) rfl rfl)
  have a4 : ∀ a b q, lnP4 f a b q = lnP4 g a b q := fun a b q => by
    unfold lnP4
    rw [tks_ag h _ pos_5, a5]
  have a3 : ∀ a q, lnP3 f a q = lnP3 g a q := fun a q => by
    unfold lnP3
    rw [pes_ag h, a4]
  have a2 : ∀ a q, lnP2 f a q = lnP2 g a q := fun a q => by
    unfold lnP2
    rw [tks_ag h _ pos_5, a3]
  have a1 : ∀ q, lnP1 f q = lnP1 g q := fun q => by
    unfold lnP1
    rw [pes_ag h, a2]
  unfold lnP
  rw [tks_ag h _ pos_4, a1]
theorem lnS_ag {f g : Int → Int} (h : AgF f g) (p : Int) : lnS f p = lnS g p := by
  unfold lnS
  refine if_ag (ag_c h (by decide)) (lnN_ag h 0 pos_1 p) (if_ag (ag_c h (by decide)) (lnN_ag h 2 pos_2 p) (if_ag ?_ (lnU_ag h p) (lnP_ag h p)))
  rw [ag_c h (by decide : (1 : Int) ≤ 112), ag_c h (by decide : (1 : Int) ≤ 117)]
/-- the texts are the same: the bytes agree -/
theorem cf_hf {w : MW} {n : Int} (he : (w.1 1 2).toInt = n) (hl : (w.1 127 22).toInt = n) (hb : ∀ i : Nat, (i : Int) < n → w.1 128 i = byt (w.1 2 (i / 4)) (i % 4)) (ht : ∀ i : Nat, (i : Int) < n → (cby (w.1 2 (i / 4)) (i % 4)).toInt ≤ 127) : AgF (cf w) (hf w) := by
  intro p
  unfold cf hf
  rw [he, hl]
  by_cases q : 0 ≤ p ∧ p < n
  · left
    rw [if_pos q, if_pos q]
    have e : ((p.toNat : Nat) : Int) = p := by omega
    rw [hb p.toNat (by omega), byt_c, if_pos (by have := ht p.toNat (by omega); omega)]
  · right
    rw [if_neg q, if_neg q]
    exact ⟨rfl, rfl⟩
/-! a plant as the list of its lines -/
/-- a line: what (0 tank, 1 pump, 2 valve, 3 pipe) and its numbers -/
abbrev Ln : Type := Int × Int × Int × Int
def isT (x : Ln) : Bool := !(x.1 == 3)
def thg (ls : List Ln) : List Ln := ls.filter isT
def pip (ls : List Ln) : List Ln := ls.filter (fun x => x.1 == 3)
/-- how often a thing is told as a pipe's end -/
def prt (ls : List Ln) (t : Int) : Int := (((pip ls).filter (fun x => x.2.1 == t)).length : Int) + (((pip ls).filter (fun x => x.2.2.1 == t)).length : Int)
/-- the class's number of a kind -/
def ckd (x : Ln) : Int := if x.1 = 0 then 9 else if x.1 = 1 then 8 else x.2.1
/-- may the line be added? -/
def okL (ls : List Ln) (x : Ln) : Prop :=
  (x.1 = 0 ∧ 1 ≤ x.2.1 ∧ x.2.1 ≤ 100000 ∧ (thg ls).length < 20) ∨ (x.1 = 1 ∧ (thg ls).length < 20) ∨ (x.1 = 2 ∧ 0 ≤ x.2.1 ∧ x.2.1 ≤ 7 ∧ (thg ls).length < 20) ∨
  (x.1 = 3 ∧ (pip ls).length < 24 ∧ 1 ≤ x.2.2.2 ∧ x.2.2.2 ≤ 200 ∧ (x.2.1 = -1 ∨ (0 ≤ x.2.1 ∧ x.2.1 < (thg ls).length ∧ ∀ y, (thg ls)[x.2.1.toNat]? = some y → prt ls x.2.1 < pcn (ckd y))) ∧ (x.2.2.1 = -1 ∨ (0 ≤ x.2.2.1 ∧ x.2.2.1 < (thg ls).length ∧ ∀ y, (thg ls)[x.2.2.1.toNat]? = some y → prt ls x.2.2.1 + (if x.2.1 = x.2.2.1 then 1 else 0) < pcn (ckd y))))
theorem thg_t (ls : List Ln) (x : Ln) (h : ¬ x.1 = 3) : thg (ls ++ [x]) = thg ls ++ [x] := by
  unfold thg
  have e : isT x = true := by
    unfold isT
    rw [beq_false_of_ne h]
    rfl
  rw [List.filter_append, List.filter_cons, if_pos e, List.filter_nil]
theorem thg_p (ls : List Ln) (x : Ln) (h : x.1 = 3) : thg (ls ++ [x]) = thg ls := by
  unfold thg
  have e : ¬ isT x = true := by
    unfold isT
    rw [h]
    decide
  rw [List.filter_append, List.filter_cons, if_neg e, List.filter_nil, List.append_nil]
theorem pip_t (ls : List Ln) (x : Ln) (h : ¬ x.1 = 3) : pip (ls ++ [x]) = pip ls := by
  unfold pip
  have e : ¬ ((x.1 == 3) = true) := by
    rw [beq_false_of_ne h]
    decide
  rw [List.filter_append, List.filter_cons, if_neg e, List.filter_nil, List.append_nil]
theorem pip_p (ls : List Ln) (x : Ln) (h : x.1 = 3) : pip (ls ++ [x]) = pip ls ++ [x] := by
  unfold pip
  have e : (x.1 == 3) = true := by
    rw [h]
    decide
  rw [List.filter_append, List.filter_cons, if_pos e, List.filter_nil]
theorem prt_t (ls : List Ln) (x : Ln) (h : ¬ x.1 = 3) (t : Int) : prt (ls ++ [x]) t = prt ls t := by
  unfold prt
  rw [pip_t ls x h]
theorem prt_p (ls : List Ln) (x : Ln) (h : x.1 = 3) (t : Int) : prt (ls ++ [x]) t = prt ls t + (if x.2.1 = t then 1 else 0) + (if x.2.2.1 = t then 1 else 0) := by
  unfold prt
  rw [pip_p ls x h, List.filter_append, List.filter_append, List.length_append, List.length_append]
  have e1 : ((([x] : List Ln).filter (fun x => x.2.1 == t)).length : Int) = if x.2.1 = t then 1 else 0 := by
    by_cases c : x.2.1 = t
    · rw [if_pos c, List.filter_cons, if_pos (beq_iff_eq.mpr c)]
      rfl
    · rw [if_neg c, List.filter_cons, if_neg (fun y => c (beq_iff_eq.mp y))]
      rfl
  have e2 : ((([x] : List Ln).filter (fun x => x.2.2.1 == t)).length : Int) = if x.2.2.1 = t then 1 else 0 := by
    by_cases c : x.2.2.1 = t
    · rw [if_pos c, List.filter_cons, if_pos (beq_iff_eq.mpr c)]
      rfl
    · rw [if_neg c, List.filter_cons, if_neg (fun y => c (beq_iff_eq.mp y))]
      rfl
  omega
/-! the class's plant is the list of its lines -/
def PWc (w : MW) (ls : List Ln) : Prop := (w.1 91 0).toInt = ((thg ls).length : Int) ∧ (w.1 91 1).toInt = ((pip ls).length : Int) ∧ (∀ (t : Nat) (y : Ln), (thg ls)[t]? = some y → (w.1 92 t).toInt = ckd y ∧ (w.1 93 t).toInt = (if y.1 = 0 then y.2.1 else 0) ∧ (w.1 94 t).toInt = prt ls t) ∧ (∀ (p : Nat) (y : Ln), (pip ls)[p]? = some y → (w.1 95 p).toInt = y.2.2.2 ∧ (w.1 96 (2 * p)).toInt = y.2.1 ∧ (w.1 96 (2 * p + 1)).toInt = y.2.2.1) ∧ (∀ t : Nat, (thg ls).length ≤ t → prt ls t = 0)
theorem pwc_fr {l : Pl} {w w' : MW} {ls : List Ln} (h : PWc w ls) (hF : FR l w w') (ho : off l [(91, some 0), (91, some 1), (92, none), (93, none), (94, none), (95, none), (96, none)] = true) : PWc w' ls := by
  have q : ∀ k j, hit [(91, some 0), (91, some 1), (92, none), (93, none), (94, none), (95, none), (96, none)] k j = true → w'.1 k j = w.1 k j := fun k j hk => (hF k j (off_hit ho hk)).1
  refine ⟨by rw [q 91 0 rfl]; exact h.1, by rw [q 91 1 rfl]; exact h.2.1, fun t y e => ?_, fun p y e => ?_, h.2.2.2.2⟩
  · rw [q 92 t rfl, q 93 t rfl, q 94 t rfl]
    exact h.2.2.1 t y e
  · rw [q 95 p rfl, q 96 (2 * p) rfl, q 96 (2 * p + 1) rfl]
    exact h.2.2.2.1 p y e
/-- a thing's line -/
theorem pwc_t {z w' : MW} {ls : List Ln} {x : Ln} {a b : Int32} (h : PWc z ls) (hx : ¬ x.1 = 3) (ea : a.toInt = ckd x) (eb : b.toInt = if x.1 = 0 then x.2.1 else 0) (hF : FR lAT z w') (ad : AdT z w' a b) : PWc w' (ls ++ [x]) := by
  have n0 : (z.1 91 0).toInt.toNat = (thg ls).length := by have := h.1; omega
  refine ⟨?_, ?_, fun t y e => ?_, fun p y e => ?_, fun t ht => ?_⟩
  · rw [ad.1, h.1, thg_t ls x hx, List.length_append]
    rfl
  · rw [(hF 91 1 rfl).1, pip_t ls x hx]
    exact h.2.1
  · rw [ad.2.1, ad.2.2.1, ad.2.2.2.1, n0, prt_t ls x hx]
    rw [thg_t ls x hx] at e
    by_cases q : t = (thg ls).length
    · rw [if_pos q, if_pos q, if_pos q]
      rw [q, List.getElem?_append_right (Nat.le_refl _), Nat.sub_self] at e
      have ey : x = y := Option.some.inj e
      rw [← ey]
      refine ⟨ea, eb, ?_⟩
      rw [i_0, h.2.2.2.2 t (by omega)]
    · rw [if_neg q, if_neg q, if_neg q]
      have lt : t < (thg ls).length := by
        by_cases c : t < (thg ls).length
        · exact c
        · have l2 := (List.getElem?_eq_some_iff.mp e).1
          rw [List.length_append] at l2
          have : ([x] : List Ln).length = 1 := rfl
          omega
      rw [List.getElem?_append_left lt] at e
      exact h.2.2.1 t y e
  · rw [(hF 95 p rfl).1, (hF 96 (2 * p) rfl).1, (hF 96 (2 * p + 1) rfl).1]
    rw [pip_t ls x hx] at e
    exact h.2.2.2.1 p y e
  · rw [prt_t ls x hx]
    rw [thg_t ls x hx, List.length_append] at ht
    exact h.2.2.2.2 t (by have : ([x] : List Ln).length = 1 := rfl; omega)
/-! the class's plant is the list of its lines: pipes -/
theorem pwc_p {z w' : MW} {ls : List Ln} {x : Ln} {a b l : Int32} (hI : BND z) (h : PWc z ls) (hx : x.1 = 3) (ea : a.toInt = x.2.1) (eb : b.toInt = x.2.2.1) (el : l.toInt = x.2.2.2) (a0 : -1 ≤ a.toInt) (b0 : -1 ≤ b.toInt) (ok : okP z a b l) (ad : AdP z w' a b l) : PWc w' (ls ++ [x]) := by
  obtain ⟨z1, z2, j1, G1, j2, G2, e⟩ := ad
  have p24 := ok.1
  have bp := bd_91_1 hI
  have n1 : (z.1 91 1).toInt.toNat = (pip ls).length := by have := h.2.1; omega
  have t1 : (tI (2 * (z.1 91 1).toInt)).toInt.toNat = 2 * (pip ls).length := by rw [tI_t (by omega) (by omega)]; omega
  have t2 : (tI (2 * (z.1 91 1).toInt + 1)).toInt.toNat = 2 * (pip ls).length + 1 := by rw [tI_t (by omega) (by omega)]; omega
  have f95 : ∀ j, w'.1 95 j = if j = (pip ls).length then l else z.1 95 j := fun j => by
    rw [e, sI_oth _ _ _ _ _ _ (by decide), (G2 95 j rfl).1, (G1 95 j rfl).1, sI_at, n1]
    by_cases q : j = (pip ls).length
    · rw [if_pos q, if_pos ⟨rfl, q⟩]
    · rw [if_neg q, if_neg (fun y => q y.2)]
  have f96 : ∀ j, w'.1 96 j = if j = 2 * (pip ls).length + 1 then b else if j = 2 * (pip ls).length then a else z.1 96 j := fun j => by
    rw [e, sI_oth _ _ _ _ _ _ (by decide), j2.1 j, t2, j1.1 j, t1, sI_oth _ _ _ _ _ _ (by decide)]
  have c1 : ∀ j, (z1.1 94 j).toInt = (z.1 94 j).toInt + (if a.toInt = (j : Int) then 1 else 0) := fun j => by
    have bj := bd_94 hI j
    rw [j1.2.2.1 j]
    have e94 : ∀ k, (sI z 95 (z.1 91 1).toInt.toNat l).1 94 k = z.1 94 k := fun k => rfl
    rw [e94, e94]
    by_cases q : a.toInt = (j : Int)
    · have ej : j = a.toInt.toNat := by omega
      rw [if_pos ⟨by omega, ej⟩, if_pos q, ← ej, ti_add2 (Eq.refl (z.1 94 j).toInt) i_1 (by omega) (by omega)]
    · rw [if_neg (fun y => q (by omega)), if_neg q]
      omega
  have c2 : ∀ j, (w'.1 94 j).toInt = (z.1 94 j).toInt + (if a.toInt = (j : Int) then 1 else 0) + (if b.toInt = (j : Int) then 1 else 0) := fun j => by
    have bj := bd_94 hI j
    have k1 := c1 j
    rw [e, sI_oth _ _ _ _ _ _ (by decide), j2.2.2.1 j]
    have k2 : (z1.1 94 j).toInt ≤ 49 ∧ 0 ≤ (z1.1 94 j).toInt := by
      rw [k1]
      by_cases q : a.toInt = (j : Int)
      · rw [if_pos q]
        omega
      · rw [if_neg q]
        omega
    by_cases q : b.toInt = (j : Int)
    · have ej : j = b.toInt.toNat := by omega
      rw [if_pos ⟨by omega, ej⟩, if_pos q, ← ej, ti_add2 (Eq.refl (z1.1 94 j).toInt) i_1 (by omega) (by omega), k1]
    · rw [if_neg (fun y => q (by omega)), if_neg q, k1]
      omega
  have oa := ok.2.2.1
  have ob := ok.2.2.2
  unfold okJ at oa
  have h0 := h.1
  refine ⟨?_, ?_, fun t y ey => ?_, fun p y ey => ?_, fun t ht => ?_⟩
  · rw [e, sI_ne _ _ _ _ _ (by decide), (G2 91 0 rfl).1, (G1 91 0 rfl).1, sI_oth _ _ _ _ _ _ (by decide), thg_p ls x hx]
    exact h.1
  · rw [e, sI_same, ti_add2 (Eq.refl (z.1 91 1).toInt) i_1 (by omega) (by omega), h.2.1, pip_p ls x hx, List.length_append]
    rfl
  · rw [thg_p ls x hx] at ey
    have g := h.2.2.1 t y ey
    rw [c2 t, prt_p ls x hx, ← ea, ← eb, g.2.2]
    have f92 : w'.1 92 t = z.1 92 t := by rw [e, sI_oth _ _ _ _ _ _ (by decide), (G2 92 t rfl).1, (G1 92 t rfl).1, sI_oth _ _ _ _ _ _ (by decide)]
    have f93 : w'.1 93 t = z.1 93 t := by rw [e, sI_oth _ _ _ _ _ _ (by decide), (G2 93 t rfl).1, (G1 93 t rfl).1, sI_oth _ _ _ _ _ _ (by decide)]
    rw [f92, f93]
    exact ⟨g.1, g.2.1, rfl⟩
  · rw [f95, f96, f96]
    rw [pip_p ls x hx] at ey
    by_cases q : p = (pip ls).length
    · rw [q, List.getElem?_append_right (Nat.le_refl _), Nat.sub_self] at ey
      have e2 : x = y := Option.some.inj ey
      rw [if_pos q, if_neg (by omega), if_pos (by omega), if_pos (by omega), ← e2]
      exact ⟨el, ea, eb⟩
    · have lt : p < (pip ls).length := by
        by_cases c : p < (pip ls).length
        · exact c
        · have l2 := (List.getElem?_eq_some_iff.mp ey).1
          rw [List.length_append] at l2
          have : ([x] : List Ln).length = 1 := rfl
          omega
      rw [List.getElem?_append_left lt] at ey
      rw [if_neg q, if_neg (by omega), if_neg (by omega), if_neg (by omega), if_neg (by omega)]
      exact h.2.2.2.1 p y ey
  · rw [thg_p ls x hx] at ht
    rw [prt_p ls x hx, h.2.2.2.2 t ht, ← ea, ← eb]
    have na : ¬ a.toInt = (t : Int) := fun y => by omega
    have nb : ¬ b.toInt = (t : Int) := fun y => by omega
    rw [if_neg na, if_neg nb]
    rfl
/-! a line is taken by the class just when its lines so far let it in -/
theorem ok_end {z : MW} {ls : List Ln} (h : PWc z ls) {b : Int32} {d v : Int} (eb : b.toInt = v) (b0 : -1 ≤ b.toInt) : (b.toInt = -1 ∨ (b.toInt < (z.1 91 0).toInt ∧ (z.1 94 b.toInt.toNat).toInt + d < pcn (z.1 92 b.toInt.toNat).toInt)) ↔ (v = -1 ∨ (0 ≤ v ∧ v < (thg ls).length ∧ ∀ y, (thg ls)[v.toNat]? = some y → prt ls v + d < pcn (ckd y))) := by
  rw [h.1, eb]
  rw [eb] at b0
  by_cases c : v = -1
  · exact ⟨fun _ => Or.inl c, fun _ => Or.inl c⟩
  · have v0 : 0 ≤ v := by omega
    have ev : ((v.toNat : Nat) : Int) = v := by omega
    constructor
    · intro q
      have q := q.resolve_left c
      refine Or.inr ⟨v0, q.1, fun y ey => ?_⟩
      have g := h.2.2.1 v.toNat y ey
      rw [ev] at g
      rw [← g.1, ← g.2.2]
      exact q.2
    · intro q
      have q := q.resolve_left c
      have lt : v.toNat < (thg ls).length := by omega
      have g := h.2.2.1 v.toNat _ (List.getElem?_eq_getElem lt)
      have k := q.2.2 _ (List.getElem?_eq_getElem lt)
      rw [ev] at g
      refine Or.inr ⟨q.2.1, ?_⟩
      rw [g.1, g.2.2]
      exact k
theorem ok_pipe {z : MW} {ls : List Ln} {x : Ln} {a b l : Int32} (h : PWc z ls) (hx : x.1 = 3) (ea : a.toInt = x.2.1) (eb : b.toInt = x.2.2.1) (el : l.toInt = x.2.2.2) (a0 : -1 ≤ a.toInt) (b0 : -1 ≤ b.toInt) : okP z a b l ↔ okL ls x := by
  have A := ok_end h (d := 0) ea a0
  have B := ok_end h (d := if x.2.1 = x.2.2.1 then 1 else 0) eb b0
  have n1 := h.2.1
  unfold okP okJ okL
  rw [← ea, ← eb] at *
  constructor
  · intro q
    refine Or.inr (Or.inr (Or.inr ⟨hx, ?_, ?_, ?_, ?_, B.mp q.2.2.2⟩))
    · have := q.1
      omega
    · rw [← el]
      exact q.2.1.1
    · rw [← el]
      exact q.2.1.2
    · have k := A.mp (by
        rcases q.2.2.1 with y | y
        · exact Or.inl y
        · refine Or.inr ⟨y.1, ?_⟩
          have := y.2
          omega)
      rcases k with k | k
      · exact Or.inl k
      · refine Or.inr ⟨k.1, k.2.1, fun y ey => ?_⟩
        have := k.2.2 y ey
        omega
  · intro q
    rcases q with q | q | q | q
    · have := q.1
      omega
    · have := q.1
      omega
    · have := q.1
      omega
    · refine ⟨?_, ⟨?_, ?_⟩, ?_, B.mpr q.2.2.2.2.2⟩
      · have := q.2.1
        omega
      · rw [el]
        exact q.2.2.1
      · rw [el]
        exact q.2.2.2.1
      · have k := A.mpr (by
          rcases q.2.2.2.2.1 with y | y
          · exact Or.inl y
          · refine Or.inr ⟨y.1, y.2.1, fun u eu => ?_⟩
            have := y.2.2 u eu
            omega)
        rcases k with k | k
        · exact Or.inl k
        · refine Or.inr ⟨k.1, ?_⟩
          have := k.2
          omega
/-! a line, in the class's plant as its lines -/
def lnX (L : Int × Int × Int × Int × Int) : Ln := (L.1, L.2.1, L.2.2.1, L.2.2.2.1)
def lrd9 : Pl := [(91, some 0), (91, some 1), (91, some 10), (91, some 11), (92, none), (93, none), (94, none), (95, none), (96, none), (97, none), (98, none)]
theorem ok_t {ls : List Ln} {x : Ln} (h : ¬ x.1 = 3) (c : okL ls x) : (thg ls).length < 20 := by
  rcases c with c | c | c | c
  · exact c.2.2.2
  · exact c.2
  · exact c.2.2.2
  · exact absurd c.1 h
/-- behind a line: taken, and one line more; or not, and where -/
def StC (w w' : MW) (ls : List Ln) (r : Int32) (L : Int × Int × Int × Int × Int) : Prop := BND w' ∧ FR lrd9 w w' ∧ w'.2.2 91 9 = some 1 ∧ (w'.1 91 10).toInt = L.2.2.2.2 ∧ ((r = 0 ∧ (L.1 = -1 ∨ ¬ okL ls (lnX L))) ∨ (r = 1 ∧ ¬ L.1 = -1 ∧ okL ls (lnX L) ∧ PWc w' (ls ++ [lnX L])))
theorem st_line {w w' : MW} {ls : List Ln} {r : Int32} {L : Int × Int × Int × Int × Int} (h : PWc w ls) (e : RlE w w' r L) : StC w w' ls r L := by
  obtain ⟨z, hz, hB, q⟩ := e
  have pz : PWc z ls := pwc_fr h hz.2.1 rfl
  have n0 := pz.1
  have Fz : FR lrd9 w z := FR.tr (FR.refl _ w) hz.2.1 rfl
  rcases q with ⟨k, er, ew⟩ | ⟨k, q⟩ | ⟨k, q⟩ | ⟨k, q⟩ | ⟨k, bb, q⟩
  · rw [ew]
    exact ⟨hz.1, Fz, hz.2.2.1, hz.2.2.2, Or.inl ⟨er, Or.inl k⟩⟩
  · rcases q with ⟨c, er, ew⟩ | ⟨c, er, ad, F⟩
    · rw [ew]
      refine ⟨hz.1, Fz, hz.2.2.1, hz.2.2.2, Or.inl ⟨er, Or.inr (fun o => ?_)⟩⟩
      have k2 : (lnX L).1 = 0 := k
      rcases o with o | o | o | o
      · have o1 : 1 ≤ L.2.1 := o.2.1
        have o2 : L.2.1 ≤ 100000 := o.2.2.1
        have o3 := o.2.2.2
        exact c ⟨o1, o2, by omega⟩
      · have := o.1
        omega
      · have := o.1
        omega
      · have := o.1
        omega
    · have k2 : (lnX L).1 = 0 := k
      refine ⟨hB, Fz.tr F rfl, ((F 91 9 rfl).2.2).trans hz.2.2.1, by rw [(F 91 10 rfl).1]; exact hz.2.2.2, Or.inr ⟨er, by omega, Or.inl ⟨k, c.1, c.2.1, by omega⟩, pwc_t pz (by omega) ?_ ?_ F ad⟩⟩
      · unfold ckd
        rw [if_pos k2]
        decide
      · rw [if_pos k2, tI_t (by omega) (by omega)]
        rfl
  · rcases q with ⟨c, er, ew⟩ | ⟨c, er, ad, F⟩
    · rw [ew]
      refine ⟨hz.1, Fz, hz.2.2.1, hz.2.2.2, Or.inl ⟨er, Or.inr (fun o => c ?_)⟩⟩
      have k2 : (lnX L).1 = 1 := k
      have := ok_t (by omega) o
      omega
    · have k2 : (lnX L).1 = 1 := k
      refine ⟨hB, Fz.tr F rfl, ((F 91 9 rfl).2.2).trans hz.2.2.1, by rw [(F 91 10 rfl).1]; exact hz.2.2.2, Or.inr ⟨er, by omega, Or.inr (Or.inl ⟨k, by omega⟩), pwc_t pz (by omega) ?_ ?_ F ad⟩⟩
      · unfold ckd
        rw [if_neg (by omega), if_pos k2]
        decide
      · rw [if_neg (by omega)]
        exact i_0
  · rcases q with ⟨c, er, ew⟩ | ⟨c, er, ad, F⟩
    · rw [ew]
      refine ⟨hz.1, Fz, hz.2.2.1, hz.2.2.2, Or.inl ⟨er, Or.inr (fun o => ?_)⟩⟩
      have k2 : (lnX L).1 = 2 := k
      rcases o with o | o | o | o
      · have := o.1
        omega
      · have := o.1
        omega
      · have o2 : L.2.1 ≤ 7 := o.2.2.1
        have o3 := o.2.2.2
        exact c ⟨o2, by omega⟩
      · have := o.1
        omega
    · have k2 : (lnX L).1 = 2 := k
      refine ⟨hB, Fz.tr F rfl, ((F 91 9 rfl).2.2).trans hz.2.2.1, by rw [(F 91 10 rfl).1]; exact hz.2.2.2, Or.inr ⟨er, by omega, Or.inr (Or.inr (Or.inl ⟨k, c.1, c.2.1, by omega⟩)), pwc_t pz (by omega) ?_ ?_ F ad⟩⟩
      · unfold ckd
        rw [if_neg (by omega), if_neg (by omega), tI_t (by omega) (by omega)]
        rfl
      · rw [if_neg (by omega)]
        exact i_0
  · have k2 : (lnX L).1 = 3 := k
    have ta : (tI L.2.1).toInt = (lnX L).2.1 := tI_t (by omega) (by omega)
    have tb : (tI L.2.2.1).toInt = (lnX L).2.2.1 := tI_t (by omega) (by omega)
    have tl : (tI L.2.2.2.1).toInt = (lnX L).2.2.2 := tI_t (by omega) (by omega)
    have a0 : -1 ≤ (tI L.2.1).toInt := by rw [tI_t (by omega) (by omega)]; omega
    have b0 : -1 ≤ (tI L.2.2.1).toInt := by rw [tI_t (by omega) (by omega)]; omega
    have o := ok_pipe pz k2 ta tb tl a0 b0
    rcases q with ⟨c, er, F⟩ | ⟨c, er, ad, F⟩
    · exact ⟨hB, Fz.tr F rfl, ((F 91 9 rfl).2.2).trans hz.2.2.1, by rw [(F 91 10 rfl).1]; exact hz.2.2.2, Or.inl ⟨er, Or.inr (fun y => c (o.mpr y))⟩⟩
    · exact ⟨hB, Fz.tr F rfl, ((F 91 9 rfl).2.2).trans hz.2.2.1, by rw [(F 91 10 rfl).1]; exact hz.2.2.2, Or.inr ⟨er, by omega, o.mp c, pwc_p hz.1 pz k2 ta tb tl a0 b0 c ad⟩⟩
/-! the class reads a plant: all of it -/
/-- the lines of a text from p on: r the place where it is wrong, or -1; ls' all its lines -/
def PlR (f : Int → Int) (n : Int) : Nat → Int → List Ln → Int → List Ln → Prop
  | 0, _, _, _, _ => False
  | m + 1, p, ls, r, ls' => (¬ p < n ∧ r = -1 ∧ ls' = ls) ∨ (p < n ∧ ((lnS f p).1 = -1 ∨ ¬ okL ls (lnX (lnS f p))) ∧ r = (lnS f p).2.2.2.2 ∧ ls' = ls) ∨ (p < n ∧ ¬ (lnS f p).1 = -1 ∧ okL ls (lnX (lnS f p)) ∧ PlR f n m ((lnS f p).2.2.2.2 + 1) (ls ++ [lnX (lnS f p)]) r ls')
theorem plr_det {f : Int → Int} {n : Int} : ∀ (m k : Nat) (p : Int) (ls : List Ln) (r1 r2 : Int) (l1 l2 : List Ln), PlR f n m p ls r1 l1 → PlR f n k p ls r2 l2 → r1 = r2 ∧ l1 = l2 := by
  intro m
  induction m with
  | zero => intro k p ls r1 r2 l1 l2 h; exact absurd h (fun y => y)
  | succ m ih =>
    intro k p ls r1 r2 l1 l2 h h2
    cases k with
    | zero => exact absurd h2 (fun y => y)
    | succ k =>
      rcases h with ⟨c, e1, e2⟩ | ⟨c, d, e1, e2⟩ | ⟨c, d, o, g⟩
      · rcases h2 with ⟨c', f1, f2⟩ | ⟨c', _⟩ | ⟨c', _⟩
        · exact ⟨e1.trans f1.symm, e2.trans f2.symm⟩
        · exact absurd c' c
        · exact absurd c' c
      · rcases h2 with ⟨c', _⟩ | ⟨c', d', f1, f2⟩ | ⟨c', d', o', _⟩
        · exact absurd c c'
        · exact ⟨e1.trans f1.symm, e2.trans f2.symm⟩
        · rcases d with d | d
          · exact absurd d d'
          · exact absurd o' d
      · rcases h2 with ⟨c', _⟩ | ⟨c', d', f1, f2⟩ | ⟨c', d', o', g'⟩
        · exact absurd c c'
        · rcases d' with d' | d'
          · exact absurd d' d
          · exact absurd o d'
        · exact ih k _ _ _ _ _ _ g g'
theorem dgs_le (f : Int → Int) : ∀ (n d : Nat) (v p : Int), p ≤ (dgs f n d v p).2.2 := by
  intro n
  induction n with
  | zero => intro d v p; exact Int.le_refl _
  | succ n ih =>
    intro d v p
    have e : dgs f (n + 1) d v p = if (48 ≤ f p ∧ f p ≤ 57) ∧ (d = 0 ∨ 0 < v) then dgs f n (d + 1) (v * 10 + f p - 48) (p + 1) else (d, v, p) := rfl
    rw [e]
    by_cases q : (48 ≤ f p ∧ f p ≤ 57) ∧ (d = 0 ∨ 0 < v)
    · rw [if_pos q]
      have := ih (d + 1) (v * 10 + f p - 48) (p + 1)
      omega
    · rw [if_neg q]
      exact Int.le_refl _
theorem pes_le (f : Int → Int) (p : Int) : p ≤ (pes f p).2.2 := by
  unfold pes
  by_cases c : f p = 45
  · rw [if_pos c]
    show p ≤ p + 1
    omega
  · rw [if_neg c]
    exact dgs_le f 7 0 0 p
theorem le_if {P : Prop} [Decidable P] {p : Int} {x y : Int × Int × Int × Int × Int} (hx : p ≤ x.2.2.2.2) (hy : p ≤ y.2.2.2.2) : p ≤ (if P then x else y).2.2.2.2 := by
  by_cases c : P
  · rw [if_pos c]
    exact hx
  · rw [if_neg c]
    exact hy
theorem lnN_le (f : Int → Int) (k : Int) (l : List Int) (p : Int) : p ≤ (lnN f k l p).2.2.2.2 := by
  have t := (tks_le f l p).1
  have d := dgs_le f 7 0 0 (tks f l p).2
  unfold lnN
  exact le_if (le_if (Int.le_trans t d) (le_if (Int.le_trans t d) (Int.le_trans t d))) t
theorem lnU_le (f : Int → Int) (p : Int) : p ≤ (lnU f p).2.2.2.2 := by
  have t := (tks_le f (ltr 3 4) p).1
  unfold lnU
  exact le_if (le_if t t) t
theorem lnP_le (f : Int → Int) (p : Int) : p ≤ (lnP f p).2.2.2.2 := by
  have a5 : ∀ a b q, q ≤ (lnP5 f a b q).2.2.2.2 := fun a b q => by
    have d := dgs_le f 7 0 0 q
    unfold lnP5
    exact le_if d (le_if d d)
  have a4 : ∀ a b q, q ≤ (lnP4 f a b q).2.2.2.2 := fun a b q => by
    have t := (tks_le f (ltr 5 1) q).1
    unfold lnP4
    exact le_if (Int.le_trans t (a5 _ _ _)) t
  have a3 : ∀ a q, q ≤ (lnP3 f a q).2.2.2.2 := fun a q => by
    have t := pes_le f q
    unfold lnP3
    exact le_if (Int.le_trans t (a4 _ _ _)) t
  have a2 : ∀ a q, q ≤ (lnP2 f a q).2.2.2.2 := fun a q => by
    have t := (tks_le f (ltr 5 1) q).1
    unfold lnP2
    exact le_if (Int.le_trans t (a3 _ _)) t
  have a1 : ∀ q, q ≤ (lnP1 f q).2.2.2.2 := fun q => by
    have t := pes_le f q
    unfold lnP1
    exact le_if (Int.le_trans t (a2 _ _)) t
  have t := (tks_le f (ltr 4 5) p).1
  unfold lnP
  exact le_if (Int.le_trans t (a1 _)) t
theorem lnS_le (f : Int → Int) (p : Int) : p ≤ (lnS f p).2.2.2.2 := by
  unfold lnS
  exact le_if (lnN_le f 0 _ p) (le_if (lnN_le f 2 _ p) (le_if (lnU_le f p) (lnP_le f p)))
def T10 (f : Int → Int) (x : Int × Int × Int × Int × Int) : Prop := x.1 = -1 ∨ f x.2.2.2.2 = 10
theorem t_if {f : Int → Int} {P : Prop} [Decidable P] {x y : Int × Int × Int × Int × Int} (hx : P → T10 f x) (hy : ¬ P → T10 f y) : T10 f (if P then x else y) := by
  by_cases c : P
  · rw [if_pos c]
    exact hx c
  · rw [if_neg c]
    exact hy c
theorem lnS_10 (f : Int → Int) (p : Int) : T10 f (lnS f p) := by
  have a5 : ∀ a b q, T10 f (lnP5 f a b q) := fun a b q => t_if (fun _ => Or.inl rfl) (fun _ => t_if (fun c => Or.inr c) (fun _ => Or.inl rfl))
  have a4 : ∀ a b q, T10 f (lnP4 f a b q) := fun a b q => t_if (fun _ => a5 _ _ _) (fun _ => Or.inl rfl)
  have a3 : ∀ a q, T10 f (lnP3 f a q) := fun a q => t_if (fun _ => a4 _ _ _) (fun _ => Or.inl rfl)
  have a2 : ∀ a q, T10 f (lnP2 f a q) := fun a q => t_if (fun _ => a3 _ _) (fun _ => Or.inl rfl)
  have a1 : ∀ q, T10 f (lnP1 f q) := fun q => t_if (fun _ => a2 _ _) (fun _ => Or.inl rfl)
  have a0 : T10 f (lnP f p) := t_if (fun _ => a1 _) (fun _ => Or.inl rfl)
  have u : T10 f (lnU f p) := t_if (fun _ => t_if (fun c => Or.inr c) (fun _ => Or.inl rfl)) (fun _ => Or.inl rfl)
  have n : ∀ k l, T10 f (lnN f k l p) := fun k l => t_if (fun _ => t_if (fun _ => Or.inl rfl) (fun _ => t_if (fun c => Or.inr c) (fun _ => Or.inl rfl))) (fun _ => Or.inl rfl)
  exact t_if (fun _ => n _ _) (fun _ => t_if (fun _ => n _ _) (fun _ => t_if (fun _ => u) (fun _ => a0)))
theorem rc_22 {w0 : MW} {E : MW → Prop} {Q : Int32 → MW → Prop} (hI0 : BND w0) (hE : ∀ w' ls', BND w' → FR lrd9 w0 w' → PWc w' ls' → (∃ k, PlR (cf w0) (w0.1 1 2).toInt k 0 [] (-1) ls') → E w') (hQ : ∀ (r : Int32) (w' : MW) ls', BND w' → FR lrd9 w0 w' → 0 ≤ r.toInt → r.toInt ≤ 4000 → (∃ k, PlR (cf w0) (w0.1 1 2).toInt k 0 [] r.toInt ls') → Q r w') (m : Nat) : ∀ (i : Nat) (w : MW) (ls : List Ln), BND w → FR lrd9 w0 w → w.2.2 91 9 = some 1 → PWc w ls → (i : Int) ≤ (w.1 91 10).toInt → (∀ r ls', (∃ k, PlR (cf w0) (w0.1 1 2).toInt k (w.1 91 10).toInt ls r ls') → ∃ k, PlR (cf w0) (w0.1 1 2).toInt k 0 [] r ls') → 4001 - i < m → q_Pl_reads91_1_22 E Q m (nI i) w := by
  induction m with
  | zero => intros; omega
  | succ m ih =>
    intro i w ls hB hF hr hP hi hc hm
    have b10 := bd_91_10 hB
    have ti : (nI i).toInt = (i : Int) := nI_toInt (by omega)
    have ec : cf w = cf w0 := cf_fr hF rfl
    have en : w.1 1 2 = w0.1 1 2 := (hF 1 2 rfl).1
    have be := bd_1_2 hI0
    rw [q_Pl_reads91_1_22.eq_2]
    refine ⟨fun c => by omega, fun _ => ⟨fun c => ?_, fun c => ?_⟩⟩
    · rw [en] at c
      exact hE w ls hB hF hP (hc _ _ ⟨1, Or.inl ⟨by omega, rfl, rfl⟩⟩)
    rw [en] at c
    refine rd_line hB hr (fun r w3 hR => ?_)
    rw [ec] at hR
    have S := st_line hP hR
    have F3 : FR lrd9 w0 w3 := hF.tr S.2.1 rfl
    have le := lnS_le (cf w0) (w.1 91 10).toInt
    rcases S.2.2.2.2 with ⟨er, q⟩ | ⟨er, n1, ok, P3⟩
    · rw [er]
      refine ⟨fun y => absurd i_0 y, fun _ => ?_⟩
      have e10 := S.2.2.2.1
      refine hQ _ w3 ls S.1 F3 (by omega) (bd_91_10 S.1).2 ?_
      rw [e10]
      exact hc _ _ ⟨1, Or.inr (Or.inl ⟨by omega, q, rfl, rfl⟩)⟩
    · rw [er]
      refine ⟨fun _ => ?_, fun y => absurd (by decide) y⟩
      have t10 := (lnS_10 (cf w0) (w.1 91 10).toInt).resolve_left n1
      have cp := cf_pos (w := w0) (p := (lnS (cf w0) (w.1 91 10).toInt).2.2.2.2) (by omega)
      have e10 := S.2.2.2.1
      have s := ti_add2 (Eq.refl (w3.1 91 10).toInt) i_1 (by omega) (by omega)
      have F4 : FR [(91, some 10)] w3 (sI w3 91 10 ((w3.1 91 10) + (1 : Int32))) := FR.I (FR.refl _ w3) rfl
      rw [nI_1]
      refine ih (i + 1) _ (ls ++ [lnX (lnS (cf w0) (w.1 91 10).toInt)]) (wbd_91_10 S.1 (by omega) (by omega)) (F3.tr F4 rfl) S.2.2.1 (pwc_fr P3 F4 rfl) (by rw [sI_same]; omega) (fun r ls' hk => ?_) (by omega)
      rw [sI_same, s, e10] at hk
      obtain ⟨k, hk⟩ := hk
      exact hc r ls' ⟨k + 1, Or.inr (Or.inr ⟨by omega, n1, ok, hk⟩)⟩
/-! the class reads a plant -/
def lrc9 : Pl := (91, some 9) :: lrd9
theorem rc_read {w : MW} {Q : Int32 → MW → Prop} (hI : BND w) (hQ : ∀ (r : Int32) (w' : MW) ls', BND w' → FR lrc9 w w' → r.toInt ≤ 4000 → (∃ k, PlR (cf w) (w.1 1 2).toInt k 0 [] r.toInt ls') → (r.toInt < 0 → PWc w' ls') → Q r w') : p_Pl_reads91_1 w Q := by
  refine Eq.mpr (p_Pl_reads91_1.eq_1 _ _) ?_
  have F0 : FR lrc9 w (sI (sI (sI (sR w 91 9 (some 1)) 91 0 0) 91 1 0) 91 10 0) := FR.I (FR.I (FR.I (FR.R (FR.refl _ w) rfl) rfl) rfl) rfl
  have B0 : BND (sI (sI (sI (sR w 91 9 (some 1)) 91 0 0) 91 1 0) 91 10 0) := wbd_91_10 (wbd_91_1 (wbd_91_0 (bnd_R hI) (by decide) (by decide)) (by decide) (by decide)) (by decide) (by decide)
  have r0 : (sI (sI (sI (sR w 91 9 (some 1)) 91 0 0) 91 1 0) 91 10 0).2.2 91 9 = some 1 := sRs w 91 9 (some 1)
  have e10 : ((sI (sI (sI (sR w 91 9 (some 1)) 91 0 0) 91 1 0) 91 10 0).1 91 10).toInt = 0 := by rw [sI_same]; exact i_0
  have e1 : ((sI (sI (sI (sR w 91 9 (some 1)) 91 0 0) 91 1 0) 91 10 0).1 91 1).toInt = 0 := by rw [sI_ne _ _ _ _ _ (by decide), sI_same]; exact i_0
  have e0 : ((sI (sI (sI (sR w 91 9 (some 1)) 91 0 0) 91 1 0) 91 10 0).1 91 0).toInt = 0 := by rw [sI_ne _ _ _ _ _ (by decide), sI_ne _ _ _ _ _ (by decide), sI_same]; exact i_0
  generalize (sI (sI (sI (sR w 91 9 (some 1)) 91 0 0) 91 1 0) 91 10 0) = z at *
  have ec : cf z = cf w := cf_fr F0 rfl
  have en : z.1 1 2 = w.1 1 2 := (F0 1 2 rfl).1
  have P0 : PWc z [] := ⟨e0, e1, fun t y q => (by cases q), fun p y q => (by cases q), fun t _ => rfl⟩
  have e00 : (0 : Int32) = nI 0 := rfl
  rw [e00]
  refine rc_22 (w0 := z) B0 (fun w' ls' B F P k => ?_) (fun r w' ls' B F r1 r4 k => ?_) FU 0 z [] B0 (FR.refl _ z) r0 P0 (by omega) (fun r ls' hk => by rw [e10] at hk; exact hk) (fu_lt (by decide))
  · rw [ec, en] at k
    exact hQ _ w' ls' B (F0.tr F rfl) (by decide) (by rw [i_m1]; exact k) (fun _ => P)
  · rw [ec, en] at k
    exact hQ _ w' ls' B (F0.tr F rfl) r4 k (fun c => by omega)
/-! the reference lets a line in just when its lines so far let it in -/
/-- the reference's number of a kind -/
def mkd (x : Ln) : Int := if x.1 = 0 then 0 else if x.1 = 1 then 1 else 2 + x.2.1
def gdT (y : Ln) : Prop := y.1 = 0 ∨ y.1 = 1 ∨ (y.1 = 2 ∧ 0 ≤ y.2.1 ∧ y.2.1 ≤ 7)
def rmZ (k : Int) : Int := if k = 0 then 1000 else if k = 1 then 2 else if k = 3 then 3 else if k = 4 then 3 else if k = 6 then 4 else if k = 7 then 1 else 2
theorem rm_z (k : Int32) : (rm k).toInt = rmZ k.toInt := by
  unfold rm rmZ
  by_cases c0 : k.toInt = 0
  · rw [if_pos c0, if_pos c0]; decide
  rw [if_neg c0, if_neg c0]
  by_cases c1 : k.toInt = 1
  · rw [if_pos c1, if_pos c1]; decide
  rw [if_neg c1, if_neg c1]
  by_cases c3 : k.toInt = 3
  · rw [if_pos c3, if_pos c3]; decide
  rw [if_neg c3, if_neg c3]
  by_cases c4 : k.toInt = 4
  · rw [if_pos c4, if_pos c4]; decide
  rw [if_neg c4, if_neg c4]
  by_cases c6 : k.toInt = 6
  · rw [if_pos c6, if_pos c6]; decide
  rw [if_neg c6, if_neg c6]
  by_cases c7 : k.toInt = 7
  · rw [if_pos c7, if_pos c7]; decide
  rw [if_neg c7, if_neg c7]
  decide
theorem rmZ_v : ∀ v : Nat, v < 8 → rmZ (2 + (v : Int)) = pcn (v : Int) := by decide +kernel
theorem rmZ_p : rmZ 1 = pcn 8 := by decide +kernel
theorem pcn_9 : pcn 9 = 48 := by decide +kernel
theorem rm_pcn {k : Int32} {y : Ln} (hk : k.toInt = mkd y) (g : gdT y) : (y.1 = 0 ∧ (rm k).toInt = 1000) ∨ (¬ y.1 = 0 ∧ (rm k).toInt = pcn (ckd y)) := by
  rw [rm_z, hk]
  rcases g with g | g | g
  · refine Or.inl ⟨g, ?_⟩
    have e : mkd y = 0 := by unfold mkd; rw [if_pos g]
    rw [e]
    decide
  · refine Or.inr ⟨by omega, ?_⟩
    have e : mkd y = 1 := by unfold mkd; rw [if_neg (by omega), if_pos g]
    have e2 : ckd y = 8 := by unfold ckd; rw [if_neg (by omega), if_pos g]
    rw [e, e2]
    exact rmZ_p
  · refine Or.inr ⟨by omega, ?_⟩
    have e : mkd y = 2 + y.2.1 := by unfold mkd; rw [if_neg (by omega), if_neg (by omega)]
    have e2 : ckd y = y.2.1 := by unfold ckd; rw [if_neg (by omega), if_neg (by omega)]
    rw [e, e2]
    have q := rmZ_v y.2.1.toNat (by omega)
    have q2 : ((y.2.1.toNat : Nat) : Int) = y.2.1 := by omega
    rw [q2] at q
    exact q
theorem prt_b (ls : List Ln) (t : Int) : 0 ≤ prt ls t ∧ prt ls t ≤ 2 * ((pip ls).length : Int) := by
  unfold prt
  have a := List.length_filter_le (fun x : Ln => x.2.1 == t) (pip ls)
  have b := List.length_filter_le (fun x : Ln => x.2.2.1 == t) (pip ls)
  omega
theorem room_x {w : MW} {k : Int32} {Q : Int32 → MW → Prop} (hQ : Q (rm k) w) : p_Mo_room w k Q := by
  refine Eq.mpr (p_Mo_room.eq_1 _ _ _) ?_
  unfold rm at hQ
  refine ⟨fun c0 => ⟨fun c1 => ⟨fun c3 => ?_, fun c3 => ⟨fun c4 => ⟨fun c6 => ⟨fun c7 => ?_, fun c7 => ?_⟩, fun c6 => ?_⟩, fun c4 => ?_⟩⟩, fun c1 => ?_⟩, fun c0 => ?_⟩
  · rw [if_neg c0, if_neg c1, if_pos c3] at hQ
    exact hQ
  · rw [if_neg c0, if_neg c1, if_neg c3, if_neg c4, if_neg c6, if_neg c7] at hQ
    exact hQ
  · rw [if_neg c0, if_neg c1, if_neg c3, if_neg c4, if_neg c6, if_pos (Classical.not_not.mp c7)] at hQ
    exact hQ
  · rw [if_neg c0, if_neg c1, if_neg c3, if_neg c4, if_pos (Classical.not_not.mp c6)] at hQ
    exact hQ
  · rw [if_neg c0, if_neg c1, if_neg c3, if_pos (Classical.not_not.mp c4)] at hQ
    exact hQ
  · rw [if_neg c0, if_pos (Classical.not_not.mp c1)] at hQ
    exact hQ
  · rw [if_pos (Classical.not_not.mp c0)] at hQ
    exact hQ
/-- the lines that the first pass has let in -/
def PN (w : MW) (ls : List Ln) : Prop := (w.1 127 85).toInt = ((thg ls).length : Int) ∧ (w.1 127 86).toInt = ((pip ls).length : Int) ∧ (∀ (t : Nat) (y : Ln), (thg ls)[t]? = some y → (w.1 179 t).toInt = mkd y ∧ (w.1 180 t).toInt = prt ls t ∧ gdT y) ∧ (∀ t : Nat, (thg ls).length ≤ t → prt ls t = 0)
theorem pn_fr {l : Pl} {w w' : MW} {ls : List Ln} (h : PN w ls) (hF : FR l w w') (ho : off l [(127, some 85), (127, some 86), (179, none), (180, none)] = true) : PN w' ls := by
  have q : ∀ k j, hit [(127, some 85), (127, some 86), (179, none), (180, none)] k j = true → w'.1 k j = w.1 k j := fun k j hk => (hF k j (off_hit ho hk)).1
  refine ⟨by rw [q 127 85 rfl]; exact h.1, by rw [q 127 86 rfl]; exact h.2.1, fun t y e => ?_, h.2.2.2⟩
  rw [q 179 t rfl, q 180 t rfl]
  exact h.2.2.1 t y e
def lin_ : Pl := [(127, some 85), (127, some 86), (179, none), (180, none)]
theorem in_91 {w : MW} {ls : List Ln} {x : Ln} {k : Int32} {Q : Int32 → MW → Prop} (hI : BND w) (h : PN w ls) (hx : ¬ x.1 = 3) (hk : k.toInt = mkd x) (g : gdT x) (c : (thg ls).length < 20) (h1 : ∀ w', BND w' → FR lin_ w w' → PN w' (ls ++ [x]) → Q 1 w') : q_Mo_isNew_91 1 k (w.1 127 85) w Q := by
  have n0 := h.1
  have b := bd_127_85 hI
  have s := ti_add2 (Eq.refl (w.1 127 85).toInt) i_1 (by omega) (by omega)
  have kb : 0 ≤ k.toInt ∧ k.toInt ≤ 9 := by
    rw [hk]
    unfold mkd
    rcases g with g | g | g
    · rw [if_pos g]
      omega
    · rw [if_neg (by omega), if_pos g]
      omega
    · rw [if_neg (by omega), if_neg (by omega)]
      omega
  have n : (w.1 127 85).toInt.toNat = (thg ls).length := by omega
  refine Eq.mpr (q_Mo_isNew_91.eq_1 _ _ _ _ _) ⟨⟨by omega, by omega⟩, ⟨by omega, by omega⟩, Or.inr i_1, h1 _ (wbd_127_85 (wbd_180 (wbd_179 hI _ kb.1 kb.2) _) (by omega) (by omega)) (FR.I (FR.I (FR.I (FR.refl _ w) rfl) rfl) rfl) ⟨?_, ?_, fun t y e => ?_, fun t ht => ?_⟩⟩
  · rw [sI_same, s, n0, thg_t ls x hx, List.length_append]
    rfl
  · rw [sI_ne _ _ _ _ _ (by decide), sI_oth _ _ _ _ _ _ (by decide), sI_oth _ _ _ _ _ _ (by decide), pip_t ls x hx]
    exact h.2.1
  · have f179 : (sI (sI (sI w 179 (w.1 127 85).toInt.toNat k) 180 (w.1 127 85).toInt.toNat 0) 127 85 ((w.1 127 85) + (1 : Int32))).1 179 t = if t = (thg ls).length then k else w.1 179 t := by
      rw [sI_oth _ _ _ _ _ _ (by decide), sI_oth _ _ _ _ _ _ (by decide), sI_at, n]
      by_cases q : t = (thg ls).length
      · rw [if_pos q, if_pos ⟨rfl, q⟩]
      · rw [if_neg q, if_neg (fun z => q z.2)]
    have f180 : (sI (sI (sI w 179 (w.1 127 85).toInt.toNat k) 180 (w.1 127 85).toInt.toNat 0) 127 85 ((w.1 127 85) + (1 : Int32))).1 180 t = if t = (thg ls).length then 0 else w.1 180 t := by
      rw [sI_oth _ _ _ _ _ _ (by decide), sI_at, n]
      by_cases q : t = (thg ls).length
      · rw [if_pos q, if_pos ⟨rfl, q⟩]
      · rw [if_neg q, if_neg (fun z => q z.2), sI_oth _ _ _ _ _ _ (by decide)]
    rw [f179, f180, prt_t ls x hx]
    rw [thg_t ls x hx] at e
    by_cases q : t = (thg ls).length
    · rw [if_pos q, if_pos q]
      rw [q, List.getElem?_append_right (Nat.le_refl _), Nat.sub_self] at e
      have ey : x = y := Option.some.inj e
      rw [← ey]
      refine ⟨hk, ?_, g⟩
      rw [i_0, h.2.2.2 t (by omega)]
    · rw [if_neg q, if_neg q]
      have lt : t < (thg ls).length := by
        by_cases c : t < (thg ls).length
        · exact c
        · have l2 := (List.getElem?_eq_some_iff.mp e).1
          rw [List.length_append] at l2
          have : ([x] : List Ln).length = 1 := rfl
          omega
      rw [List.getElem?_append_left lt] at e
      exact h.2.2.1 t y e
  · rw [prt_t ls x hx]
    rw [thg_t ls x hx, List.length_append] at ht
    exact h.2.2.2 t (by have : ([x] : List Ln).length = 1 := rfl; omega)
/-- what the reference is told of a line -/
def LnW (w : MW) (r : Int32) (x : Ln) : Prop := (r.toInt = 0 ∧ x.1 = 0 ∧ x.2.1 = (w.1 178 0).toInt) ∨ (r.toInt = 1 ∧ x.1 = 1) ∨ (r.toInt = 2 ∧ x.1 = 2 ∧ x.2.1 = (w.1 178 0).toInt) ∨ (r.toInt = 3 ∧ x.1 = 3 ∧ x.2.1 = (w.1 178 0).toInt ∧ x.2.2.1 = (w.1 178 1).toInt ∧ x.2.2.2 = (w.1 178 2).toInt)
theorem in_t {w : MW} {ls : List Ln} {r : Int32} {x : Ln} {Q : Int32 → MW → Prop} (hI : BND w) (h : PN w ls) (hx : LnW w r x) (r3 : ¬ r.toInt = 3) (v2 : r.toInt = 2 → 0 ≤ (w.1 178 0).toInt) (h1 : ∀ w', BND w' → FR lin_ w w' → okL ls x → PN w' (ls ++ [x]) → Q 1 w') (h0 : ¬ okL ls x → Q 0 w) : p_Mo_isNew w r Q := by
  have n0 := h.1
  have Z : ¬ okL ls x → q_Mo_isNew_61 r 0 w Q := fun k => Eq.mpr (q_Mo_isNew_61.eq_1 _ _ _ _) ⟨fun _ => ⟨Or.inl i_0, h0 k⟩, fun c => absurd i_0 c⟩
  have nx : ¬ x.1 = 3 := by
    rcases hx with q | q | q | q
    · omega
    · omega
    · omega
    · exact absurd q.1 r3
  have G : okL ls x → q_Mo_isNew_61 r 1 w Q := fun ok => by
    have lt := ok_t nx ok
    have b := bd_178 hI 0
    refine Eq.mpr (q_Mo_isNew_61.eq_1 _ _ _ _) ⟨fun c => absurd c (by decide), fun _ => ⟨fun c2 => in_91 hI h nx ?_ ?_ lt (fun w' B F P => h1 w' B F ok P), fun c2 => in_91 hI h nx ?_ ?_ lt (fun w' B F P => h1 w' B F ok P)⟩⟩
    · unfold mkd
      rcases hx with q | q | q | q
      · rw [if_pos q.2.1]
        exact q.1
      · rw [if_neg (by omega), if_pos q.2]
        exact q.1
      · exact absurd q.1 c2
      · exact absurd q.1 r3
    · rcases hx with q | q | q | q
      · exact Or.inl q.2.1
      · exact Or.inr (Or.inl q.2)
      · exact absurd q.1 c2
      · exact absurd q.1 r3
    · have c2 := Classical.not_not.mp c2
      have e2 := ti_add2 (by decide : ((2 : Int32)).toInt = 2) (Eq.refl (w.1 178 0).toInt) (by omega) (by omega)
      rw [e2]
      unfold mkd
      rcases hx with q | q | q | q
      · omega
      · omega
      · rw [if_neg (by omega), if_neg (by omega), q.2.2]
      · omega
    · have c2 := Classical.not_not.mp c2
      rcases hx with q | q | q | q
      · omega
      · omega
      · refine Or.inr (Or.inr ⟨q.2.1, ?_⟩)
        rcases ok with o | o | o | o
        · omega
        · omega
        · exact ⟨o.2.1, o.2.2.1⟩
        · omega
      · omega
  have N : (thg ls).length < 20 → ¬ r.toInt = 0 ∨ (1 ≤ (w.1 178 0).toInt ∧ (w.1 178 0).toInt ≤ 100000) → ¬ r.toInt = 2 ∨ (w.1 178 0).toInt ≤ 7 → okL ls x := fun lt t0 t2 => by
    rcases hx with q | q | q | q
    · have t := t0.resolve_left (fun z => z q.1)
      exact Or.inl ⟨q.2.1, by omega, by omega, lt⟩
    · exact Or.inr (Or.inl ⟨q.2, lt⟩)
    · have t := t2.resolve_left (fun z => z q.1)
      have v := v2 q.1
      exact Or.inr (Or.inr (Or.inl ⟨q.2.1, by omega, by omega, lt⟩))
    · exact absurd q.1 r3
  have F40 : (thg ls).length < 20 → (¬ r.toInt = 0 ∨ (1 ≤ (w.1 178 0).toInt ∧ (w.1 178 0).toInt ≤ 100000)) → q_Mo_isNew_40 r w Q := fun lt t0 => by
    refine Eq.mpr (q_Mo_isNew_40.eq_1 _ _ _) ⟨fun c => G (N lt t0 (Or.inl c)), fun c => ⟨fun c7 => Z (fun ok => ?_), fun c7 => G (N lt t0 (Or.inr (by omega)))⟩⟩
    have c := Classical.not_not.mp c
    rcases hx with q | q | q | q
    · omega
    · omega
    · rcases ok with o | o | o | o
      · omega
      · omega
      · have := o.2.2.1
        omega
      · omega
    · omega
  refine Eq.mpr (p_Mo_isNew.eq_1 _ _ _) ⟨fun c => absurd c r3, fun _ => ⟨fun c => Z (fun ok => ?_), fun c => ⟨fun c0 => F40 (by omega) (Or.inl c0), fun c0 => ⟨fun d => Z (fun ok => ?_), fun d => ⟨fun d2 => Z (fun ok => ?_), fun d2 => F40 (by omega) (Or.inr ⟨by omega, by omega⟩)⟩⟩⟩⟩⟩
  · have := ok_t nx ok
    omega
  · have c0 := Classical.not_not.mp c0
    rcases hx with q | q | q | q
    · rcases ok with o | o | o | o
      · have := o.2.1
        omega
      · omega
      · omega
      · omega
    · omega
    · omega
    · omega
  · have c0 := Classical.not_not.mp c0
    rcases hx with q | q | q | q
    · rcases ok with o | o | o | o
      · have := o.2.2.1
        omega
      · omega
      · omega
      · omega
    · omega
    · omega
    · omega
/-! the reference lets a pipe's line in -/
theorem inc_v {w : MW} {i : Int32} (t : Nat) (h0 : 0 ≤ (w.1 180 t).toInt) (h1 : (w.1 180 t).toInt ≤ 1000) : ((inc w i).1 180 t).toInt = (w.1 180 t).toInt + (if i.toInt = (t : Int) then 1 else 0) := by
  unfold inc
  by_cases c : i.toInt < 0
  · rw [if_pos c, if_neg (show ¬ i.toInt = (t : Int) by omega)]
    omega
  · rw [if_neg c]
    by_cases e : i.toInt = (t : Int)
    · have et : i.toInt.toNat = t := by omega
      rw [if_pos e, et, sI_same, ti_add2 (Eq.refl (w.1 180 t).toInt) i_1 (by omega) (by omega)]
    · rw [if_neg e, sI_ne _ _ _ _ _ (by omega)]
      omega
theorem inc_bnd {w : MW} {i : Int32} (h : BND w) : BND (inc w i) := by
  unfold inc
  by_cases c : i.toInt < 0
  · rw [if_pos c]
    exact h
  · rw [if_neg c]
    exact wbd_180 h _
theorem inc_fr {w0 w : MW} {i : Int32} (h : FR lin_ w0 w) : FR lin_ w0 (inc w i) := by
  unfold inc
  by_cases c : i.toInt < 0
  · rw [if_pos c]
    exact h
  · rw [if_neg c]
    exact FR.I h rfl
theorem okN {w : MW} {ls : List Ln} (h : PN w ls) {b : Int32} {v d : Int} (eb : b.toInt = v) (b0 : -1 ≤ v) (lt : v < ((thg ls).length : Int)) (np : (pip ls).length < 24) (d0 : 0 ≤ d) (d1 : d ≤ 1) : (v = -1 ∨ (0 ≤ v ∧ v < (thg ls).length ∧ ∀ y, (thg ls)[v.toNat]? = some y → prt ls v + d < pcn (ckd y))) ↔ (v < 0 ∨ (w.1 180 b.toInt.toNat).toInt + d < (rm (w.1 179 b.toInt.toNat)).toInt) := by
  rw [eb]
  by_cases c : v = -1
  · exact ⟨fun _ => Or.inl (by omega), fun _ => Or.inl c⟩
  · have v0 : 0 ≤ v := by omega
    have ev : ((v.toNat : Nat) : Int) = v := by omega
    have l : v.toNat < (thg ls).length := by omega
    have g := h.2.2.1 v.toNat _ (List.getElem?_eq_getElem l)
    rw [ev] at g
    have pb := prt_b ls v
    rcases rm_pcn g.1 g.2.2 with ⟨k0, k⟩ | ⟨k0, k⟩
    · have kc : ckd (thg ls)[v.toNat] = 9 := by
        unfold ckd
        rw [if_pos k0]
      rw [g.2.1, k]
      constructor
      · intro _
        exact Or.inr (by omega)
      · intro _
        refine Or.inr ⟨v0, lt, fun y ey => ?_⟩
        rw [List.getElem?_eq_getElem l] at ey
        have e := Option.some.inj ey
        rw [← e, kc, pcn_9]
        omega
    · rw [g.2.1, k]
      constructor
      · intro q
        have q := q.resolve_left c
        exact Or.inr (q.2.2 _ (List.getElem?_eq_getElem l))
      · intro q
        have q := q.resolve_left (by omega)
        refine Or.inr ⟨v0, lt, fun y ey => ?_⟩
        rw [List.getElem?_eq_getElem l] at ey
        have e := Option.some.inj ey
        rw [← e]
        exact q
theorem in_255 {w : MW} {b : Int32} {Q : Int32 → MW → Prop} (b1 : b.toInt < 20) (hQ : Q 1 (sI (inc w b) 127 86 ((w.1 127 86) + (1 : Int32)))) : q_Mo_isNew_255 b w Q := by
  unfold inc at hQ
  refine Eq.mpr (q_Mo_isNew_255.eq_1 _ _ _) ⟨fun c => ?_, fun c => ⟨⟨by omega, b1⟩, ⟨by omega, b1⟩, ?_⟩⟩
  · rw [if_pos c] at hQ
    exact hQ
  · rw [if_neg c] at hQ
    exact hQ
theorem in_214 {w : MW} {a b f : Int32} {Q : Int32 → MW → Prop} (a1 : a.toInt < 20) (b1 : b.toInt < 20) (h0 : (¬ b.toInt < 0 ∧ ¬ ((w.1 180 b.toInt.toNat) + f).toInt < (rm (w.1 179 b.toInt.toNat)).toInt) → Q 0 w) (h1 : (b.toInt < 0 ∨ ((w.1 180 b.toInt.toNat) + f).toInt < (rm (w.1 179 b.toInt.toNat)).toInt) → Q 1 (sI (inc (inc w a) b) 127 86 (((inc w a).1 127 86) + (1 : Int32)))) : q_Mo_isNew_214 a b f w Q := by
  have go : (b.toInt < 0 ∨ ((w.1 180 b.toInt.toNat) + f).toInt < (rm (w.1 179 b.toInt.toNat)).toInt) → (a.toInt < 0 → q_Mo_isNew_255 b w Q) ∧ (¬ (a.toInt < 0) → ((0 ≤ a.toInt ∧ a.toInt < 20) ∧ ((0 ≤ a.toInt ∧ a.toInt < 20) ∧ (q_Mo_isNew_255 b (sI w 180 a.toInt.toNat ((w.1 180 a.toInt.toNat) + (1 : Int32))) Q)))) := fun c => by
    have h1 := h1 c
    refine ⟨fun ca => in_255 b1 ?_, fun ca => ⟨⟨by omega, a1⟩, ⟨by omega, a1⟩, in_255 b1 ?_⟩⟩
    · have e : inc w a = w := by
        unfold inc
        exact if_pos ca
      rw [e] at h1
      exact h1
    · have e : inc w a = sI w 180 a.toInt.toNat ((w.1 180 a.toInt.toNat) + (1 : Int32)) := by
        unfold inc
        exact if_neg ca
      rw [e] at h1
      exact h1
  exact Eq.mpr (q_Mo_isNew_214.eq_1 _ _ _ _ _) ⟨fun cb => go (Or.inl cb), fun cb => ⟨⟨by omega, b1⟩, ⟨by omega, b1⟩, room_x ⟨fun c => go (Or.inr c), fun c => h0 ⟨cb, c⟩⟩⟩⟩
theorem in_187 {w : MW} {a b f : Int32} {Q : Int32 → MW → Prop} (a1 : a.toInt < 20) (b1 : b.toInt < 20) (h0 : ¬ ((a.toInt < 0 ∨ ((w.1 180 a.toInt.toNat) + f).toInt < (rm (w.1 179 a.toInt.toNat)).toInt) ∧ (b.toInt < 0 ∨ ((w.1 180 b.toInt.toNat) + f).toInt < (rm (w.1 179 b.toInt.toNat)).toInt)) → Q 0 w) (h1 : ((a.toInt < 0 ∨ ((w.1 180 a.toInt.toNat) + f).toInt < (rm (w.1 179 a.toInt.toNat)).toInt) ∧ (b.toInt < 0 ∨ ((w.1 180 b.toInt.toNat) + f).toInt < (rm (w.1 179 b.toInt.toNat)).toInt)) → Q 1 (sI (inc (inc w a) b) 127 86 (((inc w a).1 127 86) + (1 : Int32)))) : q_Mo_isNew_187 a b f w Q := by
  refine Eq.mpr (q_Mo_isNew_187.eq_1 _ _ _ _ _) ⟨fun ca => in_214 a1 b1 (fun q => h0 (fun z => z.2.elim (fun y => q.1 y) (fun y => q.2 y))) (fun q => h1 ⟨Or.inl ca, q⟩), fun ca => ⟨⟨by omega, a1⟩, ⟨by omega, a1⟩, room_x ⟨fun c => h0 (fun z => z.1.elim (fun y => ca y) (fun y => ?_)), fun c => in_214 a1 b1 (fun q => h0 (fun z => z.2.elim (fun y => q.1 y) (fun y => q.2 y))) (fun q => h1 ⟨Or.inr ?_, q⟩)⟩⟩⟩
  · omega
  · omega
theorem in_p {w : MW} {ls : List Ln} {r : Int32} {x : Ln} {Q : Int32 → MW → Prop} (hI : BND w) (h : PN w ls) (r3 : r.toInt = 3) (x3 : x.1 = 3) (ea : (w.1 178 0).toInt = x.2.1) (eb : (w.1 178 1).toInt = x.2.2.1) (el : (w.1 178 2).toInt = x.2.2.2) (a0 : -1 ≤ x.2.1) (b0 : -1 ≤ x.2.2.1) (h1 : ∀ w', BND w' → FR lin_ w w' → okL ls x → PN w' (ls ++ [x]) → Q 1 w') (h0 : ¬ okL ls x → Q 0 w) : p_Mo_isNew w r Q := by
  have n1 := h.2.1
  have n0 := h.1
  have t20 := bd_127_85 hI
  have t24 := bd_127_86 hI
  have i3 : okL ls x ↔ ((pip ls).length < 24 ∧ 1 ≤ x.2.2.2 ∧ x.2.2.2 ≤ 200 ∧ (x.2.1 = -1 ∨ (0 ≤ x.2.1 ∧ x.2.1 < (thg ls).length ∧ ∀ y, (thg ls)[x.2.1.toNat]? = some y → prt ls x.2.1 < pcn (ckd y))) ∧ (x.2.2.1 = -1 ∨ (0 ≤ x.2.2.1 ∧ x.2.2.1 < (thg ls).length ∧ ∀ y, (thg ls)[x.2.2.1.toNat]? = some y → prt ls x.2.2.1 + (if x.2.1 = x.2.2.1 then 1 else 0) < pcn (ckd y)))) := by
    constructor
    · intro q
      rcases q with q | q | q | q
      · have := q.1
        omega
      · have := q.1
        omega
      · have := q.1
        omega
      · exact q.2
    · intro q
      exact Or.inr (Or.inr (Or.inr ⟨x3, q⟩))
  refine Eq.mpr (p_Mo_isNew.eq_1 _ _ _) ⟨fun _ => ⟨fun c => h0 (fun q => ?_), fun cp => ⟨fun c => h0 (fun q => ?_), fun c1 => ⟨fun c => h0 (fun q => ?_), fun c2 => ⟨fun c => h0 (fun q => ?_), fun ca => ⟨fun cb => ?_, fun c => h0 (fun q => ?_)⟩⟩⟩⟩⟩, fun c => absurd r3 c⟩
  · have := (i3.mp q).1
    omega
  · have := (i3.mp q).2.1
    omega
  · have := (i3.mp q).2.2.1
    omega
  · rcases (i3.mp q).2.2.2.1 with k | k
    · omega
    · have := k.2.1
      omega
  · have np : (pip ls).length < 24 := by omega
    have go : ∀ f : Int32, f.toInt = (if x.2.1 = x.2.2.1 then 1 else 0) → q_Mo_isNew_187 (w.1 178 0) (w.1 178 1) f w Q := fun f ef => by
      have fd : 0 ≤ f.toInt ∧ f.toInt ≤ 1 := by
        rw [ef]
        by_cases e : x.2.1 = x.2.2.1
        · rw [if_pos e]
          omega
        · rw [if_neg e]
          omega
      have sm : ∀ b : Int32, ¬ b.toInt < 0 → b.toInt < (thg ls).length → ((w.1 180 b.toInt.toNat) + f).toInt = (w.1 180 b.toInt.toNat).toInt + f.toInt := fun b q0 q1 => by
        have l : b.toInt.toNat < (thg ls).length := by omega
        have g := (h.2.2.1 _ _ (List.getElem?_eq_getElem l)).2.1
        have pb := prt_b ls ((b.toInt.toNat : Nat) : Int)
        exact ti_add2 rfl rfl (by omega) (by omega)
      have A := okN h (b := w.1 178 0) (d := f.toInt) ea a0 (by omega) np fd.1 fd.2
      have B := okN h (b := w.1 178 1) (d := f.toInt) eb b0 (by omega) np fd.1 fd.2
      have A' : (x.2.1 < 0 ∨ (w.1 180 (w.1 178 0).toInt.toNat).toInt + f.toInt < (rm (w.1 179 (w.1 178 0).toInt.toNat)).toInt) ↔ ((w.1 178 0).toInt < 0 ∨ ((w.1 180 (w.1 178 0).toInt.toNat) + f).toInt < (rm (w.1 179 (w.1 178 0).toInt.toNat)).toInt) := by
        by_cases c0 : (w.1 178 0).toInt < 0
        · exact ⟨fun _ => Or.inl c0, fun _ => Or.inl (by omega)⟩
        · rw [sm _ c0 (by omega), ea]
      have B' : (x.2.2.1 < 0 ∨ (w.1 180 (w.1 178 1).toInt.toNat).toInt + f.toInt < (rm (w.1 179 (w.1 178 1).toInt.toNat)).toInt) ↔ ((w.1 178 1).toInt < 0 ∨ ((w.1 180 (w.1 178 1).toInt.toNat) + f).toInt < (rm (w.1 179 (w.1 178 1).toInt.toNat)).toInt) := by
        by_cases c0 : (w.1 178 1).toInt < 0
        · exact ⟨fun _ => Or.inl c0, fun _ => Or.inl (by omega)⟩
        · rw [sm _ c0 (by omega), eb]
      have k1 : okL ls x ↔ (((w.1 178 0).toInt < 0 ∨ ((w.1 180 (w.1 178 0).toInt.toNat) + f).toInt < (rm (w.1 179 (w.1 178 0).toInt.toNat)).toInt) ∧ ((w.1 178 1).toInt < 0 ∨ ((w.1 180 (w.1 178 1).toInt.toNat) + f).toInt < (rm (w.1 179 (w.1 178 1).toInt.toNat)).toInt)) := by
        rw [← A', ← B', ← A, ← B, i3, ← ef]
        constructor
        · intro q
          refine ⟨?_, q.2.2.2.2⟩
          by_cases e : x.2.1 = x.2.2.1
          · rw [e]
            exact q.2.2.2.2
          · have f0 : f.toInt = 0 := by rw [ef, if_neg e]
            rcases q.2.2.2.1 with k | k
            · exact Or.inl k
            · refine Or.inr ⟨k.1, k.2.1, fun y ey => ?_⟩
              have := k.2.2 y ey
              omega
        · intro q
          refine ⟨np, by omega, by omega, ?_, q.2⟩
          rcases q.1 with k | k
          · exact Or.inl k
          · refine Or.inr ⟨k.1, k.2.1, fun y ey => ?_⟩
            have := k.2.2 y ey
            omega
      refine in_187 (by omega) (by omega) (fun k => h0 (fun q => k (k1.mp q))) (fun k => ?_)
      have e86 : (inc w (w.1 178 0)).1 127 86 = w.1 127 86 := inc_oth (by decide) 86
      have s86 := ti_add2 (Eq.refl (w.1 127 86).toInt) i_1 (by omega) (by omega)
      rw [e86]
      refine h1 _ (wbd_127_86 (inc_bnd (inc_bnd hI)) (by omega) (by omega)) (FR.I (inc_fr (inc_fr (FR.refl _ w))) rfl) (k1.mpr k) ⟨?_, ?_, fun t y ey => ?_, fun t ht => ?_⟩
      · rw [sI_ne _ _ _ _ _ (by decide), inc_oth (by decide), inc_oth (by decide), thg_p ls x x3]
        exact h.1
      · rw [sI_same, s86, n1, pip_p ls x x3, List.length_append]
        rfl
      · rw [thg_p ls x x3] at ey
        have g := h.2.2.1 t y ey
        have pb := prt_b ls (t : Int)
        have f179 : (sI (inc (inc w (w.1 178 0)) (w.1 178 1)) 127 86 ((w.1 127 86) + (1 : Int32))).1 179 t = w.1 179 t := by rw [sI_oth _ _ _ _ _ _ (by decide), inc_oth (by decide), inc_oth (by decide)]
        have v1 := inc_v (w := w) (i := w.1 178 0) t (by omega) (by omega)
        have z1 : 0 ≤ (if (w.1 178 0).toInt = (t : Int) then (1 : Int) else 0) ∧ (if (w.1 178 0).toInt = (t : Int) then (1 : Int) else 0) ≤ 1 := by
          by_cases c : (w.1 178 0).toInt = (t : Int)
          · rw [if_pos c]
            omega
          · rw [if_neg c]
            omega
        have v2 := inc_v (w := inc w (w.1 178 0)) (i := w.1 178 1) t (by omega) (by omega)
        have f180 : (sI (inc (inc w (w.1 178 0)) (w.1 178 1)) 127 86 ((w.1 127 86) + (1 : Int32))).1 180 t = (inc (inc w (w.1 178 0)) (w.1 178 1)).1 180 t := sI_oth _ _ _ _ _ _ (by decide)
        rw [f179, f180, v2, v1, prt_p ls x x3, ← ea, ← eb, g.2.1]
        exact ⟨g.1, rfl, g.2.2⟩
      · rw [thg_p ls x x3] at ht
        rw [prt_p ls x x3, h.2.2.2 t ht, if_neg (by omega), if_neg (by omega)]
        rfl
    refine ⟨fun c => go 0 ?_, fun c => go 1 ?_⟩
    · rw [if_neg (by omega)]
      exact i_0
    · rw [if_pos (by omega)]
      exact i_1
  · rcases (i3.mp q).2.2.2.2 with k | k
    · omega
    · have := k.2.1
      omega
theorem in_x {w : MW} {ls : List Ln} {r : Int32} {x : Ln} {Q : Int32 → MW → Prop} (hI : BND w) (h : PN w ls) (hx : LnW w r x) (v2 : r.toInt = 2 → 0 ≤ (w.1 178 0).toInt) (v3 : r.toInt = 3 → -1 ≤ (w.1 178 0).toInt ∧ -1 ≤ (w.1 178 1).toInt) (h1 : ∀ w', BND w' → FR lin_ w w' → okL ls x → PN w' (ls ++ [x]) → Q 1 w') (h0 : ¬ okL ls x → Q 0 w) : p_Mo_isNew w r Q := by
  by_cases r3 : r.toInt = 3
  · have q : r.toInt = 3 ∧ x.1 = 3 ∧ x.2.1 = (w.1 178 0).toInt ∧ x.2.2.1 = (w.1 178 1).toInt ∧ x.2.2.2 = (w.1 178 2).toInt := by
      rcases hx with q | q | q | q
      · omega
      · omega
      · omega
      · exact q
    have v := v3 r3
    exact in_p hI h r3 q.2.1 q.2.2.1.symm q.2.2.2.1.symm q.2.2.2.2.symm (by omega) (by omega) h1 h0
  · exact in_t hI h hx r3 v2 h1 h0
/-! the reference reads a plant: its first pass -/
theorem hf_ag {t w : MW} (h : AG t w) : hf w = hf t := by
  funext p
  unfold hf
  rw [h.2, h.1]
theorem lnw_of {w : MW} {r q : Int32} {a : Nat → Int32} {L : Int × Int × Int × Int × Int} (h : LnE r q a L) (ha : ∀ j, a j = w.1 178 j) (n : ¬ r.toInt = -1) : LnW w r (lnX L) ∧ ¬ L.1 = -1 := by
  have a0 : (a 0).toInt = (w.1 178 0).toInt := by rw [ha]
  have a1 : (a 1).toInt = (w.1 178 1).toInt := by rw [ha]
  have a2 : (a 2).toInt = (w.1 178 2).toInt := by rw [ha]
  rcases h.2 with c | c | c | c | c
  · exact absurd c.1 n
  · exact ⟨Or.inl ⟨c.1, c.2.1, c.2.2.trans a0⟩, by omega⟩
  · exact ⟨Or.inr (Or.inl ⟨c.1, c.2⟩), by omega⟩
  · exact ⟨Or.inr (Or.inr (Or.inl ⟨c.1, c.2.1, c.2.2.trans a0⟩)), by omega⟩
  · exact ⟨Or.inr (Or.inr (Or.inr ⟨c.1, c.2.1, c.2.2.1.trans a0, c.2.2.2.1.trans a1, c.2.2.2.2.trans a2⟩)), by omega⟩
theorem lne_m {r q : Int32} {a : Nat → Int32} {L : Int × Int × Int × Int × Int} (h : LnE r q a L) (n : r.toInt = -1) : L.1 = -1 := by
  rcases h.2 with c | c | c | c | c
  · exact c.2
  · omega
  · omega
  · omega
  · omega
theorem rq_15 {w0 : MW} {E : MW → Prop} {Q : Int32 → MW → Prop} (hI0 : BND w0) (hE : ∀ w' ls', BND w' → FR lr1 w0 w' → (∃ k, PlR (hf w0) (w0.1 127 22).toInt k 0 [] (-1) ls') → E w') (hQ : ∀ (r : Int32) (w' : MW) (r' : Int) ls', BND w' → FR lr1 w0 w' → 0 ≤ r' → r.toInt = -3 - r' → (∃ k, PlR (hf w0) (w0.1 127 22).toInt k 0 [] r' ls') → Q r w') (m : Nat) : ∀ (w : MW) (ls : List Ln), BND w → FR lr1 w0 w → PN w ls → (∀ r ls', (∃ k, PlR (hf w0) (w0.1 127 22).toInt k (w.1 127 21).toInt ls r ls') → ∃ k, PlR (hf w0) (w0.1 127 22).toInt k 0 [] r ls') → (4020 - (w.1 127 21).toInt).toNat < m → q_Mo_readPlant_15 E Q m w := by
  induction m with
  | zero => intros; omega
  | succ m ih =>
    intro w ls hB hF hP hc hm
    have hA : AG w0 w := ⟨fun j => (hF 128 j rfl).1, (hF 127 22 rfl).1⟩
    have e22 : w.1 127 22 = w0.1 127 22 := hA.2
    have b22 := bd_127_22 hI0
    have b21 := bd_127_21 hB
    rw [q_Mo_readPlant_15.eq_2]
    refine ⟨fun c => ?_, fun c => ?_⟩
    · rw [e22] at c
      exact hE w ls hB hF (hc _ _ ⟨1, Or.inl ⟨by omega, rfl, rfl⟩⟩)
    rw [e22] at c
    refine pc_planLine hA (h_Mo_planLine (Q := fun r w' => BND w' ∧ FR l_Mo_planLine w w' ∧ (-1) ≤ r.toInt ∧ r.toInt ≤ 3 ∧ (w.1 127 21).toInt ≤ (w'.1 127 21).toInt ∧ (r.toInt < 0 ∨ (w'.1 127 21).toInt < (w'.1 127 22).toInt) ∧ (r.toInt < 0 ∨ r.toInt = 1 ∨ r.toInt = 3 ∨ 0 ≤ (w'.1 178 0).toInt) ∧ (¬ r.toInt = 3 ∨ (-1 ≤ (w'.1 178 0).toInt ∧ -1 ≤ (w'.1 178 1).toInt ∧ 0 ≤ (w'.1 178 2).toInt))) hB (fun r w' a1 a2 a3 a4 a5 a6 a7 a8 => ⟨a1, a2, a3, a4, a5, a6, a7, a8⟩)) (fun r w2 hp hA2 hPL => ?_)
    obtain ⟨hI2, hF2, r0, r3, pl, lt, wa, wb⟩ := hp
    have b21' := bd_127_21 hI2
    have L := pl_lnS (t := w0) (by omega) (by omega) (by omega) hPL
    have F2 : FR lr1 w0 w2 := hF.tr hF2 rfl
    have s := ti_sub2 (by decide : ((-3) : Int32).toInt = -3) (Eq.refl (w2.1 127 21).toInt) (by omega) (by omega)
    refine ⟨fun d => hQ _ w2 (w2.1 127 21).toInt ls hI2 F2 L.2.1 s (hc _ _ ⟨1, Or.inr (Or.inl ⟨by omega, Or.inl (lne_m L.1 d), L.1.1.symm, rfl⟩)⟩), fun d => ?_⟩
    have W := lnw_of (w := w2) L.1 (fun j => rfl) d
    have P2 : PN w2 ls := pn_fr hP hF2 rfl
    refine in_x hI2 P2 W.1 (fun z => by omega) (fun z => ?_) (fun w4 B4 F4 ok P4 => ⟨fun _ => ?_, fun z => absurd (show ¬ (1 : Int32).toInt = 0 by decide) z⟩) (fun nk => ⟨fun z => absurd i_0 z, fun _ => ?_⟩)
    · have k := wb.resolve_left (fun y => y z)
      exact ⟨k.1, k.2.1⟩
    · have p4 : w4.1 127 21 = w2.1 127 21 := (F4 127 21 rfl).1
      have lt2 := lt.resolve_left (by omega)
      have t22 : w2.1 127 22 = w0.1 127 22 := hA2.2
      rw [t22] at lt2
      have e21 := ti_add2 (Eq.refl (w2.1 127 21).toInt) i_1 (by omega) (by omega)
      have F5 : FR [(127, some 21)] w4 (sI w4 127 21 ((w4.1 127 21) + (1 : Int32))) := FR.I (FR.refl _ w4) rfl
      refine ih _ (ls ++ [lnX (lnS (hf w0) (w.1 127 21).toInt)]) (wbd_127_21 B4 (by rw [p4]; omega) (by rw [p4]; omega)) ((F2.tr F4 rfl).tr F5 rfl) (pn_fr P4 F5 rfl) (fun r ls' hk => ?_) (by rw [sI_same, p4]; omega)
      rw [sI_same, p4, e21, ← L.1.1] at hk
      obtain ⟨k, hk⟩ := hk
      exact hc r ls' ⟨k + 1, Or.inr (Or.inr ⟨by omega, W.2, ok, hk⟩)⟩
    · exact hQ _ w2 (w2.1 127 21).toInt ls hI2 F2 L.2.1 s (hc _ _ ⟨1, Or.inr (Or.inl ⟨by omega, Or.inr nk, L.1.1.symm, rfl⟩)⟩)
/-! the reference's plant as the list of its lines: things -/
theorem sI_if (w : MW) (k j : Nat) (v : Int32) (t : Nat) : (sI w k j v).1 k t = if t = j then v else w.1 k t := by
  rw [sI_at]
  by_cases q : t = j
  · rw [if_pos ⟨rfl, q⟩, if_pos q]
  · rw [if_neg (fun z => q z.2), if_neg q]
/-- how often a thing is told as an end by the first p pipes -/
def pNo (ls : List Ln) (p : Nat) (t : Int) : Int := ((((pip ls).take p).filter (fun x => x.2.1 == t)).length : Int) + ((((pip ls).take p).filter (fun x => x.2.2.1 == t)).length : Int)
theorem pNo_len (ls : List Ln) (t : Int) : pNo ls (pip ls).length t = prt ls t := by
  unfold pNo prt
  rw [List.take_length]
theorem pNo_t (ls : List Ln) (x : Ln) (h : ¬ x.1 = 3) (p : Nat) (t : Int) : pNo (ls ++ [x]) p t = pNo ls p t := by
  unfold pNo
  rw [pip_t ls x h]
theorem pNo_p (ls : List Ln) (x : Ln) (h : x.1 = 3) (p : Nat) (t : Int) (hp : p ≤ (pip ls).length) : pNo (ls ++ [x]) p t = pNo ls p t := by
  unfold pNo
  rw [pip_p ls x h, List.take_append_of_le_length hp]
/-- the plant that stands -/
def PWs (w : MW) (ls : List Ln) : Prop := (w.1 127 4).toInt = ((thg ls).length : Int) ∧ (w.1 127 11).toInt = ((pip ls).length : Int) ∧ (∀ (t : Nat) (y : Ln), (thg ls)[t]? = some y → (w.1 163 t).toInt = mkd y ∧ (w.1 164 t).toInt = (if y.1 = 0 then y.2.1 else 0)) ∧ (∀ (p : Nat) (y : Ln), (pip ls)[p]? = some y → (w.1 169 p).toInt = y.2.2.2 ∧ (w.1 170 (2 * p)).toInt = y.2.1 ∧ (w.1 170 (2 * p + 1)).toInt = y.2.2.1 ∧ (w.1 171 (2 * p)).toInt = (if y.2.1 = -1 then -1 else pNo ls p y.2.1) ∧ (w.1 171 (2 * p + 1)).toInt = (if y.2.2.1 = -1 then -1 else pNo ls p y.2.2.1 + (if y.2.1 = y.2.2.1 then 1 else 0)))
/-- nothing is in it yet, and how many ports are taken -/
def PlZ (w : MW) (ls : List Ln) : Prop := (∀ (t : Nat), t < (thg ls).length → (w.1 168 t).toInt = prt ls t ∧ w.1 165 t = 0 ∧ w.1 166 t = 0 ∧ w.1 167 t = 0) ∧ (∀ p k : Nat, p < (pip ls).length → k < 200 → w.1 172 (200 * p + k) = 0) ∧ (∀ t : Nat, (thg ls).length ≤ t → prt ls t = 0)
theorem pws_fr {l : Pl} {w w' : MW} {ls : List Ln} (h : PWs w ls) (hF : FR l w w') (ho : off l [(127, some 4), (127, some 11), (163, none), (164, none), (169, none), (170, none), (171, none)] = true) : PWs w' ls := by
  have q : ∀ k j, hit [(127, some 4), (127, some 11), (163, none), (164, none), (169, none), (170, none), (171, none)] k j = true → w'.1 k j = w.1 k j := fun k j hk => (hF k j (off_hit ho hk)).1
  refine ⟨by rw [q 127 4 rfl]; exact h.1, by rw [q 127 11 rfl]; exact h.2.1, fun t y e => ?_, fun p y e => ?_⟩
  · rw [q 163 t rfl, q 164 t rfl]
    exact h.2.2.1 t y e
  · rw [q 169 p rfl, q 170 (2 * p) rfl, q 170 (2 * p + 1) rfl, q 171 (2 * p) rfl, q 171 (2 * p + 1) rfl]
    exact h.2.2.2 p y e
theorem plz_fr {l : Pl} {w w' : MW} {ls : List Ln} (h : PlZ w ls) (hF : FR l w w') (ho : off l [(165, none), (166, none), (167, none), (168, none), (172, none)] = true) : PlZ w' ls := by
  have q : ∀ k j, hit [(165, none), (166, none), (167, none), (168, none), (172, none)] k j = true → w'.1 k j = w.1 k j := fun k j hk => (hF k j (off_hit ho hk)).1
  refine ⟨fun t e => ?_, fun p k e1 e2 => ?_, h.2.2⟩
  · rw [q 165 t rfl, q 166 t rfl, q 167 t rfl, q 168 t rfl]
    exact h.1 t e
  · rw [q 172 _ rfl]
    exact h.2.1 p k e1 e2
theorem gd_ok {ls : List Ln} {x : Ln} (ok : okL ls x) (n : ¬ x.1 = 3) : gdT x := by
  rcases ok with o | o | o | o
  · exact Or.inl o.1
  · exact Or.inr (Or.inl o.1)
  · exact Or.inr (Or.inr ⟨o.1, o.2.1, o.2.2.1⟩)
  · exact absurd o.1 n
theorem mkd_b {x : Ln} (g : gdT x) : 0 ≤ mkd x ∧ mkd x ≤ 9 := by
  unfold mkd
  rcases g with g | g | g
  · rw [if_pos g]
    omega
  · rw [if_neg (by omega), if_pos g]
    omega
  · rw [if_neg (by omega), if_neg (by omega)]
    omega
theorem bt_53 {v : MW} {ls : List Ln} {x : Ln} {k m : Int32} {Q : MW → Prop} (hI : BND v) (h : PWs v ls) (hz : PlZ v ls) (nx : ¬ x.1 = 3) (ok : okL ls x) (ek : k.toInt = mkd x) (em : m.toInt = if x.1 = 0 then x.2.1 else 0) (m0 : 0 ≤ m.toInt) (m1 : m.toInt ≤ 100000) (hQ : ∀ v', BND v' → FR lbt v v' → PWs v' (ls ++ [x]) → PlZ v' (ls ++ [x]) → Q v') : q_Mo_build_53 m (v.1 127 4) (sI v 163 (v.1 127 4).toInt.toNat k) Q := by
  have n0 := h.1
  have lt := ok_t nx ok
  have kb := mkd_b (gd_ok ok nx)
  have b4 := bd_127_4 hI
  have g : 0 ≤ (v.1 127 4).toInt ∧ (v.1 127 4).toInt < 20 := ⟨b4.1, by omega⟩
  have e4 := ti_add2 (Eq.refl (v.1 127 4).toInt) i_1 (by omega) (by omega)
  have a4 : (sI v 163 (v.1 127 4).toInt.toNat k).1 127 4 = v.1 127 4 := sI_oth _ _ _ _ _ _ (by decide)
  have n : (v.1 127 4).toInt.toNat = (thg ls).length := by omega
  refine Eq.mpr (q_Mo_build_53.eq_1 _ _ _ _) ?_
  rw [a4]
  have B : BND (sI (sI (sI (sI (sI (sI (sI v 163 (v.1 127 4).toInt.toNat k) 164 (v.1 127 4).toInt.toNat m) 165 (v.1 127 4).toInt.toNat 0) 166 (v.1 127 4).toInt.toNat 0) 167 (v.1 127 4).toInt.toNat 0) 168 (v.1 127 4).toInt.toNat 0) 127 4 ((v.1 127 4) + (1 : Int32))) := wbd_127_4 (wbd_168 (wbd_167 (wbd_166 (wbd_165 (wbd_164 (wbd_163 hI _ (by omega) (by omega)) _ m0 m1) _) _ (by decide) (by decide)) _ (by decide) (by decide)) _) (by omega) (by omega)
  have F : FR lbt v (sI (sI (sI (sI (sI (sI (sI v 163 (v.1 127 4).toInt.toNat k) 164 (v.1 127 4).toInt.toNat m) 165 (v.1 127 4).toInt.toNat 0) 166 (v.1 127 4).toInt.toNat 0) 167 (v.1 127 4).toInt.toNat 0) 168 (v.1 127 4).toInt.toNat 0) 127 4 ((v.1 127 4) + (1 : Int32))) := FR.I (FR.I (FR.I (FR.I (FR.I (FR.I (FR.I (FR.refl _ v) rfl) rfl) rfl) rfl) rfl) rfl) rfl
  have f4 : ((sI (sI (sI (sI (sI (sI (sI v 163 (v.1 127 4).toInt.toNat k) 164 (v.1 127 4).toInt.toNat m) 165 (v.1 127 4).toInt.toNat 0) 166 (v.1 127 4).toInt.toNat 0) 167 (v.1 127 4).toInt.toNat 0) 168 (v.1 127 4).toInt.toNat 0) 127 4 ((v.1 127 4) + (1 : Int32))).1 127 4).toInt = (v.1 127 4).toInt + 1 := by rw [sI_same]; exact e4
  have o1 : ∀ (u : MW) (c j t : Nat) (y : Int32) (d : Nat), d ≠ c → (sI u c j y).1 d t = u.1 d t := fun u c j t y d hd => sI_oth _ _ _ _ _ _ hd
  have f163 : ∀ t, (sI (sI (sI (sI (sI (sI (sI v 163 (v.1 127 4).toInt.toNat k) 164 (v.1 127 4).toInt.toNat m) 165 (v.1 127 4).toInt.toNat 0) 166 (v.1 127 4).toInt.toNat 0) 167 (v.1 127 4).toInt.toNat 0) 168 (v.1 127 4).toInt.toNat 0) 127 4 ((v.1 127 4) + (1 : Int32))).1 163 t = if t = (thg ls).length then k else v.1 163 t := fun t => by
    rw [o1 _ _ _ _ _ _ (by decide), o1 _ _ _ _ _ _ (by decide), o1 _ _ _ _ _ _ (by decide), o1 _ _ _ _ _ _ (by decide), o1 _ _ _ _ _ _ (by decide), o1 _ _ _ _ _ _ (by decide), sI_if, n]
  have f164 : ∀ t, (sI (sI (sI (sI (sI (sI (sI v 163 (v.1 127 4).toInt.toNat k) 164 (v.1 127 4).toInt.toNat m) 165 (v.1 127 4).toInt.toNat 0) 166 (v.1 127 4).toInt.toNat 0) 167 (v.1 127 4).toInt.toNat 0) 168 (v.1 127 4).toInt.toNat 0) 127 4 ((v.1 127 4) + (1 : Int32))).1 164 t = if t = (thg ls).length then m else v.1 164 t := fun t => by
    rw [o1 _ _ _ _ _ _ (by decide), o1 _ _ _ _ _ _ (by decide), o1 _ _ _ _ _ _ (by decide), o1 _ _ _ _ _ _ (by decide), o1 _ _ _ _ _ _ (by decide), sI_if, o1 _ _ _ _ _ _ (by decide), n]
  have f165 : ∀ t, (sI (sI (sI (sI (sI (sI (sI v 163 (v.1 127 4).toInt.toNat k) 164 (v.1 127 4).toInt.toNat m) 165 (v.1 127 4).toInt.toNat 0) 166 (v.1 127 4).toInt.toNat 0) 167 (v.1 127 4).toInt.toNat 0) 168 (v.1 127 4).toInt.toNat 0) 127 4 ((v.1 127 4) + (1 : Int32))).1 165 t = if t = (thg ls).length then 0 else v.1 165 t := fun t => by
    rw [o1 _ _ _ _ _ _ (by decide), o1 _ _ _ _ _ _ (by decide), o1 _ _ _ _ _ _ (by decide), o1 _ _ _ _ _ _ (by decide), sI_if, o1 _ _ _ _ _ _ (by decide), o1 _ _ _ _ _ _ (by decide), n]
  have f166 : ∀ t, (sI (sI (sI (sI (sI (sI (sI v 163 (v.1 127 4).toInt.toNat k) 164 (v.1 127 4).toInt.toNat m) 165 (v.1 127 4).toInt.toNat 0) 166 (v.1 127 4).toInt.toNat 0) 167 (v.1 127 4).toInt.toNat 0) 168 (v.1 127 4).toInt.toNat 0) 127 4 ((v.1 127 4) + (1 : Int32))).1 166 t = if t = (thg ls).length then 0 else v.1 166 t := fun t => by
    rw [o1 _ _ _ _ _ _ (by decide), o1 _ _ _ _ _ _ (by decide), o1 _ _ _ _ _ _ (by decide), sI_if, o1 _ _ _ _ _ _ (by decide), o1 _ _ _ _ _ _ (by decide), o1 _ _ _ _ _ _ (by decide), n]
  have f167 : ∀ t, (sI (sI (sI (sI (sI (sI (sI v 163 (v.1 127 4).toInt.toNat k) 164 (v.1 127 4).toInt.toNat m) 165 (v.1 127 4).toInt.toNat 0) 166 (v.1 127 4).toInt.toNat 0) 167 (v.1 127 4).toInt.toNat 0) 168 (v.1 127 4).toInt.toNat 0) 127 4 ((v.1 127 4) + (1 : Int32))).1 167 t = if t = (thg ls).length then 0 else v.1 167 t := fun t => by
    rw [o1 _ _ _ _ _ _ (by decide), o1 _ _ _ _ _ _ (by decide), sI_if, o1 _ _ _ _ _ _ (by decide), o1 _ _ _ _ _ _ (by decide), o1 _ _ _ _ _ _ (by decide), o1 _ _ _ _ _ _ (by decide), n]
  have f168 : ∀ t, (sI (sI (sI (sI (sI (sI (sI v 163 (v.1 127 4).toInt.toNat k) 164 (v.1 127 4).toInt.toNat m) 165 (v.1 127 4).toInt.toNat 0) 166 (v.1 127 4).toInt.toNat 0) 167 (v.1 127 4).toInt.toNat 0) 168 (v.1 127 4).toInt.toNat 0) 127 4 ((v.1 127 4) + (1 : Int32))).1 168 t = if t = (thg ls).length then 0 else v.1 168 t := fun t => by
    rw [o1 _ _ _ _ _ _ (by decide), sI_if, o1 _ _ _ _ _ _ (by decide), o1 _ _ _ _ _ _ (by decide), o1 _ _ _ _ _ _ (by decide), o1 _ _ _ _ _ _ (by decide), o1 _ _ _ _ _ _ (by decide), n]
  refine ⟨g, g, g, g, g, ?_⟩
  generalize (sI (sI (sI (sI (sI (sI (sI v 163 (v.1 127 4).toInt.toNat k) 164 (v.1 127 4).toInt.toNat m) 165 (v.1 127 4).toInt.toNat 0) 166 (v.1 127 4).toInt.toNat 0) 167 (v.1 127 4).toInt.toNat 0) 168 (v.1 127 4).toInt.toNat 0) 127 4 ((v.1 127 4) + (1 : Int32))) = W at *
  have l1 : (thg (ls ++ [x])).length = (thg ls).length + 1 := by
    rw [thg_t ls x nx, List.length_append]
    rfl
  refine hQ W B F ⟨?_, ?_, fun t y e => ?_, fun p y e => ?_⟩ ⟨fun t ht => ?_, fun p k hp hk => ?_, fun t ht => ?_⟩
  · rw [f4, l1]
    omega
  · rw [(F 127 11 rfl).1, pip_t ls x nx]
    exact h.2.1
  · rw [f163, f164]
    rw [thg_t ls x nx] at e
    by_cases q : t = (thg ls).length
    · rw [if_pos q, if_pos q]
      rw [q, List.getElem?_append_right (Nat.le_refl _), Nat.sub_self] at e
      have ey : x = y := Option.some.inj e
      rw [← ey]
      exact ⟨ek, em⟩
    · rw [if_neg q, if_neg q]
      have l2 := (List.getElem?_eq_some_iff.mp e).1
      rw [← thg_t ls x nx, l1] at l2
      rw [List.getElem?_append_left (by omega)] at e
      exact h.2.2.1 t y e
  · rw [pip_t ls x nx] at e
    rw [(F 169 p rfl).1, (F 170 _ rfl).1, (F 170 _ rfl).1, (F 171 _ rfl).1, (F 171 _ rfl).1, pNo_t ls x nx, pNo_t ls x nx]
    exact h.2.2.2 p y e
  · rw [l1] at ht
    rw [f165, f166, f167, f168, prt_t ls x nx]
    by_cases q : t = (thg ls).length
    · rw [if_pos q, if_pos q, if_pos q, if_pos q]
      refine ⟨?_, rfl, rfl, rfl⟩
      rw [i_0, hz.2.2 t (by omega)]
    · rw [if_neg q, if_neg q, if_neg q, if_neg q]
      exact hz.1 t (by omega)
  · rw [pip_t ls x nx] at hp
    rw [(F 172 _ rfl).1]
    exact hz.2.1 p k hp hk
  · rw [l1] at ht
    rw [prt_t ls x nx]
    exact hz.2.2 t (by omega)
theorem bx_t {v : MW} {ls : List Ln} {r : Int32} {x : Ln} {Q : MW → Prop} (hI : BND v) (h : PWs v ls) (hz : PlZ v ls) (hx : LnW v r x) (r3 : ¬ r.toInt = 3) (ok : okL ls x) (hQ : ∀ v', BND v' → FR lbt v v' → PWs v' (ls ++ [x]) → PlZ v' (ls ++ [x]) → Q v') : p_Mo_build v r Q := by
  have nx : ¬ x.1 = 3 := by
    rcases hx with q | q | q | q
    · omega
    · omega
    · omega
    · exact absurd q.1 r3
  have n0 := h.1
  have lt := ok_t nx ok
  have b4 := bd_127_4 hI
  have g : 0 ≤ (v.1 127 4).toInt ∧ (v.1 127 4).toInt < 20 := ⟨b4.1, by omega⟩
  have a4 : ∀ k, (sI v 163 (v.1 127 4).toInt.toNat k).1 127 4 = v.1 127 4 := fun k => sI_oth _ _ _ _ _ _ (by decide)
  have a8 : ∀ k, (sI v 163 (v.1 127 4).toInt.toNat k).1 178 0 = v.1 178 0 := fun k => sI_oth _ _ _ _ _ _ (by decide)
  have f30 : ∀ k : Int32, k.toInt = mkd x → q_Mo_build_30 r k (v.1 127 4) v Q := fun k ek => by
    refine Eq.mpr (q_Mo_build_30.eq_1 _ _ _ _ _) ⟨g, fun c => bt_53 hI h hz nx ok ek ?_ (by decide) (by decide) hQ, fun c => ?_⟩
    · rw [if_neg ?_]
      · exact i_0
      · rcases hx with q | q | q | q
        · exact absurd q.1 c
        · omega
        · omega
        · omega
    · have c := Classical.not_not.mp c
      have q : x.1 = 0 ∧ x.2.1 = (v.1 178 0).toInt := by
        rcases hx with q | q | q | q
        · exact q.2
        · omega
        · omega
        · omega
      have o : 1 ≤ x.2.1 ∧ x.2.1 ≤ 100000 := by
        rcases ok with o | o | o | o
        · exact ⟨o.2.1, o.2.2.1⟩
        · omega
        · omega
        · omega
      exact bt_53 hI h hz nx ok ek (by rw [if_pos q.1]; omega) (by omega) (by omega) hQ
  refine Eq.mpr (p_Mo_build.eq_1 _ _ _) ⟨fun c => absurd c r3, fun _ => ⟨fun c => f30 r ?_, fun c => f30 _ ?_⟩⟩
  · unfold mkd
    rcases hx with q | q | q | q
    · rw [if_pos q.2.1]
      exact q.1
    · rw [if_neg (by omega), if_pos q.2]
      exact q.1
    · exact absurd q.1 c
    · exact absurd q.1 r3
  · have c := Classical.not_not.mp c
    have b := bd_178 hI 0
    have e2 := ti_add2 (by decide : ((2 : Int32)).toInt = 2) (Eq.refl (v.1 178 0).toInt) (by omega) (by omega)
    rw [e2]
    unfold mkd
    rcases hx with q | q | q | q
    · omega
    · omega
    · rw [if_neg (by omega), if_neg (by omega), q.2.2]
    · omega
/-! the reference's plant as the list of its lines: pipes -/
theorem nar0 : vp_nar .byte (0 : Int32) = 0 := by decide
theorem by_122 {s : MW} {P : Nat} {E Q : MW → Prop} (hP : (s.1 127 11).toInt = (P : Int)) (hn : P < 24) (hE : ∀ w : MW, BND w → FR [(172, none)] s w → (∀ j, w.1 172 j = if 200 * P ≤ j ∧ j < 200 * P + 200 then 0 else s.1 172 j) → E w) (n : Nat) : ∀ (i : Nat) (w : MW), BND w → FR [(172, none)] s w → i ≤ 200 → (∀ j, w.1 172 j = if 200 * P ≤ j ∧ j < 200 * P + i then 0 else s.1 172 j) → 200 - i < n → q_Mo_build_122 E Q n (nI i) w := by
  induction n with
  | zero => intros; omega
  | succ n ih =>
    intro i w hI hF hi hj hm
    have ti : (nI i).toInt = (i : Int) := nI_toInt (by omega)
    have e11 : (w.1 127 11).toInt = (P : Int) := by rw [(hF 127 11 rfl).1]; exact hP
    rw [q_Mo_build_122.eq_2]
    refine ⟨fun c => ?_, fun c => ?_⟩
    · have e : i = 200 := by omega
      subst e
      exact hE w hI hF hj
    have m1 := ti_mul2 (by decide : ((200 : Int32)).toInt = 200) e11 (by omega) (by omega)
    have m2 := ti_add2 m1 ti (by omega) (by omega)
    have x : (((200 : Int32) * (w.1 127 11)) + nI i).toInt.toNat = 200 * P + i := by omega
    refine ⟨⟨by omega, by omega⟩, ?_⟩
    rw [nI_1, nar0, x]
    refine ih (i + 1) _ (wbd_172 hI _ (by decide) (by decide)) (FR.I hF rfl) (by omega) (fun j => ?_) (by omega)
    rw [sI_if, hj j]
    by_cases q : j = 200 * P + i
    · rw [if_pos q, if_pos (by omega)]
    · rw [if_neg q]
      by_cases q2 : 200 * P ≤ j ∧ j < 200 * P + i
      · rw [if_pos q2, if_pos (by omega)]
      · rw [if_neg q2, if_neg (by omega)]
theorem by_153 {w5 : MW} {E Q : MW → Prop} (hI5 : BND w5) (hn : (w5.1 127 11).toInt < 24) (a0 : -1 ≤ (w5.1 178 0).toInt) (a1 : (w5.1 178 0).toInt < 20) (b0 : -1 ≤ (w5.1 178 1).toInt) (b1 : (w5.1 178 1).toInt < 20) (hE : ∀ w7 : MW, BND w7 → FR [(168, none), (170, none), (171, none)] w5 w7 → (∀ j, w7.1 170 j = if j = (2 * (w5.1 127 11).toInt + 1).toNat then w5.1 178 1 else if j = (2 * (w5.1 127 11).toInt).toNat then w5.1 178 0 else w5.1 170 j) → (∀ j, w7.1 171 j = if j = (2 * (w5.1 127 11).toInt + 1).toNat then pt (incF (fun j => w5.1 168 j) (w5.1 178 0)) (w5.1 178 1) else if j = (2 * (w5.1 127 11).toInt).toNat then pt (fun j => w5.1 168 j) (w5.1 178 0) else w5.1 171 j) → ((fun j => w7.1 168 j) = incF (incF (fun j => w5.1 168 j) (w5.1 178 0)) (w5.1 178 1)) → E w7) : q_Mo_build_153 E Q (99999999999999999997 + 1 + 1 + 1) 0 w5 := by
  have z0 : (0 : Int32).toInt.toNat = 0 := by decide
  have z1 : ((0 : Int32) + (1 : Int32)).toInt.toNat = 1 := by decide
  have y1 : ((0 : Int32) + (1 : Int32)).toInt = 1 := by decide
  refine bd_153x hI5 (by decide) (by decide) hn (by rw [z0]; exact a0) (by rw [z0]; exact a1) (fun w6 hI6 hF6 h170 h171 h168 => ?_)
  rw [z0] at h168
  have w6_178 : ∀ j, w6.1 178 j = w5.1 178 j := fun j => (hF6 178 j rfl).1
  have w6_11 : w6.1 127 11 = w5.1 127 11 := (hF6 127 11 rfl).1
  refine bd_153x hI6 (by decide) (by decide) (by rw [w6_11]; exact hn) (by rw [z1, w6_178]; exact b0) (by rw [z1, w6_178]; exact b1) (fun w7 hI7 hF7 g170 g171 g168 => ?_)
  rw [q_Mo_build_153.eq_2]
  refine ⟨fun _ => hE w7 hI7 (hF6.tr hF7 rfl) (fun j => ?_) (fun j => ?_) ?_, fun c => absurd (by decide) c⟩
  · rw [g170, h170, w6_11, z1, z0, y1, i_0, w6_178]
    have e : 2 * (w5.1 127 11).toInt + 0 = 2 * (w5.1 127 11).toInt := by omega
    rw [e]
  · rw [g171, h171, w6_11, z1, z0, y1, i_0, w6_178, h168]
    have e : 2 * (w5.1 127 11).toInt + 0 = 2 * (w5.1 127 11).toInt := by omega
    rw [e]
  · rw [g168, z1, w6_178, h168]
theorem incF_v {f : Nat → Int32} {i : Int32} (t : Nat) (h0 : 0 ≤ (f t).toInt) (h1 : (f t).toInt ≤ 1000) : (incF f i t).toInt = (f t).toInt + (if i.toInt = (t : Int) then 1 else 0) := by
  unfold incF
  by_cases c : i.toInt < 0
  · rw [if_pos c, if_neg (show ¬ i.toInt = (t : Int) by omega)]
    omega
  · rw [if_neg c]
    show (if t = i.toInt.toNat then f t + (1 : Int32) else f t).toInt = _
    by_cases e : i.toInt = (t : Int)
    · rw [if_pos (show t = i.toInt.toNat by omega), if_pos e, ti_add2 (Eq.refl (f t).toInt) i_1 (by omega) (by omega)]
    · rw [if_neg (show ¬ t = i.toInt.toNat by omega), if_neg e]
      omega
theorem if01 (P : Prop) [Decidable P] : 0 ≤ (if P then (1 : Int) else 0) ∧ (if P then (1 : Int) else 0) ≤ 1 := by
  by_cases c : P
  · rw [if_pos c]
    omega
  · rw [if_neg c]
    omega
/-- what a pipe's line that is let in says -/
theorem ok_p {ls : List Ln} {x : Ln} (x3 : x.1 = 3) (ok : okL ls x) : (pip ls).length < 24 ∧ 1 ≤ x.2.2.2 ∧ x.2.2.2 ≤ 200 ∧ (-1 ≤ x.2.1 ∧ x.2.1 < (thg ls).length) ∧ (-1 ≤ x.2.2.1 ∧ x.2.2.1 < (thg ls).length) := by
  rcases ok with q | q | q | q
  · have := q.1
    omega
  · have := q.1
    omega
  · have := q.1
    omega
  · refine ⟨q.2.1, q.2.2.1, q.2.2.2.1, ?_, ?_⟩
    · rcases q.2.2.2.2.1 with k | k
      · omega
      · have k1 := k.1
        have k2 := k.2.1
        omega
    · rcases q.2.2.2.2.2 with k | k
      · omega
      · have k1 := k.1
        have k2 := k.2.1
        omega
theorem bx_p {v : MW} {ls : List Ln} {r : Int32} {x : Ln} {Q : MW → Prop} (hI : BND v) (h : PWs v ls) (hz : PlZ v ls) (r3 : r.toInt = 3) (x3 : x.1 = 3) (ea : (v.1 178 0).toInt = x.2.1) (eb : (v.1 178 1).toInt = x.2.2.1) (el : (v.1 178 2).toInt = x.2.2.2) (ok : okL ls x) (hQ : ∀ v', BND v' → FR lbp v v' → PWs v' (ls ++ [x]) → PlZ v' (ls ++ [x]) → Q v') : p_Mo_build v r Q := by
  have o := ok_p x3 ok
  have n1 := h.2.1
  have n0 := h.1
  have b4 := bd_127_4 hI
  have b11 := bd_127_11 hI
  refine Eq.mpr (p_Mo_build.eq_1 _ _ _) ⟨fun _ => ⟨⟨b11.1, by omega⟩, ?_⟩, fun c => absurd r3 c⟩
  have hI1 : BND (sI v 169 (v.1 127 11).toInt.toNat (v.1 178 2)) := wbd_169 hI _ (by omega) (by omega)
  have F1 : FR lbp v (sI v 169 (v.1 127 11).toInt.toNat (v.1 178 2)) := FR.I (FR.refl _ v) rfl
  have g169 : ∀ j, (sI v 169 (v.1 127 11).toInt.toNat (v.1 178 2)).1 169 j = if j = (v.1 127 11).toInt.toNat then v.1 178 2 else v.1 169 j := fun j => sI_if _ _ _ _ _
  have o1 : ∀ k j, k ≠ 169 → (sI v 169 (v.1 127 11).toInt.toNat (v.1 178 2)).1 k j = v.1 k j := fun k j hk => sI_oth _ _ _ _ _ _ hk
  generalize (sI v 169 (v.1 127 11).toInt.toNat (v.1 178 2)) = s at *
  have s11 : (s.1 127 11).toInt = ((pip ls).length : Int) := by rw [o1 127 11 (by decide)]; exact n1
  refine by_122 (i := 0) (P := (pip ls).length) s11 o.1 (fun w5 B5 F5 z5 => ?_) FU s hI1 (FR.refl _ s) (by omega) (fun j => by rw [if_neg (by omega)]) (fu_lt (by decide))
  have k11 : w5.1 127 11 = v.1 127 11 := ((F5 127 11 rfl).1).trans (o1 _ _ (by decide))
  have k178 : ∀ j, w5.1 178 j = v.1 178 j := fun j => ((F5 178 j rfl).1).trans (o1 _ _ (by decide))
  have k168 : (fun j => w5.1 168 j) = fun j => v.1 168 j := funext fun j => ((F5 168 j rfl).1).trans (o1 _ _ (by decide))
  have k170 : ∀ j, w5.1 170 j = v.1 170 j := fun j => ((F5 170 j rfl).1).trans (o1 _ _ (by decide))
  have k171 : ∀ j, w5.1 171 j = v.1 171 j := fun j => ((F5 171 j rfl).1).trans (o1 _ _ (by decide))
  refine by_153 B5 (by rw [k11]; omega) (by rw [k178]; omega) (by rw [k178]; omega) (by rw [k178]; omega) (by rw [k178]; omega) (fun w7 B7 F7 g170 g171 g168 => ?_)
  have e11 := ti_add2 (Eq.refl (v.1 127 11).toInt) i_1 (by omega) (by omega)
  have w11 : w7.1 127 11 = v.1 127 11 := ((F7 127 11 rfl).1).trans k11
  have Fv : FR lbp v (sI w7 127 11 ((w7.1 127 11) + (1 : Int32))) := FR.I ((F1.tr F5 rfl).tr F7 rfl) rfl
  have B8 : BND (sI w7 127 11 ((w7.1 127 11) + (1 : Int32))) := wbd_127_11 B7 (by rw [w11]; omega) (by rw [w11]; omega)
  have f11 : ((sI w7 127 11 ((w7.1 127 11) + (1 : Int32))).1 127 11).toInt = ((pip ls).length : Int) + 1 := by
    rw [sI_same, w11, e11, n1]
  have p0 : (v.1 127 11).toInt.toNat = (pip ls).length := by omega
  have p1 : (2 * (v.1 127 11).toInt).toNat = 2 * (pip ls).length := by omega
  have p2 : (2 * (v.1 127 11).toInt + 1).toNat = 2 * (pip ls).length + 1 := by omega
  have f169 : ∀ j, (sI w7 127 11 ((w7.1 127 11) + (1 : Int32))).1 169 j = if j = (pip ls).length then v.1 178 2 else v.1 169 j := fun j => by
    rw [sI_oth _ _ _ _ _ _ (by decide), (F7 169 j rfl).1, (F5 169 j rfl).1, g169, p0]
  have f170 : ∀ j, (sI w7 127 11 ((w7.1 127 11) + (1 : Int32))).1 170 j = if j = 2 * (pip ls).length + 1 then v.1 178 1 else if j = 2 * (pip ls).length then v.1 178 0 else v.1 170 j := fun j => by
    rw [sI_oth _ _ _ _ _ _ (by decide), g170, k11, k178, k178, k170, p1, p2]
  have f171 : ∀ j, (sI w7 127 11 ((w7.1 127 11) + (1 : Int32))).1 171 j = if j = 2 * (pip ls).length + 1 then pt (incF (fun j => v.1 168 j) (v.1 178 0)) (v.1 178 1) else if j = 2 * (pip ls).length then pt (fun j => v.1 168 j) (v.1 178 0) else v.1 171 j := fun j => by
    rw [sI_oth _ _ _ _ _ _ (by decide), g171, k11, k178, k178, k171, k168, p1, p2]
  have f168 : ∀ j, (sI w7 127 11 ((w7.1 127 11) + (1 : Int32))).1 168 j = incF (incF (fun j => v.1 168 j) (v.1 178 0)) (v.1 178 1) j := fun j => by
    rw [sI_oth _ _ _ _ _ _ (by decide), congrFun g168 j, k168, k178, k178]
  have f172 : ∀ j, (sI w7 127 11 ((w7.1 127 11) + (1 : Int32))).1 172 j = if 200 * (pip ls).length ≤ j ∧ j < 200 * (pip ls).length + 200 then 0 else v.1 172 j := fun j => by
    rw [sI_oth _ _ _ _ _ _ (by decide), (F7 172 j rfl).1, z5, o1 172 j (by decide)]
  have l1 : (pip (ls ++ [x])).length = (pip ls).length + 1 := by
    rw [pip_p ls x x3, List.length_append]
    rfl
  generalize (sI w7 127 11 ((w7.1 127 11) + (1 : Int32))) = W at *
  have v168 : ∀ t : Nat, t < (thg ls).length → 0 ≤ (v.1 168 t).toInt ∧ (v.1 168 t).toInt ≤ 48 := fun t ht => by
    have g := (hz.1 t ht).1
    have pb := prt_b ls (t : Int)
    omega
  refine hQ W B8 Fv ⟨?_, ?_, fun t y e => ?_, fun p y e => ?_⟩ ⟨fun t ht => ?_, fun p k hp hk => ?_, fun t ht => ?_⟩
  · rw [(Fv 127 4 rfl).1, thg_p ls x x3]
    exact h.1
  · rw [f11, l1]
    omega
  · rw [thg_p ls x x3] at e
    rw [(Fv 163 t rfl).1, (Fv 164 t rfl).1]
    exact h.2.2.1 t y e
  · have l2 := (List.getElem?_eq_some_iff.mp e).1
    rw [l1] at l2
    rw [pNo_p ls x x3 p _ (by omega), pNo_p ls x x3 p _ (by omega)]
    rw [pip_p ls x x3] at e
    have k1 : W.1 170 (2 * p) = if p = (pip ls).length then v.1 178 0 else v.1 170 (2 * p) := by
      rw [f170]
      by_cases q : p = (pip ls).length
      · rw [if_neg (by omega), if_pos (by omega), if_pos q]
      · rw [if_neg (by omega), if_neg (by omega), if_neg q]
    have k2 : W.1 170 (2 * p + 1) = if p = (pip ls).length then v.1 178 1 else v.1 170 (2 * p + 1) := by
      rw [f170]
      by_cases q : p = (pip ls).length
      · rw [if_pos (by omega), if_pos q]
      · rw [if_neg (by omega), if_neg (by omega), if_neg q]
    have k3 : W.1 171 (2 * p) = if p = (pip ls).length then pt (fun j => v.1 168 j) (v.1 178 0) else v.1 171 (2 * p) := by
      rw [f171]
      by_cases q : p = (pip ls).length
      · rw [if_neg (by omega), if_pos (by omega), if_pos q]
      · rw [if_neg (by omega), if_neg (by omega), if_neg q]
    have k4 : W.1 171 (2 * p + 1) = if p = (pip ls).length then pt (incF (fun j => v.1 168 j) (v.1 178 0)) (v.1 178 1) else v.1 171 (2 * p + 1) := by
      rw [f171]
      by_cases q : p = (pip ls).length
      · rw [if_pos (by omega), if_pos q]
      · rw [if_neg (by omega), if_neg (by omega), if_neg q]
    rw [f169, k1, k2, k3, k4]
    by_cases q : p = (pip ls).length
    · rw [q, List.getElem?_append_right (Nat.le_refl _), Nat.sub_self] at e
      have e2 : x = y := Option.some.inj e
      rw [if_pos q, if_pos q, if_pos q, if_pos q, if_pos q, ← e2, q, pNo_len, pNo_len]
      refine ⟨el, ea, eb, ?_, ?_⟩
      · unfold pt
        by_cases c : x.2.1 = -1
        · rw [if_pos c, if_pos (by omega)]
          exact i_m1
        · rw [if_neg c, if_neg (by omega), (hz.1 _ (by omega)).1]
          congr 1
          omega
      · unfold pt
        by_cases c : x.2.2.1 = -1
        · rw [if_pos c, if_pos (by omega)]
          exact i_m1
        · have g := v168 (v.1 178 1).toInt.toNat (by omega)
          rw [if_neg c, if_neg (by omega), incF_v _ g.1 (by omega), (hz.1 _ (by omega)).1]
          have e3 : (((v.1 178 1).toInt.toNat : Nat) : Int) = x.2.2.1 := by omega
          rw [e3, ea]
    · rw [List.getElem?_append_left (by omega)] at e
      rw [if_neg q, if_neg q, if_neg q, if_neg q, if_neg q]
      exact h.2.2.2 p y e
  · rw [thg_p ls x x3] at ht
    have g := v168 t ht
    have i1 := if01 ((v.1 178 0).toInt = (t : Int))
    have u1 := incF_v (f := fun j => v.1 168 j) (i := v.1 178 0) t g.1 (by omega)
    have u2 := incF_v (f := incF (fun j => v.1 168 j) (v.1 178 0)) (i := v.1 178 1) t (by omega) (by omega)
    rw [f168, u2, u1, prt_p ls x x3, (Fv 165 t rfl).1, (Fv 166 t rfl).1, (Fv 167 t rfl).1, ea, eb, (hz.1 t ht).1]
    exact ⟨rfl, (hz.1 t ht).2⟩
  · rw [l1] at hp
    rw [f172]
    by_cases q : p = (pip ls).length
    · rw [if_pos (by omega)]
    · rw [if_neg (by omega)]
      exact hz.2.1 p k (by omega) hk
  · rw [thg_p ls x x3] at ht
    rw [prt_p ls x x3, hz.2.2 t ht, if_neg (by omega), if_neg (by omega)]
    rfl
theorem bx {v : MW} {ls : List Ln} {r : Int32} {x : Ln} {Q : MW → Prop} (hI : BND v) (h : PWs v ls) (hz : PlZ v ls) (hx : LnW v r x) (ok : okL ls x) (hQ : ∀ v', BND v' → FR (lbt ++ lbp) v v' → PWs v' (ls ++ [x]) → PlZ v' (ls ++ [x]) → Q v') : p_Mo_build v r Q := by
  by_cases r3 : r.toInt = 3
  · have q : r.toInt = 3 ∧ x.1 = 3 ∧ x.2.1 = (v.1 178 0).toInt ∧ x.2.2.1 = (v.1 178 1).toInt ∧ x.2.2.2 = (v.1 178 2).toInt := by
      rcases hx with q | q | q | q
      · omega
      · omega
      · omega
      · exact q
    exact bx_p hI h hz r3 q.2.1 q.2.2.1.symm q.2.2.2.1.symm q.2.2.2.2.symm ok (fun v' B F P Z => hQ v' B ((FR.refl _ v).tr F rfl) P Z)
  · exact bx_t hI h hz hx r3 ok (fun v' B F P Z => hQ v' B ((FR.refl _ v).tr F rfl) P Z)
/-! the reference reads a plant: its second pass, and all of it -/
theorem rq_90 {w0 z : MW} {ls' : List Ln} {E : MW → Prop} {Q : Int32 → MW → Prop} (hI0 : BND w0) (hE : ∀ v, BND v → FR lr2 z v → PWs v ls' → PlZ v ls' → E v) (n : Nat) : ∀ (v : MW) (ls : List Ln), BND v → FR lr2 z v → AG w0 v → PWs v ls → PlZ v ls → (∃ k, PlR (hf w0) (w0.1 127 22).toInt k (v.1 127 21).toInt ls (-1) ls') → (4020 - (v.1 127 21).toInt).toNat < n → q_Mo_readPlant_90 E Q n v := by
  induction n with
  | zero => intros; omega
  | succ n ih =>
    intro v ls hB hF hA hP hZ hk hm
    obtain ⟨k, hk⟩ := hk
    have b22 := bd_127_22 hI0
    have b21 := bd_127_21 hB
    have e22 : v.1 127 22 = w0.1 127 22 := hA.2
    rw [q_Mo_readPlant_90.eq_2]
    cases k with
    | zero => exact absurd hk (fun y => y)
    | succ k =>
      refine ⟨fun c => ?_, fun c => ?_⟩
      · rw [e22] at c
        rcases hk with ⟨_, _, e⟩ | ⟨d, _⟩ | ⟨d, _⟩
        · exact hE v hB hF (by rw [e]; exact hP) (by rw [e]; exact hZ)
        · omega
        · omega
      rw [e22] at c
      rcases hk with ⟨d, _⟩ | ⟨_, _, d, _⟩ | ⟨_, d1, ok, hk⟩
      · omega
      · have := lnS_le (hf w0) (v.1 127 21).toInt
        omega
      refine pc_planLine hA (h_Mo_planLine (Q := fun r w' => BND w' ∧ FR l_Mo_planLine v w' ∧ (-1) ≤ r.toInt ∧ r.toInt ≤ 3 ∧ (v.1 127 21).toInt ≤ (w'.1 127 21).toInt ∧ (r.toInt < 0 ∨ (w'.1 127 21).toInt < (w'.1 127 22).toInt) ∧ (r.toInt < 0 ∨ r.toInt = 1 ∨ r.toInt = 3 ∨ 0 ≤ (w'.1 178 0).toInt) ∧ (¬ r.toInt = 3 ∨ (-1 ≤ (w'.1 178 0).toInt ∧ -1 ≤ (w'.1 178 1).toInt ∧ 0 ≤ (w'.1 178 2).toInt))) hB (fun r w' a1 a2 a3 a4 a5 a6 a7 a8 => ⟨a1, a2, a3, a4, a5, a6, a7, a8⟩)) (fun r w2 hp hA2 hPL => ?_)
      obtain ⟨hI2, hF2, r0, r3, pl, lt, wa, wb⟩ := hp
      have b21' := bd_127_21 hI2
      have L := pl_lnS (t := w0) (by omega) (by omega) (by omega) hPL
      have d : ¬ r.toInt = -1 := fun q => d1 (lne_m L.1 q)
      have W := lnw_of (w := w2) L.1 (fun j => rfl) d
      have t22 : w2.1 127 22 = w0.1 127 22 := hA2.2
      have lt2 := lt.resolve_left (by omega)
      rw [t22] at lt2
      have e21 := ti_add2 (Eq.refl (w2.1 127 21).toInt) i_1 (by omega) (by omega)
      refine bx hI2 (pws_fr hP hF2 rfl) (plz_fr hZ hF2 rfl) W.1 ok (fun v' B' F' P' Z' => ?_)
      have p4 : v'.1 127 21 = w2.1 127 21 := (F' 127 21 rfl).1
      have F5 : FR [(127, some 21)] v' (sI v' 127 21 ((v'.1 127 21) + (1 : Int32))) := FR.I (FR.refl _ v') rfl
      refine ih _ (ls ++ [lnX (lnS (hf w0) (v.1 127 21).toInt)]) (wbd_127_21 B' (by rw [p4]; omega) (by rw [p4]; omega)) (((hF.tr hF2 rfl).tr F' rfl).tr F5 rfl) (ag_21 ⟨fun j => ((F' 128 j rfl).1).trans (hA2.1 j), ((F' 127 22 rfl).1).trans hA2.2⟩) (pws_fr P' F5 rfl) (plz_fr Z' F5 rfl) ⟨k, ?_⟩ (by rw [sI_same, p4]; omega)
      rw [sI_same, p4, e21, ← L.1.1]
      exact hk
theorem fg_2 {z : MW} {x : Int32} {X : Nat} {E Q : MW → Prop} (hx : x.toInt = (X : Int)) (h44 : X < 44) (hE : ∀ w, BND w → FR [(174, none)] z w → (∀ j, w.1 174 j = if 6 * X ≤ j ∧ j < 6 * X + 6 then -1 else z.1 174 j) → E w) (n : Nat) : ∀ (i : Nat) (w : MW), BND w → FR [(174, none)] z w → i ≤ 6 → (∀ j, w.1 174 j = if 6 * X ≤ j ∧ j < 6 * X + i then -1 else z.1 174 j) → 6 - i < n → q_Mo_forget_2 x E Q n (nI i) w := by
  induction n with
  | zero => intros; omega
  | succ n ih =>
    intro i w hB hF hi hj hm
    have ti : (nI i).toInt = (i : Int) := nI_toInt (by omega)
    rw [q_Mo_forget_2.eq_2]
    refine ⟨fun c => ?_, fun c => ?_⟩
    · have e : i = 6 := by omega
      subst e
      exact hE w hB hF hj
    have m1 := ti_mul2 (by decide : ((6 : Int32)).toInt = 6) hx (by omega) (by omega)
    have m2 := ti_add2 m1 ti (by omega) (by omega)
    have xx : (((6 : Int32) * x) + nI i).toInt.toNat = 6 * X + i := by omega
    refine ⟨⟨by omega, by omega⟩, ?_⟩
    rw [nI_1, xx]
    refine ih (i + 1) _ (wbd_174 hB _) (FR.I hF rfl) (by omega) (fun j => ?_) (by omega)
    rw [sI_if, hj j]
    by_cases q : j = 6 * X + i
    · rw [if_pos q, if_pos (by omega)]
    · rw [if_neg q]
      by_cases q2 : 6 * X ≤ j ∧ j < 6 * X + i
      · rw [if_pos q2, if_pos (by omega)]
      · rw [if_neg q2, if_neg (by omega)]
theorem fg_x {w : MW} {x : Int32} {X : Nat} {Q : MW → Prop} (hI : BND w) (hx : x.toInt = (X : Int)) (h44 : X < 44) (hQ : ∀ w', BND w' → FR [(174, none)] w w' → (∀ j, w'.1 174 j = if 6 * X ≤ j ∧ j < 6 * X + 6 then -1 else w.1 174 j) → Q w') : p_Mo_forget w x Q :=
  Eq.mpr (p_Mo_forget.eq_1 _ _ _) (fg_2 (i := 0) hx h44 hQ FU w hI (FR.refl _ w) (by omega) (fun j => by rw [if_neg (by omega)]) (fu_lt (by decide)))
theorem rq_126 {s : MW} {E : MW → Prop} {Q : Int32 → MW → Prop} (hE : ∀ v, BND v → FR [(173, none), (174, none)] s v → (∀ j, j < 44 → v.1 173 j = 0) → (∀ j, j < 264 → v.1 174 j = -1) → E v) (n : Nat) : ∀ (i : Nat) (v : MW), BND v → FR [(173, none), (174, none)] s v → i ≤ 44 → (∀ j, j < i → v.1 173 j = 0) → (∀ j, j < 6 * i → v.1 174 j = -1) → 44 - i < n → q_Mo_readPlant_126 E Q n (nI i) v := by
  induction n with
  | zero => intros; omega
  | succ n ih =>
    intro i v hB hF hi h3 h4 hm
    have ti : (nI i).toInt = (i : Int) := nI_toInt (by omega)
    have tn : (nI i).toInt.toNat = i := by omega
    rw [q_Mo_readPlant_126.eq_2]
    refine ⟨fun c => ?_, fun c => ⟨⟨by omega, by omega⟩, ?_⟩⟩
    · have e : i = 44 := by omega
      subst e
      exact hE v hB hF h3 h4
    have F1 : FR [(173, none), (174, none)] s (sI v 173 (nI i).toInt.toNat 0) := FR.I hF rfl
    refine fg_x (X := i) (wbd_173 hB _ (by decide) (by decide)) ti (by omega) (fun w' B' F' g => ?_)
    rw [nI_1]
    refine ih (i + 1) w' B' (F1.tr F' rfl) (by omega) (fun j hj => ?_) (fun j hj => ?_) (by omega)
    · rw [(F' 173 j rfl).1, sI_if, tn]
      by_cases q : j = i
      · rw [if_pos q]
      · rw [if_neg q]
        exact h3 j (by omega)
    · rw [g j]
      by_cases q : 6 * i ≤ j ∧ j < 6 * i + 6
      · rw [if_pos q]
      · rw [if_neg q, sI_oth _ _ _ _ _ _ (by decide)]
        exact h4 j (by omega)
/-- behind a plant that was taken -/
def PTk (w : MW) (ls : List Ln) : Prop := PWs w ls ∧ PlZ w ls ∧ w.1 127 26 = 0 ∧ w.1 127 59 = 4 ∧ (∀ j, j < 44 → w.1 173 j = 0) ∧ (∀ j, j < 264 → w.1 174 j = -1)
theorem rm_read {w : MW} {Q : Int32 → MW → Prop} (hI : BND w) (hQ : ∀ (r : Int32) (w' : MW) (r' : Int) ls', BND w' → FR l_Mo_readPlant w w' → (∃ k, PlR (hf w) (w.1 127 22).toInt k 0 [] r' ls') → ((0 ≤ r' ∧ r.toInt = -3 - r' ∧ FR lr1 w w') ∨ (r' = -1 ∧ r.toInt = ((thg ls').length : Int) ∧ PTk w' ls')) → Q r w') : p_Mo_readPlant w Q := by
  refine Eq.mpr (p_Mo_readPlant.eq_1 _ _) ?_
  have hI1 : BND (sI (sI (sI w 127 21 0) 127 85 0) 127 86 0) := wbd_127_86 (wbd_127_85 (wbd_127_21 hI (by decide) (by decide)) (by decide) (by decide)) (by decide) (by decide)
  have hF1 : FR lr1 w (sI (sI (sI w 127 21 0) 127 85 0) 127 86 0) := FR.I (FR.I (FR.I (FR.refl _ w) rfl) rfl) rfl
  have a21 : (sI (sI (sI w 127 21 0) 127 85 0) 127 86 0).1 127 21 = 0 := rfl
  have a85 : (sI (sI (sI w 127 21 0) 127 85 0) 127 86 0).1 127 85 = 0 := rfl
  have a86 : (sI (sI (sI w 127 21 0) 127 85 0) 127 86 0).1 127 86 = 0 := rfl
  generalize (sI (sI (sI w 127 21 0) 127 85 0) 127 86 0) = w1 at *
  have eh : hf w1 = hf w := hf_ag ⟨fun j => (hF1 128 j rfl).1, (hF1 127 22 rfl).1⟩
  have en : w1.1 127 22 = w.1 127 22 := (hF1 127 22 rfl).1
  have P1 : PN w1 [] := ⟨by rw [a85]; exact i_0, by rw [a86]; exact i_0, fun t y q => (by cases q), fun t _ => rfl⟩
  refine rq_15 (w0 := w1) hI1 (fun w6 ls6 B6 F6 K6 => ?_) (fun r w' r' ls' B' F' r0 er K => ?_) FU w1 [] hI1 (FR.refl _ w1) P1 (fun r ls' hk => by rw [a21, i_0] at hk; exact hk) (fu_lt (by rw [a21]; decide))
  · have hI7 : BND (sI (sI (sI (sI (sI w6 127 4 0) 127 11 0) 127 26 0) 127 59 4) 127 21 0) := wbd_127_21 (wbd_127_59 (wbd_127_26 (wbd_127_11 (wbd_127_4 B6 (by decide) (by decide)) (by decide) (by decide)) (by decide) (by decide)) (by decide) (by decide)) (by decide) (by decide)
    have hF7 : FR l_Mo_readPlant w (sI (sI (sI (sI (sI w6 127 4 0) 127 11 0) 127 26 0) 127 59 4) 127 21 0) := FR.I (FR.I (FR.I (FR.I (FR.I (((FR.refl _ w).tr hF1 rfl).tr F6 rfl) rfl) rfl) rfl) rfl) rfl
    have c4 : (sI (sI (sI (sI (sI w6 127 4 0) 127 11 0) 127 26 0) 127 59 4) 127 21 0).1 127 4 = 0 := rfl
    have c11 : (sI (sI (sI (sI (sI w6 127 4 0) 127 11 0) 127 26 0) 127 59 4) 127 21 0).1 127 11 = 0 := rfl
    have c26 : (sI (sI (sI (sI (sI w6 127 4 0) 127 11 0) 127 26 0) 127 59 4) 127 21 0).1 127 26 = 0 := rfl
    have c59 : (sI (sI (sI (sI (sI w6 127 4 0) 127 11 0) 127 26 0) 127 59 4) 127 21 0).1 127 59 = 4 := rfl
    have c21 : (sI (sI (sI (sI (sI w6 127 4 0) 127 11 0) 127 26 0) 127 59 4) 127 21 0).1 127 21 = 0 := rfl
    have c22 : (sI (sI (sI (sI (sI w6 127 4 0) 127 11 0) 127 26 0) 127 59 4) 127 21 0).1 127 22 = w6.1 127 22 := rfl
    have c128 : ∀ j, (sI (sI (sI (sI (sI w6 127 4 0) 127 11 0) 127 26 0) 127 59 4) 127 21 0).1 128 j = w6.1 128 j := fun _ => rfl
    generalize (sI (sI (sI (sI (sI w6 127 4 0) 127 11 0) 127 26 0) 127 59 4) 127 21 0) = w7 at *
    have A7 : AG w1 w7 := ⟨fun j => (c128 j).trans (F6 128 j rfl).1, c22.trans (F6 127 22 rfl).1⟩
    have P7 : PWs w7 [] := ⟨by rw [c4]; exact i_0, by rw [c11]; exact i_0, fun t y q => (by cases q), fun t y q => (by cases q)⟩
    have Z7 : PlZ w7 [] := ⟨fun t q => absurd q (Nat.not_lt_zero t), fun p k q => absurd q (Nat.not_lt_zero p), fun t _ => rfl⟩
    refine rq_90 (w0 := w1) (z := w7) (ls' := ls6) hI1 (fun w10 B10 F10 P10 Z10 => ?_) FU w7 [] hI7 (FR.refl _ w7) A7 P7 Z7 (by rw [c21, i_0]; exact K6) (fu_lt (by rw [c21]; decide))
    refine rq_126 (i := 0) (s := w10) (fun w14 B14 F14 z3 z4 => ?_) FU w10 B10 (FR.refl _ w10) (by omega) (fun j q => absurd q (Nat.not_lt_zero j)) (fun j q => by omega) (fu_lt (by decide))
    have P14 := pws_fr P10 F14 rfl
    rw [eh, en] at K6
    exact hQ _ w14 (-1) ls6 B14 ((hF7.tr F10 rfl).tr F14 rfl) K6 (Or.inr ⟨rfl, P14.1, P14, plz_fr Z10 F14 rfl, ((F14 127 26 rfl).1.trans (F10 127 26 rfl).1).trans c26, ((F14 127 59 rfl).1.trans (F10 127 59 rfl).1).trans c59, z3, z4⟩)
  · rw [eh, en] at K
    exact hQ r w' r' ls' B' ((FR.refl _ w).tr (hF1.tr F' rfl) rfl) K (Or.inl ⟨r0, er, hF1.tr F' rfl⟩)
