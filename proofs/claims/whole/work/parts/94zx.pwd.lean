/-! the class's plant: ports and ends -/
/-- the first N ends and the ports hang together -/
def IX (w : MW) (N : Int) : Prop := (∀ e : Nat, (e : Int) < N → ((w.1 96 e).toInt = -1 ∨ (0 ≤ (w.1 96 e).toInt ∧ (w.1 96 e).toInt < (w.1 91 0).toInt)) ∧ (0 ≤ (w.1 96 e).toInt → ¬ (w.1 92 (w.1 96 e).toInt.toNat).toInt = 9 → (w.1 97 e).toInt < 4 ∧ 0 ≤ (w.1 97 e).toInt ∧ (w.1 97 e).toInt < (w.1 94 (w.1 96 e).toInt.toNat).toInt ∧ w.1 98 (4 * (w.1 96 e).toInt.toNat + (w.1 97 e).toInt.toNat) = nI e)) ∧ (∀ t j : Nat, (t : Int) < (w.1 91 0).toInt → j < 4 → 0 ≤ (w.1 98 (4 * t + j)).toInt → (w.1 98 (4 * t + j)).toInt < N ∧ (w.1 96 (w.1 98 (4 * t + j)).toInt.toNat).toInt = t ∧ (w.1 97 (w.1 98 (4 * t + j)).toInt.toNat).toInt = j) ∧ (∀ e g : Nat, e < g → (g : Int) < N → (w.1 96 e).toInt = (w.1 96 g).toInt → 0 ≤ (w.1 96 e).toInt → ¬ (w.1 92 (w.1 96 e).toInt.toNat).toInt = 9 → (w.1 97 e).toInt < (w.1 97 g).toInt)
theorem ix_fr {l : Pl} {w w' : MW} {N : Int} (h : IX w N) (hF : FR l w w') (ho : off l [(91, some 0), (92, none), (94, none), (96, none), (97, none), (98, none)] = true) : IX w' N := by
  have q : ∀ k j, hit [(91, some 0), (92, none), (94, none), (96, none), (97, none), (98, none)] k j = true → w'.1 k j = w.1 k j := fun k j hk => (hF k j (off_hit ho hk)).1
  refine ⟨fun e he => ?_, fun t j ht hj h0 => ?_, fun e g eg hg ea a0 nt => ?_⟩
  · rw [q 96 e rfl, q 91 0 rfl, q 92 _ rfl, q 97 e rfl, q 94 _ rfl, q 98 _ rfl]
    exact h.1 e he
  · rw [q 91 0 rfl] at ht
    rw [q 98 _ rfl] at h0 ⊢
    rw [q 96 _ rfl, q 97 _ rfl]
    exact h.2.1 t j ht hj h0
  · rw [q 96 e rfl, q 96 g rfl] at ea
    rw [q 96 e rfl] at a0 nt
    rw [q 92 _ rfl] at nt
    rw [q 97 e rfl, q 97 g rfl]
    exact h.2.2 e g eg hg ea a0 nt
theorem ix_t {z w' : MW} {N : Int} {a b : Int32} (h : IX z N) (T0 : 0 ≤ (z.1 91 0).toInt) (hF : FR lAT z w') (ad : AdT z w' a b) : IX w' N := by
  have e96 : ∀ j, w'.1 96 j = z.1 96 j := fun j => (hF 96 j rfl).1
  have e97 : ∀ j, w'.1 97 j = z.1 97 j := fun j => (hF 97 j rfl).1
  refine ⟨fun e he => ?_, fun t j ht hj h0 => ?_, fun e g eg hg ea a0 nt => ?_⟩
  · have g := h.1 e he
    rw [e96, e97, ad.1]
    refine ⟨?_, fun p0 nt => ?_⟩
    · rcases g.1 with g | g
      · exact Or.inl g
      · exact Or.inr ⟨g.1, by omega⟩
    · have gl : (z.1 96 e).toInt < (z.1 91 0).toInt := by
        rcases g.1 with g | g
        · omega
        · exact g.2
      rw [ad.2.1, if_neg (by omega)] at nt
      have g2 := g.2 p0 nt
      rw [ad.2.2.2.1, if_neg (by omega), ad.2.2.2.2, if_neg (by omega)]
      exact g2
  · rw [ad.1] at ht
    rw [ad.2.2.2.2] at h0 ⊢
    by_cases q : 4 * (z.1 91 0).toInt.toNat ≤ 4 * t + j ∧ 4 * t + j < 4 * (z.1 91 0).toInt.toNat + 4
    · rw [if_pos q, m1_i] at h0
      omega
    · rw [if_neg q] at h0 ⊢
      rw [e96, e97]
      exact h.2.1 t j (by omega) hj h0
  · rw [e96, e96] at ea
    rw [e96] at a0 nt
    have gl : (z.1 96 e).toInt < (z.1 91 0).toInt := by
      rcases (h.1 e (by omega)).1 with k | k
      · omega
      · exact k.2
    rw [ad.2.1, if_neg (by omega)] at nt
    rw [e97, e97]
    exact h.2.2 e g eg hg ea a0 nt
theorem ix_j {z w' : MW} {N : Int} {a b : Int32} (h : IX z N) (k92 : ∀ j : Nat, 0 ≤ (z.1 92 j).toInt ∧ (z.1 92 j).toInt ≤ 9) (k94 : ∀ j : Nat, 0 ≤ (z.1 94 j).toInt ∧ (z.1 94 j).toInt ≤ 1000) (ea : a.toInt = N) (N0 : 0 ≤ N) (b0 : -1 ≤ b.toInt) (ok : okJ z b) (hF : FR lJN z w') (hJ : JnS z w' a b) : IX w' (N + 1) := by
  have e91 : w'.1 91 0 = z.1 91 0 := (hF 91 0 rfl).1
  have e92 : ∀ j, w'.1 92 j = z.1 92 j := fun j => (hF 92 j rfl).1
  have aN : a.toInt.toNat = N.toNat := by omega
  have kb := k92 b.toInt.toNat
  have pb := pcn_c kb.1 kb.2
  have b94 := k94 b.toInt.toNat
  have o6 : ∀ e : Nat, (e : Int) < N → w'.1 96 e = z.1 96 e := fun e he => by
    rw [hJ.1, if_neg (by omega)]
  have o7 : ∀ e : Nat, (e : Int) < N → w'.1 97 e = z.1 97 e := fun e he => by
    rw [hJ.2.1, if_neg (by omega)]
  have o4 : ∀ j, (z.1 94 j).toInt ≤ (w'.1 94 j).toInt := fun j => by
    rw [hJ.2.2.1]
    by_cases q : ¬ b.toInt = -1 ∧ j = b.toInt.toNat
    · rw [if_pos q, q.2, ti_add2 (Eq.refl (z.1 94 b.toInt.toNat).toInt) i_1 (by omega) (by omega)]
      omega
    · rw [if_neg q]
      exact Int.le_refl _
  refine ⟨fun e he => ?_, fun t j ht hj h0 => ?_, fun e g eg hg ec a0' nt => ?_⟩
  · by_cases eN : (e : Int) = N
    · have ee : e = a.toInt.toNat := by omega
      rw [hJ.1, if_pos ee, e91]
      rcases ok with ok | ok
      · exact ⟨Or.inl ok, fun p0 => by omega⟩
      · by_cases bm : b.toInt = -1
        · exact ⟨Or.inl bm, fun p0 => by omega⟩
        · refine ⟨Or.inr ⟨by omega, ok.1⟩, fun p0 nt => ?_⟩
          rw [e92] at nt
          have p4 := pb.2 nt
          have o2 := ok.2
          have n7 : w'.1 97 e = z.1 94 b.toInt.toNat := by
            rw [hJ.2.1, if_pos ee, if_neg (fun q => by rcases q with q | q; exact bm q; exact nt q)]
          have n4 : (w'.1 94 b.toInt.toNat).toInt = (z.1 94 b.toInt.toNat).toInt + 1 := by
            rw [hJ.2.2.1, if_pos ⟨bm, rfl⟩, ti_add2 (Eq.refl (z.1 94 b.toInt.toNat).toInt) i_1 (by omega) (by omega)]
          rw [n7, n4]
          refine ⟨by omega, b94.1, by omega, ?_⟩
          rw [hJ.2.2.2, if_pos ⟨bm, nt, by omega⟩, ee]
          exact (nI_tn (by omega)).symm
    · have g := h.1 e (by omega)
      rw [o6 e (by omega), o7 e (by omega), e91, e92]
      refine ⟨g.1, fun p0 nt => ?_⟩
      have g2 := g.2 p0 nt
      have l4 := o4 (z.1 96 e).toInt.toNat
      refine ⟨g2.1, g2.2.1, by omega, ?_⟩
      rw [hJ.2.2.2, if_neg (fun q => ?_)]
      · exact g2.2.2.2
      · obtain ⟨q1, q2, q3⟩ := q
        have p4 := pb.2 q2
        rcases ok with ok | ok
        · exact q1 ok
        · have o2 := ok.2
          have same : (z.1 96 e).toInt = b.toInt := by omega
          rw [same] at g2
          omega
  · rw [e91] at ht
    rw [hJ.2.2.2] at h0 ⊢
    by_cases q : ¬ b.toInt = -1 ∧ ¬ (z.1 92 b.toInt.toNat).toInt = 9 ∧ ((4 * t + j : Nat) : Int) = 4 * b.toInt + (z.1 94 b.toInt.toNat).toInt
    · rw [if_pos q] at h0 ⊢
      have p4 := pb.2 q.2.1
      have q3 := q.2.2
      rcases ok with ok | ok
      · exact absurd ok q.1
      · have o2 := ok.2
        refine ⟨by omega, ?_, ?_⟩
        · rw [hJ.1, if_pos rfl]
          omega
        · rw [hJ.2.1, if_pos rfl, if_neg (fun y => by rcases y with y | y; exact q.1 y; exact q.2.1 y)]
          omega
    · rw [if_neg q] at h0 ⊢
      have g := h.2.1 t j ht hj h0
      have g1 := g.1
      rw [o6 _ (by omega), o7 _ (by omega)]
      exact ⟨by omega, g.2⟩
  · rw [o6 e (by omega)] at ec a0' nt
    rw [e92] at nt
    rw [o7 e (by omega)]
    by_cases gN : (g : Int) = N
    · have eg2 : g = a.toInt.toNat := by omega
      rw [hJ.1, if_pos eg2] at ec
      rw [ec] at nt a0'
      rw [hJ.2.1, if_pos eg2, if_neg (fun q => by rcases q with q | q; omega; exact nt q)]
      have k := (h.1 e (by omega)).2 (by omega) (by rw [ec]; exact nt)
      rw [ec] at k
      exact k.2.2.1
    · rw [o6 g (by omega)] at ec
      rw [o7 g (by omega)]
      exact h.2.2 e g eg (by omega) ec a0' nt
/-- the ports' numbers by the lines -/
def PNe (w : MW) (e : Nat) (a n : Int) : Prop := a = -1 ∨ (w.1 92 a.toNat).toInt = 9 ∨ (w.1 97 e).toInt = n
def PNy (w : MW) (ls : List Ln) : Prop := ∀ (p : Nat) (y : Ln), (pip ls)[p]? = some y → PNe w (2 * p) y.2.1 (pNo ls p y.2.1) ∧ PNe w (2 * p + 1) y.2.2.1 (pNo ls p y.2.2.1 + (if y.2.1 = y.2.2.1 then 1 else 0))
def PWd (w : MW) (ls : List Ln) : Prop := PWc w ls ∧ IX w (2 * (w.1 91 1).toInt) ∧ PNy w ls
theorem pwd_fr {l : Pl} {w w' : MW} {ls : List Ln} (h : PWd w ls) (hF : FR l w w') (ho : off l [(91, some 0), (91, some 1), (92, none), (93, none), (94, none), (95, none), (96, none), (97, none), (98, none)] = true) : PWd w' ls := by
  refine ⟨pwc_fr h.1 hF (off_mono ho (by decide)), ?_, fun p y e => ?_⟩
  · rw [(hF 91 1 (off_hit ho rfl)).1]
    exact ix_fr h.2.1 hF (off_mono ho (by decide))
  · unfold PNe
    rw [(hF 92 _ (off_hit ho rfl)).1, (hF 92 _ (off_hit ho rfl)).1, (hF 97 _ (off_hit ho rfl)).1, (hF 97 _ (off_hit ho rfl)).1]
    exact h.2.2 p y e
theorem pwd_end {w : MW} {ls : List Ln} (h : PWd w ls) {p : Nat} {y : Ln} (e : (pip ls)[p]? = some y) : (y.2.1 = -1 ∨ (0 ≤ y.2.1 ∧ y.2.1 < (w.1 91 0).toInt)) ∧ (y.2.2.1 = -1 ∨ (0 ≤ y.2.2.1 ∧ y.2.2.1 < (w.1 91 0).toInt)) := by
  have q := h.1.2.2.2.1 p y e
  have l := (List.getElem?_eq_some_iff.mp e).1
  have n1 := h.1.2.1
  have i1 := (h.2.1.1 (2 * p) (by omega)).1
  have i2 := (h.2.1.1 (2 * p + 1) (by omega)).1
  rw [q.2.1] at i1
  rw [q.2.2] at i2
  exact ⟨i1, i2⟩
theorem pwd_t {z w' : MW} {ls : List Ln} {x : Ln} {a b : Int32} (h : PWd z ls) (hx : ¬ x.1 = 3) (ea : a.toInt = ckd x) (eb : b.toInt = if x.1 = 0 then x.2.1 else 0) (hF : FR lAT z w') (ad : AdT z w' a b) : PWd w' (ls ++ [x]) := by
  have T0 : 0 ≤ (z.1 91 0).toInt := by
    have := h.1.1
    omega
  refine ⟨pwc_t h.1 hx ea eb hF ad, ?_, fun p y e => ?_⟩
  · rw [(hF 91 1 rfl).1]
    exact ix_t h.2.1 T0 hF ad
  · rw [pip_t ls x hx] at e
    have E := pwd_end h e
    have g := h.2.2 p y e
    rw [pNo_t ls x hx, pNo_t ls x hx]
    unfold PNe at g ⊢
    rw [(hF 97 _ rfl).1, (hF 97 _ rfl).1, ad.2.1, ad.2.1]
    refine ⟨?_, ?_⟩
    · rcases E.1 with k | k
      · exact Or.inl k
      · rw [if_neg (by omega)]
        exact g.1
    · rcases E.2 with k | k
      · exact Or.inl k
      · rw [if_neg (by omega)]
        exact g.2
theorem pwd_p {z w' : MW} {ls : List Ln} {x : Ln} {a b l : Int32} (hI : BND z) (h : PWd z ls) (hx : x.1 = 3) (ea : a.toInt = x.2.1) (eb : b.toInt = x.2.2.1) (el : l.toInt = x.2.2.2) (a0 : -1 ≤ a.toInt) (b0 : -1 ≤ b.toInt) (ok : okP z a b l) (ad : AdP z w' a b l) : PWd w' (ls ++ [x]) := by
  have W := pwc_p hI h.1 hx ea eb el a0 b0 ok ad
  obtain ⟨z1, z2, j1, G1, j2, G2, e⟩ := ad
  have p24 := ok.1
  have bp := bd_91_1 hI
  have h1 := h.1.2.1
  have u1 : (tI (2 * (z.1 91 1).toInt)).toInt = 2 * (z.1 91 1).toInt := tI_t (by omega) (by omega)
  have u2 : (tI (2 * (z.1 91 1).toInt + 1)).toInt = 2 * (z.1 91 1).toInt + 1 := tI_t (by omega) (by omega)
  have l1 := ok.2.1
  have Bz : BND (sI z 95 (z.1 91 1).toInt.toNat l) := wbd_95 hI _ (by omega) l1.2
  have X0 : IX (sI z 95 (z.1 91 1).toInt.toNat l) (2 * (z.1 91 1).toInt) := ix_fr (l := [(95, none)]) h.2.1 (FR.I (FR.refl _ z) rfl) rfl
  have r94 : ∀ j, (sI z 95 (z.1 91 1).toInt.toNat l).1 94 j = z.1 94 j := fun j => sI_oth _ _ _ _ _ _ (by decide)
  have r92 : ∀ j, (sI z 95 (z.1 91 1).toInt.toNat l).1 92 j = z.1 92 j := fun j => sI_oth _ _ _ _ _ _ (by decide)
  have r97 : ∀ j, (sI z 95 (z.1 91 1).toInt.toNat l).1 97 j = z.1 97 j := fun j => sI_oth _ _ _ _ _ _ (by decide)
  have X1 := ix_j X0 (fun j => by rw [r92]; exact bd_92 hI j) (fun j => by rw [r94]; have := bd_94 hI j; omega) u1 (by omega) a0 (okJ_95.mpr ok.2.2.1) G1 j1
  have c1 : ∀ j : Nat, (z1.1 94 j).toInt = (z.1 94 j).toInt + (if a.toInt = (j : Int) then 1 else 0) := fun j => by
    have bj := bd_94 hI j
    rw [j1.2.2.1 j, r94, r94]
    by_cases q : a.toInt = (j : Int)
    · have ej : j = a.toInt.toNat := by omega
      rw [if_pos ⟨by omega, ej⟩, if_pos q, ← ej, ti_add2 (Eq.refl (z.1 94 j).toInt) i_1 (by omega) (by omega)]
    · rw [if_neg (fun y => q (by omega)), if_neg q]
      omega
  have X2 := ix_j X1 (fun j => by rw [(G1 92 j rfl).1, r92]; exact bd_92 hI j) (fun j => by
    have := bd_94 hI j
    rw [c1 j]
    split <;> omega) u2 (by omega) b0 ((okJ_2 Bz a0 b0 (okJ_95.mpr ok.2.2.1) j1 G1).mpr ok.2.2.2) G2 j2
  have sP := ti_add2 (Eq.refl (z.1 91 1).toInt) i_1 (by omega) (by omega)
  refine ⟨W, ?_, ?_⟩
  · rw [e, sI_same, sP, show 2 * ((z.1 91 1).toInt + 1) = 2 * (z.1 91 1).toInt + 1 + 1 by omega]
    exact ix_fr (l := [(91, some 1)]) X2 (FR.I (FR.refl _ z2) rfl) rfl
  · intro p y ey
    have f92 : ∀ j, w'.1 92 j = z.1 92 j := fun j => by rw [e, sI_oth _ _ _ _ _ _ (by decide), (G2 92 j rfl).1, (G1 92 j rfl).1, r92]
    have n1 : (z.1 91 1).toInt.toNat = (pip ls).length := by omega
    have f97 : ∀ j, ¬ j = 2 * (pip ls).length → ¬ j = 2 * (pip ls).length + 1 → w'.1 97 j = z.1 97 j := fun j q1 q2 => by
      rw [e, sI_oth _ _ _ _ _ _ (by decide), j2.2.1, if_neg (by omega), j1.2.1, if_neg (by omega), r97]
    rw [pip_p ls x hx] at ey
    unfold PNe
    rw [f92, f92]
    by_cases q : p = (pip ls).length
    · rw [q, List.getElem?_append_right (Nat.le_refl _), Nat.sub_self] at ey
      have e2 : x = y := Option.some.inj ey
      rw [q, ← e2, pNo_p ls x hx _ _ (Nat.le_refl _), pNo_p ls x hx _ _ (Nat.le_refl _), pNo_len, pNo_len]
      have oa := ok.2.2.1
      have ob := ok.2.2.2
      unfold okJ at oa
      refine ⟨?_, ?_⟩
      · by_cases am : a.toInt = -1
        · exact Or.inl (by omega)
        · refine Or.inr ?_
          by_cases a9 : (z.1 92 x.2.1.toNat).toInt = 9
          · exact Or.inl a9
          · refine Or.inr ?_
            rw [← ea] at a9
            have v : w'.1 97 (2 * (pip ls).length) = z.1 94 a.toInt.toNat := by
              rw [e, sI_oth _ _ _ _ _ _ (by decide), j2.2.1, if_neg (by omega), j1.2.1, if_pos (by omega), r92, r94, if_neg (fun w => by rcases w with w | w; exact am w; exact a9 w)]
            rw [v]
            have oa2 := (oa.resolve_left am).1
            have T := h.1.1
            have lt : a.toInt.toNat < (thg ls).length := by omega
            have g := (h.1.2.2.1 a.toInt.toNat _ (List.getElem?_eq_getElem lt)).2.2
            rw [g, ← ea, show ((a.toInt.toNat : Nat) : Int) = a.toInt by omega]
      · by_cases bm : b.toInt = -1
        · exact Or.inl (by omega)
        · refine Or.inr ?_
          by_cases b9 : (z.1 92 x.2.2.1.toNat).toInt = 9
          · exact Or.inl b9
          · refine Or.inr ?_
            rw [← eb] at b9
            have v : w'.1 97 (2 * (pip ls).length + 1) = z1.1 94 b.toInt.toNat := by
              rw [e, sI_oth _ _ _ _ _ _ (by decide), j2.2.1, if_pos (by omega), (G1 92 _ rfl).1, r92, if_neg (fun w => by rcases w with w | w; exact bm w; exact b9 w)]
            rw [v, c1]
            have ob2 := (ob.resolve_left bm).1
            have T := h.1.1
            have lt : b.toInt.toNat < (thg ls).length := by omega
            have g := (h.1.2.2.1 b.toInt.toNat _ (List.getElem?_eq_getElem lt)).2.2
            rw [g, ← eb, ← ea, show ((b.toInt.toNat : Nat) : Int) = b.toInt by omega]
    · have lt : p < (pip ls).length := by
        by_cases c : p < (pip ls).length
        · exact c
        · have l2 := (List.getElem?_eq_some_iff.mp ey).1
          rw [List.length_append] at l2
          have : ([x] : List Ln).length = 1 := rfl
          omega
      rw [List.getElem?_append_left lt] at ey
      rw [f97 _ (by omega) (by omega), f97 _ (by omega) (by omega), pNo_p ls x hx _ _ (by omega), pNo_p ls x hx _ _ (by omega)]
      exact h.2.2 p y ey
/-- behind a line: taken, and one line more; or not, and where -/
def StD (w w' : MW) (ls : List Ln) (r : Int32) (L : Int × Int × Int × Int × Int) : Prop := BND w' ∧ FR lrd9 w w' ∧ w'.2.2 91 9 = some 1 ∧ (w'.1 91 10).toInt = L.2.2.2.2 ∧ ((r = 0 ∧ (L.1 = -1 ∨ ¬ okL ls (lnX L))) ∨ (r = 1 ∧ ¬ L.1 = -1 ∧ okL ls (lnX L) ∧ PWd w' (ls ++ [lnX L])))
theorem st_lineD {w w' : MW} {ls : List Ln} {r : Int32} {L : Int × Int × Int × Int × Int} (h : PWd w ls) (e : RlE w w' r L) : StD w w' ls r L := by
  obtain ⟨z, hz, hB, q⟩ := e
  have pz : PWd z ls := pwd_fr h hz.2.1 rfl
  have n0 := pz.1.1
  have Fz : FR lrd9 w z := FR.tr (FR.refl _ w) hz.2.1 rfl
  rcases q with ⟨k, er, ew⟩ | ⟨k, q⟩ | ⟨k, q⟩ | ⟨k, q⟩ | ⟨k, bb, q⟩
  · rw [ew]
    exact ⟨hz.1, Fz, hz.2.2.1, hz.2.2.2, Or.inl ⟨er, Or.inl k⟩⟩
  · rcases q with ⟨c, er, ew⟩ | ⟨c, er, ad, F⟩
    · rw [ew]
      refine ⟨hz.1, Fz, hz.2.2.1, hz.2.2.2, Or.inl ⟨er, Or.inr (fun o => ?_)⟩⟩
      have k2 : (lnX L).1 = 0 := k
      rcases o with o | o | o | o
      · have o1 : 1 ≤ L.2.1 := o.2.1
        have o2 : L.2.1 ≤ 100000 := o.2.2.1
        have o3 := o.2.2.2
        exact c ⟨o1, o2, by omega⟩
      · have := o.1
        omega
      · have := o.1
        omega
      · have := o.1
        omega
    · have k2 : (lnX L).1 = 0 := k
      refine ⟨hB, Fz.tr F rfl, ((F 91 9 rfl).2.2).trans hz.2.2.1, by rw [(F 91 10 rfl).1]; exact hz.2.2.2, Or.inr ⟨er, by omega, Or.inl ⟨k, c.1, c.2.1, by omega⟩, pwd_t pz (by omega) ?_ ?_ F ad⟩⟩
      · unfold ckd
        rw [if_pos k2]
        decide
      · rw [if_pos k2, tI_t (by omega) (by omega)]
        rfl
  · rcases q with ⟨c, er, ew⟩ | ⟨c, er, ad, F⟩
    · rw [ew]
      refine ⟨hz.1, Fz, hz.2.2.1, hz.2.2.2, Or.inl ⟨er, Or.inr (fun o => c ?_)⟩⟩
      have k2 : (lnX L).1 = 1 := k
      have := ok_t (by omega) o
      omega
    · have k2 : (lnX L).1 = 1 := k
      refine ⟨hB, Fz.tr F rfl, ((F 91 9 rfl).2.2).trans hz.2.2.1, by rw [(F 91 10 rfl).1]; exact hz.2.2.2, Or.inr ⟨er, by omega, Or.inr (Or.inl ⟨k, by omega⟩), pwd_t pz (by omega) ?_ ?_ F ad⟩⟩
      · unfold ckd
        rw [if_neg (by omega), if_pos k2]
        decide
      · rw [if_neg (by omega)]
        exact i_0
  · rcases q with ⟨c, er, ew⟩ | ⟨c, er, ad, F⟩
    · rw [ew]
      refine ⟨hz.1, Fz, hz.2.2.1, hz.2.2.2, Or.inl ⟨er, Or.inr (fun o => ?_)⟩⟩
      have k2 : (lnX L).1 = 2 := k
      rcases o with o | o | o | o
      · have := o.1
        omega
      · have := o.1
        omega
      · have o2 : L.2.1 ≤ 7 := o.2.2.1
        have o3 := o.2.2.2
        exact c ⟨o2, by omega⟩
      · have := o.1
        omega
    · have k2 : (lnX L).1 = 2 := k
      refine ⟨hB, Fz.tr F rfl, ((F 91 9 rfl).2.2).trans hz.2.2.1, by rw [(F 91 10 rfl).1]; exact hz.2.2.2, Or.inr ⟨er, by omega, Or.inr (Or.inr (Or.inl ⟨k, c.1, c.2.1, by omega⟩)), pwd_t pz (by omega) ?_ ?_ F ad⟩⟩
      · unfold ckd
        rw [if_neg (by omega), if_neg (by omega), tI_t (by omega) (by omega)]
        rfl
      · rw [if_neg (by omega)]
        exact i_0
  · have k2 : (lnX L).1 = 3 := k
    have ta : (tI L.2.1).toInt = (lnX L).2.1 := tI_t (by omega) (by omega)
    have tb : (tI L.2.2.1).toInt = (lnX L).2.2.1 := tI_t (by omega) (by omega)
    have tl : (tI L.2.2.2.1).toInt = (lnX L).2.2.2 := tI_t (by omega) (by omega)
    have a0 : -1 ≤ (tI L.2.1).toInt := by rw [tI_t (by omega) (by omega)]; omega
    have b0 : -1 ≤ (tI L.2.2.1).toInt := by rw [tI_t (by omega) (by omega)]; omega
    have o := ok_pipe pz.1 k2 ta tb tl a0 b0
    rcases q with ⟨c, er, F⟩ | ⟨c, er, ad, F⟩
    · exact ⟨hB, Fz.tr F rfl, ((F 91 9 rfl).2.2).trans hz.2.2.1, by rw [(F 91 10 rfl).1]; exact hz.2.2.2, Or.inl ⟨er, Or.inr (fun y => c (o.mpr y))⟩⟩
    · exact ⟨hB, Fz.tr F rfl, ((F 91 9 rfl).2.2).trans hz.2.2.1, by rw [(F 91 10 rfl).1]; exact hz.2.2.2, Or.inr ⟨er, by omega, o.mp c, pwd_p hz.1 pz k2 ta tb tl a0 b0 c ad⟩⟩
theorem rd_22 {w0 : MW} {E : MW → Prop} {Q : Int32 → MW → Prop} (hI0 : BND w0) (hE : ∀ w' ls', BND w' → FR lrd9 w0 w' → PWd w' ls' → (∃ k, PlR (cf w0) (w0.1 1 2).toInt k 0 [] (-1) ls') → E w') (hQ : ∀ (r : Int32) (w' : MW) ls', BND w' → FR lrd9 w0 w' → 0 ≤ r.toInt → r.toInt ≤ 4000 → (∃ k, PlR (cf w0) (w0.1 1 2).toInt k 0 [] r.toInt ls') → Q r w') (m : Nat) : ∀ (i : Nat) (w : MW) (ls : List Ln), BND w → FR lrd9 w0 w → w.2.2 91 9 = some 1 → PWd w ls → (i : Int) ≤ (w.1 91 10).toInt → (∀ r ls', (∃ k, PlR (cf w0) (w0.1 1 2).toInt k (w.1 91 10).toInt ls r ls') → ∃ k, PlR (cf w0) (w0.1 1 2).toInt k 0 [] r ls') → 4001 - i < m → q_Pl_reads91_1_22 E Q m (nI i) w := by
  induction m with
  | zero => intros; omega
  | succ m ih =>
    intro i w ls hB hF hr hP hi hc hm
    have b10 := bd_91_10 hB
    have ti : (nI i).toInt = (i : Int) := nI_toInt (by omega)
    have ec : cf w = cf w0 := cf_fr hF rfl
    have en : w.1 1 2 = w0.1 1 2 := (hF 1 2 rfl).1
    have be := bd_1_2 hI0
    rw [q_Pl_reads91_1_22.eq_2]
    refine ⟨fun c => by omega, fun _ => ⟨fun c => ?_, fun c => ?_⟩⟩
    · rw [en] at c
      exact hE w ls hB hF hP (hc _ _ ⟨1, Or.inl ⟨by omega, rfl, rfl⟩⟩)
    rw [en] at c
    refine rd_line hB hr (fun r w3 hR => ?_)
    rw [ec] at hR
    have S := st_lineD hP hR
    have F3 : FR lrd9 w0 w3 := hF.tr S.2.1 rfl
    have le := lnS_le (cf w0) (w.1 91 10).toInt
    rcases S.2.2.2.2 with ⟨er, q⟩ | ⟨er, n1, ok, P3⟩
    · rw [er]
      refine ⟨fun y => absurd i_0 y, fun _ => ?_⟩
      have e10 := S.2.2.2.1
      refine hQ _ w3 ls S.1 F3 (by omega) (bd_91_10 S.1).2 ?_
      rw [e10]
      exact hc _ _ ⟨1, Or.inr (Or.inl ⟨by omega, q, rfl, rfl⟩)⟩
    · rw [er]
      refine ⟨fun _ => ?_, fun y => absurd (by decide) y⟩
      have t10 := (lnS_10 (cf w0) (w.1 91 10).toInt).resolve_left n1
      have cp := cf_pos (w := w0) (p := (lnS (cf w0) (w.1 91 10).toInt).2.2.2.2) (by omega)
      have e10 := S.2.2.2.1
      have s := ti_add2 (Eq.refl (w3.1 91 10).toInt) i_1 (by omega) (by omega)
      have F4 : FR [(91, some 10)] w3 (sI w3 91 10 ((w3.1 91 10) + (1 : Int32))) := FR.I (FR.refl _ w3) rfl
      rw [nI_1]
      refine ih (i + 1) _ (ls ++ [lnX (lnS (cf w0) (w.1 91 10).toInt)]) (wbd_91_10 S.1 (by omega) (by omega)) (F3.tr F4 rfl) S.2.2.1 (pwd_fr P3 F4 rfl) (by rw [sI_same]; omega) (fun r ls' hk => ?_) (by omega)
      rw [sI_same, s, e10] at hk
      obtain ⟨k, hk⟩ := hk
      exact hc r ls' ⟨k + 1, Or.inr (Or.inr ⟨by omega, n1, ok, hk⟩)⟩
theorem rd_read {w : MW} {Q : Int32 → MW → Prop} (hI : BND w) (hQ : ∀ (r : Int32) (w' : MW) ls', BND w' → FR lrc9 w w' → r.toInt ≤ 4000 → (∃ k, PlR (cf w) (w.1 1 2).toInt k 0 [] r.toInt ls') → (r.toInt < 0 → PWd w' ls') → Q r w') : p_Pl_reads91_1 w Q := by
  refine Eq.mpr (p_Pl_reads91_1.eq_1 _ _) ?_
  have F0 : FR lrc9 w (sI (sI (sI (sR w 91 9 (some 1)) 91 0 0) 91 1 0) 91 10 0) := FR.I (FR.I (FR.I (FR.R (FR.refl _ w) rfl) rfl) rfl) rfl
  have B0 : BND (sI (sI (sI (sR w 91 9 (some 1)) 91 0 0) 91 1 0) 91 10 0) := wbd_91_10 (wbd_91_1 (wbd_91_0 (bnd_R hI) (by decide) (by decide)) (by decide) (by decide)) (by decide) (by decide)
  have r0 : (sI (sI (sI (sR w 91 9 (some 1)) 91 0 0) 91 1 0) 91 10 0).2.2 91 9 = some 1 := sRs w 91 9 (some 1)
  have e10 : ((sI (sI (sI (sR w 91 9 (some 1)) 91 0 0) 91 1 0) 91 10 0).1 91 10).toInt = 0 := by rw [sI_same]; exact i_0
  have e1 : ((sI (sI (sI (sR w 91 9 (some 1)) 91 0 0) 91 1 0) 91 10 0).1 91 1).toInt = 0 := by rw [sI_ne _ _ _ _ _ (by decide), sI_same]; exact i_0
  have e0 : ((sI (sI (sI (sR w 91 9 (some 1)) 91 0 0) 91 1 0) 91 10 0).1 91 0).toInt = 0 := by rw [sI_ne _ _ _ _ _ (by decide), sI_ne _ _ _ _ _ (by decide), sI_same]; exact i_0
  generalize (sI (sI (sI (sR w 91 9 (some 1)) 91 0 0) 91 1 0) 91 10 0) = z at *
  have ec : cf z = cf w := cf_fr F0 rfl
  have en : z.1 1 2 = w.1 1 2 := (F0 1 2 rfl).1
  have P0 : PWd z [] := ⟨⟨e0, e1, fun t y q => (by cases q), fun p y q => (by cases q), fun t _ => rfl⟩, ⟨fun e he => absurd he (by omega), fun t j ht => absurd ht (by omega), fun e g _ hg => absurd hg (by omega)⟩, fun p y q => (by cases q)⟩
  have e00 : (0 : Int32) = nI 0 := rfl
  rw [e00]
  refine rd_22 (w0 := z) B0 (fun w' ls' B F P k => ?_) (fun r w' ls' B F r1 r4 k => ?_) FU 0 z [] B0 (FR.refl _ z) r0 P0 (by omega) (fun r ls' hk => by rw [e10] at hk; exact hk) (fu_lt (by decide))
  · rw [ec, en] at k
    exact hQ _ w' ls' B (F0.tr F rfl) (by decide) (by rw [i_m1]; exact k) (fun _ => P)
  · rw [ec, en] at k
    exact hQ _ w' ls' B (F0.tr F rfl) r4 k (fun c => by omega)
