/-! the class's ways -/
def KT (w : MW) (e : Int32) : Int := (w.1 9 (w.1 13 e.toInt.toNat).toInt.toNat).toInt
def Nd (w : MW) (o r : Int32) : Int := (w.1 41 (KT w o * 16 + (w.1 14 o.toInt.toNat).toInt * 4 + (w.1 14 r.toInt.toNat).toInt).toNat).toInt
/-- what onward answers -/
def ON (w : MW) (o r : Int32) : Prop := r.toInt = -1 ∨ (0 ≤ r.toInt ∧ r.toInt < 2 * (w.1 8 1).toInt ∧ (w.1 38 r.toInt.toNat).toInt < 536870912 ∧ 0 ≤ (w.1 13 o.toInt.toNat).toInt ∧ (w.1 13 o.toInt.toNat).toInt < (w.1 8 0).toInt ∧ 0 ≤ Nd w o r)
/-- a leg below FAR: the pipe is not taken -/
def LG (z : MW) (a : Int) (w : MW) : Prop := ∀ e : Int32, 0 ≤ e.toInt → e.toInt < a → (w.1 38 e.toInt.toNat).toInt ≤ 536870912 ∧ ((w.1 38 e.toInt.toNat).toInt < 536870912 → (z.1 36 (e.toInt / 2).toNat).toInt = 0)
def PWy (w : MW) : Prop := ∀ i : Int32, 0 ≤ i.toInt → i.toInt < (w.1 26 15).toInt → (0 ≤ (w.1 39 i.toInt.toNat).toInt ∧ (w.1 39 i.toInt.toNat).toInt < 2 * (w.1 8 1).toInt) ∧ (w.1 36 ((w.1 39 i.toInt.toNat).toInt / 2).toNat).toInt = 0 ∧ (i.toInt + 1 < (w.1 26 15).toInt → 0 ≤ (w.1 13 (w.1 39 i.toInt.toNat).toInt.toNat).toInt ∧ (w.1 13 (w.1 39 i.toInt.toNat).toInt.toNat).toInt < (w.1 8 0).toInt ∧ 0 ≤ Nd w (w.1 39 i.toInt.toNat) ((w.1 39 (i.toInt + 1).toNat) ^^^ (1 : Int32)))
theorem PWy_fr {l : Pl} {w w' : MW} (hF : FR l w w') (ho : off l [(8, some 0), (8, some 1), (9, none), (13, none), (14, none), (26, some 15), (36, none), (39, none), (41, none)] = true) (h : PWy w) : PWy w' := by
  have hq : ∀ k j, hit [(8, some 0), (8, some 1), (9, none), (13, none), (14, none), (26, some 15), (36, none), (39, none), (41, none)] k j = true → w'.1 k j = w.1 k j := fun k j hk => (hF k j (off_hit ho hk)).1
  have q0 := hq 8 0 rfl
  have q1 := hq 8 1 rfl
  have q9 : ∀ j, w'.1 9 j = w.1 9 j := fun j => hq 9 j rfl
  have q13 : ∀ j, w'.1 13 j = w.1 13 j := fun j => hq 13 j rfl
  have q14 : ∀ j, w'.1 14 j = w.1 14 j := fun j => hq 14 j rfl
  have q15 := hq 26 15 rfl
  have q36 : ∀ j, w'.1 36 j = w.1 36 j := fun j => hq 36 j rfl
  have q39 : ∀ j, w'.1 39 j = w.1 39 j := fun j => hq 39 j rfl
  have q41 : ∀ j, w'.1 41 j = w.1 41 j := fun j => hq 41 j rfl
  unfold PWy Nd KT at *
  simp only [q0, q1, q9, q13, q14, q15, q36, q39, q41]
  exact h
/-- who owns a pipe: the first pipe of its way -/
def WOo (own : Int → Int) (w : MW) : Prop := (∀ p : Int, 0 ≤ p → p < 24 → 0 ≤ own p → (w.1 36 p.toNat).toInt = 1 ∧ ((w.1 35 p.toNat).toInt < 0 ∨ (own (w.1 35 p.toNat).toInt = own p ∧ 0 ≤ (w.1 13 (w.1 34 p.toNat).toInt.toNat).toInt ∧ (w.1 13 (w.1 34 p.toNat).toInt.toNat).toInt < (w.1 8 0).toInt))) ∧ (∀ k : Int32, 0 ≤ k.toInt → k.toInt < (w.1 26 1).toInt → own (w.1 32 k.toInt.toNat).toInt = (w.1 32 k.toInt.toNat).toInt) ∧ (∀ k l : Int32, 0 ≤ k.toInt → k.toInt < (w.1 26 1).toInt → 0 ≤ l.toInt → l.toInt < (w.1 26 1).toInt → ¬ k.toInt = l.toInt → ¬ (w.1 32 k.toInt.toNat).toInt = (w.1 32 l.toInt.toNat).toInt)
def WO (w : MW) : Prop := ∃ own : Int → Int, WOo own w
theorem WO_fr {l : Pl} {w w' : MW} (hF : FR l w w') (ho : off l [(8, some 0), (13, none), (26, some 1), (32, none), (34, none), (35, none), (36, none)] = true) (h : WO w) : WO w' := by
  have hq : ∀ k j, hit [(8, some 0), (13, none), (26, some 1), (32, none), (34, none), (35, none), (36, none)] k j = true → w'.1 k j = w.1 k j := fun k j hk => (hF k j (off_hit ho hk)).1
  have q0 := hq 8 0 rfl
  have q13 : ∀ j, w'.1 13 j = w.1 13 j := fun j => hq 13 j rfl
  have q1 := hq 26 1 rfl
  have q32 : ∀ j, w'.1 32 j = w.1 32 j := fun j => hq 32 j rfl
  have q34 : ∀ j, w'.1 34 j = w.1 34 j := fun j => hq 34 j rfl
  have q35 : ∀ j, w'.1 35 j = w.1 35 j := fun j => hq 35 j rfl
  have q36 : ∀ j, w'.1 36 j = w.1 36 j := fun j => hq 36 j rfl
  unfold WO WOo at *
  simp only [q0, q13, q1, q32, q34, q35, q36]
  exact h
theorem wo_zero {w : MW} {v : Int32} (hv : v.toInt = 0) : WO (sI w 26 1 v) := by
  have a1 : (sI w 26 1 v).1 26 1 = v := rfl
  refine ⟨fun _ => -1, fun p _ _ q => absurd q (show ¬ (0 : Int) ≤ -1 by decide), fun k k0 k1 => ?_, fun k l k0 k1 l0 l1 _ => ?_⟩ <;> (rw [a1] at k1; omega)
theorem wo_36z {w : MW} {i v : Int32} (h : (w.1 26 1).toInt ≤ 0) : WO (sI w 36 i.toInt.toNat v) := by
  have a1 : (sI w 36 i.toInt.toNat v).1 26 1 = w.1 26 1 := rfl
  refine ⟨fun _ => -1, fun p _ _ q => absurd q (show ¬ (0 : Int) ≤ -1 by decide), fun k k0 k1 => ?_, fun k l k0 k1 l0 l1 _ => ?_⟩ <;> (rw [a1] at k1; omega)
theorem ways_23c {w : MW} {own : Int → Int} (hI : BND w) (hO : WOo own w) (hB : PWy w) (h1 : 1 ≤ (w.1 26 15).toInt) : (w.1 26 1).toInt ≤ 23 := by
  have b26 := bd_26_1 hI
  have b39 := bd_39 hI 0
  have b0 := hB 0 (by decide) (by rw [i_0]; omega)
  have e0 : (0 : Int32).toInt.toNat = 0 := by decide
  rw [e0] at b0
  have ofn : ∀ i : Nat, i < 24 → (Int32.ofNat i).toInt = (i : Int) := fun i hi => by rw [Int32.toInt_ofNat_of_lt (by omega)]
  have no : ∀ i : Nat, (i : Int) < (w.1 26 1).toInt → ¬ (w.1 32 i).toInt = (w.1 39 0).toInt / 2 := by
    intro i hi q
    have ei := ofn i (by omega)
    have e2 : (Int32.ofNat i).toInt.toNat = i := by omega
    have h2 := hO.2.1 (Int32.ofNat i) (by omega) (by omega)
    rw [e2] at h2
    have b := bd_32 hI i
    have h3 := hO.1 (w.1 32 i).toInt b.1 (by omega) (by omega)
    rw [q] at h3
    have := b0.2.1
    omega
  have := pigeon 24 ((w.1 26 1).toInt.toNat + 1) (fun i => if i < (w.1 26 1).toInt.toNat then (w.1 32 i).toInt.toNat else ((w.1 39 0).toInt / 2).toNat) (fun i hi => ?_) (fun i j hi hj q => ?_)
  · omega
  · show (if i < (w.1 26 1).toInt.toNat then (w.1 32 i).toInt.toNat else ((w.1 39 0).toInt / 2).toNat) < 24
    have b := bd_32 hI i
    split <;> omega
  · have q : (if i < (w.1 26 1).toInt.toNat then (w.1 32 i).toInt.toNat else ((w.1 39 0).toInt / 2).toNat) = (if j < (w.1 26 1).toInt.toNat then (w.1 32 j).toInt.toNat else ((w.1 39 0).toInt / 2).toNat) := q
    have bi := bd_32 hI i
    have bj := bd_32 hI j
    split at q
    · next c1 =>
      split at q
      · next c2 =>
        apply Classical.byContradiction
        intro ne
        have ei := ofn i (by omega)
        have ej := ofn j (by omega)
        have e1 : (Int32.ofNat i).toInt.toNat = i := by omega
        have e2 : (Int32.ofNat j).toInt.toNat = j := by omega
        have h3 := hO.2.2 (Int32.ofNat i) (Int32.ofNat j) (by omega) (by omega) (by omega) (by omega) (by omega)
        rw [e1, e2] at h3
        omega
      · next c2 =>
        have := no i (by omega)
        omega
    · next c1 =>
      split at q
      · next c2 =>
        have := no j (by omega)
        omega
      · omega
theorem pw_use {w : MW} {i : Int32} (h : PWy w) (h0 : 0 ≤ i.toInt) (h1 : i.toInt < (w.1 26 15).toInt) : 0 ≤ (w.1 39 i.toInt.toNat).toInt ∧ (w.1 39 i.toInt.toNat).toInt < 2 * (w.1 8 1).toInt := (h i h0 h1).1
theorem shr1 {x : Int32} : (x >>> ((1 : Int32) &&& 31)).toInt = x.toInt / 2 := nb_shr x ((1 : Int32) &&& 31) 1 2 rfl rfl
def InP (w : MW) (q : Int) : Prop := ∃ j : Int32, 0 ≤ j.toInt ∧ j.toInt < (w.1 26 15).toInt ∧ (w.1 39 j.toInt.toNat).toInt / 2 = q
noncomputable def ownF (P : Int → Prop) (a : Int) (own : Int → Int) (q : Int) : Int := @ite _ (P q) (Classical.propDecidable _) a (own q)
theorem ownF_pos {P : Int → Prop} {a : Int} {own : Int → Int} {q : Int} (h : P q) : ownF P a own q = a := by
  unfold ownF
  exact if_pos h
theorem ownF_neg {P : Int → Prop} {a : Int} {own : Int → Int} {q : Int} (h : ¬ P q) : ownF P a own q = own q := by
  unfold ownF
  exact if_neg h
