/-! the class reads a line of a plant: what it tells -/
def L5 : Type := Int × Int × Int × Int × Int
def lnP5 (f : Int → Int) (a b q : Int) : Int × Int × Int × Int × Int := if (dgs f 7 0 0 q).1 = 0 then (-1, 0, 0, 0, (dgs f 7 0 0 q).2.2) else if f (dgs f 7 0 0 q).2.2 = 10 then (3, a, b, (dgs f 7 0 0 q).2.1, (dgs f 7 0 0 q).2.2) else (-1, 0, 0, 0, (dgs f 7 0 0 q).2.2)
def lnP4 (f : Int → Int) (a b q : Int) : Int × Int × Int × Int × Int := if (tks f (ltr 5 1) q).1 = true then lnP5 f a b (tks f (ltr 5 1) q).2 else (-1, 0, 0, 0, (tks f (ltr 5 1) q).2)
def lnP3 (f : Int → Int) (a q : Int) : Int × Int × Int × Int × Int := if (pes f q).1 = true then lnP4 f a (pes f q).2.1 (pes f q).2.2 else (-1, 0, 0, 0, (pes f q).2.2)
def lnP2 (f : Int → Int) (a q : Int) : Int × Int × Int × Int × Int := if (tks f (ltr 5 1) q).1 = true then lnP3 f a (tks f (ltr 5 1) q).2 else (-1, 0, 0, 0, (tks f (ltr 5 1) q).2)
def lnP1 (f : Int → Int) (q : Int) : Int × Int × Int × Int × Int := if (pes f q).1 = true then lnP2 f (pes f q).2.1 (pes f q).2.2 else (-1, 0, 0, 0, (pes f q).2.2)
def lnP (f : Int → Int) (p : Int) : Int × Int × Int × Int × Int := if (tks f (ltr 4 5) p).1 = true then lnP1 f (tks f (ltr 4 5) p).2 else (-1, 0, 0, 0, (tks f (ltr 4 5) p).2)
def lnU (f : Int → Int) (p : Int) : Int × Int × Int × Int × Int := if (tks f (ltr 3 4) p).1 = true then (if f (tks f (ltr 3 4) p).2 = 10 then (1, 0, 0, 0, (tks f (ltr 3 4) p).2) else (-1, 0, 0, 0, (tks f (ltr 3 4) p).2)) else (-1, 0, 0, 0, (tks f (ltr 3 4) p).2)
def lnS (f : Int → Int) (p : Int) : Int × Int × Int × Int × Int := if f p = 116 then lnN f 0 (ltr 1 5) p else if f p = 118 then lnN f 2 (ltr 2 6) p else if f p = 112 ∧ f (p + 1) = 117 then lnU f p else lnP f p
/-- what the line did to the plant -/
def RlE (w0 w' : MW) (r : Int32) (L : Int × Int × Int × Int × Int) : Prop := ∃ z, RdA w0 z L.2.2.2.2 ∧ BND w' ∧
  ((L.1 = -1 ∧ r = 0 ∧ w' = z) ∨
   (L.1 = 0 ∧ ((¬ (1 ≤ L.2.1 ∧ L.2.1 ≤ 100000 ∧ (z.1 91 0).toInt < 20) ∧ r = 0 ∧ w' = z) ∨ ((1 ≤ L.2.1 ∧ L.2.1 ≤ 100000 ∧ (z.1 91 0).toInt < 20) ∧ r = 1 ∧ AdT z w' 9 (tI L.2.1) ∧ FR lAT z w'))) ∨
   (L.1 = 1 ∧ ((¬ (z.1 91 0).toInt < 20 ∧ r = 0 ∧ w' = z) ∨ ((z.1 91 0).toInt < 20 ∧ r = 1 ∧ AdT z w' 8 0 ∧ FR lAT z w'))) ∨
   (L.1 = 2 ∧ ((¬ (L.2.1 ≤ 7 ∧ (z.1 91 0).toInt < 20) ∧ r = 0 ∧ w' = z) ∨ ((0 ≤ L.2.1 ∧ L.2.1 ≤ 7 ∧ (z.1 91 0).toInt < 20) ∧ r = 1 ∧ AdT z w' (tI L.2.1) 0 ∧ FR lAT z w'))) ∨
   (L.1 = 3 ∧ ((-1 ≤ L.2.1 ∧ L.2.1 ≤ 9999999) ∧ (-1 ≤ L.2.2.1 ∧ L.2.2.1 ≤ 9999999) ∧ (0 ≤ L.2.2.2.1 ∧ L.2.2.2.1 ≤ 9999999)) ∧ ((¬ okP z (tI L.2.1) (tI L.2.2.1) (tI L.2.2.2.1) ∧ r = 0 ∧ FR lAP z w') ∨ (okP z (tI L.2.1) (tI L.2.2.1) (tI L.2.2.2.1) ∧ r = 1 ∧ AdP z w' (tI L.2.1) (tI L.2.2.1) (tI L.2.2.2.1) ∧ FR lAP z w'))))
theorem rle_no {w0 z : MW} {q : Int} (h : RdA w0 z q) : RlE w0 z 0 (-1, 0, 0, 0, q) := ⟨z, h, h.1, Or.inl ⟨rfl, rfl, rfl⟩⟩
theorem rd_pipe {w0 w : MW} {p : Int} {Q : Int32 → MW → Prop} (h : RdA w0 w p) (hQ : ∀ r w', RlE w0 w' r (lnP1 (cf w0) p) → Q r w') : p_Pl_readPipes91 w Q := by
  refine Eq.mpr (p_Pl_readPipes91.eq_1 _ _) (rl_pe h (fun w1 n1 m1 h1 => ?_))
  by_cases c1 : ¬ (pes (cf w0) p).1 = true
  · have e : lnP1 (cf w0) p = (-1, 0, 0, 0, (pes (cf w0) p).2.2) := by unfold lnP1; rw [if_neg c1]
    rw [if_neg c1]
    exact ⟨fun y => absurd i_0 y, fun _ => hQ _ _ (by rw [e]; exact rle_no h1)⟩
  have c1 := Classical.not_not.mp c1
  have e1 : lnP1 (cf w0) p = lnP2 (cf w0) (pes (cf w0) p).2.1 (pes (cf w0) p).2.2 := by unfold lnP1; rw [if_pos c1]
  rw [if_pos c1]
  refine ⟨fun _ => ?_, fun y => absurd (by decide) y⟩
  generalize (pes (cf w0) p).2.1 = a at *
  generalize (pes (cf w0) p).2.2 = q1 at *
  refine rl_tx5 h1 (fun w3 h3 n3 => ?_)
  by_cases c3 : ¬ (tks (cf w0) (ltr 5 1) q1).1 = true
  · have e : lnP2 (cf w0) a q1 = (-1, 0, 0, 0, (tks (cf w0) (ltr 5 1) q1).2) := by unfold lnP2; rw [if_neg c3]
    rw [if_neg c3]
    exact ⟨fun _ => hQ _ _ (by rw [e1, e]; exact rle_no h3), fun y => absurd i_0 y⟩
  have c3 := Classical.not_not.mp c3
  have e3 : lnP2 (cf w0) a q1 = lnP3 (cf w0) a (tks (cf w0) (ltr 5 1) q1).2 := by unfold lnP2; rw [if_pos c3]
  rw [if_pos c3]
  refine ⟨fun y => absurd y (by decide), fun _ => ?_⟩
  generalize (tks (cf w0) (ltr 5 1) q1).2 = q3 at *
  refine rl_pe h3 (fun w5 n5 m5 h5 => ?_)
  by_cases c5 : ¬ (pes (cf w0) q3).1 = true
  · have e : lnP3 (cf w0) a q3 = (-1, 0, 0, 0, (pes (cf w0) q3).2.2) := by unfold lnP3; rw [if_neg c5]
    rw [if_neg c5]
    exact ⟨fun y => absurd i_0 y, fun _ => hQ _ _ (by rw [e1, e3, e]; exact rle_no h5)⟩
  have c5 := Classical.not_not.mp c5
  have e5 : lnP3 (cf w0) a q3 = lnP4 (cf w0) a (pes (cf w0) q3).2.1 (pes (cf w0) q3).2.2 := by unfold lnP3; rw [if_pos c5]
  rw [if_pos c5]
  refine ⟨fun _ => ?_, fun y => absurd (by decide) y⟩
  generalize (pes (cf w0) q3).2.1 = b at *
  generalize (pes (cf w0) q3).2.2 = q5 at *
  refine rl_tx5 h5 (fun w7 h7 n7 => ?_)
  by_cases c7 : ¬ (tks (cf w0) (ltr 5 1) q5).1 = true
  · have e : lnP4 (cf w0) a b q5 = (-1, 0, 0, 0, (tks (cf w0) (ltr 5 1) q5).2) := by unfold lnP4; rw [if_neg c7]
    rw [if_neg c7]
    exact ⟨fun _ => hQ _ _ (by rw [e1, e3, e5, e]; exact rle_no h7), fun y => absurd i_0 y⟩
  have c7 := Classical.not_not.mp c7
  have e7 : lnP4 (cf w0) a b q5 = lnP5 (cf w0) a b (tks (cf w0) (ltr 5 1) q5).2 := by unfold lnP4; rw [if_pos c7]
  rw [if_pos c7]
  refine ⟨fun y => absurd y (by decide), fun _ => ?_⟩
  generalize (tks (cf w0) (ltr 5 1) q5).2 = q7 at *
  refine rl_num h7 (fun w9 n9 m9 h9 => ?_)
  by_cases c9 : (dgs (cf w0) 7 0 0 q7).1 = 0
  · have e : lnP5 (cf w0) a b q7 = (-1, 0, 0, 0, (dgs (cf w0) 7 0 0 q7).2.2) := by unfold lnP5; rw [if_pos c9]
    rw [if_pos c9]
    exact ⟨fun _ => hQ _ _ (by rw [e1, e3, e5, e7, e]; exact rle_no h9), fun y => absurd i_0 y⟩
  have e9 : lnP5 (cf w0) a b q7 = if cf w0 (dgs (cf w0) 7 0 0 q7).2.2 = 10 then (3, a, b, (dgs (cf w0) 7 0 0 q7).2.1, (dgs (cf w0) 7 0 0 q7).2.2) else (-1, 0, 0, 0, (dgs (cf w0) 7 0 0 q7).2.2) := by unfold lnP5; rw [if_neg c9]
  rw [if_neg c9]
  refine ⟨fun y => absurd y (by decide), fun _ => ?_⟩
  generalize (dgs (cf w0) 7 0 0 q7).2.1 = l at *
  generalize (dgs (cf w0) 7 0 0 q7).2.2 = q9 at *
  refine rl_el h9 (fun ce => ⟨fun y => absurd y (by decide), fun _ => ?_⟩) (fun ce => ⟨fun _ => hQ _ _ (by rw [e1, e3, e5, e7, e9, if_neg ce]; exact rle_no h9), fun y => absurd i_0 y⟩)
  have eL : lnP1 (cf w0) p = (3, a, b, l, q9) := by rw [e1, e3, e5, e7, e9, if_pos ce]
  have ea : w1.1 91 11 = tI a := by rw [← n1, tI_of]
  have eb : w5.1 91 11 = tI b := by rw [← n5, tI_of]
  have el : w9.1 91 11 = tI l := by rw [← n9, tI_of]
  have b1 := bd_91_11 h1.1
  have b5 := bd_91_11 h5.1
  have b9 := bd_91_11 h9.1
  have bnds : (-1 ≤ a ∧ a ≤ 9999999) ∧ (-1 ≤ b ∧ b ≤ 9999999) ∧ (0 ≤ l ∧ l ≤ 9999999) := by omega
  rw [ea, eb, el]
  rw [ea] at m1 b1
  rw [eb] at m5 b5
  refine add_p h9.1 m1 b1.2 m5 b5.2 (fun w' B' F' ok ad => ⟨fun y => absurd y (by decide), fun _ => hQ _ _ ?_⟩) (fun w' B' F' no => ⟨fun _ => hQ _ _ ?_, fun y => absurd i_0 y⟩)
  · rw [eL]
    exact ⟨w9, h9, B', Or.inr (Or.inr (Or.inr (Or.inr ⟨rfl, bnds, Or.inr ⟨ok, rfl, ad, F'⟩⟩)))⟩
  · rw [eL]
    exact ⟨w9, h9, B', Or.inr (Or.inr (Or.inr (Or.inr ⟨rfl, bnds, Or.inl ⟨no, rfl, F'⟩⟩)))⟩
