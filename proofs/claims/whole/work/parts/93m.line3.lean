/-! the class reads a line of a plant: all of it -/
theorem rd_207 {w0 w : MW} {p : Int} {Q : Int32 → MW → Prop} (h : RdA w0 w p) (hQ : ∀ r w', RlE w0 w' r (lnP (cf w0) p) → Q r w') : q_Pl_readLines91_207 w Q := by
  refine Eq.mpr (q_Pl_readLines91_207.eq_1 _ _) (rl_tx4 h (fun w1 h1 n1 => ?_))
  by_cases c1 : ¬ (tks (cf w0) (ltr 4 5) p).1 = true
  · have e : lnP (cf w0) p = (-1, 0, 0, 0, (tks (cf w0) (ltr 4 5) p).2) := by unfold lnP; rw [if_neg c1]
    rw [if_neg c1]
    exact ⟨fun _ => hQ _ _ (by rw [e]; exact rle_no h1), fun y => absurd i_0 y⟩
  have c1 := Classical.not_not.mp c1
  have e : lnP (cf w0) p = lnP1 (cf w0) (tks (cf w0) (ltr 4 5) p).2 := by unfold lnP; rw [if_pos c1]
  rw [if_pos c1]
  refine ⟨fun y => absurd y (by decide), fun _ => rd_pipe h1 (fun r w' hr => ?_)⟩
  have g := hQ r w' (by rw [e]; exact hr)
  refine ⟨fun y => ?_, fun y => ?_⟩
  · have er : r = 0 := ti_inj (by rw [y]; exact i_0.symm)
    rw [er] at g
    exact g
  · have er : r = 1 := by
      obtain ⟨z, _, _, q⟩ := hr
      rcases q with q | q | q | q | q
      · exact absurd (by rw [q.2.1]; exact i_0) y
      · rcases q.2 with q | q
        · exact absurd (by rw [q.2.1]; exact i_0) y
        · exact q.2.1
      · rcases q.2 with q | q
        · exact absurd (by rw [q.2.1]; exact i_0) y
        · exact q.2.1
      · rcases q.2 with q | q
        · exact absurd (by rw [q.2.1]; exact i_0) y
        · exact q.2.1
      · rcases q.2.2 with q | q
        · exact absurd (by rw [q.2.1]; exact i_0) y
        · exact q.2.1
    rw [er] at g
    exact g
theorem rd_line {w : MW} {Q : Int32 → MW → Prop} (hI : BND w) (hr : w.2.2 91 9 = some 1) (hQ : ∀ r w', RlE w w' r (lnS (cf w) (w.1 91 10).toInt) → Q r w') : p_Pl_readLines91 w Q := by
  have h : RdA w w (w.1 91 10).toInt := ⟨hI, FR.refl _ w, hr, rfl⟩
  have b10 := bd_91_10 hI
  refine Eq.mpr (p_Pl_readLines91.eq_1 _ _) ⟨hr, rl_at h (fun r2 e2 => ⟨fun c2 => ⟨hr, rl_at h (fun r5 e5 => ⟨fun c5 => ⟨hr, rl_at h (fun r8 e8 => ⟨fun c8 => ?_, fun c8 => ⟨hr, rl_at h (fun r15 e15 => ⟨fun c15 => ?_, fun c15 => ?_⟩)⟩⟩)⟩, fun c5 => ?_⟩)⟩, fun c2 => ?_⟩)⟩
  · rw [e2] at c2
    rw [e5] at c5
    rw [e8] at c8
    refine rd_207 h (fun r w' q => hQ r w' ?_)
    unfold lnS
    rw [if_neg c2, if_neg c5, if_neg (fun y => c8 y.1)]
    exact q
  · rw [e2] at c2
    rw [e5] at c5
    have s := ti_add2 (Eq.refl (w.1 91 10).toInt) i_1 (by omega) (by omega)
    rw [e15, s] at c15
    refine rd_207 h (fun r w' q => hQ r w' ?_)
    unfold lnS
    rw [if_neg c2, if_neg c5, if_neg (fun y => c15 y.2)]
    exact q
  · rw [e2] at c2
    rw [e5] at c5
    rw [e8] at c8
    have s := ti_add2 (Eq.refl (w.1 91 10).toInt) i_1 (by omega) (by omega)
    rw [e15, s] at c15
    have eS : lnS (cf w) (w.1 91 10).toInt = lnU (cf w) (w.1 91 10).toInt := by
      unfold lnS
      rw [if_neg c2, if_neg c5, if_pos ⟨Classical.not_not.mp c8, Classical.not_not.mp c15⟩]
    rw [eS] at hQ
    refine rl_tx3 h (fun w1 h1 n1 => ?_)
    unfold lnU at hQ
    by_cases c1 : ¬ (tks (cf w) (ltr 3 4) (w.1 91 10).toInt).1 = true
    · rw [if_neg c1] at hQ
      rw [if_neg c1]
      exact ⟨fun _ => hQ _ _ (rle_no h1), fun y => absurd i_0 y⟩
    have c1 := Classical.not_not.mp c1
    rw [if_pos c1] at hQ
    rw [if_pos c1]
    refine ⟨fun y => absurd y (by decide), fun _ => rl_el h1 (fun ce => ⟨fun y => absurd y (by decide), fun _ => ?_⟩) (fun ce => ⟨fun _ => ?_, fun y => absurd i_0 y⟩)⟩
    · rw [if_pos ce] at hQ
      exact add_t h1.1 (by decide) (by decide) (by decide) (by decide) (fun w' B' F' k ad => ⟨fun y => absurd y (by decide), fun _ => hQ _ _ ⟨w1, h1, B', Or.inr (Or.inr (Or.inl ⟨rfl, Or.inr ⟨k, rfl, ad, F'⟩⟩))⟩⟩) (fun k => ⟨fun _ => hQ _ _ ⟨w1, h1, h1.1, Or.inr (Or.inr (Or.inl ⟨rfl, Or.inl ⟨k, rfl, rfl⟩⟩))⟩, fun y => absurd i_0 y⟩)
    · rw [if_neg ce] at hQ
      exact hQ _ _ (rle_no h1)
  · rw [e2] at c2
    rw [e5] at c5
    have eS : lnS (cf w) (w.1 91 10).toInt = lnN (cf w) 2 (ltr 2 6) (w.1 91 10).toInt := by
      unfold lnS
      rw [if_neg c2, if_pos (Classical.not_not.mp c5)]
    rw [eS] at hQ
    refine rl_tx2 h (fun w1 h1 n1 => ?_)
    unfold lnN at hQ
    by_cases c1 : ¬ (tks (cf w) (ltr 2 6) (w.1 91 10).toInt).1 = true
    · rw [if_neg c1] at hQ
      rw [if_neg c1]
      exact ⟨fun _ => hQ _ _ (rle_no h1), fun y => absurd i_0 y⟩
    have c1 := Classical.not_not.mp c1
    rw [if_pos c1] at hQ
    rw [if_pos c1]
    refine ⟨fun y => absurd y (by decide), fun _ => ?_⟩
    generalize (tks (cf w) (ltr 2 6) (w.1 91 10).toInt).2 = q1 at *
    refine rl_num h1 (fun w3 n3 m3 h3 => ?_)
    by_cases c3 : (dgs (cf w) 7 0 0 q1).1 = 0
    · rw [if_pos c3] at hQ
      rw [if_pos c3]
      exact ⟨fun _ => hQ _ _ (rle_no h3), fun y => absurd i_0 y⟩
    rw [if_neg c3] at hQ
    rw [if_neg c3]
    refine ⟨fun y => absurd y (by decide), fun _ => ?_⟩
    generalize (dgs (cf w) 7 0 0 q1).2.1 = v at *
    generalize (dgs (cf w) 7 0 0 q1).2.2 = q3 at *
    refine rl_el h3 (fun ce => ⟨fun y => absurd y (by decide), fun _ => ?_⟩) (fun ce => ⟨fun _ => ?_, fun y => absurd i_0 y⟩)
    · rw [if_pos ce] at hQ
      have ev : w3.1 91 11 = tI v := by rw [← n3, tI_of]
      refine ⟨fun c7 => hQ _ _ ⟨w3, h3, h3.1, Or.inr (Or.inr (Or.inr (Or.inl ⟨rfl, Or.inl ⟨fun y => ?_, rfl, rfl⟩⟩)))⟩, fun c7 => ?_⟩
      · have y1 : v ≤ 7 := y.1
        omega
      · rw [ev]
        have t : (tI v).toInt = v := by rw [← ev]; exact n3
        refine add_t h3.1 (by omega) (by omega) (by decide) (by decide) (fun w' B' F' k ad => ⟨fun y => absurd y (by decide), fun _ => hQ _ _ ⟨w3, h3, B', Or.inr (Or.inr (Or.inr (Or.inl ⟨rfl, Or.inr ⟨⟨?_, ?_, k⟩, rfl, ad, F'⟩⟩)))⟩⟩) (fun k => ⟨fun _ => hQ _ _ ⟨w3, h3, h3.1, Or.inr (Or.inr (Or.inr (Or.inl ⟨rfl, Or.inl ⟨fun y => k y.2, rfl, rfl⟩⟩)))⟩, fun y => absurd i_0 y⟩)
        · show 0 ≤ v
          omega
        · show v ≤ 7
          omega
    · rw [if_neg ce] at hQ
      exact hQ _ _ (rle_no h3)
  · rw [e2] at c2
    have eS : lnS (cf w) (w.1 91 10).toInt = lnN (cf w) 0 (ltr 1 5) (w.1 91 10).toInt := by
      unfold lnS
      rw [if_pos (Classical.not_not.mp c2)]
    rw [eS] at hQ
    refine rl_tx1 h (fun w1 h1 n1 => ?_)
    unfold lnN at hQ
    by_cases c1 : ¬ (tks (cf w) (ltr 1 5) (w.1 91 10).toInt).1 = true
    · rw [if_neg c1] at hQ
      rw [if_neg c1]
      exact ⟨fun _ => hQ _ _ (rle_no h1), fun y => absurd i_0 y⟩
    have c1 := Classical.not_not.mp c1
    rw [if_pos c1] at hQ
    rw [if_pos c1]
    refine ⟨fun y => absurd y (by decide), fun _ => ?_⟩
    generalize (tks (cf w) (ltr 1 5) (w.1 91 10).toInt).2 = q1 at *
    refine rl_num h1 (fun w3 n3 m3 h3 => ?_)
    by_cases c3 : (dgs (cf w) 7 0 0 q1).1 = 0
    · rw [if_pos c3] at hQ
      rw [if_pos c3]
      exact ⟨fun _ => hQ _ _ (rle_no h3), fun y => absurd i_0 y⟩
    rw [if_neg c3] at hQ
    rw [if_neg c3]
    refine ⟨fun y => absurd y (by decide), fun _ => ?_⟩
    generalize (dgs (cf w) 7 0 0 q1).2.1 = v at *
    generalize (dgs (cf w) 7 0 0 q1).2.2 = q3 at *
    refine rl_el h3 (fun ce => ⟨fun y => absurd y (by decide), fun _ => ?_⟩) (fun ce => ⟨fun _ => ?_, fun y => absurd i_0 y⟩)
    · rw [if_pos ce] at hQ
      have ev : w3.1 91 11 = tI v := by rw [← n3, tI_of]
      have t : (tI v).toInt = v := by rw [← ev]; exact n3
      refine ⟨fun c7 => hQ _ _ ⟨w3, h3, h3.1, Or.inr (Or.inl ⟨rfl, Or.inl ⟨fun y => ?_, rfl, rfl⟩⟩)⟩, fun c7 => ⟨fun c8 => hQ _ _ ⟨w3, h3, h3.1, Or.inr (Or.inl ⟨rfl, Or.inl ⟨fun y => ?_, rfl, rfl⟩⟩)⟩, fun c8 => ?_⟩⟩
      · have y1 : 1 ≤ v := y.1
        omega
      · have y1 : v ≤ 100000 := y.2.1
        omega
      · rw [ev]
        refine add_t h3.1 (by decide) (by decide) (by omega) (by omega) (fun w' B' F' k ad => ⟨fun y => absurd y (by decide), fun _ => hQ _ _ ⟨w3, h3, B', Or.inr (Or.inl ⟨rfl, Or.inr ⟨⟨?_, ?_, k⟩, rfl, ad, F'⟩⟩)⟩⟩) (fun k => ⟨fun _ => hQ _ _ ⟨w3, h3, h3.1, Or.inr (Or.inl ⟨rfl, Or.inl ⟨fun y => k y.2.2, rfl, rfl⟩⟩)⟩, fun y => absurd i_0 y⟩)
        · show 1 ≤ v
          omega
        · show v ≤ 100000
          omega
    · rw [if_neg ce] at hQ
      exact hQ _ _ (rle_no h3)
