/-! the class takes a plant, exactly -/
theorem fg_7 {z : MW} {E Q : MW → Prop} (hE : ∀ w, BND w → FR [(36, none)] z w → (∀ j, j < 24 → w.1 36 j = 0) → E w) (n : Nat) : ∀ (i : Nat) (w : MW), BND w → FR [(36, none)] z w → i ≤ 24 → (∀ j, j < i → w.1 36 j = 0) → 24 - i < n → q_Wa_forget_7 E Q n (nI i) w := by
  induction n with
  | zero => intros; omega
  | succ n ih =>
    intro i w hB hF hi hj hm
    have ti : (nI i).toInt = (i : Int) := nI_toInt (by omega)
    have tn : (nI i).toInt.toNat = i := by omega
    rw [q_Wa_forget_7.eq_2]
    refine ⟨fun c => ?_, fun c => ⟨⟨by omega, by omega⟩, ?_⟩⟩
    · have e : i = 24 := by omega
      subst e
      exact hE w hB hF hj
    rw [nI_1, tn, nar0z]
    refine ih (i + 1) _ (wbd_36 hB _ (by decide) (by decide)) (FR.I hF rfl) (by omega) (fun j q => ?_) (by omega)
    rw [sI_if]
    by_cases c : j = i
    · rw [if_pos c]
    · rw [if_neg c]
      exact hj j (by omega)
/-- nothing is in the house, nothing is open, nothing runs -/
def ZrC (w : MW) : Prop := (∀ j, j < 20 → w.1 16 j = 0) ∧ (∀ j, j < 44 → w.1 17 j = 0) ∧ (∀ j, j < 44 → w.1 18 j = 0) ∧ (∀ j, j < 44 → w.1 19 j = 0) ∧ (∀ j, j < 264 → w.1 23 j = -1) ∧ (∀ j, j < 96 → w.2.1 20 j = 0) ∧ (∀ j, j < 24 → w.1 21 j = 0) ∧ w.1 26 1 = 0 ∧ (∀ j, j < 24 → w.1 36 j = 0) ∧ (∀ j, j < 20 → w.1 37 j = 0) ∧ w.1 61 4 = 4
theorem ct_plant {w : MW} {ls : List Ln} {Q : Int32 → MW → Prop} (hI : BND w) (e7 : w.2.2 7 0 = some 8) (e8 : w.2.2 0 8 = some 91) (hP : PWc w ls) (hG : GL ls) (hQ : ∀ r w', BND w' → FR ltP w w' → r = w.1 91 0 → ZrC w' → WT w' (w'.1 0 12) (txt ls) → Q r w') : p_Bh_takePlant w Q := by
  have F0 : FR ltP w (sR w 7 0 (some 91)) := FR.R (FR.refl _ w) rfl
  have B0 : BND (sR w 7 0 (some 91)) := bnd_R hI
  have r0 : (sR w 7 0 (some 91)).2.2 7 0 = some 91 := sRs _ _ _ _
  refine Eq.mpr (p_Bh_takePlant.eq_1 _ _) ⟨e7, e8, Eq.mpr (p_St_renew_91.eq_1 _ _) ?_⟩
  generalize (sR w 7 0 (some 91)) = v0 at *
  refine fx_16 i_0 B0 (fun v1 B1 F1 z1 => fx_17 i_0 B1 (fun v2 B2 F2 z2 => fx_18 B2 (fun v3 B3 F3 z3 => fx_19 i_0 B3 (fun v4 B4 F4 z4 => fx_23 B4 (fun v5 B5 F5 z5 => fx_20 B5 (fun v6 B6 F6 z6 => fx_21 i_0 B6 (fun v7 B7 F7 z7 => ?_)))))))
  have F8 : FR ltP w v7 := ((((((F0.tr F1 rfl).tr F2 rfl).tr F3 rfl).tr F4 rfl).tr F5 rfl).tr F6 rfl).tr F7 rfl
  have r7 : v7.2.2 7 0 = some 91 := by rw [(F7 7 0 rfl).2.2, (F6 7 0 rfl).2.2, (F5 7 0 rfl).2.2, (F4 7 0 rfl).2.2, (F3 7 0 rfl).2.2, (F2 7 0 rfl).2.2, (F1 7 0 rfl).2.2]; exact r0
  have y1 : ∀ j, j < 20 → v7.1 16 j = 0 := fun j q => by rw [(F7 16 j rfl).1, (F6 16 j rfl).1, (F5 16 j rfl).1, (F4 16 j rfl).1, (F3 16 j rfl).1, (F2 16 j rfl).1]; exact z1 j q
  have y2 : ∀ j, j < 44 → v7.1 17 j = 0 := fun j q => by rw [(F7 17 j rfl).1, (F6 17 j rfl).1, (F5 17 j rfl).1, (F4 17 j rfl).1, (F3 17 j rfl).1]; exact z2 j q
  have y3 : ∀ j, j < 44 → v7.1 18 j = 0 := fun j q => by rw [(F7 18 j rfl).1, (F6 18 j rfl).1, (F5 18 j rfl).1, (F4 18 j rfl).1]; exact z3 j q
  have y4 : ∀ j, j < 44 → v7.1 19 j = 0 := fun j q => by rw [(F7 19 j rfl).1, (F6 19 j rfl).1, (F5 19 j rfl).1]; exact z4 j q
  have y5 : ∀ j, j < 264 → v7.1 23 j = -1 := fun j q => by rw [(F7 23 j rfl).1, (F6 23 j rfl).1]; exact z5 j q
  have y6 : ∀ j, j < 96 → v7.2.1 20 j = 0 := fun j q => by rw [(F7 20 j rfl).2.1]; exact z6 j q
  have F9 : FR ltP w (sI (sR v7 0 8 (some 8)) 26 1 0) := FR.I (FR.R F8 rfl) rfl
  have G9 : FR [(0, some 8), (26, some 1)] v7 (sI (sR v7 0 8 (some 8)) 26 1 0) := FR.I (FR.R (FR.refl _ v7) rfl) rfl
  have B9 : BND (sI (sR v7 0 8 (some 8)) 26 1 0) := wbd_26_1 (bnd_R B7) (by decide) (by decide)
  have c9 : (sI (sR v7 0 8 (some 8)) 26 1 0).1 26 1 = 0 := sI_same _ _ _ _
  have t9 : (sI (sR v7 0 8 (some 8)) 26 1 0).2.2 7 0 = some 91 := ((G9 7 0 rfl).2.2).trans r7
  refine Eq.mpr (p_Wa_forget.eq_1 _ _) ?_
  generalize (sI (sR v7 0 8 (some 8)) 26 1 0) = v9 at *
  refine fg_7 (i := 0) (fun va Ba Fa za => fx_37 Ba (fun vb Bb Fb zb => ?_)) FU v9 B9 (FR.refl _ v9) (by omega) (fun j q => absurd q (Nat.not_lt_zero j)) (fu_lt (by decide))
  have ta : vb.2.2 7 0 = some 91 := by rw [(Fb 7 0 rfl).2.2, (Fa 7 0 rfl).2.2]; exact t9
  have Fc : FR ltP w (sI vb 61 4 4) := FR.I ((F9.tr Fa rfl).tr Fb rfl) rfl
  have Gc : FR [(61, some 4)] vb (sI vb 61 4 4) := FR.I (FR.refl _ vb) rfl
  have Bc : BND (sI vb 61 4 4) := wbd_61_4 Bb (by decide) (by decide)
  have xc : (sI vb 61 4 4).1 61 4 = 4 := sI_same _ _ _ _
  refine ⟨ta, ?_⟩
  generalize (sI vb 61 4 4) = vc at *
  have Hc : FR [(0, some 8), (26, some 1), (36, none), (37, none), (61, some 4)] v7 vc := (((FR.tr (FR.refl _ v7) G9 rfl).tr Fa rfl).tr Fb rfl).tr Gc rfl
  refine wr_91 Bc (pwc_fr hP Fc rfl) hG (fun r vd Bd Fd Wd => ?_)
  have rl : 0 ≤ r.toInt ∧ r.toInt ≤ 640 := by
    have l1 := thg_len2 hG
    have l2 := pip_len hG (pip ls).length
    have l3 := hG.2.2.2
    rw [List.take_length] at l2
    have w1 := Wd.1
    unfold txt at w1
    rw [List.length_append] at w1
    omega
  have He : FR [(0, some 8), (0, some 12), (26, some 1), (36, none), (37, none), (61, some 4), (123, none)] v7 (sI vd 0 12 r) := FR.I ((FR.tr (FR.refl _ v7) Hc rfl).tr Fd rfl) rfl
  have Ge : FR [(123, none), (0, some 12)] vc (sI vd 0 12 r) := FR.I (FR.tr (FR.refl _ vc) Fd rfl) rfl
  have Fe : FR ltP w (sI vd 0 12 r) := FR.I (Fc.tr Fd rfl) rfl
  refine ⟨((Fd 7 0 rfl).2.2).trans (((Gc 7 0 rfl).2.2).trans ta), hQ _ _ (wbd_0_12 Bd rl.1 rl.2) Fe (((Fc.tr Fd rfl) 91 0 rfl).1) ⟨fun j q => ?_, fun j q => ?_, fun j q => ?_, fun j q => ?_, fun j q => ?_, fun j q => ?_, fun j q => ?_, ?_, fun j q => ?_, fun j q => ?_, ?_⟩ ?_⟩
  · rw [(He 16 j rfl).1]
    exact y1 j q
  · rw [(He 17 j rfl).1]
    exact y2 j q
  · rw [(He 18 j rfl).1]
    exact y3 j q
  · rw [(He 19 j rfl).1]
    exact y4 j q
  · rw [(He 23 j rfl).1]
    exact y5 j q
  · rw [(He 20 j rfl).2.1]
    exact y6 j q
  · rw [(He 21 j rfl).1]
    exact z7 j q
  · rw [(Ge 26 1 rfl).1, (Gc 26 1 rfl).1, (Fb 26 1 rfl).1, (Fa 26 1 rfl).1]
    exact c9
  · rw [(Ge 36 j rfl).1, (Gc 36 j rfl).1, (Fb 36 j rfl).1]
    exact za j q
  · rw [(Ge 37 j rfl).1, (Gc 37 j rfl).1]
    exact zb j q
  · rw [(Ge 61 4 rfl).1]
    exact xc
  · refine ⟨?_, fun j c q => ?_⟩
    · rw [sI_same]
      exact Wd.1
    · rw [sI_oth _ _ _ _ _ _ (by decide)]
      exact Wd.2 j c q
/-! the text's bytes are good -/
def txO (f : Int → Int) (n : Int) : Prop := ∀ p : Int, 0 ≤ p → p < n → 1 ≤ f p ∧ f p ≤ 127
theorem it_2 {w : MW} {E : MW → Prop} {Q : Int32 → MW → Prop} (hI : BND w) (hE : txO (cf w) (w.1 1 2).toInt → E w) (h0 : ¬ txO (cf w) (w.1 1 2).toInt → Q 0 w) (n : Nat) : ∀ (i : Nat), (i : Int) ≤ (w.1 1 2).toInt → (∀ p : Int, 0 ≤ p → p < (i : Int) → 1 ≤ cf w p ∧ cf w p ≤ 127) → 4000 - i < n → q_Tp_isText_2 E Q n (nI i) w := by
  induction n with
  | zero => intros; omega
  | succ n ih =>
    intro i hi hj hm
    have b := bd_1_2 hI
    have ti : (nI i).toInt = (i : Int) := nI_toInt (by omega)
    rw [q_Tp_isText_2.eq_2]
    refine ⟨fun c => hE (fun p p0 p1 => hj p p0 (by omega)), fun c => at_x hI ?_⟩
    have ec := cv_cf w (nI i)
    rw [ti] at ec
    refine ⟨fun d => h0 (fun q => ?_), fun d => ⟨fun d2 => ?_, fun d2 => h0 (fun q => ?_)⟩⟩
    · have := q i (by omega) (by omega)
      omega
    · rw [nI_1]
      refine ih (i + 1) (by omega) (fun p p0 p1 => ?_) (by omega)
      by_cases e : p = (i : Int)
      · rw [e]
        exact ⟨by omega, by omega⟩
      · exact hj p p0 (by omega)
    · have := q i (by omega) (by omega)
      omega
theorem it_x {w : MW} {Q : Int32 → MW → Prop} (hI : BND w) (h1 : txO (cf w) (w.1 1 2).toInt → Q 1 w) (h0 : ¬ txO (cf w) (w.1 1 2).toInt → Q 0 w) : p_Tp_isText w Q := by
  have b := bd_1_2 hI
  exact Eq.mpr (p_Tp_isText.eq_1 _ _) (it_2 hI h1 h0 FU 0 (by omega) (fun p p0 p1 => by omega) (fu_lt (by omega)))
theorem plr_ag {f g : Int → Int} (h : AgF f g) {n : Int} : ∀ (k : Nat) (p : Int) (ls : List Ln) (r : Int) (ls' : List Ln), PlR f n k p ls r ls' → PlR g n k p ls r ls' := by
  intro k
  induction k with
  | zero => intro p ls r ls' q; exact q
  | succ k ih =>
    intro p ls r ls' q
    have e := lnS_ag h p
    rcases q with q | ⟨c, d, e1, e2⟩ | ⟨c, d, o, q⟩
    · exact Or.inl q
    · rw [e] at d e1
      exact Or.inr (Or.inl ⟨c, d, e1, e2⟩)
    · rw [e] at d o q
      exact Or.inr (Or.inr ⟨c, d, o, ih _ _ _ _ q⟩)
