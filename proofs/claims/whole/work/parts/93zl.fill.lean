/-! arrays are filled, exactly -/
theorem fl_16 {z : MW} {v : Int32} {E Q : MW → Prop} (v0 : v.toInt = 0) (hE : ∀ w, BND w → FR [(16, none)] z w → (∀ j, j < 20 → w.1 16 j = v) → E w) (n : Nat) : ∀ (i : Nat) (w : MW), BND w → FR [(16, none)] z w → i ≤ 20 → (∀ j, j < i → w.1 16 j = v) → 20 - i < n → q_Ar_fill0_16_5 v 20 E Q n (nI i) w := by
  induction n with
  | zero => intros; omega
  | succ n ih =>
    intro i w hB hF hi hj hm
    have ti : (nI i).toInt = (i : Int) := nI_toInt (by omega)
    have tn : (nI i).toInt.toNat = i := by omega
    have eN : (20 : Int32).toInt = 20 := by decide
    rw [q_Ar_fill0_16_5.eq_2]
    refine ⟨fun c => ?_, fun c => ⟨⟨by omega, by omega⟩, ?_⟩⟩
    · have e : i = 20 := by omega
      subst e
      exact hE w hB hF hj
    rw [nI_1, tn]
    refine ih (i + 1) _ (wbd_16 hB _ (by omega) (by omega)) (FR.I hF rfl) (by omega) (fun j q => ?_) (by omega)
    rw [sI_if]
    by_cases c : j = i
    · rw [if_pos c]
    · rw [if_neg c]
      exact hj j (by omega)
theorem fx_16 {w : MW} {v : Int32} {Q : MW → Prop} (v0 : v.toInt = 0) (hI : BND w) (hQ : ∀ w', BND w' → FR [(16, none)] w w' → (∀ j, j < 20 → w'.1 16 j = v) → Q w') : p_Ar_fill0_16 w v Q :=
  Eq.mpr (p_Ar_fill0_16.eq_1 _ _ _) (fl_16 (i := 0) v0 hQ FU w hI (FR.refl _ w) (by omega) (fun j q => absurd q (Nat.not_lt_zero j)) (fu_lt (by decide)))
theorem fl_17 {z : MW} {v : Int32} {E Q : MW → Prop} (v0 : v.toInt = 0) (hE : ∀ w, BND w → FR [(17, none)] z w → (∀ j, j < 44 → w.1 17 j = v) → E w) (n : Nat) : ∀ (i : Nat) (w : MW), BND w → FR [(17, none)] z w → i ≤ 44 → (∀ j, j < i → w.1 17 j = v) → 44 - i < n → q_Ar_fill0_17_5 v 44 E Q n (nI i) w := by
  induction n with
  | zero => intros; omega
  | succ n ih =>
    intro i w hB hF hi hj hm
    have ti : (nI i).toInt = (i : Int) := nI_toInt (by omega)
    have tn : (nI i).toInt.toNat = i := by omega
    have eN : (44 : Int32).toInt = 44 := by decide
    rw [q_Ar_fill0_17_5.eq_2]
    refine ⟨fun c => ?_, fun c => ⟨⟨by omega, by omega⟩, ?_⟩⟩
    · have e : i = 44 := by omega
      subst e
      exact hE w hB hF hj
    rw [nI_1, tn]
    refine ih (i + 1) _ (wbd_17 hB _ (by omega) (by omega)) (FR.I hF rfl) (by omega) (fun j q => ?_) (by omega)
    rw [sI_if]
    by_cases c : j = i
    · rw [if_pos c]
    · rw [if_neg c]
      exact hj j (by omega)
theorem fx_17 {w : MW} {v : Int32} {Q : MW → Prop} (v0 : v.toInt = 0) (hI : BND w) (hQ : ∀ w', BND w' → FR [(17, none)] w w' → (∀ j, j < 44 → w'.1 17 j = v) → Q w') : p_Ar_fill0_17 w v Q :=
  Eq.mpr (p_Ar_fill0_17.eq_1 _ _ _) (fl_17 (i := 0) v0 hQ FU w hI (FR.refl _ w) (by omega) (fun j q => absurd q (Nat.not_lt_zero j)) (fu_lt (by decide)))
theorem fl_18 {z : MW} {v : Int32} {E Q : MW → Prop} (hE : ∀ w, BND w → FR [(18, none)] z w → (∀ j, j < 44 → w.1 18 j = v) → E w) (n : Nat) : ∀ (i : Nat) (w : MW), BND w → FR [(18, none)] z w → i ≤ 44 → (∀ j, j < i → w.1 18 j = v) → 44 - i < n → q_Ar_fill0_18_5 v 44 E Q n (nI i) w := by
  induction n with
  | zero => intros; omega
  | succ n ih =>
    intro i w hB hF hi hj hm
    have ti : (nI i).toInt = (i : Int) := nI_toInt (by omega)
    have tn : (nI i).toInt.toNat = i := by omega
    have eN : (44 : Int32).toInt = 44 := by decide
    rw [q_Ar_fill0_18_5.eq_2]
    refine ⟨fun c => ?_, fun c => ⟨⟨by omega, by omega⟩, ?_⟩⟩
    · have e : i = 44 := by omega
      subst e
      exact hE w hB hF hj
    rw [nI_1, tn]
    refine ih (i + 1) _ (wbd_18 hB _ ) (FR.I hF rfl) (by omega) (fun j q => ?_) (by omega)
    rw [sI_if]
    by_cases c : j = i
    · rw [if_pos c]
    · rw [if_neg c]
      exact hj j (by omega)
theorem fx_18 {w : MW} {v : Int32} {Q : MW → Prop} (hI : BND w) (hQ : ∀ w', BND w' → FR [(18, none)] w w' → (∀ j, j < 44 → w'.1 18 j = v) → Q w') : p_Ar_fill0_18 w v Q :=
  Eq.mpr (p_Ar_fill0_18.eq_1 _ _ _) (fl_18 (i := 0) hQ FU w hI (FR.refl _ w) (by omega) (fun j q => absurd q (Nat.not_lt_zero j)) (fu_lt (by decide)))
theorem fl_19 {z : MW} {v : Int32} {E Q : MW → Prop} (v0 : v.toInt = 0) (hE : ∀ w, BND w → FR [(19, none)] z w → (∀ j, j < 44 → w.1 19 j = v) → E w) (n : Nat) : ∀ (i : Nat) (w : MW), BND w → FR [(19, none)] z w → i ≤ 44 → (∀ j, j < i → w.1 19 j = v) → 44 - i < n → q_Ar_fill0_19_5 v 44 E Q n (nI i) w := by
  induction n with
  | zero => intros; omega
  | succ n ih =>
    intro i w hB hF hi hj hm
    have ti : (nI i).toInt = (i : Int) := nI_toInt (by omega)
    have tn : (nI i).toInt.toNat = i := by omega
    have eN : (44 : Int32).toInt = 44 := by decide
    rw [q_Ar_fill0_19_5.eq_2]
    refine ⟨fun c => ?_, fun c => ⟨⟨by omega, by omega⟩, ?_⟩⟩
    · have e : i = 44 := by omega
      subst e
      exact hE w hB hF hj
    rw [nI_1, tn]
    refine ih (i + 1) _ (wbd_19 hB _ (by omega) (by omega)) (FR.I hF rfl) (by omega) (fun j q => ?_) (by omega)
    rw [sI_if]
    by_cases c : j = i
    · rw [if_pos c]
    · rw [if_neg c]
      exact hj j (by omega)
theorem fx_19 {w : MW} {v : Int32} {Q : MW → Prop} (v0 : v.toInt = 0) (hI : BND w) (hQ : ∀ w', BND w' → FR [(19, none)] w w' → (∀ j, j < 44 → w'.1 19 j = v) → Q w') : p_Ar_fill0_19 w v Q :=
  Eq.mpr (p_Ar_fill0_19.eq_1 _ _ _) (fl_19 (i := 0) v0 hQ FU w hI (FR.refl _ w) (by omega) (fun j q => absurd q (Nat.not_lt_zero j)) (fu_lt (by decide)))
theorem fl_21 {z : MW} {v : Int32} {E Q : MW → Prop} (v0 : v.toInt = 0) (hE : ∀ w, BND w → FR [(21, none)] z w → (∀ j, j < 24 → w.1 21 j = v) → E w) (n : Nat) : ∀ (i : Nat) (w : MW), BND w → FR [(21, none)] z w → i ≤ 24 → (∀ j, j < i → w.1 21 j = v) → 24 - i < n → q_Ar_fill0_21_5 v 24 E Q n (nI i) w := by
  induction n with
  | zero => intros; omega
  | succ n ih =>
    intro i w hB hF hi hj hm
    have ti : (nI i).toInt = (i : Int) := nI_toInt (by omega)
    have tn : (nI i).toInt.toNat = i := by omega
    have eN : (24 : Int32).toInt = 24 := by decide
    rw [q_Ar_fill0_21_5.eq_2]
    refine ⟨fun c => ?_, fun c => ⟨⟨by omega, by omega⟩, ?_⟩⟩
    · have e : i = 24 := by omega
      subst e
      exact hE w hB hF hj
    rw [nI_1, tn]
    refine ih (i + 1) _ (wbd_21 hB _ (by omega) (by omega)) (FR.I hF rfl) (by omega) (fun j q => ?_) (by omega)
    rw [sI_if]
    by_cases c : j = i
    · rw [if_pos c]
    · rw [if_neg c]
      exact hj j (by omega)
theorem fx_21 {w : MW} {v : Int32} {Q : MW → Prop} (v0 : v.toInt = 0) (hI : BND w) (hQ : ∀ w', BND w' → FR [(21, none)] w w' → (∀ j, j < 24 → w'.1 21 j = v) → Q w') : p_Ar_fill0_21 w v Q :=
  Eq.mpr (p_Ar_fill0_21.eq_1 _ _ _) (fl_21 (i := 0) v0 hQ FU w hI (FR.refl _ w) (by omega) (fun j q => absurd q (Nat.not_lt_zero j)) (fu_lt (by decide)))
theorem fl_23 {z : MW} {v : Int32} {E Q : MW → Prop} (hE : ∀ w, BND w → FR [(23, none)] z w → (∀ j, j < 264 → w.1 23 j = v) → E w) (n : Nat) : ∀ (i : Nat) (w : MW), BND w → FR [(23, none)] z w → i ≤ 264 → (∀ j, j < i → w.1 23 j = v) → 264 - i < n → q_Ar_fill0_23_5 v 264 E Q n (nI i) w := by
  induction n with
  | zero => intros; omega
  | succ n ih =>
    intro i w hB hF hi hj hm
    have ti : (nI i).toInt = (i : Int) := nI_toInt (by omega)
    have tn : (nI i).toInt.toNat = i := by omega
    have eN : (264 : Int32).toInt = 264 := by decide
    rw [q_Ar_fill0_23_5.eq_2]
    refine ⟨fun c => ?_, fun c => ⟨⟨by omega, by omega⟩, ?_⟩⟩
    · have e : i = 264 := by omega
      subst e
      exact hE w hB hF hj
    rw [nI_1, tn]
    refine ih (i + 1) _ (wbd_23 hB _ ) (FR.I hF rfl) (by omega) (fun j q => ?_) (by omega)
    rw [sI_if]
    by_cases c : j = i
    · rw [if_pos c]
    · rw [if_neg c]
      exact hj j (by omega)
theorem fx_23 {w : MW} {v : Int32} {Q : MW → Prop} (hI : BND w) (hQ : ∀ w', BND w' → FR [(23, none)] w w' → (∀ j, j < 264 → w'.1 23 j = v) → Q w') : p_Ar_fill0_23 w v Q :=
  Eq.mpr (p_Ar_fill0_23.eq_1 _ _ _) (fl_23 (i := 0) hQ FU w hI (FR.refl _ w) (by omega) (fun j q => absurd q (Nat.not_lt_zero j)) (fu_lt (by decide)))
theorem fl_37 {z : MW} {v : Int32} {E Q : MW → Prop} (hE : ∀ w, BND w → FR [(37, none)] z w → (∀ j, j < 20 → w.1 37 j = v) → E w) (n : Nat) : ∀ (i : Nat) (w : MW), BND w → FR [(37, none)] z w → i ≤ 20 → (∀ j, j < i → w.1 37 j = v) → 20 - i < n → q_Ar_fill0_37_5 v 20 E Q n (nI i) w := by
  induction n with
  | zero => intros; omega
  | succ n ih =>
    intro i w hB hF hi hj hm
    have ti : (nI i).toInt = (i : Int) := nI_toInt (by omega)
    have tn : (nI i).toInt.toNat = i := by omega
    have eN : (20 : Int32).toInt = 20 := by decide
    rw [q_Ar_fill0_37_5.eq_2]
    refine ⟨fun c => ?_, fun c => ⟨⟨by omega, by omega⟩, ?_⟩⟩
    · have e : i = 20 := by omega
      subst e
      exact hE w hB hF hj
    rw [nI_1, tn]
    refine ih (i + 1) _ (wbd_37 hB _ ) (FR.I hF rfl) (by omega) (fun j q => ?_) (by omega)
    rw [sI_if]
    by_cases c : j = i
    · rw [if_pos c]
    · rw [if_neg c]
      exact hj j (by omega)
theorem fx_37 {w : MW} {v : Int32} {Q : MW → Prop} (hI : BND w) (hQ : ∀ w', BND w' → FR [(37, none)] w w' → (∀ j, j < 20 → w'.1 37 j = v) → Q w') : p_Ar_fill0_37 w v Q :=
  Eq.mpr (p_Ar_fill0_37.eq_1 _ _ _) (fl_37 (i := 0) hQ FU w hI (FR.refl _ w) (by omega) (fun j q => absurd q (Nat.not_lt_zero j)) (fu_lt (by decide)))
theorem sJ_if (w : MW) (k j : Nat) (v : Int64) (t : Nat) : (sJ w k j v).2.1 k t = if t = j then v else w.2.1 k t := by
  rw [sJ_at]
  by_cases q : t = j
  · rw [if_pos ⟨rfl, q⟩, if_pos q]
  · rw [if_neg (fun z => q z.2), if_neg q]
theorem fl_20 {z : MW} {v : Int64} {E Q : MW → Prop} (hE : ∀ w, BND w → FR [(20, none)] z w → (∀ j, j < 96 → w.2.1 20 j = v) → E w) (n : Nat) : ∀ (i : Nat) (w : MW), BND w → FR [(20, none)] z w → i ≤ 96 → (∀ j, j < i → w.2.1 20 j = v) → 96 - i < n → q_Ar_fill1_20_6 v 96 E Q n (nI i) w := by
  induction n with
  | zero => intros; omega
  | succ n ih =>
    intro i w hB hF hi hj hm
    have ti : (nI i).toInt = (i : Int) := nI_toInt (by omega)
    have tn : (nI i).toInt.toNat = i := by omega
    have eN : (96 : Int32).toInt = 96 := by decide
    rw [q_Ar_fill1_20_6.eq_2]
    refine ⟨fun c => ?_, fun c => ⟨⟨by omega, by omega⟩, ?_⟩⟩
    · have e : i = 96 := by omega
      subst e
      exact hE w hB hF hj
    rw [nI_1, tn]
    refine ih (i + 1) _ (bnd_J hB) (FR.J hF rfl) (by omega) (fun j q => ?_) (by omega)
    rw [sJ_if]
    by_cases c : j = i
    · rw [if_pos c]
    · rw [if_neg c]
      exact hj j (by omega)
theorem fx_20 {w : MW} {v : Int64} {Q : MW → Prop} (hI : BND w) (hQ : ∀ w', BND w' → FR [(20, none)] w w' → (∀ j, j < 96 → w'.2.1 20 j = v) → Q w') : p_Ar_fill1_20 w v Q :=
  Eq.mpr (p_Ar_fill1_20.eq_1 _ _ _) (fl_20 (i := 0) hQ FU w hI (FR.refl _ w) (by omega) (fun j q => absurd q (Nat.not_lt_zero j)) (fu_lt (by decide)))
theorem nar0z : vp_nar .boolean (0 : Int32) = 0 := by decide
