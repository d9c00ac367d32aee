def l_Wa_indexOf_2 : Pl := []
def l_Wa_indexOf : Pl := []
set_option maxRecDepth 20000 in
set_option maxHeartbeats 2000000 in
theorem hq_Wa_indexOf_2 {x2_1 : Int32} {x2_2 : Int32} {E : MW → Prop} {Q : Int32 → MW → Prop} (n : Nat) : ∀ (x2_3 : Int32) (w : MW), BND w → 0 ≤ x2_3.toInt → x2_3.toInt ≤ 24 → (24 - x2_3.toInt).toNat < n → (∀ (w' : MW), BND w' → FR l_Wa_indexOf_2 w w' → E w') → (∀ (r : Int32) (w' : MW), BND w' → FR l_Wa_indexOf_2 w w' → 0 ≤ r.toInt → r.toInt ≤ 23 → r.toInt < 0 ∨ r.toInt < (w.1 26 1).toInt → Q r w') → q_Wa_indexOf_2 x2_1 x2_2 E Q n x2_3 w := by
  induction n with
  | zero => intros; omega
  | succ n ih =>
    intro x2_3 w hI  hp0 hp1 hm hE hQ
    rw [q_Wa_indexOf_2.eq_2]
    refine ⟨fun h4779 => ?_, fun h4779 => ?_⟩
    · exact hE _ hI (FR.refl _ w)
    · have o4780 : 0 ≤ x2_3.toInt ∧ x2_3.toInt < 24 := by have := bd_26_1 hI; omega
      refine ⟨o4780, ?_⟩
      refine ⟨fun h4781 => ?_, fun h4781 => ?_⟩
      · have o4782 : (0 ≤ (x2_3 + (1 : Int32)).toInt) ∧ ((x2_3 + (1 : Int32)).toInt ≤ 24) := by have := bd_26_1 hI; have := ti_add2 (Eq.refl x2_3.toInt) (by decide : ((1 : Int32)).toInt = 1) (by omega) (by omega); exact ⟨by omega, by omega⟩
        exact ih _ w hI  o4782.1 o4782.2 (by have := bd_26_1 hI; have := ti_add2 (Eq.refl x2_3.toInt) (by decide : ((1 : Int32)).toInt = 1) (by omega) (by omega); omega) (fun w9 hI9 hF9 => hE w9 hI9 ((FR.refl _ w).tr hF9 rfl) ) (fun r w9 hI9 hF9 q0 q1 q2 => hQ r w9 hI9 ((FR.refl _ w).tr hF9 rfl) (by have := bd_26_1 hI; have := ti_add2 (Eq.refl x2_3.toInt) (by decide : ((1 : Int32)).toInt = 1) (by omega) (by omega); omega) (by have := bd_26_1 hI; have := ti_add2 (Eq.refl x2_3.toInt) (by decide : ((1 : Int32)).toInt = 1) (by omega) (by omega); omega) (by have := bd_26_1 hI; have := ti_add2 (Eq.refl x2_3.toInt) (by decide : ((1 : Int32)).toInt = 1) (by omega) (by omega); omega))
      · have o4783 : 0 ≤ x2_3.toInt ∧ x2_3.toInt < 24 := by have := bd_26_1 hI; omega
        refine ⟨o4783, ?_⟩
        refine ⟨fun h4784 => ?_, fun h4784 => ?_⟩
        · have o4785 : (0 ≤ (x2_3 + (1 : Int32)).toInt) ∧ ((x2_3 + (1 : Int32)).toInt ≤ 24) := by have := bd_26_1 hI; have := ti_add2 (Eq.refl x2_3.toInt) (by decide : ((1 : Int32)).toInt = 1) (by omega) (by omega); exact ⟨by omega, by omega⟩
          exact ih _ w hI  o4785.1 o4785.2 (by have := bd_26_1 hI; have := ti_add2 (Eq.refl x2_3.toInt) (by decide : ((1 : Int32)).toInt = 1) (by omega) (by omega); omega) (fun w9 hI9 hF9 => hE w9 hI9 ((FR.refl _ w).tr hF9 rfl) ) (fun r w9 hI9 hF9 q0 q1 q2 => hQ r w9 hI9 ((FR.refl _ w).tr hF9 rfl) (by have := bd_26_1 hI; have := ti_add2 (Eq.refl x2_3.toInt) (by decide : ((1 : Int32)).toInt = 1) (by omega) (by omega); omega) (by have := bd_26_1 hI; have := ti_add2 (Eq.refl x2_3.toInt) (by decide : ((1 : Int32)).toInt = 1) (by omega) (by omega); omega) (by have := bd_26_1 hI; have := ti_add2 (Eq.refl x2_3.toInt) (by decide : ((1 : Int32)).toInt = 1) (by omega) (by omega); omega))
        · have o4786 : (0 ≤ x2_3.toInt) ∧ (x2_3.toInt ≤ 23) ∧ (x2_3.toInt < 0 ∨ x2_3.toInt < (w.1 26 1).toInt) := by have := bd_26_1 hI; exact ⟨by omega, by omega, by omega⟩
          exact hQ _ _ hI (FR.refl _ w)  o4786.1 o4786.2.1 o4786.2.2
set_option maxRecDepth 20000 in
set_option maxHeartbeats 2000000 in
theorem h_Wa_indexOf {w : MW} {a0 : Int32} {b0 : Int32} {Q : Int32 → MW → Prop} (hI : BND w)  (hQ : ∀ (r : Int32) (w' : MW), BND w' → FR l_Wa_indexOf w w' → (-1) ≤ r.toInt → r.toInt ≤ 23 → r.toInt < 0 ∨ r.toInt < (w.1 26 1).toInt → Q r w') : p_Wa_indexOf w a0 b0 Q := by
  refine Eq.mpr (p_Wa_indexOf.eq_1 _ _ _ _) ?_
  have o4787 : (0 ≤ (0 : Int32).toInt) ∧ ((0 : Int32).toInt ≤ 24) := by have := ti_lo a0; have := ti_hi a0; have := ti_lo b0; have := ti_hi b0; have := (by decide : ((0 : Int32)).toInt = 0); exact ⟨by omega, by omega⟩
  refine hq_Wa_indexOf_2 FU _ w hI  o4787.1 o4787.2 (fu_lt (by have := ti_lo a0; have := ti_hi a0; have := ti_lo b0; have := ti_hi b0; have := (by decide : ((0 : Int32)).toInt = 0); omega)) (fun w4788 hI4789 hL4790  => ?_) (fun r w9 hI9 hF9 q0 q1 q2 => hQ r w9 hI9 (((FR.refl _ w)).tr hF9 rfl) (by have := ti_lo a0; have := ti_hi a0; have := ti_lo b0; have := ti_hi b0; have := (by decide : ((0 : Int32)).toInt = 0); have := bd_26_1 hI; omega) (by have := ti_lo a0; have := ti_hi a0; have := ti_lo b0; have := ti_hi b0; have := (by decide : ((0 : Int32)).toInt = 0); have := bd_26_1 hI; omega) (by have := ti_lo a0; have := ti_hi a0; have := ti_lo b0; have := ti_hi b0; have := (by decide : ((0 : Int32)).toInt = 0); have := bd_26_1 hI; omega))
  have hF4791 : FR l_Wa_indexOf w w4788 := (FR.refl _ w).tr hL4790 rfl
  have o4792 : ((-1) ≤ ((-1) : Int32).toInt) ∧ (((-1) : Int32).toInt ≤ 23) ∧ (((-1) : Int32).toInt < 0 ∨ ((-1) : Int32).toInt < (w.1 26 1).toInt) := by have := (by decide : (((-1) : Int32)).toInt = (-1)); have := bd_26_1 hI; exact ⟨by omega, by omega, by omega⟩
  exact hQ _ _ hI4789 hF4791  o4792.1 o4792.2.1 o4792.2.2
def l_St_emptyCells_12 : Pl := [(20, none)]
def l_St_emptyCells : Pl := [(20, none)]
set_option maxRecDepth 20000 in
set_option maxHeartbeats 2000000 in
theorem hq_St_emptyCells_12 {x12_2 : Int32} {E : MW → Prop} {Q : MW → Prop} (n : Nat) : ∀ (x12_3 : Int32) (w : MW), BND w → (-20) ≤ x12_2.toInt → x12_2.toInt ≤ 23 → 0 ≤ x12_3.toInt → x12_3.toInt ≤ 4 → (4 - x12_3.toInt).toNat < n → (∀ (w' : MW), BND w' → FR l_St_emptyCells_12 w w' → E w') → (∀ (w' : MW), BND w' → FR l_St_emptyCells_12 w w' → False → Q w') → q_St_emptyCells_12 x12_2 E Q n x12_3 w := by
  induction n with
  | zero => intros; omega
  | succ n ih =>
    intro x12_3 w hI  hp0 hp1 hp2 hp3 hm hE hQ
    rw [q_St_emptyCells_12.eq_2]
    refine ⟨fun h4793 => ?_, fun h4793 => ?_⟩
    · exact hE _ hI (FR.refl _ w)
    · refine ⟨fun h4794 => ?_, fun h4794 => ?_⟩
      · exact hE _ hI (FR.refl _ w)
      · have o4795 : 0 ≤ ((x12_2 * (4 : Int32)) + x12_3).toInt ∧ ((x12_2 * (4 : Int32)) + x12_3).toInt < 96 := by have := (by decide : ((0 : Int32)).toInt = 0); have := (by decide : ((4 : Int32)).toInt = 4); have := ti_mul2 (Eq.refl x12_2.toInt) (by decide : ((4 : Int32)).toInt = 4) (by omega) (by omega); have := ti_add2 (Eq.refl (x12_2 * (4 : Int32)).toInt) (Eq.refl x12_3.toInt) (by omega) (by omega); omega
        refine ⟨o4795, ?_⟩
        have o4796 : ((-20) ≤ x12_2.toInt) ∧ (x12_2.toInt ≤ 23) ∧ (0 ≤ (x12_3 + (1 : Int32)).toInt) ∧ ((x12_3 + (1 : Int32)).toInt ≤ 4) := by have := (by decide : ((4 : Int32)).toInt = 4); have := ti_add2 (Eq.refl x12_3.toInt) (by decide : ((1 : Int32)).toInt = 1) (by omega) (by omega); exact ⟨by omega, by omega, by omega, by omega⟩
        exact ih _ (sJ w 20 (((x12_2 * (4 : Int32)) + x12_3).toInt.toNat) 0) (bnd_J hI (k := 20) (j := ((x12_2 * (4 : Int32)) + x12_3).toInt.toNat) (v := 0))  o4796.1 o4796.2.1 o4796.2.2.1 o4796.2.2.2 (by have := (by decide : ((4 : Int32)).toInt = 4); have := ti_add2 (Eq.refl x12_3.toInt) (by decide : ((1 : Int32)).toInt = 1) (by omega) (by omega); omega) (fun w9 hI9 hF9 => hE w9 hI9 ((FR.J (FR.refl _ w) (k := 20) (j := ((x12_2 * (4 : Int32)) + x12_3).toInt.toNat) (v := 0) rfl).tr hF9 rfl) ) (fun w9 hI9 hF9 q0 => q0.elim)
set_option maxRecDepth 20000 in
set_option maxHeartbeats 2000000 in
theorem h_St_emptyCells {w : MW} {a0 : Int32} {Q : MW → Prop} (hI : BND w) (hr_7_0 : w.2.2 7 0 = some 8) (hp0 : 0 ≤ a0.toInt) (hp1 : a0.toInt ≤ 43) (hp2 : a0.toInt < (w.1 8 0).toInt + (w.1 8 1).toInt) (hQ : ∀ (w' : MW), BND w' → FR l_St_emptyCells w w' → Q w') : p_St_emptyCells w a0 Q := by
  refine Eq.mpr (p_St_emptyCells.eq_1 _ _ _) ?_
  refine ⟨hr_7_0, ?_⟩
  have o4797 : ((-20) ≤ (a0 - (w.1 8 0)).toInt) ∧ ((a0 - (w.1 8 0)).toInt ≤ 23) ∧ (0 ≤ (0 : Int32).toInt) ∧ ((0 : Int32).toInt ≤ 4) := by have := bd_8_0 hI; have := (by decide : ((0 : Int32)).toInt = 0); have := bd_8_1 hI; have := ti_sub2 (Eq.refl a0.toInt) (Eq.refl (w.1 8 0).toInt) (by omega) (by omega); exact ⟨by omega, by omega, by omega, by omega⟩
  refine hq_St_emptyCells_12 FU _ w hI  o4797.1 o4797.2.1 o4797.2.2.1 o4797.2.2.2 (fu_lt (by have := bd_8_0 hI; have := (by decide : ((0 : Int32)).toInt = 0); have := bd_8_1 hI; have := ti_sub2 (Eq.refl a0.toInt) (Eq.refl (w.1 8 0).toInt) (by omega) (by omega); omega)) (fun w4798 hI4799 hL4800  => ?_) (fun w9 hI9 hF9 q0 => q0.elim)
  have hF4801 : FR l_St_emptyCells w w4798 := (FR.refl _ w).tr hL4800 rfl
  exact hQ _ hI4799 hF4801 
def l_St_leave : Pl := [(17, none), (18, none), (19, none), (23, none)]
set_option maxRecDepth 20000 in
set_option maxHeartbeats 2000000 in
theorem h_St_leave {w : MW} {a0 : Int32} {b0 : Int32} {Q : MW → Prop} (hI : BND w) (hp0 : 0 ≤ a0.toInt) (hp1 : a0.toInt ≤ 43) (hQ : ∀ (w' : MW), BND w' → FR l_St_leave w w' → Q w') : p_St_leave w a0 b0 Q := by
  refine Eq.mpr (p_St_leave.eq_1 _ _ _ _) ?_
  have o4802 : 0 ≤ a0.toInt ∧ a0.toInt < 44 := by omega
  refine ⟨o4802, ?_⟩
  refine ⟨fun h4803 => ?_, fun h4803 => ?_⟩
  · have o4804 : 0 ≤ a0.toInt ∧ a0.toInt < 44 := by omega
    refine ⟨o4804, ?_⟩
    refine Eq.mpr (p_Ma_max.eq_1 _ _ _ _) ?_
    refine ⟨fun h4805 => ?_, fun h4805 => ?_⟩
    · replace h4805 : 0 < ((w.1 18 a0.toInt.toNat) - b0).toInt := h4805
      have o4806 : 0 ≤ a0.toInt ∧ a0.toInt < 44 := by omega
      refine ⟨o4806, ?_⟩
      have o4807 : 0 ≤ a0.toInt ∧ a0.toInt < 44 := by omega
      refine ⟨o4807, ?_⟩
      refine ⟨fun h4808 => ?_, fun h4808 => ?_⟩
      · have hI4809 : BND (sI w 18 a0.toInt.toNat ((w.1 18 a0.toInt.toNat) - b0)) := wbd_18 hI a0.toInt.toNat
        exact hQ _ hI4809 (FR.I (FR.refl _ w) (k := 18) (j := a0.toInt.toNat) (v := ((w.1 18 a0.toInt.toNat) - b0)) rfl) 
      · have o4810 : 0 ≤ a0.toInt ∧ a0.toInt < 44 := by omega
        refine ⟨o4810, ?_⟩
        have o4811 : 0 ≤ a0.toInt ∧ a0.toInt < 44 := by omega
        refine ⟨o4811, ?_⟩
        have o4812 : 0 ≤ a0.toInt ∧ a0.toInt < 44 := by omega
        refine ⟨o4812, ?_⟩
        have hI4813 : BND (sI w 18 a0.toInt.toNat ((w.1 18 a0.toInt.toNat) - b0)) := wbd_18 hI a0.toInt.toNat
        have o4815 : 0 ≤ (w.1 17 a0.toInt.toNat).toInt ∧ (w.1 17 a0.toInt.toNat).toInt ≤ 14 := by have := bd_17 hI a0.toInt.toNat; have := (by decide : ((0 : Int32)).toInt = 0); omega
        have hI4814 : BND (sI (sI w 18 a0.toInt.toNat ((w.1 18 a0.toInt.toNat) - b0)) 19 a0.toInt.toNat (w.1 17 a0.toInt.toNat)) := wbd_19 hI4813 a0.toInt.toNat o4815.1 o4815.2
        have hI4816 : BND (sI (sI (sI w 18 a0.toInt.toNat ((w.1 18 a0.toInt.toNat) - b0)) 19 a0.toInt.toNat (w.1 17 a0.toInt.toNat)) 17 a0.toInt.toNat 0) := wbd_17 hI4814 a0.toInt.toNat (by decide) (by decide)
        have o4817 : (0 ≤ a0.toInt) ∧ (a0.toInt ≤ 43) := by exact ⟨by omega, by omega⟩
        refine h_St_forgetCleanings hI4816  o4817.1 o4817.2 (fun w4818 hI4819 hL4820  => ?_)
        have hF4822 : FR l_St_leave w w4818 := (FR.I (FR.I (FR.I (FR.refl _ w) (k := 18) (j := a0.toInt.toNat) (v := ((w.1 18 a0.toInt.toNat) - b0)) rfl) (k := 19) (j := a0.toInt.toNat) (v := (w.1 17 a0.toInt.toNat)) rfl) (k := 17) (j := a0.toInt.toNat) (v := 0) rfl).tr hL4820 rfl
        exact hQ _ hI4819 hF4822 
    · replace h4805 : ¬ (0 < ((w.1 18 a0.toInt.toNat) - b0).toInt) := h4805
      have o4823 : 0 ≤ a0.toInt ∧ a0.toInt < 44 := by omega
      refine ⟨o4823, ?_⟩
      have o4824 : 0 ≤ a0.toInt ∧ a0.toInt < 44 := by omega
      refine ⟨o4824, ?_⟩
      refine ⟨fun h4825 => ?_, fun h4825 => ?_⟩
      · have hI4826 : BND (sI w 18 a0.toInt.toNat 0) := wbd_18 hI a0.toInt.toNat
        exact hQ _ hI4826 (FR.I (FR.refl _ w) (k := 18) (j := a0.toInt.toNat) (v := 0) rfl) 
      · have o4827 : 0 ≤ a0.toInt ∧ a0.toInt < 44 := by omega
        refine ⟨o4827, ?_⟩
        have o4828 : 0 ≤ a0.toInt ∧ a0.toInt < 44 := by omega
        refine ⟨o4828, ?_⟩
        have o4829 : 0 ≤ a0.toInt ∧ a0.toInt < 44 := by omega
        refine ⟨o4829, ?_⟩
        have hI4830 : BND (sI w 18 a0.toInt.toNat 0) := wbd_18 hI a0.toInt.toNat
        have o4832 : 0 ≤ (w.1 17 a0.toInt.toNat).toInt ∧ (w.1 17 a0.toInt.toNat).toInt ≤ 14 := by have := bd_17 hI a0.toInt.toNat; have := (by decide : ((0 : Int32)).toInt = 0); omega
        have hI4831 : BND (sI (sI w 18 a0.toInt.toNat 0) 19 a0.toInt.toNat (w.1 17 a0.toInt.toNat)) := wbd_19 hI4830 a0.toInt.toNat o4832.1 o4832.2
        have hI4833 : BND (sI (sI (sI w 18 a0.toInt.toNat 0) 19 a0.toInt.toNat (w.1 17 a0.toInt.toNat)) 17 a0.toInt.toNat 0) := wbd_17 hI4831 a0.toInt.toNat (by decide) (by decide)
        have o4834 : (0 ≤ a0.toInt) ∧ (a0.toInt ≤ 43) := by exact ⟨by omega, by omega⟩
        refine h_St_forgetCleanings hI4833  o4834.1 o4834.2 (fun w4835 hI4836 hL4837  => ?_)
        have hF4839 : FR l_St_leave w w4835 := (FR.I (FR.I (FR.I (FR.refl _ w) (k := 18) (j := a0.toInt.toNat) (v := 0) rfl) (k := 19) (j := a0.toInt.toNat) (v := (w.1 17 a0.toInt.toNat)) rfl) (k := 17) (j := a0.toInt.toNat) (v := 0) rfl).tr hL4837 rfl
        exact hQ _ hI4836 hF4839 
  · exact hQ _ hI (FR.refl _ w)
def l_St_isHolder : Pl := []
set_option maxRecDepth 20000 in
set_option maxHeartbeats 2000000 in
theorem h_St_isHolder {w : MW} {a0 : Int32} {Q : Int32 → MW → Prop} (hI : BND w) (hr_7_0 : w.2.2 7 0 = some 8)  (hQ : ∀ (r : Int32) (w' : MW), BND w' → FR l_St_isHolder w w' → 0 ≤ r.toInt → r.toInt ≤ 1 → r.toInt = 0 ∨ (0 ≤ a0.toInt ∧ a0.toInt < (w.1 8 0).toInt + (w.1 8 1).toInt) → Q r w') : p_St_isHolder w a0 Q := by
  refine Eq.mpr (p_St_isHolder.eq_1 _ _ _) ?_
  refine Eq.mpr (p_St_isTank.eq_1 _ _ _) ?_
  refine ⟨fun h4840 => ?_, fun h4840 => ?_⟩
  · refine ⟨fun h => absurd h (by decide), fun _ => ?_⟩
    refine Eq.mpr (p_St_isPipe.eq_1 _ _ _) ?_
    refine ⟨hr_7_0, ?_⟩
    refine ⟨fun h4841 => ?_, fun h4841 => ?_⟩
    · refine ⟨fun _ => ?_, fun h => absurd (by decide) h⟩
      have o4842 : (0 ≤ (0 : Int32).toInt) ∧ ((0 : Int32).toInt ≤ 1) ∧ ((0 : Int32).toInt = 0 ∨ (0 ≤ a0.toInt ∧ a0.toInt < (w.1 8 0).toInt + (w.1 8 1).toInt)) := by have := (by decide : ((0 : Int32)).toInt = 0); have := bd_8_0 hI; have := bd_8_1 hI; exact ⟨by omega, by omega, by omega⟩
      exact hQ _ _ hI (FR.refl _ w)  o4842.1 o4842.2.1 o4842.2.2
    · exfalso; have := (by decide : ((0 : Int32)).toInt = 0); have := bd_8_0 hI; omega
  · refine ⟨hr_7_0, ?_⟩
    refine ⟨fun h4843 => ?_, fun h4843 => ?_⟩
    · refine ⟨fun h => absurd h (by decide), fun _ => ?_⟩
      refine Eq.mpr (p_St_isPipe.eq_1 _ _ _) ?_
      refine ⟨hr_7_0, ?_⟩
      refine ⟨fun h4844 => ?_, fun h4844 => ?_⟩
      · refine ⟨fun _ => ?_, fun h => absurd (by decide) h⟩
        have o4845 : (0 ≤ (0 : Int32).toInt) ∧ ((0 : Int32).toInt ≤ 1) ∧ ((0 : Int32).toInt = 0 ∨ (0 ≤ a0.toInt ∧ a0.toInt < (w.1 8 0).toInt + (w.1 8 1).toInt)) := by have := (by decide : ((0 : Int32)).toInt = 0); have := bd_8_0 hI; have := bd_8_1 hI; exact ⟨by omega, by omega, by omega⟩
        exact hQ _ _ hI (FR.refl _ w)  o4845.1 o4845.2.1 o4845.2.2
      · refine ⟨hr_7_0, ?_⟩
        refine ⟨hr_7_0, ?_⟩
        refine ⟨fun h4846 => ?_, fun h4846 => ?_⟩
        · refine ⟨fun _ => ?_, fun h => absurd (by decide) h⟩
          have o4847 : (0 ≤ (0 : Int32).toInt) ∧ ((0 : Int32).toInt ≤ 1) ∧ ((0 : Int32).toInt = 0 ∨ (0 ≤ a0.toInt ∧ a0.toInt < (w.1 8 0).toInt + (w.1 8 1).toInt)) := by have := (by decide : ((0 : Int32)).toInt = 0); have := bd_8_0 hI; have := bd_8_1 hI; have := ti_add2 (Eq.refl (w.1 8 0).toInt) (Eq.refl (w.1 8 1).toInt) (by omega) (by omega); exact ⟨by omega, by omega, by omega⟩
          exact hQ _ _ hI (FR.refl _ w)  o4847.1 o4847.2.1 o4847.2.2
        · refine ⟨fun h => absurd h (by decide), fun _ => ?_⟩
          have o4848 : (0 ≤ (1 : Int32).toInt) ∧ ((1 : Int32).toInt ≤ 1) ∧ ((1 : Int32).toInt = 0 ∨ (0 ≤ a0.toInt ∧ a0.toInt < (w.1 8 0).toInt + (w.1 8 1).toInt)) := by have := (by decide : ((1 : Int32)).toInt = 1); have := bd_8_0 hI; have := bd_8_1 hI; have := (by decide : ((0 : Int32)).toInt = 0); have := ti_add2 (Eq.refl (w.1 8 0).toInt) (Eq.refl (w.1 8 1).toInt) (by omega) (by omega); exact ⟨by omega, by omega, by omega⟩
          exact hQ _ _ hI (FR.refl _ w)  o4848.1 o4848.2.1 o4848.2.2
    · refine ⟨hr_7_0, ?_⟩
      have o4849 : 0 ≤ a0.toInt ∧ a0.toInt < 20 := by have := (by decide : ((0 : Int32)).toInt = 0); have := bd_8_0 hI; omega
      refine ⟨o4849, ?_⟩
      refine ⟨fun h4850 => ?_, fun h4850 => ?_⟩
      · refine ⟨fun h => absurd h (by decide), fun _ => ?_⟩
        refine Eq.mpr (p_St_isPipe.eq_1 _ _ _) ?_
        refine ⟨hr_7_0, ?_⟩
        refine ⟨fun h4851 => ?_, fun h4851 => ?_⟩
        · refine ⟨fun _ => ?_, fun h => absurd (by decide) h⟩
          have o4852 : (0 ≤ (0 : Int32).toInt) ∧ ((0 : Int32).toInt ≤ 1) ∧ ((0 : Int32).toInt = 0 ∨ (0 ≤ a0.toInt ∧ a0.toInt < (w.1 8 0).toInt + (w.1 8 1).toInt)) := by have := (by decide : ((0 : Int32)).toInt = 0); have := bd_8_0 hI; have := bd_8_1 hI; exact ⟨by omega, by omega, by omega⟩
          exact hQ _ _ hI (FR.refl _ w)  o4852.1 o4852.2.1 o4852.2.2
        · refine ⟨hr_7_0, ?_⟩
          refine ⟨hr_7_0, ?_⟩
          refine ⟨fun h4853 => ?_, fun h4853 => ?_⟩
          · refine ⟨fun _ => ?_, fun h => absurd (by decide) h⟩
            have o4854 : (0 ≤ (0 : Int32).toInt) ∧ ((0 : Int32).toInt ≤ 1) ∧ ((0 : Int32).toInt = 0 ∨ (0 ≤ a0.toInt ∧ a0.toInt < (w.1 8 0).toInt + (w.1 8 1).toInt)) := by have := (by decide : ((0 : Int32)).toInt = 0); have := bd_8_0 hI; have := bd_8_1 hI; have := ti_add2 (Eq.refl (w.1 8 0).toInt) (Eq.refl (w.1 8 1).toInt) (by omega) (by omega); exact ⟨by omega, by omega, by omega⟩
            exact hQ _ _ hI (FR.refl _ w)  o4854.1 o4854.2.1 o4854.2.2
          · refine ⟨fun h => absurd h (by decide), fun _ => ?_⟩
            have o4855 : (0 ≤ (1 : Int32).toInt) ∧ ((1 : Int32).toInt ≤ 1) ∧ ((1 : Int32).toInt = 0 ∨ (0 ≤ a0.toInt ∧ a0.toInt < (w.1 8 0).toInt + (w.1 8 1).toInt)) := by have := (by decide : ((1 : Int32)).toInt = 1); have := bd_8_0 hI; have := bd_8_1 hI; have := (by decide : ((0 : Int32)).toInt = 0); have := ti_add2 (Eq.refl (w.1 8 0).toInt) (Eq.refl (w.1 8 1).toInt) (by omega) (by omega); exact ⟨by omega, by omega, by omega⟩
            exact hQ _ _ hI (FR.refl _ w)  o4855.1 o4855.2.1 o4855.2.2
      · refine ⟨fun _ => ?_, fun h => absurd (by decide) h⟩
        have o4856 : (0 ≤ (1 : Int32).toInt) ∧ ((1 : Int32).toInt ≤ 1) ∧ ((1 : Int32).toInt = 0 ∨ (0 ≤ a0.toInt ∧ a0.toInt < (w.1 8 0).toInt + (w.1 8 1).toInt)) := by have := (by decide : ((1 : Int32)).toInt = 1); have := bd_8_0 hI; have := bd_8_1 hI; have := (by decide : ((0 : Int32)).toInt = 0); exact ⟨by omega, by omega, by omega⟩
        exact hQ _ _ hI (FR.refl _ w)  o4856.1 o4856.2.1 o4856.2.2
def l_Ac_isBound : Pl := []
set_option maxRecDepth 20000 in
set_option maxHeartbeats 2000000 in
theorem h_Ac_isBound {w : MW} {a0 : Int32} {Q : Int32 → MW → Prop} (hI : BND w) (hf_AC : AC w) (hr_7_0 : w.2.2 7 0 = some 8) (hp0 : 0 ≤ a0.toInt) (hp1 : a0.toInt ≤ 31) (hQ : ∀ (r : Int32) (w' : MW), BND w' → FR l_Ac_isBound w w' → 0 ≤ r.toInt → r.toInt ≤ 1 → r.toInt = 0 ∨ 2 ≤ (w.1 60 a0.toInt.toNat).toInt ∨ (0 ≤ (w.1 57 a0.toInt.toNat).toInt ∧ (w.1 57 a0.toInt.toNat).toInt < (w.1 8 0).toInt ∧ 0 ≤ (w.1 58 a0.toInt.toNat).toInt ∧ (w.1 58 a0.toInt.toNat).toInt < (w.1 8 0).toInt) → r.toInt = 0 ∨ ¬ (w.1 60 a0.toInt.toNat).toInt = 2 ∨ (0 ≤ (w.1 57 a0.toInt.toNat).toInt ∧ (w.1 57 a0.toInt.toNat).toInt < (w.1 8 0).toInt) → r.toInt = 0 ∨ (w.1 60 a0.toInt.toNat).toInt ≤ 2 ∨ (0 ≤ (w.1 57 a0.toInt.toNat).toInt ∧ (w.1 57 a0.toInt.toNat).toInt < (w.1 8 0).toInt + (w.1 8 1).toInt) → r.toInt = 0 ∨ 0 ≤ (w.1 60 a0.toInt.toNat).toInt → Q r w') : p_Ac_isBound w a0 Q := by
  refine Eq.mpr (p_Ac_isBound.eq_1 _ _ _) ?_
  have o4857 : 0 ≤ a0.toInt ∧ a0.toInt < 32 := by omega
  refine ⟨o4857, ?_⟩
  refine ⟨fun h4858 => ?_, fun h4858 => ?_⟩
  · have o4859 : 0 ≤ a0.toInt ∧ a0.toInt < 32 := by omega
    refine ⟨o4859, ?_⟩
    refine Eq.mpr (p_St_isTank.eq_1 _ _ _) ?_
    refine ⟨fun h4860 => ?_, fun h4860 => ?_⟩
    · refine ⟨fun _ => ?_, fun h => absurd (by decide) h⟩
      have o4861 : (0 ≤ (0 : Int32).toInt) ∧ ((0 : Int32).toInt ≤ 1) ∧ ((0 : Int32).toInt = 0 ∨ 2 ≤ (w.1 60 a0.toInt.toNat).toInt ∨ (0 ≤ (w.1 57 a0.toInt.toNat).toInt ∧ (w.1 57 a0.toInt.toNat).toInt < (w.1 8 0).toInt ∧ 0 ≤ (w.1 58 a0.toInt.toNat).toInt ∧ (w.1 58 a0.toInt.toNat).toInt < (w.1 8 0).toInt)) ∧ ((0 : Int32).toInt = 0 ∨ ¬ (w.1 60 a0.toInt.toNat).toInt = 2 ∨ (0 ≤ (w.1 57 a0.toInt.toNat).toInt ∧ (w.1 57 a0.toInt.toNat).toInt < (w.1 8 0).toInt)) ∧ ((0 : Int32).toInt = 0 ∨ (w.1 60 a0.toInt.toNat).toInt ≤ 2 ∨ (0 ≤ (w.1 57 a0.toInt.toNat).toInt ∧ (w.1 57 a0.toInt.toNat).toInt < (w.1 8 0).toInt + (w.1 8 1).toInt)) ∧ ((0 : Int32).toInt = 0 ∨ 0 ≤ (w.1 60 a0.toInt.toNat).toInt) := by have := (by decide : ((0 : Int32)).toInt = 0); have := bd_8_0 hI; have := bd_60 hI a0.toInt.toNat; have := bd_8_1 hI; have := hf_AC a0; exact ⟨by omega, by omega, by omega, by omega, by omega, by omega⟩
      exact hQ _ _ hI (FR.refl _ w)  o4861.1 o4861.2.1 o4861.2.2.1 o4861.2.2.2.1 o4861.2.2.2.2.1 o4861.2.2.2.2.2
    · refine ⟨hr_7_0, ?_⟩
      refine ⟨fun h4862 => ?_, fun h4862 => ?_⟩
      · refine ⟨fun _ => ?_, fun h => absurd (by decide) h⟩
        have o4863 : (0 ≤ (0 : Int32).toInt) ∧ ((0 : Int32).toInt ≤ 1) ∧ ((0 : Int32).toInt = 0 ∨ 2 ≤ (w.1 60 a0.toInt.toNat).toInt ∨ (0 ≤ (w.1 57 a0.toInt.toNat).toInt ∧ (w.1 57 a0.toInt.toNat).toInt < (w.1 8 0).toInt ∧ 0 ≤ (w.1 58 a0.toInt.toNat).toInt ∧ (w.1 58 a0.toInt.toNat).toInt < (w.1 8 0).toInt)) ∧ ((0 : Int32).toInt = 0 ∨ ¬ (w.1 60 a0.toInt.toNat).toInt = 2 ∨ (0 ≤ (w.1 57 a0.toInt.toNat).toInt ∧ (w.1 57 a0.toInt.toNat).toInt < (w.1 8 0).toInt)) ∧ ((0 : Int32).toInt = 0 ∨ (w.1 60 a0.toInt.toNat).toInt ≤ 2 ∨ (0 ≤ (w.1 57 a0.toInt.toNat).toInt ∧ (w.1 57 a0.toInt.toNat).toInt < (w.1 8 0).toInt + (w.1 8 1).toInt)) ∧ ((0 : Int32).toInt = 0 ∨ 0 ≤ (w.1 60 a0.toInt.toNat).toInt) := by have := (by decide : ((0 : Int32)).toInt = 0); have := bd_8_0 hI; have := bd_60 hI a0.toInt.toNat; have := bd_8_1 hI; have := hf_AC a0; exact ⟨by omega, by omega, by omega, by omega, by omega, by omega⟩
        exact hQ _ _ hI (FR.refl _ w)  o4863.1 o4863.2.1 o4863.2.2.1 o4863.2.2.2.1 o4863.2.2.2.2.1 o4863.2.2.2.2.2
      · refine ⟨hr_7_0, ?_⟩
        have o4864 : 0 ≤ (w.1 57 a0.toInt.toNat).toInt ∧ (w.1 57 a0.toInt.toNat).toInt < 20 := by have := (by decide : ((0 : Int32)).toInt = 0); have := bd_8_0 hI; omega
        refine ⟨o4864, ?_⟩
        refine ⟨fun h4865 => ?_, fun h4865 => ?_⟩
        · refine ⟨fun _ => ?_, fun h => absurd (by decide) h⟩
          have o4866 : (0 ≤ (0 : Int32).toInt) ∧ ((0 : Int32).toInt ≤ 1) ∧ ((0 : Int32).toInt = 0 ∨ 2 ≤ (w.1 60 a0.toInt.toNat).toInt ∨ (0 ≤ (w.1 57 a0.toInt.toNat).toInt ∧ (w.1 57 a0.toInt.toNat).toInt < (w.1 8 0).toInt ∧ 0 ≤ (w.1 58 a0.toInt.toNat).toInt ∧ (w.1 58 a0.toInt.toNat).toInt < (w.1 8 0).toInt)) ∧ ((0 : Int32).toInt = 0 ∨ ¬ (w.1 60 a0.toInt.toNat).toInt = 2 ∨ (0 ≤ (w.1 57 a0.toInt.toNat).toInt ∧ (w.1 57 a0.toInt.toNat).toInt < (w.1 8 0).toInt)) ∧ ((0 : Int32).toInt = 0 ∨ (w.1 60 a0.toInt.toNat).toInt ≤ 2 ∨ (0 ≤ (w.1 57 a0.toInt.toNat).toInt ∧ (w.1 57 a0.toInt.toNat).toInt < (w.1 8 0).toInt + (w.1 8 1).toInt)) ∧ ((0 : Int32).toInt = 0 ∨ 0 ≤ (w.1 60 a0.toInt.toNat).toInt) := by have := (by decide : ((0 : Int32)).toInt = 0); have := bd_8_0 hI; have := bd_60 hI a0.toInt.toNat; have := bd_8_1 hI; have := hf_AC a0; exact ⟨by omega, by omega, by omega, by omega, by omega, by omega⟩
          exact hQ _ _ hI (FR.refl _ w)  o4866.1 o4866.2.1 o4866.2.2.1 o4866.2.2.2.1 o4866.2.2.2.2.1 o4866.2.2.2.2.2
        · refine ⟨fun h => absurd h (by decide), fun _ => ?_⟩
          have o4867 : 0 ≤ a0.toInt ∧ a0.toInt < 32 := by omega
          refine ⟨o4867, ?_⟩
          refine Eq.mpr (p_St_isTank.eq_1 _ _ _) ?_
          refine ⟨fun h4868 => ?_, fun h4868 => ?_⟩
          · refine ⟨fun _ => ?_, fun h => absurd (by decide) h⟩
            have o4869 : (0 ≤ (0 : Int32).toInt) ∧ ((0 : Int32).toInt ≤ 1) ∧ ((0 : Int32).toInt = 0 ∨ 2 ≤ (w.1 60 a0.toInt.toNat).toInt ∨ (0 ≤ (w.1 57 a0.toInt.toNat).toInt ∧ (w.1 57 a0.toInt.toNat).toInt < (w.1 8 0).toInt ∧ 0 ≤ (w.1 58 a0.toInt.toNat).toInt ∧ (w.1 58 a0.toInt.toNat).toInt < (w.1 8 0).toInt)) ∧ ((0 : Int32).toInt = 0 ∨ ¬ (w.1 60 a0.toInt.toNat).toInt = 2 ∨ (0 ≤ (w.1 57 a0.toInt.toNat).toInt ∧ (w.1 57 a0.toInt.toNat).toInt < (w.1 8 0).toInt)) ∧ ((0 : Int32).toInt = 0 ∨ (w.1 60 a0.toInt.toNat).toInt ≤ 2 ∨ (0 ≤ (w.1 57 a0.toInt.toNat).toInt ∧ (w.1 57 a0.toInt.toNat).toInt < (w.1 8 0).toInt + (w.1 8 1).toInt)) ∧ ((0 : Int32).toInt = 0 ∨ 0 ≤ (w.1 60 a0.toInt.toNat).toInt) := by have := (by decide : ((0 : Int32)).toInt = 0); have := bd_8_0 hI; have := bd_60 hI a0.toInt.toNat; have := bd_8_1 hI; have := hf_AC a0; exact ⟨by omega, by omega, by omega, by omega, by omega, by omega⟩
            exact hQ _ _ hI (FR.refl _ w)  o4869.1 o4869.2.1 o4869.2.2.1 o4869.2.2.2.1 o4869.2.2.2.2.1 o4869.2.2.2.2.2
          · refine ⟨hr_7_0, ?_⟩
            refine ⟨fun h4870 => ?_, fun h4870 => ?_⟩
            · refine ⟨fun _ => ?_, fun h => absurd (by decide) h⟩
              have o4871 : (0 ≤ (0 : Int32).toInt) ∧ ((0 : Int32).toInt ≤ 1) ∧ ((0 : Int32).toInt = 0 ∨ 2 ≤ (w.1 60 a0.toInt.toNat).toInt ∨ (0 ≤ (w.1 57 a0.toInt.toNat).toInt ∧ (w.1 57 a0.toInt.toNat).toInt < (w.1 8 0).toInt ∧ 0 ≤ (w.1 58 a0.toInt.toNat).toInt ∧ (w.1 58 a0.toInt.toNat).toInt < (w.1 8 0).toInt)) ∧ ((0 : Int32).toInt = 0 ∨ ¬ (w.1 60 a0.toInt.toNat).toInt = 2 ∨ (0 ≤ (w.1 57 a0.toInt.toNat).toInt ∧ (w.1 57 a0.toInt.toNat).toInt < (w.1 8 0).toInt)) ∧ ((0 : Int32).toInt = 0 ∨ (w.1 60 a0.toInt.toNat).toInt ≤ 2 ∨ (0 ≤ (w.1 57 a0.toInt.toNat).toInt ∧ (w.1 57 a0.toInt.toNat).toInt < (w.1 8 0).toInt + (w.1 8 1).toInt)) ∧ ((0 : Int32).toInt = 0 ∨ 0 ≤ (w.1 60 a0.toInt.toNat).toInt) := by have := (by decide : ((0 : Int32)).toInt = 0); have := bd_8_0 hI; have := bd_60 hI a0.toInt.toNat; have := bd_8_1 hI; have := hf_AC a0; exact ⟨by omega, by omega, by omega, by omega, by omega, by omega⟩
              exact hQ _ _ hI (FR.refl _ w)  o4871.1 o4871.2.1 o4871.2.2.1 o4871.2.2.2.1 o4871.2.2.2.2.1 o4871.2.2.2.2.2
            · refine ⟨hr_7_0, ?_⟩
              have o4872 : 0 ≤ (w.1 58 a0.toInt.toNat).toInt ∧ (w.1 58 a0.toInt.toNat).toInt < 20 := by have := bd_60 hI a0.toInt.toNat; have := (by decide : ((0 : Int32)).toInt = 0); have := bd_8_0 hI; have := hf_AC a0; omega
              refine ⟨o4872, ?_⟩
              refine ⟨fun h4873 => ?_, fun h4873 => ?_⟩
              · refine ⟨fun _ => ?_, fun h => absurd (by decide) h⟩
                have o4874 : (0 ≤ (0 : Int32).toInt) ∧ ((0 : Int32).toInt ≤ 1) ∧ ((0 : Int32).toInt = 0 ∨ 2 ≤ (w.1 60 a0.toInt.toNat).toInt ∨ (0 ≤ (w.1 57 a0.toInt.toNat).toInt ∧ (w.1 57 a0.toInt.toNat).toInt < (w.1 8 0).toInt ∧ 0 ≤ (w.1 58 a0.toInt.toNat).toInt ∧ (w.1 58 a0.toInt.toNat).toInt < (w.1 8 0).toInt)) ∧ ((0 : Int32).toInt = 0 ∨ ¬ (w.1 60 a0.toInt.toNat).toInt = 2 ∨ (0 ≤ (w.1 57 a0.toInt.toNat).toInt ∧ (w.1 57 a0.toInt.toNat).toInt < (w.1 8 0).toInt)) ∧ ((0 : Int32).toInt = 0 ∨ (w.1 60 a0.toInt.toNat).toInt ≤ 2 ∨ (0 ≤ (w.1 57 a0.toInt.toNat).toInt ∧ (w.1 57 a0.toInt.toNat).toInt < (w.1 8 0).toInt + (w.1 8 1).toInt)) ∧ ((0 : Int32).toInt = 0 ∨ 0 ≤ (w.1 60 a0.toInt.toNat).toInt) := by have := (by decide : ((0 : Int32)).toInt = 0); have := bd_8_0 hI; have := bd_60 hI a0.toInt.toNat; have := bd_8_1 hI; have := hf_AC a0; exact ⟨by omega, by omega, by omega, by omega, by omega, by omega⟩
                exact hQ _ _ hI (FR.refl _ w)  o4874.1 o4874.2.1 o4874.2.2.1 o4874.2.2.2.1 o4874.2.2.2.2.1 o4874.2.2.2.2.2
              · refine ⟨fun h => absurd h (by decide), fun _ => ?_⟩
                have o4875 : 0 ≤ a0.toInt ∧ a0.toInt < 32 := by have := bd_60 hI a0.toInt.toNat; have := (by decide : ((0 : Int32)).toInt = 0); have := bd_8_0 hI; have := hf_AC a0; omega
                refine ⟨o4875, ?_⟩
                have o4876 : 0 ≤ a0.toInt ∧ a0.toInt < 32 := by have := bd_60 hI a0.toInt.toNat; have := (by decide : ((0 : Int32)).toInt = 0); have := bd_8_0 hI; have := hf_AC a0; omega
                refine ⟨o4876, ?_⟩
                refine ⟨fun h4877 => ?_, fun h4877 => ?_⟩
                · have o4878 : (0 ≤ (0 : Int32).toInt) ∧ ((0 : Int32).toInt ≤ 1) ∧ ((0 : Int32).toInt = 0 ∨ 2 ≤ (w.1 60 a0.toInt.toNat).toInt ∨ (0 ≤ (w.1 57 a0.toInt.toNat).toInt ∧ (w.1 57 a0.toInt.toNat).toInt < (w.1 8 0).toInt ∧ 0 ≤ (w.1 58 a0.toInt.toNat).toInt ∧ (w.1 58 a0.toInt.toNat).toInt < (w.1 8 0).toInt)) ∧ ((0 : Int32).toInt = 0 ∨ ¬ (w.1 60 a0.toInt.toNat).toInt = 2 ∨ (0 ≤ (w.1 57 a0.toInt.toNat).toInt ∧ (w.1 57 a0.toInt.toNat).toInt < (w.1 8 0).toInt)) ∧ ((0 : Int32).toInt = 0 ∨ (w.1 60 a0.toInt.toNat).toInt ≤ 2 ∨ (0 ≤ (w.1 57 a0.toInt.toNat).toInt ∧ (w.1 57 a0.toInt.toNat).toInt < (w.1 8 0).toInt + (w.1 8 1).toInt)) ∧ ((0 : Int32).toInt = 0 ∨ 0 ≤ (w.1 60 a0.toInt.toNat).toInt) := by have := (by decide : ((0 : Int32)).toInt = 0); have := bd_8_0 hI; have := bd_60 hI a0.toInt.toNat; have := bd_8_1 hI; have := hf_AC a0; exact ⟨by omega, by omega, by omega, by omega, by omega, by omega⟩
                  exact hQ _ _ hI (FR.refl _ w)  o4878.1 o4878.2.1 o4878.2.2.1 o4878.2.2.2.1 o4878.2.2.2.2.1 o4878.2.2.2.2.2
                · have o4879 : (0 ≤ (1 : Int32).toInt) ∧ ((1 : Int32).toInt ≤ 1) ∧ ((1 : Int32).toInt = 0 ∨ 2 ≤ (w.1 60 a0.toInt.toNat).toInt ∨ (0 ≤ (w.1 57 a0.toInt.toNat).toInt ∧ (w.1 57 a0.toInt.toNat).toInt < (w.1 8 0).toInt ∧ 0 ≤ (w.1 58 a0.toInt.toNat).toInt ∧ (w.1 58 a0.toInt.toNat).toInt < (w.1 8 0).toInt)) ∧ ((1 : Int32).toInt = 0 ∨ ¬ (w.1 60 a0.toInt.toNat).toInt = 2 ∨ (0 ≤ (w.1 57 a0.toInt.toNat).toInt ∧ (w.1 57 a0.toInt.toNat).toInt < (w.1 8 0).toInt)) ∧ ((1 : Int32).toInt = 0 ∨ (w.1 60 a0.toInt.toNat).toInt ≤ 2 ∨ (0 ≤ (w.1 57 a0.toInt.toNat).toInt ∧ (w.1 57 a0.toInt.toNat).toInt < (w.1 8 0).toInt + (w.1 8 1).toInt)) ∧ ((1 : Int32).toInt = 0 ∨ 0 ≤ (w.1 60 a0.toInt.toNat).toInt) := by have := (by decide : ((1 : Int32)).toInt = 1); have := bd_8_0 hI; have := bd_60 hI a0.toInt.toNat; have := bd_8_1 hI; have := (by decide : ((0 : Int32)).toInt = 0); have := hf_AC a0; exact ⟨by omega, by omega, by omega, by omega, by omega, by omega⟩
                  exact hQ _ _ hI (FR.refl _ w)  o4879.1 o4879.2.1 o4879.2.2.1 o4879.2.2.2.1 o4879.2.2.2.2.1 o4879.2.2.2.2.2
  · refine ⟨fun h4880 => ?_, fun h4880 => ?_⟩
    · have o4881 : 0 ≤ a0.toInt ∧ a0.toInt < 32 := by omega
      refine ⟨o4881, ?_⟩
      refine Eq.mpr (p_St_isTank.eq_1 _ _ _) ?_
      refine ⟨fun h4882 => ?_, fun h4882 => ?_⟩
      · refine ⟨fun _ => ?_, fun h => absurd (by decide) h⟩
        have o4883 : (0 ≤ (0 : Int32).toInt) ∧ ((0 : Int32).toInt ≤ 1) ∧ ((0 : Int32).toInt = 0 ∨ 2 ≤ (w.1 60 a0.toInt.toNat).toInt ∨ (0 ≤ (w.1 57 a0.toInt.toNat).toInt ∧ (w.1 57 a0.toInt.toNat).toInt < (w.1 8 0).toInt ∧ 0 ≤ (w.1 58 a0.toInt.toNat).toInt ∧ (w.1 58 a0.toInt.toNat).toInt < (w.1 8 0).toInt)) ∧ ((0 : Int32).toInt = 0 ∨ ¬ (w.1 60 a0.toInt.toNat).toInt = 2 ∨ (0 ≤ (w.1 57 a0.toInt.toNat).toInt ∧ (w.1 57 a0.toInt.toNat).toInt < (w.1 8 0).toInt)) ∧ ((0 : Int32).toInt = 0 ∨ (w.1 60 a0.toInt.toNat).toInt ≤ 2 ∨ (0 ≤ (w.1 57 a0.toInt.toNat).toInt ∧ (w.1 57 a0.toInt.toNat).toInt < (w.1 8 0).toInt + (w.1 8 1).toInt)) ∧ ((0 : Int32).toInt = 0 ∨ 0 ≤ (w.1 60 a0.toInt.toNat).toInt) := by have := (by decide : ((0 : Int32)).toInt = 0); have := bd_8_0 hI; have := bd_60 hI a0.toInt.toNat; have := bd_8_1 hI; have := (by decide : ((1 : Int32)).toInt = 1); have := hf_AC a0; exact ⟨by omega, by omega, by omega, by omega, by omega, by omega⟩
        exact hQ _ _ hI (FR.refl _ w)  o4883.1 o4883.2.1 o4883.2.2.1 o4883.2.2.2.1 o4883.2.2.2.2.1 o4883.2.2.2.2.2
      · refine ⟨hr_7_0, ?_⟩
        refine ⟨fun h4884 => ?_, fun h4884 => ?_⟩
        · refine ⟨fun _ => ?_, fun h => absurd (by decide) h⟩
          have o4885 : (0 ≤ (0 : Int32).toInt) ∧ ((0 : Int32).toInt ≤ 1) ∧ ((0 : Int32).toInt = 0 ∨ 2 ≤ (w.1 60 a0.toInt.toNat).toInt ∨ (0 ≤ (w.1 57 a0.toInt.toNat).toInt ∧ (w.1 57 a0.toInt.toNat).toInt < (w.1 8 0).toInt ∧ 0 ≤ (w.1 58 a0.toInt.toNat).toInt ∧ (w.1 58 a0.toInt.toNat).toInt < (w.1 8 0).toInt)) ∧ ((0 : Int32).toInt = 0 ∨ ¬ (w.1 60 a0.toInt.toNat).toInt = 2 ∨ (0 ≤ (w.1 57 a0.toInt.toNat).toInt ∧ (w.1 57 a0.toInt.toNat).toInt < (w.1 8 0).toInt)) ∧ ((0 : Int32).toInt = 0 ∨ (w.1 60 a0.toInt.toNat).toInt ≤ 2 ∨ (0 ≤ (w.1 57 a0.toInt.toNat).toInt ∧ (w.1 57 a0.toInt.toNat).toInt < (w.1 8 0).toInt + (w.1 8 1).toInt)) ∧ ((0 : Int32).toInt = 0 ∨ 0 ≤ (w.1 60 a0.toInt.toNat).toInt) := by have := (by decide : ((0 : Int32)).toInt = 0); have := bd_8_0 hI; have := bd_60 hI a0.toInt.toNat; have := bd_8_1 hI; have := (by decide : ((1 : Int32)).toInt = 1); have := hf_AC a0; exact ⟨by omega, by omega, by omega, by omega, by omega, by omega⟩
          exact hQ _ _ hI (FR.refl _ w)  o4885.1 o4885.2.1 o4885.2.2.1 o4885.2.2.2.1 o4885.2.2.2.2.1 o4885.2.2.2.2.2
        · refine ⟨hr_7_0, ?_⟩
          have o4886 : 0 ≤ (w.1 57 a0.toInt.toNat).toInt ∧ (w.1 57 a0.toInt.toNat).toInt < 20 := by have := (by decide : ((0 : Int32)).toInt = 0); have := bd_8_0 hI; omega
          refine ⟨o4886, ?_⟩
          refine ⟨fun h4887 => ?_, fun h4887 => ?_⟩
          · refine ⟨fun _ => ?_, fun h => absurd (by decide) h⟩
            have o4888 : (0 ≤ (0 : Int32).toInt) ∧ ((0 : Int32).toInt ≤ 1) ∧ ((0 : Int32).toInt = 0 ∨ 2 ≤ (w.1 60 a0.toInt.toNat).toInt ∨ (0 ≤ (w.1 57 a0.toInt.toNat).toInt ∧ (w.1 57 a0.toInt.toNat).toInt < (w.1 8 0).toInt ∧ 0 ≤ (w.1 58 a0.toInt.toNat).toInt ∧ (w.1 58 a0.toInt.toNat).toInt < (w.1 8 0).toInt)) ∧ ((0 : Int32).toInt = 0 ∨ ¬ (w.1 60 a0.toInt.toNat).toInt = 2 ∨ (0 ≤ (w.1 57 a0.toInt.toNat).toInt ∧ (w.1 57 a0.toInt.toNat).toInt < (w.1 8 0).toInt)) ∧ ((0 : Int32).toInt = 0 ∨ (w.1 60 a0.toInt.toNat).toInt ≤ 2 ∨ (0 ≤ (w.1 57 a0.toInt.toNat).toInt ∧ (w.1 57 a0.toInt.toNat).toInt < (w.1 8 0).toInt + (w.1 8 1).toInt)) ∧ ((0 : Int32).toInt = 0 ∨ 0 ≤ (w.1 60 a0.toInt.toNat).toInt) := by have := (by decide : ((0 : Int32)).toInt = 0); have := bd_8_0 hI; have := bd_60 hI a0.toInt.toNat; have := bd_8_1 hI; have := (by decide : ((1 : Int32)).toInt = 1); have := hf_AC a0; exact ⟨by omega, by omega, by omega, by omega, by omega, by omega⟩
            exact hQ _ _ hI (FR.refl _ w)  o4888.1 o4888.2.1 o4888.2.2.1 o4888.2.2.2.1 o4888.2.2.2.2.1 o4888.2.2.2.2.2
          · refine ⟨fun h => absurd h (by decide), fun _ => ?_⟩
            have o4889 : 0 ≤ a0.toInt ∧ a0.toInt < 32 := by omega
            refine ⟨o4889, ?_⟩
            refine Eq.mpr (p_St_isTank.eq_1 _ _ _) ?_
            refine ⟨fun h4890 => ?_, fun h4890 => ?_⟩
            · refine ⟨fun _ => ?_, fun h => absurd (by decide) h⟩
              have o4891 : (0 ≤ (0 : Int32).toInt) ∧ ((0 : Int32).toInt ≤ 1) ∧ ((0 : Int32).toInt = 0 ∨ 2 ≤ (w.1 60 a0.toInt.toNat).toInt ∨ (0 ≤ (w.1 57 a0.toInt.toNat).toInt ∧ (w.1 57 a0.toInt.toNat).toInt < (w.1 8 0).toInt ∧ 0 ≤ (w.1 58 a0.toInt.toNat).toInt ∧ (w.1 58 a0.toInt.toNat).toInt < (w.1 8 0).toInt)) ∧ ((0 : Int32).toInt = 0 ∨ ¬ (w.1 60 a0.toInt.toNat).toInt = 2 ∨ (0 ≤ (w.1 57 a0.toInt.toNat).toInt ∧ (w.1 57 a0.toInt.toNat).toInt < (w.1 8 0).toInt)) ∧ ((0 : Int32).toInt = 0 ∨ (w.1 60 a0.toInt.toNat).toInt ≤ 2 ∨ (0 ≤ (w.1 57 a0.toInt.toNat).toInt ∧ (w.1 57 a0.toInt.toNat).toInt < (w.1 8 0).toInt + (w.1 8 1).toInt)) ∧ ((0 : Int32).toInt = 0 ∨ 0 ≤ (w.1 60 a0.toInt.toNat).toInt) := by have := (by decide : ((0 : Int32)).toInt = 0); have := bd_8_0 hI; have := bd_60 hI a0.toInt.toNat; have := bd_8_1 hI; have := (by decide : ((1 : Int32)).toInt = 1); have := hf_AC a0; exact ⟨by omega, by omega, by omega, by omega, by omega, by omega⟩
              exact hQ _ _ hI (FR.refl _ w)  o4891.1 o4891.2.1 o4891.2.2.1 o4891.2.2.2.1 o4891.2.2.2.2.1 o4891.2.2.2.2.2
            · refine ⟨hr_7_0, ?_⟩
              refine ⟨fun h4892 => ?_, fun h4892 => ?_⟩
              · refine ⟨fun _ => ?_, fun h => absurd (by decide) h⟩
                have o4893 : (0 ≤ (0 : Int32).toInt) ∧ ((0 : Int32).toInt ≤ 1) ∧ ((0 : Int32).toInt = 0 ∨ 2 ≤ (w.1 60 a0.toInt.toNat).toInt ∨ (0 ≤ (w.1 57 a0.toInt.toNat).toInt ∧ (w.1 57 a0.toInt.toNat).toInt < (w.1 8 0).toInt ∧ 0 ≤ (w.1 58 a0.toInt.toNat).toInt ∧ (w.1 58 a0.toInt.toNat).toInt < (w.1 8 0).toInt)) ∧ ((0 : Int32).toInt = 0 ∨ ¬ (w.1 60 a0.toInt.toNat).toInt = 2 ∨ (0 ≤ (w.1 57 a0.toInt.toNat).toInt ∧ (w.1 57 a0.toInt.toNat).toInt < (w.1 8 0).toInt)) ∧ ((0 : Int32).toInt = 0 ∨ (w.1 60 a0.toInt.toNat).toInt ≤ 2 ∨ (0 ≤ (w.1 57 a0.toInt.toNat).toInt ∧ (w.1 57 a0.toInt.toNat).toInt < (w.1 8 0).toInt + (w.1 8 1).toInt)) ∧ ((0 : Int32).toInt = 0 ∨ 0 ≤ (w.1 60 a0.toInt.toNat).toInt) := by have := (by decide : ((0 : Int32)).toInt = 0); have := bd_8_0 hI; have := bd_60 hI a0.toInt.toNat; have := bd_8_1 hI; have := (by decide : ((1 : Int32)).toInt = 1); have := hf_AC a0; exact ⟨by omega, by omega, by omega, by omega, by omega, by omega⟩
                exact hQ _ _ hI (FR.refl _ w)  o4893.1 o4893.2.1 o4893.2.2.1 o4893.2.2.2.1 o4893.2.2.2.2.1 o4893.2.2.2.2.2
              · refine ⟨hr_7_0, ?_⟩
                have o4894 : 0 ≤ (w.1 58 a0.toInt.toNat).toInt ∧ (w.1 58 a0.toInt.toNat).toInt < 20 := by have := bd_60 hI a0.toInt.toNat; have := (by decide : ((0 : Int32)).toInt = 0); have := bd_8_0 hI; have := hf_AC a0; omega
                refine ⟨o4894, ?_⟩
                refine ⟨fun h4895 => ?_, fun h4895 => ?_⟩
                · refine ⟨fun _ => ?_, fun h => absurd (by decide) h⟩
                  have o4896 : (0 ≤ (0 : Int32).toInt) ∧ ((0 : Int32).toInt ≤ 1) ∧ ((0 : Int32).toInt = 0 ∨ 2 ≤ (w.1 60 a0.toInt.toNat).toInt ∨ (0 ≤ (w.1 57 a0.toInt.toNat).toInt ∧ (w.1 57 a0.toInt.toNat).toInt < (w.1 8 0).toInt ∧ 0 ≤ (w.1 58 a0.toInt.toNat).toInt ∧ (w.1 58 a0.toInt.toNat).toInt < (w.1 8 0).toInt)) ∧ ((0 : Int32).toInt = 0 ∨ ¬ (w.1 60 a0.toInt.toNat).toInt = 2 ∨ (0 ≤ (w.1 57 a0.toInt.toNat).toInt ∧ (w.1 57 a0.toInt.toNat).toInt < (w.1 8 0).toInt)) ∧ ((0 : Int32).toInt = 0 ∨ (w.1 60 a0.toInt.toNat).toInt ≤ 2 ∨ (0 ≤ (w.1 57 a0.toInt.toNat).toInt ∧ (w.1 57 a0.toInt.toNat).toInt < (w.1 8 0).toInt + (w.1 8 1).toInt)) ∧ ((0 : Int32).toInt = 0 ∨ 0 ≤ (w.1 60 a0.toInt.toNat).toInt) := by have := (by decide : ((0 : Int32)).toInt = 0); have := bd_8_0 hI; have := bd_60 hI a0.toInt.toNat; have := bd_8_1 hI; have := (by decide : ((1 : Int32)).toInt = 1); have := hf_AC a0; exact ⟨by omega, by omega, by omega, by omega, by omega, by omega⟩
                  exact hQ _ _ hI (FR.refl _ w)  o4896.1 o4896.2.1 o4896.2.2.1 o4896.2.2.2.1 o4896.2.2.2.2.1 o4896.2.2.2.2.2
                · refine ⟨fun h => absurd h (by decide), fun _ => ?_⟩
                  have o4897 : 0 ≤ a0.toInt ∧ a0.toInt < 32 := by have := bd_60 hI a0.toInt.toNat; have := (by decide : ((0 : Int32)).toInt = 0); have := bd_8_0 hI; have := hf_AC a0; omega
                  refine ⟨o4897, ?_⟩
                  have o4898 : 0 ≤ a0.toInt ∧ a0.toInt < 32 := by have := bd_60 hI a0.toInt.toNat; have := (by decide : ((0 : Int32)).toInt = 0); have := bd_8_0 hI; have := hf_AC a0; omega
                  refine ⟨o4898, ?_⟩
                  refine ⟨fun h4899 => ?_, fun h4899 => ?_⟩
                  · have o4900 : (0 ≤ (0 : Int32).toInt) ∧ ((0 : Int32).toInt ≤ 1) ∧ ((0 : Int32).toInt = 0 ∨ 2 ≤ (w.1 60 a0.toInt.toNat).toInt ∨ (0 ≤ (w.1 57 a0.toInt.toNat).toInt ∧ (w.1 57 a0.toInt.toNat).toInt < (w.1 8 0).toInt ∧ 0 ≤ (w.1 58 a0.toInt.toNat).toInt ∧ (w.1 58 a0.toInt.toNat).toInt < (w.1 8 0).toInt)) ∧ ((0 : Int32).toInt = 0 ∨ ¬ (w.1 60 a0.toInt.toNat).toInt = 2 ∨ (0 ≤ (w.1 57 a0.toInt.toNat).toInt ∧ (w.1 57 a0.toInt.toNat).toInt < (w.1 8 0).toInt)) ∧ ((0 : Int32).toInt = 0 ∨ (w.1 60 a0.toInt.toNat).toInt ≤ 2 ∨ (0 ≤ (w.1 57 a0.toInt.toNat).toInt ∧ (w.1 57 a0.toInt.toNat).toInt < (w.1 8 0).toInt + (w.1 8 1).toInt)) ∧ ((0 : Int32).toInt = 0 ∨ 0 ≤ (w.1 60 a0.toInt.toNat).toInt) := by have := (by decide : ((0 : Int32)).toInt = 0); have := bd_8_0 hI; have := bd_60 hI a0.toInt.toNat; have := bd_8_1 hI; have := (by decide : ((1 : Int32)).toInt = 1); have := hf_AC a0; exact ⟨by omega, by omega, by omega, by omega, by omega, by omega⟩
                    exact hQ _ _ hI (FR.refl _ w)  o4900.1 o4900.2.1 o4900.2.2.1 o4900.2.2.2.1 o4900.2.2.2.2.1 o4900.2.2.2.2.2
                  · have o4901 : (0 ≤ (1 : Int32).toInt) ∧ ((1 : Int32).toInt ≤ 1) ∧ ((1 : Int32).toInt = 0 ∨ 2 ≤ (w.1 60 a0.toInt.toNat).toInt ∨ (0 ≤ (w.1 57 a0.toInt.toNat).toInt ∧ (w.1 57 a0.toInt.toNat).toInt < (w.1 8 0).toInt ∧ 0 ≤ (w.1 58 a0.toInt.toNat).toInt ∧ (w.1 58 a0.toInt.toNat).toInt < (w.1 8 0).toInt)) ∧ ((1 : Int32).toInt = 0 ∨ ¬ (w.1 60 a0.toInt.toNat).toInt = 2 ∨ (0 ≤ (w.1 57 a0.toInt.toNat).toInt ∧ (w.1 57 a0.toInt.toNat).toInt < (w.1 8 0).toInt)) ∧ ((1 : Int32).toInt = 0 ∨ (w.1 60 a0.toInt.toNat).toInt ≤ 2 ∨ (0 ≤ (w.1 57 a0.toInt.toNat).toInt ∧ (w.1 57 a0.toInt.toNat).toInt < (w.1 8 0).toInt + (w.1 8 1).toInt)) ∧ ((1 : Int32).toInt = 0 ∨ 0 ≤ (w.1 60 a0.toInt.toNat).toInt) := by have := (by decide : ((1 : Int32)).toInt = 1); have := bd_8_0 hI; have := bd_60 hI a0.toInt.toNat; have := bd_8_1 hI; have := (by decide : ((0 : Int32)).toInt = 0); have := hf_AC a0; exact ⟨by omega, by omega, by omega, by omega, by omega, by omega⟩
                    exact hQ _ _ hI (FR.refl _ w)  o4901.1 o4901.2.1 o4901.2.2.1 o4901.2.2.2.1 o4901.2.2.2.2.1 o4901.2.2.2.2.2
    · refine ⟨fun h4902 => ?_, fun h4902 => ?_⟩
      · have o4903 : 0 ≤ a0.toInt ∧ a0.toInt < 32 := by omega
        refine ⟨o4903, ?_⟩
        refine Eq.mpr (p_St_isValve.eq_1 _ _ _) ?_
        refine ⟨fun h4904 => ?_, fun h4904 => ?_⟩
        · have o4905 : (0 ≤ (0 : Int32).toInt) ∧ ((0 : Int32).toInt ≤ 1) ∧ ((0 : Int32).toInt = 0 ∨ 2 ≤ (w.1 60 a0.toInt.toNat).toInt ∨ (0 ≤ (w.1 57 a0.toInt.toNat).toInt ∧ (w.1 57 a0.toInt.toNat).toInt < (w.1 8 0).toInt ∧ 0 ≤ (w.1 58 a0.toInt.toNat).toInt ∧ (w.1 58 a0.toInt.toNat).toInt < (w.1 8 0).toInt)) ∧ ((0 : Int32).toInt = 0 ∨ ¬ (w.1 60 a0.toInt.toNat).toInt = 2 ∨ (0 ≤ (w.1 57 a0.toInt.toNat).toInt ∧ (w.1 57 a0.toInt.toNat).toInt < (w.1 8 0).toInt)) ∧ ((0 : Int32).toInt = 0 ∨ (w.1 60 a0.toInt.toNat).toInt ≤ 2 ∨ (0 ≤ (w.1 57 a0.toInt.toNat).toInt ∧ (w.1 57 a0.toInt.toNat).toInt < (w.1 8 0).toInt + (w.1 8 1).toInt)) ∧ ((0 : Int32).toInt = 0 ∨ 0 ≤ (w.1 60 a0.toInt.toNat).toInt) := by have := (by decide : ((0 : Int32)).toInt = 0); have := bd_8_0 hI; have := bd_60 hI a0.toInt.toNat; have := bd_8_1 hI; have := (by decide : ((1 : Int32)).toInt = 1); have := (by decide : ((2 : Int32)).toInt = 2); have := hf_AC a0; exact ⟨by omega, by omega, by omega, by omega, by omega, by omega⟩
          exact hQ _ _ hI (FR.refl _ w)  o4905.1 o4905.2.1 o4905.2.2.1 o4905.2.2.2.1 o4905.2.2.2.2.1 o4905.2.2.2.2.2
        · refine ⟨hr_7_0, ?_⟩
          refine ⟨fun h4906 => ?_, fun h4906 => ?_⟩
          · have o4907 : (0 ≤ (0 : Int32).toInt) ∧ ((0 : Int32).toInt ≤ 1) ∧ ((0 : Int32).toInt = 0 ∨ 2 ≤ (w.1 60 a0.toInt.toNat).toInt ∨ (0 ≤ (w.1 57 a0.toInt.toNat).toInt ∧ (w.1 57 a0.toInt.toNat).toInt < (w.1 8 0).toInt ∧ 0 ≤ (w.1 58 a0.toInt.toNat).toInt ∧ (w.1 58 a0.toInt.toNat).toInt < (w.1 8 0).toInt)) ∧ ((0 : Int32).toInt = 0 ∨ ¬ (w.1 60 a0.toInt.toNat).toInt = 2 ∨ (0 ≤ (w.1 57 a0.toInt.toNat).toInt ∧ (w.1 57 a0.toInt.toNat).toInt < (w.1 8 0).toInt)) ∧ ((0 : Int32).toInt = 0 ∨ (w.1 60 a0.toInt.toNat).toInt ≤ 2 ∨ (0 ≤ (w.1 57 a0.toInt.toNat).toInt ∧ (w.1 57 a0.toInt.toNat).toInt < (w.1 8 0).toInt + (w.1 8 1).toInt)) ∧ ((0 : Int32).toInt = 0 ∨ 0 ≤ (w.1 60 a0.toInt.toNat).toInt) := by have := (by decide : ((0 : Int32)).toInt = 0); have := bd_8_0 hI; have := bd_60 hI a0.toInt.toNat; have := bd_8_1 hI; have := (by decide : ((1 : Int32)).toInt = 1); have := (by decide : ((2 : Int32)).toInt = 2); have := hf_AC a0; exact ⟨by omega, by omega, by omega, by omega, by omega, by omega⟩
            exact hQ _ _ hI (FR.refl _ w)  o4907.1 o4907.2.1 o4907.2.2.1 o4907.2.2.2.1 o4907.2.2.2.2.1 o4907.2.2.2.2.2
          · refine ⟨hr_7_0, ?_⟩
            have o4908 : 0 ≤ (w.1 57 a0.toInt.toNat).toInt ∧ (w.1 57 a0.toInt.toNat).toInt < 20 := by have := (by decide : ((0 : Int32)).toInt = 0); have := bd_8_0 hI; omega
            refine ⟨o4908, ?_⟩
            refine ⟨fun h4909 => ?_, fun h4909 => ?_⟩
            · have o4910 : (0 ≤ (0 : Int32).toInt) ∧ ((0 : Int32).toInt ≤ 1) ∧ ((0 : Int32).toInt = 0 ∨ 2 ≤ (w.1 60 a0.toInt.toNat).toInt ∨ (0 ≤ (w.1 57 a0.toInt.toNat).toInt ∧ (w.1 57 a0.toInt.toNat).toInt < (w.1 8 0).toInt ∧ 0 ≤ (w.1 58 a0.toInt.toNat).toInt ∧ (w.1 58 a0.toInt.toNat).toInt < (w.1 8 0).toInt)) ∧ ((0 : Int32).toInt = 0 ∨ ¬ (w.1 60 a0.toInt.toNat).toInt = 2 ∨ (0 ≤ (w.1 57 a0.toInt.toNat).toInt ∧ (w.1 57 a0.toInt.toNat).toInt < (w.1 8 0).toInt)) ∧ ((0 : Int32).toInt = 0 ∨ (w.1 60 a0.toInt.toNat).toInt ≤ 2 ∨ (0 ≤ (w.1 57 a0.toInt.toNat).toInt ∧ (w.1 57 a0.toInt.toNat).toInt < (w.1 8 0).toInt + (w.1 8 1).toInt)) ∧ ((0 : Int32).toInt = 0 ∨ 0 ≤ (w.1 60 a0.toInt.toNat).toInt) := by have := (by decide : ((0 : Int32)).toInt = 0); have := bd_8_0 hI; have := bd_60 hI a0.toInt.toNat; have := bd_8_1 hI; have := (by decide : ((1 : Int32)).toInt = 1); have := (by decide : ((2 : Int32)).toInt = 2); have := hf_AC a0; exact ⟨by omega, by omega, by omega, by omega, by omega, by omega⟩
              exact hQ _ _ hI (FR.refl _ w)  o4910.1 o4910.2.1 o4910.2.2.1 o4910.2.2.2.1 o4910.2.2.2.2.1 o4910.2.2.2.2.2
            · have o4911 : (0 ≤ (1 : Int32).toInt) ∧ ((1 : Int32).toInt ≤ 1) ∧ ((1 : Int32).toInt = 0 ∨ 2 ≤ (w.1 60 a0.toInt.toNat).toInt ∨ (0 ≤ (w.1 57 a0.toInt.toNat).toInt ∧ (w.1 57 a0.toInt.toNat).toInt < (w.1 8 0).toInt ∧ 0 ≤ (w.1 58 a0.toInt.toNat).toInt ∧ (w.1 58 a0.toInt.toNat).toInt < (w.1 8 0).toInt)) ∧ ((1 : Int32).toInt = 0 ∨ ¬ (w.1 60 a0.toInt.toNat).toInt = 2 ∨ (0 ≤ (w.1 57 a0.toInt.toNat).toInt ∧ (w.1 57 a0.toInt.toNat).toInt < (w.1 8 0).toInt)) ∧ ((1 : Int32).toInt = 0 ∨ (w.1 60 a0.toInt.toNat).toInt ≤ 2 ∨ (0 ≤ (w.1 57 a0.toInt.toNat).toInt ∧ (w.1 57 a0.toInt.toNat).toInt < (w.1 8 0).toInt + (w.1 8 1).toInt)) ∧ ((1 : Int32).toInt = 0 ∨ 0 ≤ (w.1 60 a0.toInt.toNat).toInt) := by have := (by decide : ((1 : Int32)).toInt = 1); have := bd_8_0 hI; have := bd_60 hI a0.toInt.toNat; have := bd_8_1 hI; have := (by decide : ((0 : Int32)).toInt = 0); have := (by decide : ((2 : Int32)).toInt = 2); have := hf_AC a0; exact ⟨by omega, by omega, by omega, by omega, by omega, by omega⟩
              exact hQ _ _ hI (FR.refl _ w)  o4911.1 o4911.2.1 o4911.2.2.1 o4911.2.2.2.1 o4911.2.2.2.2.1 o4911.2.2.2.2.2
      · refine ⟨fun h4912 => ?_, fun h4912 => ?_⟩
        · have o4913 : 0 ≤ a0.toInt ∧ a0.toInt < 32 := by omega
          refine ⟨o4913, ?_⟩
          refine h_St_isHolder hI hr_7_0  (fun r4917 w4914 hI4915 hL4916 p4918 p4919 p4920 => ?_)
          have hF4921 : FR l_Ac_isBound w w4914 := (FR.refl _ w).tr hL4916 rfl
          have o4922 : (0 ≤ r4917.toInt) ∧ (r4917.toInt ≤ 1) ∧ (r4917.toInt = 0 ∨ 2 ≤ (w.1 60 a0.toInt.toNat).toInt ∨ (0 ≤ (w.1 57 a0.toInt.toNat).toInt ∧ (w.1 57 a0.toInt.toNat).toInt < (w.1 8 0).toInt ∧ 0 ≤ (w.1 58 a0.toInt.toNat).toInt ∧ (w.1 58 a0.toInt.toNat).toInt < (w.1 8 0).toInt)) ∧ (r4917.toInt = 0 ∨ ¬ (w.1 60 a0.toInt.toNat).toInt = 2 ∨ (0 ≤ (w.1 57 a0.toInt.toNat).toInt ∧ (w.1 57 a0.toInt.toNat).toInt < (w.1 8 0).toInt)) ∧ (r4917.toInt = 0 ∨ (w.1 60 a0.toInt.toNat).toInt ≤ 2 ∨ (0 ≤ (w.1 57 a0.toInt.toNat).toInt ∧ (w.1 57 a0.toInt.toNat).toInt < (w.1 8 0).toInt + (w.1 8 1).toInt)) ∧ (r4917.toInt = 0 ∨ 0 ≤ (w.1 60 a0.toInt.toNat).toInt) := by have := bd_8_0 hI; have := bd_60 hI a0.toInt.toNat; have := bd_8_1 hI; have := (by decide : ((0 : Int32)).toInt = 0); have := (by decide : ((1 : Int32)).toInt = 1); have := (by decide : ((2 : Int32)).toInt = 2); have := (by decide : ((3 : Int32)).toInt = 3); have := hf_AC a0; exact ⟨by omega, by omega, by omega, by omega, by omega, by omega⟩
          exact hQ _ _ hI4915 hF4921  o4922.1 o4922.2.1 o4922.2.2.1 o4922.2.2.2.1 o4922.2.2.2.2.1 o4922.2.2.2.2.2
        · refine ⟨fun h4923 => ?_, fun h4923 => ?_⟩
          · have o4924 : 0 ≤ a0.toInt ∧ a0.toInt < 32 := by omega
            refine ⟨o4924, ?_⟩
            refine h_St_isHolder hI hr_7_0  (fun r4928 w4925 hI4926 hL4927 p4929 p4930 p4931 => ?_)
            have hF4932 : FR l_Ac_isBound w w4925 := (FR.refl _ w).tr hL4927 rfl
            have o4933 : (0 ≤ r4928.toInt) ∧ (r4928.toInt ≤ 1) ∧ (r4928.toInt = 0 ∨ 2 ≤ (w.1 60 a0.toInt.toNat).toInt ∨ (0 ≤ (w.1 57 a0.toInt.toNat).toInt ∧ (w.1 57 a0.toInt.toNat).toInt < (w.1 8 0).toInt ∧ 0 ≤ (w.1 58 a0.toInt.toNat).toInt ∧ (w.1 58 a0.toInt.toNat).toInt < (w.1 8 0).toInt)) ∧ (r4928.toInt = 0 ∨ ¬ (w.1 60 a0.toInt.toNat).toInt = 2 ∨ (0 ≤ (w.1 57 a0.toInt.toNat).toInt ∧ (w.1 57 a0.toInt.toNat).toInt < (w.1 8 0).toInt)) ∧ (r4928.toInt = 0 ∨ (w.1 60 a0.toInt.toNat).toInt ≤ 2 ∨ (0 ≤ (w.1 57 a0.toInt.toNat).toInt ∧ (w.1 57 a0.toInt.toNat).toInt < (w.1 8 0).toInt + (w.1 8 1).toInt)) ∧ (r4928.toInt = 0 ∨ 0 ≤ (w.1 60 a0.toInt.toNat).toInt) := by have := bd_8_0 hI; have := bd_60 hI a0.toInt.toNat; have := bd_8_1 hI; have := (by decide : ((0 : Int32)).toInt = 0); have := (by decide : ((1 : Int32)).toInt = 1); have := (by decide : ((2 : Int32)).toInt = 2); have := (by decide : ((3 : Int32)).toInt = 3); have := (by decide : ((4 : Int32)).toInt = 4); have := hf_AC a0; exact ⟨by omega, by omega, by omega, by omega, by omega, by omega⟩
            exact hQ _ _ hI4926 hF4932  o4933.1 o4933.2.1 o4933.2.2.1 o4933.2.2.2.1 o4933.2.2.2.2.1 o4933.2.2.2.2.2
          · have o4934 : (0 ≤ (0 : Int32).toInt) ∧ ((0 : Int32).toInt ≤ 1) ∧ ((0 : Int32).toInt = 0 ∨ 2 ≤ (w.1 60 a0.toInt.toNat).toInt ∨ (0 ≤ (w.1 57 a0.toInt.toNat).toInt ∧ (w.1 57 a0.toInt.toNat).toInt < (w.1 8 0).toInt ∧ 0 ≤ (w.1 58 a0.toInt.toNat).toInt ∧ (w.1 58 a0.toInt.toNat).toInt < (w.1 8 0).toInt)) ∧ ((0 : Int32).toInt = 0 ∨ ¬ (w.1 60 a0.toInt.toNat).toInt = 2 ∨ (0 ≤ (w.1 57 a0.toInt.toNat).toInt ∧ (w.1 57 a0.toInt.toNat).toInt < (w.1 8 0).toInt)) ∧ ((0 : Int32).toInt = 0 ∨ (w.1 60 a0.toInt.toNat).toInt ≤ 2 ∨ (0 ≤ (w.1 57 a0.toInt.toNat).toInt ∧ (w.1 57 a0.toInt.toNat).toInt < (w.1 8 0).toInt + (w.1 8 1).toInt)) ∧ ((0 : Int32).toInt = 0 ∨ 0 ≤ (w.1 60 a0.toInt.toNat).toInt) := by have := (by decide : ((0 : Int32)).toInt = 0); have := bd_8_0 hI; have := bd_60 hI a0.toInt.toNat; have := bd_8_1 hI; have := (by decide : ((1 : Int32)).toInt = 1); have := (by decide : ((2 : Int32)).toInt = 2); have := (by decide : ((3 : Int32)).toInt = 3); have := (by decide : ((4 : Int32)).toInt = 4); have := hf_AC a0; exact ⟨by omega, by omega, by omega, by omega, by omega, by omega⟩
            exact hQ _ _ hI (FR.refl _ w)  o4934.1 o4934.2.1 o4934.2.2.1 o4934.2.2.2.1 o4934.2.2.2.2.1 o4934.2.2.2.2.2
def l_Wa_cheapestEntry_8 : Pl := []
def l_Wa_cheapestEntry : Pl := []
set_option maxRecDepth 20000 in
set_option maxHeartbeats 2000000 in
theorem hq_Wa_cheapestEntry_8 {x8_1 : Int32} {E : Int32 → MW → Prop} {Q : Int32 → MW → Prop} (n : Nat) : ∀ (x8_2 : Int32) (x8_3 : Int32) (x8_4 : Int32) (w : MW), BND w → PL w → w.2.2 7 0 = some 8 → 0 ≤ x8_1.toInt → x8_1.toInt ≤ 19 → (-1) ≤ x8_2.toInt → x8_2.toInt ≤ 47 → x8_3.toInt ≤ 536870912 → 0 ≤ x8_4.toInt → x8_4.toInt ≤ 48 → x8_2.toInt < 0 ∨ x8_2.toInt < 2 * (w.1 8 1).toInt → (48 - x8_4.toInt).toNat < n → (∀ (e8_2 : Int32) (w' : MW), BND w' → FR l_Wa_cheapestEntry_8 w w' → (-1) ≤ e8_2.toInt → e8_2.toInt ≤ 47 → e8_2.toInt < 0 ∨ e8_2.toInt < 2 * (w.1 8 1).toInt → E e8_2 w') → (∀ (r : Int32) (w' : MW), BND w' → FR l_Wa_cheapestEntry_8 w w' → False → Q r w') → q_Wa_cheapestEntry_8 x8_1 E Q n x8_2 x8_3 x8_4 w := by
  induction n with
  | zero => intros; omega
  | succ n ih =>
    intro x8_2 x8_3 x8_4 w hI hf_PL hr_7_0 hp0 hp1 hp2 hp3 hp4 hp5 hp6 hp7 hm hE hQ
    rw [q_Wa_cheapestEntry_8.eq_2]
    refine ⟨hr_7_0, ?_⟩
    refine ⟨fun h4935 => ?_, fun h4935 => ?_⟩
    · have o4936 : ((-1) ≤ x8_2.toInt) ∧ (x8_2.toInt ≤ 47) ∧ (x8_2.toInt < 0 ∨ x8_2.toInt < 2 * (w.1 8 1).toInt) := by have := bd_8_1 hI; have := ti_mul2 (by decide : ((2 : Int32)).toInt = 2) (Eq.refl (w.1 8 1).toInt) (by omega) (by omega); exact ⟨by omega, by omega, by omega⟩
      exact hE _ _ hI (FR.refl _ w) o4936.1 o4936.2.1 o4936.2.2
    · refine ⟨hr_7_0, ?_⟩
      have o4937 : 0 ≤ x8_4.toInt ∧ x8_4.toInt < 48 := by have := bd_8_1 hI; have := ti_mul2 (by decide : ((2 : Int32)).toInt = 2) (Eq.refl (w.1 8 1).toInt) (by omega) (by omega); omega
      refine ⟨o4937, ?_⟩
      refine ⟨fun h4938 => ?_, fun h4938 => ?_⟩
      · have o4939 : (0 ≤ x8_1.toInt) ∧ (x8_1.toInt ≤ 19) ∧ ((-1) ≤ x8_2.toInt) ∧ (x8_2.toInt ≤ 47) ∧ (x8_3.toInt ≤ 536870912) ∧ (0 ≤ (x8_4 + (1 : Int32)).toInt) ∧ ((x8_4 + (1 : Int32)).toInt ≤ 48) ∧ (x8_2.toInt < 0 ∨ x8_2.toInt < 2 * (w.1 8 1).toInt) := by have := bd_8_1 hI; have := bd_8_0 hI; have := bd_13 hI x8_4.toInt.toNat; have := ti_add2 (Eq.refl x8_4.toInt) (by decide : ((1 : Int32)).toInt = 1) (by omega) (by omega); have := ti_mul2 (by decide : ((2 : Int32)).toInt = 2) (Eq.refl (w.1 8 1).toInt) (by omega) (by omega); have := hf_PL x8_4; exact ⟨by omega, by omega, by omega, by omega, by omega, by omega, by omega, by omega⟩
        exact ih _ _ _ w hI hf_PL hr_7_0 o4939.1 o4939.2.1 o4939.2.2.1 o4939.2.2.2.1 o4939.2.2.2.2.1 o4939.2.2.2.2.2.1 o4939.2.2.2.2.2.2.1 o4939.2.2.2.2.2.2.2 (by have := bd_8_1 hI; have := bd_8_0 hI; have := bd_13 hI x8_4.toInt.toNat; have := ti_add2 (Eq.refl x8_4.toInt) (by decide : ((1 : Int32)).toInt = 1) (by omega) (by omega); have := ti_mul2 (by decide : ((2 : Int32)).toInt = 2) (Eq.refl (w.1 8 1).toInt) (by omega) (by omega); have := hf_PL x8_4; omega) (fun e0 w9 hI9 hF9 p0 p1 u0 => hE e0 w9 hI9 ((FR.refl _ w).tr hF9 rfl) p0 p1 (by have := bd_8_1 hI; have := bd_8_0 hI; have := bd_13 hI x8_4.toInt.toNat; have := ti_add2 (Eq.refl x8_4.toInt) (by decide : ((1 : Int32)).toInt = 1) (by omega) (by omega); have := ti_mul2 (by decide : ((2 : Int32)).toInt = 2) (Eq.refl (w.1 8 1).toInt) (by omega) (by omega); have := hf_PL x8_4; omega)) (fun r w9 hI9 hF9 q0 => q0.elim)
      · have o4940 : 0 ≤ x8_4.toInt ∧ x8_4.toInt < 48 := by have := bd_8_1 hI; have := bd_8_0 hI; have := bd_13 hI x8_4.toInt.toNat; have := ti_mul2 (by decide : ((2 : Int32)).toInt = 2) (Eq.refl (w.1 8 1).toInt) (by omega) (by omega); have := hf_PL x8_4; omega
        refine ⟨o4940, ?_⟩
        refine ⟨fun h4941 => ?_, fun h4941 => ?_⟩
        · have o4942 : (0 ≤ x8_1.toInt) ∧ (x8_1.toInt ≤ 19) ∧ ((-1) ≤ x8_2.toInt) ∧ (x8_2.toInt ≤ 47) ∧ (x8_3.toInt ≤ 536870912) ∧ (0 ≤ (x8_4 + (1 : Int32)).toInt) ∧ ((x8_4 + (1 : Int32)).toInt ≤ 48) ∧ (x8_2.toInt < 0 ∨ x8_2.toInt < 2 * (w.1 8 1).toInt) := by have := bd_8_1 hI; have := bd_8_0 hI; have := bd_13 hI x8_4.toInt.toNat; have := ti_add2 (Eq.refl x8_4.toInt) (by decide : ((1 : Int32)).toInt = 1) (by omega) (by omega); have := ti_mul2 (by decide : ((2 : Int32)).toInt = 2) (Eq.refl (w.1 8 1).toInt) (by omega) (by omega); have := hf_PL x8_4; exact ⟨by omega, by omega, by omega, by omega, by omega, by omega, by omega, by omega⟩
          exact ih _ _ _ w hI hf_PL hr_7_0 o4942.1 o4942.2.1 o4942.2.2.1 o4942.2.2.2.1 o4942.2.2.2.2.1 o4942.2.2.2.2.2.1 o4942.2.2.2.2.2.2.1 o4942.2.2.2.2.2.2.2 (by have := bd_8_1 hI; have := bd_8_0 hI; have := bd_13 hI x8_4.toInt.toNat; have := ti_add2 (Eq.refl x8_4.toInt) (by decide : ((1 : Int32)).toInt = 1) (by omega) (by omega); have := ti_mul2 (by decide : ((2 : Int32)).toInt = 2) (Eq.refl (w.1 8 1).toInt) (by omega) (by omega); have := hf_PL x8_4; omega) (fun e0 w9 hI9 hF9 p0 p1 u0 => hE e0 w9 hI9 ((FR.refl _ w).tr hF9 rfl) p0 p1 (by have := bd_8_1 hI; have := bd_8_0 hI; have := bd_13 hI x8_4.toInt.toNat; have := ti_add2 (Eq.refl x8_4.toInt) (by decide : ((1 : Int32)).toInt = 1) (by omega) (by omega); have := ti_mul2 (by decide : ((2 : Int32)).toInt = 2) (Eq.refl (w.1 8 1).toInt) (by omega) (by omega); have := hf_PL x8_4; omega)) (fun r w9 hI9 hF9 q0 => q0.elim)
        · have o4943 : 0 ≤ x8_4.toInt ∧ x8_4.toInt < 48 := by have := bd_8_1 hI; have := bd_8_0 hI; have := bd_13 hI x8_4.toInt.toNat; have := ti_mul2 (by decide : ((2 : Int32)).toInt = 2) (Eq.refl (w.1 8 1).toInt) (by omega) (by omega); have := hf_PL x8_4; omega
          refine ⟨o4943, ?_⟩
          have o4944 : (0 ≤ x8_1.toInt) ∧ (x8_1.toInt ≤ 19) ∧ ((-1) ≤ x8_4.toInt) ∧ (x8_4.toInt ≤ 47) ∧ ((w.1 38 x8_4.toInt.toNat).toInt ≤ 536870912) ∧ (0 ≤ (x8_4 + (1 : Int32)).toInt) ∧ ((x8_4 + (1 : Int32)).toInt ≤ 48) ∧ (x8_4.toInt < 0 ∨ x8_4.toInt < 2 * (w.1 8 1).toInt) := by have := bd_8_1 hI; have := bd_8_0 hI; have := bd_13 hI x8_4.toInt.toNat; have := ti_add2 (Eq.refl x8_4.toInt) (by decide : ((1 : Int32)).toInt = 1) (by omega) (by omega); have := ti_mul2 (by decide : ((2 : Int32)).toInt = 2) (Eq.refl (w.1 8 1).toInt) (by omega) (by omega); have := hf_PL x8_4; exact ⟨by omega, by omega, by omega, by omega, by omega, by omega, by omega, by omega⟩
          exact ih _ _ _ w hI hf_PL hr_7_0 o4944.1 o4944.2.1 o4944.2.2.1 o4944.2.2.2.1 o4944.2.2.2.2.1 o4944.2.2.2.2.2.1 o4944.2.2.2.2.2.2.1 o4944.2.2.2.2.2.2.2 (by have := bd_8_1 hI; have := bd_8_0 hI; have := bd_13 hI x8_4.toInt.toNat; have := ti_add2 (Eq.refl x8_4.toInt) (by decide : ((1 : Int32)).toInt = 1) (by omega) (by omega); have := ti_mul2 (by decide : ((2 : Int32)).toInt = 2) (Eq.refl (w.1 8 1).toInt) (by omega) (by omega); have := hf_PL x8_4; omega) (fun e0 w9 hI9 hF9 p0 p1 u0 => hE e0 w9 hI9 ((FR.refl _ w).tr hF9 rfl) p0 p1 (by have := bd_8_1 hI; have := bd_8_0 hI; have := bd_13 hI x8_4.toInt.toNat; have := ti_add2 (Eq.refl x8_4.toInt) (by decide : ((1 : Int32)).toInt = 1) (by omega) (by omega); have := ti_mul2 (by decide : ((2 : Int32)).toInt = 2) (Eq.refl (w.1 8 1).toInt) (by omega) (by omega); have := hf_PL x8_4; omega)) (fun r w9 hI9 hF9 q0 => q0.elim)
set_option maxRecDepth 20000 in
set_option maxHeartbeats 2000000 in
theorem h_Wa_cheapestEntry {w : MW} {a0 : Int32} {Q : Int32 → MW → Prop} (hI : BND w) (hf_PL : PL w) (hr_7_0 : w.2.2 7 0 = some 8) (hp0 : 0 ≤ a0.toInt) (hp1 : a0.toInt ≤ 19) (hQ : ∀ (r : Int32) (w' : MW), BND w' → FR l_Wa_cheapestEntry w w' → (-1) ≤ r.toInt → r.toInt ≤ 47 → r.toInt < 0 ∨ r.toInt < 2 * (w.1 8 1).toInt → Q r w') : p_Wa_cheapestEntry w a0 Q := by
  refine Eq.mpr (p_Wa_cheapestEntry.eq_1 _ _ _) ?_
  have o4945 : (0 ≤ a0.toInt) ∧ (a0.toInt ≤ 19) ∧ ((-1) ≤ ((-1) : Int32).toInt) ∧ (((-1) : Int32).toInt ≤ 47) ∧ ((536870912 : Int32).toInt ≤ 536870912) ∧ (0 ≤ (0 : Int32).toInt) ∧ ((0 : Int32).toInt ≤ 48) ∧ (((-1) : Int32).toInt < 0 ∨ ((-1) : Int32).toInt < 2 * (w.1 8 1).toInt) := by have := (by decide : (((-1) : Int32)).toInt = (-1)); have := (by decide : ((536870912 : Int32)).toInt = 536870912); have := (by decide : ((0 : Int32)).toInt = 0); have := bd_8_1 hI; exact ⟨by omega, by omega, by omega, by omega, by omega, by omega, by omega, by omega⟩
  refine hq_Wa_cheapestEntry_8 FU _ _ _ w hI hf_PL hr_7_0 o4945.1 o4945.2.1 o4945.2.2.1 o4945.2.2.2.1 o4945.2.2.2.2.1 o4945.2.2.2.2.2.1 o4945.2.2.2.2.2.2.1 o4945.2.2.2.2.2.2.2 (fu_lt (by have := (by decide : (((-1) : Int32)).toInt = (-1)); have := (by decide : ((536870912 : Int32)).toInt = 536870912); have := (by decide : ((0 : Int32)).toInt = 0); omega)) (fun e4949 w4946 hI4947 hL4948 p4950 p4951 p4952 => ?_) (fun r w9 hI9 hF9 q0 => q0.elim)
  have hF4953 : FR l_Wa_cheapestEntry w w4946 := (FR.refl _ w).tr hL4948 rfl
  have o4954 : ((-1) ≤ e4949.toInt) ∧ (e4949.toInt ≤ 47) ∧ (e4949.toInt < 0 ∨ e4949.toInt < 2 * (w.1 8 1).toInt) := by have := bd_8_1 hI; exact ⟨by omega, by omega, by omega⟩
  exact hQ _ _ hI4947 hF4953  o4954.1 o4954.2.1 o4954.2.2
def l_Ac_setPosition : Pl := [(16, none), (42, some 6), (42, some 7), (42, some 8), (42, some 9), (43, none), (44, none), (45, none), (46, none)]
set_option maxRecDepth 20000 in
set_option maxHeartbeats 2000000 in
theorem h_Ac_setPosition {w : MW} {a0 : Int32} {b0 : Int32} {Q : Int32 → MW → Prop} (hI : BND w) (hf_PE : PE w) (hf_PL : PL w) (hr_7_0 : w.2.2 7 0 = some 8) (hp0 : 0 ≤ a0.toInt) (hp1 : a0.toInt ≤ 19) (hp2 : 0 ≤ b0.toInt) (hp3 : b0.toInt ≤ 9) (hQ : ∀ (r : Int32) (w' : MW), BND w' → FR l_Ac_setPosition w w' → 0 ≤ r.toInt → r.toInt ≤ 7 → Q r w') : p_Ac_setPosition w a0 b0 Q := by
  refine Eq.mpr (p_Ac_setPosition.eq_1 _ _ _ _) ?_
  refine Eq.mpr (p_Wa_goesOver.eq_1 _ _ _) ?_
  have o4955 : 0 ≤ a0.toInt ∧ a0.toInt < 20 := by omega
  refine ⟨o4955, ?_⟩
  refine ⟨fun h4956 => ?_, fun h4956 => ?_⟩
  · refine ⟨fun _ => ?_, fun h => absurd (by decide) h⟩
    have o4957 : 0 ≤ a0.toInt ∧ a0.toInt < 20 := by omega
    refine ⟨o4957, ?_⟩
    have o4958 : 0 ≤ a0.toInt ∧ a0.toInt < 20 := by omega
    refine ⟨o4958, ?_⟩
    have o4960 : 0 ≤ b0.toInt ∧ b0.toInt ≤ 9 := by omega
    have hI4959 : BND (sI w 16 a0.toInt.toNat b0) := wbd_16 hI a0.toInt.toNat o4960.1 o4960.2
    refine h_Sf_isSafe hI4959 (PE_fr (l := [(16, none)]) (FR.I (FR.refl _ w) (k := 16) (j := a0.toInt.toNat) (v := b0) rfl) rfl hf_PE) (PL_fr (l := [(16, none)]) (FR.I (FR.refl _ w) (k := 16) (j := a0.toInt.toNat) (v := b0) rfl) rfl hf_PL) hr_7_0  (fun r4964 w4961 hI4962 hL4963 p4965 p4966 => ?_)
    have hF4967 : FR l_Ac_setPosition w w4961 := (FR.I (FR.refl _ w) (k := 16) (j := a0.toInt.toNat) (v := b0) rfl).tr hL4963 rfl
    refine ⟨fun h4968 => ?_, fun h4968 => ?_⟩
    · have o4969 : 0 ≤ a0.toInt ∧ a0.toInt < 20 := by omega
      refine ⟨o4969, ?_⟩
      have o4971 : 0 ≤ (w.1 16 a0.toInt.toNat).toInt ∧ (w.1 16 a0.toInt.toNat).toInt ≤ 9 := by have := bd_16 hI a0.toInt.toNat; omega
      have hI4970 : BND (sI w4961 16 a0.toInt.toNat (w.1 16 a0.toInt.toNat)) := wbd_16 hI4962 a0.toInt.toNat o4971.1 o4971.2
      have o4972 : (0 ≤ (7 : Int32).toInt) ∧ ((7 : Int32).toInt ≤ 7) := by have := (by decide : ((7 : Int32)).toInt = 7); exact ⟨by omega, by omega⟩
      exact hQ _ _ hI4970 (FR.I hF4967 (k := 16) (j := a0.toInt.toNat) (v := (w.1 16 a0.toInt.toNat)) rfl)  o4972.1 o4972.2
    · have o4973 : (0 ≤ (0 : Int32).toInt) ∧ ((0 : Int32).toInt ≤ 7) := by have := (by decide : ((0 : Int32)).toInt = 0); exact ⟨by omega, by omega⟩
      exact hQ _ _ hI4962 hF4967  o4973.1 o4973.2
  · refine ⟨fun h => absurd h (by decide), fun _ => ?_⟩
    have o4974 : (0 ≤ (3 : Int32).toInt) ∧ ((3 : Int32).toInt ≤ 7) := by have := (by decide : ((3 : Int32)).toInt = 3); exact ⟨by omega, by omega⟩
    exact hQ _ _ hI (FR.refl _ w)  o4974.1 o4974.2
