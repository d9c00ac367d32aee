def l_Wa_hasSpace_31 : Pl := []
def l_Wa_hasSpace : Pl := []
set_option maxRecDepth 20000 in
set_option maxHeartbeats 2000000 in
theorem hq_Wa_hasSpace_31 {x31_1 : Int32} {E : MW → Prop} {Q : Int32 → MW → Prop} (n : Nat) : ∀ (x31_2 : Int32) (w : MW), BND w → 0 ≤ x31_1.toInt → x31_1.toInt ≤ 43 → 0 ≤ x31_2.toInt → x31_2.toInt ≤ 24 → (24 - x31_2.toInt).toNat < n → (∀ (w' : MW), BND w' → FR l_Wa_hasSpace_31 w w' → E w') → (∀ (r : Int32) (w' : MW), BND w' → FR l_Wa_hasSpace_31 w w' → 1 ≤ r.toInt → r.toInt ≤ 1 → Q r w') → q_Wa_hasSpace_31 x31_1 E Q n x31_2 w := by
  induction n with
  | zero => intros; omega
  | succ n ih =>
    intro x31_2 w hI  hp0 hp1 hp2 hp3 hm hE hQ
    rw [q_Wa_hasSpace_31.eq_2]
    refine ⟨fun h5805 => ?_, fun h5805 => ?_⟩
    · exact hE _ hI (FR.refl _ w)
    · have o5806 : 0 ≤ x31_2.toInt ∧ x31_2.toInt < 24 := by have := bd_26_1 hI; omega
      refine ⟨o5806, ?_⟩
      refine ⟨fun h5807 => ?_, fun h5807 => ?_⟩
      · have o5808 : (1 ≤ (1 : Int32).toInt) ∧ ((1 : Int32).toInt ≤ 1) := by have := (by decide : ((1 : Int32)).toInt = 1); exact ⟨by omega, by omega⟩
        exact hQ _ _ hI (FR.refl _ w)  o5808.1 o5808.2
      · have o5809 : 0 ≤ x31_2.toInt ∧ x31_2.toInt < 24 := by have := bd_26_1 hI; omega
        refine ⟨o5809, ?_⟩
        refine ⟨fun h5810 => ?_, fun h5810 => ?_⟩
        · have o5811 : (0 ≤ x31_1.toInt) ∧ (x31_1.toInt ≤ 43) ∧ (0 ≤ (x31_2 + (1 : Int32)).toInt) ∧ ((x31_2 + (1 : Int32)).toInt ≤ 24) := by have := bd_26_1 hI; have := ti_add2 (Eq.refl x31_2.toInt) (by decide : ((1 : Int32)).toInt = 1) (by omega) (by omega); exact ⟨by omega, by omega, by omega, by omega⟩
          exact ih _ w hI  o5811.1 o5811.2.1 o5811.2.2.1 o5811.2.2.2 (by have := bd_26_1 hI; have := ti_add2 (Eq.refl x31_2.toInt) (by decide : ((1 : Int32)).toInt = 1) (by omega) (by omega); omega) (fun w9 hI9 hF9 => hE w9 hI9 ((FR.refl _ w).tr hF9 rfl) ) (fun r w9 hI9 hF9 q0 q1 => hQ r w9 hI9 ((FR.refl _ w).tr hF9 rfl) (by have := bd_26_1 hI; have := ti_add2 (Eq.refl x31_2.toInt) (by decide : ((1 : Int32)).toInt = 1) (by omega) (by omega); omega) (by have := bd_26_1 hI; have := ti_add2 (Eq.refl x31_2.toInt) (by decide : ((1 : Int32)).toInt = 1) (by omega) (by omega); omega))
        · have o5812 : (1 ≤ (1 : Int32).toInt) ∧ ((1 : Int32).toInt ≤ 1) := by have := (by decide : ((1 : Int32)).toInt = 1); exact ⟨by omega, by omega⟩
          exact hQ _ _ hI (FR.refl _ w)  o5812.1 o5812.2
set_option maxRecDepth 20000 in
set_option maxHeartbeats 2000000 in
theorem h_Wa_hasSpace {w : MW} {a0 : Int32} {Q : Int32 → MW → Prop} (hI : BND w) (hr_7_0 : w.2.2 7 0 = some 8) (hp0 : 0 ≤ a0.toInt) (hp1 : a0.toInt ≤ 43) (hQ : ∀ (r : Int32) (w' : MW), BND w' → FR l_Wa_hasSpace w w' → 0 ≤ r.toInt → r.toInt ≤ 1 → Q r w') : p_Wa_hasSpace w a0 Q := by
  refine Eq.mpr (p_Wa_hasSpace.eq_1 _ _ _) ?_
  refine Eq.mpr (p_St_isPipe.eq_1 _ _ _) ?_
  refine ⟨hr_7_0, ?_⟩
  refine ⟨fun h5813 => ?_, fun h5813 => ?_⟩
  · refine ⟨fun _ => ?_, fun h => absurd (by decide) h⟩
    have o5814 : (0 ≤ a0.toInt) ∧ (a0.toInt ≤ 43) ∧ (0 ≤ (0 : Int32).toInt) ∧ ((0 : Int32).toInt ≤ 24) := by have := (by decide : ((0 : Int32)).toInt = 0); have := bd_8_0 hI; exact ⟨by omega, by omega, by omega, by omega⟩
    refine hq_Wa_hasSpace_31 FU _ w hI  o5814.1 o5814.2.1 o5814.2.2.1 o5814.2.2.2 (fu_lt (by have := (by decide : ((0 : Int32)).toInt = 0); have := bd_8_0 hI; omega)) (fun w5815 hI5816 hL5817  => ?_) (fun r w9 hI9 hF9 q0 q1 => hQ r w9 hI9 (((FR.refl _ w)).tr hF9 rfl) (by have := (by decide : ((0 : Int32)).toInt = 0); have := bd_8_0 hI; omega) (by have := (by decide : ((0 : Int32)).toInt = 0); have := bd_8_0 hI; omega))
    have hF5818 : FR l_Wa_hasSpace w w5815 := (FR.refl _ w).tr hL5817 rfl
    have o5819 : (0 ≤ (0 : Int32).toInt) ∧ ((0 : Int32).toInt ≤ 1) := by have := (by decide : ((0 : Int32)).toInt = 0); exact ⟨by omega, by omega⟩
    exact hQ _ _ hI5816 hF5818  o5819.1 o5819.2
  · refine ⟨hr_7_0, ?_⟩
    refine ⟨hr_7_0, ?_⟩
    refine ⟨fun h5820 => ?_, fun h5820 => ?_⟩
    · refine ⟨fun _ => ?_, fun h => absurd (by decide) h⟩
      have o5821 : (0 ≤ a0.toInt) ∧ (a0.toInt ≤ 43) ∧ (0 ≤ (0 : Int32).toInt) ∧ ((0 : Int32).toInt ≤ 24) := by have := (by decide : ((0 : Int32)).toInt = 0); have := bd_8_0 hI; have := bd_8_1 hI; have := ti_add2 (Eq.refl (w.1 8 0).toInt) (Eq.refl (w.1 8 1).toInt) (by omega) (by omega); exact ⟨by omega, by omega, by omega, by omega⟩
      refine hq_Wa_hasSpace_31 FU _ w hI  o5821.1 o5821.2.1 o5821.2.2.1 o5821.2.2.2 (fu_lt (by have := (by decide : ((0 : Int32)).toInt = 0); have := bd_8_0 hI; have := bd_8_1 hI; have := ti_add2 (Eq.refl (w.1 8 0).toInt) (Eq.refl (w.1 8 1).toInt) (by omega) (by omega); omega)) (fun w5822 hI5823 hL5824  => ?_) (fun r w9 hI9 hF9 q0 q1 => hQ r w9 hI9 (((FR.refl _ w)).tr hF9 rfl) (by have := (by decide : ((0 : Int32)).toInt = 0); have := bd_8_0 hI; have := bd_8_1 hI; have := ti_add2 (Eq.refl (w.1 8 0).toInt) (Eq.refl (w.1 8 1).toInt) (by omega) (by omega); omega) (by have := (by decide : ((0 : Int32)).toInt = 0); have := bd_8_0 hI; have := bd_8_1 hI; have := ti_add2 (Eq.refl (w.1 8 0).toInt) (Eq.refl (w.1 8 1).toInt) (by omega) (by omega); omega))
      have hF5825 : FR l_Wa_hasSpace w w5822 := (FR.refl _ w).tr hL5824 rfl
      have o5826 : (0 ≤ (0 : Int32).toInt) ∧ ((0 : Int32).toInt ≤ 1) := by have := (by decide : ((0 : Int32)).toInt = 0); exact ⟨by omega, by omega⟩
      exact hQ _ _ hI5823 hF5825  o5826.1 o5826.2
    · refine ⟨fun h => absurd h (by decide), fun _ => ?_⟩
      refine ⟨hr_7_0, ?_⟩
      have o5827 : 0 ≤ (a0 - (w.1 8 0)).toInt ∧ (a0 - (w.1 8 0)).toInt < 24 := by have := bd_8_0 hI; have := bd_8_1 hI; have := ti_sub2 (Eq.refl a0.toInt) (Eq.refl (w.1 8 0).toInt) (by omega) (by omega); have := ti_add2 (Eq.refl (w.1 8 0).toInt) (Eq.refl (w.1 8 1).toInt) (by omega) (by omega); omega
      refine ⟨o5827, ?_⟩
      have o5828 : (w.1 36 ((a0 - (w.1 8 0)).toInt.toNat)).toInt = 0 ∨ (w.1 36 ((a0 - (w.1 8 0)).toInt.toNat)).toInt = 1 := by have := bd_36 hI ((a0 - (w.1 8 0)).toInt.toNat); omega
      refine ⟨o5828, ?_⟩
      have o5829 : (0 ≤ (w.1 36 ((a0 - (w.1 8 0)).toInt.toNat)).toInt) ∧ ((w.1 36 ((a0 - (w.1 8 0)).toInt.toNat)).toInt ≤ 1) := by have := bd_36 hI ((a0 - (w.1 8 0)).toInt.toNat); exact ⟨by omega, by omega⟩
      exact hQ _ _ hI (FR.refl _ w)  o5829.1 o5829.2
def l_Ac_cleanSpace : Pl := [(23, none)]
set_option maxRecDepth 20000 in
set_option maxHeartbeats 2000000 in
theorem h_Ac_cleanSpace {w : MW} {a0 : Int32} {b0 : Int32} {Q : Int32 → MW → Prop} (hI : BND w) (hr_7_0 : w.2.2 7 0 = some 8) (hp0 : 0 ≤ a0.toInt) (hp1 : a0.toInt ≤ 43) (hp2 : 1 ≤ b0.toInt) (hp3 : b0.toInt ≤ 5) (hQ : ∀ (r : Int32) (w' : MW), BND w' → FR l_Ac_cleanSpace w w' → 0 ≤ r.toInt → r.toInt ≤ 3 → Q r w') : p_Ac_cleanSpace w a0 b0 Q := by
  refine Eq.mpr (p_Ac_cleanSpace.eq_1 _ _ _ _) ?_
  have o5830 : 0 ≤ a0.toInt ∧ a0.toInt < 44 := by omega
  refine ⟨o5830, ?_⟩
  refine ⟨fun h5831 => ?_, fun h5831 => ?_⟩
  · have o5832 : (0 ≤ (3 : Int32).toInt) ∧ ((3 : Int32).toInt ≤ 3) := by have := (by decide : ((3 : Int32)).toInt = 3); exact ⟨by omega, by omega⟩
    exact hQ _ _ hI (FR.refl _ w)  o5832.1 o5832.2
  · have o5833 : (0 ≤ a0.toInt) ∧ (a0.toInt ≤ 43) := by exact ⟨by omega, by omega⟩
    refine h_Wa_hasSpace hI hr_7_0 o5833.1 o5833.2 (fun r5837 w5834 hI5835 hL5836 p5838 p5839 => ?_)
    have hF5840 : FR l_Ac_cleanSpace w w5834 := (FR.refl _ w).tr hL5836 rfl
    refine ⟨fun h5841 => ?_, fun h5841 => ?_⟩
    · refine Eq.mpr (p_St_cleanSpace.eq_1 _ _ _ _) ?_
      have o5842 : 0 ≤ ((a0 * (6 : Int32)) + b0).toInt ∧ ((a0 * (6 : Int32)) + b0).toInt < 264 := by have := ti_mul2 (Eq.refl a0.toInt) (by decide : ((6 : Int32)).toInt = 6) (by omega) (by omega); have := ti_add2 (Eq.refl (a0 * (6 : Int32)).toInt) (Eq.refl b0.toInt) (by omega) (by omega); omega
      refine ⟨o5842, ?_⟩
      have hI5843 : BND (sI w5834 23 (((a0 * (6 : Int32)) + b0).toInt.toNat) (w5834.1 7 1)) := wbd_23 hI5835 (((a0 * (6 : Int32)) + b0).toInt.toNat)
      have o5844 : (0 ≤ (0 : Int32).toInt) ∧ ((0 : Int32).toInt ≤ 3) := by have := (by decide : ((0 : Int32)).toInt = 0); exact ⟨by omega, by omega⟩
      exact hQ _ _ hI5843 (FR.I hF5840 (k := 23) (j := ((a0 * (6 : Int32)) + b0).toInt.toNat) (v := (w5834.1 7 1)) rfl)  o5844.1 o5844.2
    · have o5845 : (0 ≤ (3 : Int32).toInt) ∧ ((3 : Int32).toInt ≤ 3) := by have := (by decide : ((3 : Int32)).toInt = 3); exact ⟨by omega, by omega⟩
      exact hQ _ _ hI5835 hF5840  o5845.1 o5845.2
def l_Wa_indexOf_2 : Pl := []
def l_Wa_indexOf : Pl := []
set_option maxRecDepth 20000 in
set_option maxHeartbeats 2000000 in
theorem hq_Wa_indexOf_2 {x2_1 : Int32} {x2_2 : Int32} {E : MW → Prop} {Q : Int32 → MW → Prop} (n : Nat) : ∀ (x2_3 : Int32) (w : MW), BND w → 0 ≤ x2_3.toInt → x2_3.toInt ≤ 24 → (24 - x2_3.toInt).toNat < n → (∀ (w' : MW), BND w' → FR l_Wa_indexOf_2 w w' → E w') → (∀ (r : Int32) (w' : MW), BND w' → FR l_Wa_indexOf_2 w w' → 0 ≤ r.toInt → r.toInt ≤ 23 → r.toInt < 0 ∨ r.toInt < (w.1 26 1).toInt → Q r w') → q_Wa_indexOf_2 x2_1 x2_2 E Q n x2_3 w := by
  induction n with
  | zero => intros; omega
  | succ n ih =>
    intro x2_3 w hI  hp0 hp1 hm hE hQ
    rw [q_Wa_indexOf_2.eq_2]
    refine ⟨fun h5846 => ?_, fun h5846 => ?_⟩
    · exact hE _ hI (FR.refl _ w)
    · have o5847 : 0 ≤ x2_3.toInt ∧ x2_3.toInt < 24 := by have := bd_26_1 hI; omega
      refine ⟨o5847, ?_⟩
      refine ⟨fun h5848 => ?_, fun h5848 => ?_⟩
      · have o5849 : (0 ≤ (x2_3 + (1 : Int32)).toInt) ∧ ((x2_3 + (1 : Int32)).toInt ≤ 24) := by have := bd_26_1 hI; have := ti_add2 (Eq.refl x2_3.toInt) (by decide : ((1 : Int32)).toInt = 1) (by omega) (by omega); exact ⟨by omega, by omega⟩
        exact ih _ w hI  o5849.1 o5849.2 (by have := bd_26_1 hI; have := ti_add2 (Eq.refl x2_3.toInt) (by decide : ((1 : Int32)).toInt = 1) (by omega) (by omega); omega) (fun w9 hI9 hF9 => hE w9 hI9 ((FR.refl _ w).tr hF9 rfl) ) (fun r w9 hI9 hF9 q0 q1 q2 => hQ r w9 hI9 ((FR.refl _ w).tr hF9 rfl) (by have := bd_26_1 hI; have := ti_add2 (Eq.refl x2_3.toInt) (by decide : ((1 : Int32)).toInt = 1) (by omega) (by omega); omega) (by have := bd_26_1 hI; have := ti_add2 (Eq.refl x2_3.toInt) (by decide : ((1 : Int32)).toInt = 1) (by omega) (by omega); omega) (by have := bd_26_1 hI; have := ti_add2 (Eq.refl x2_3.toInt) (by decide : ((1 : Int32)).toInt = 1) (by omega) (by omega); omega))
      · have o5850 : 0 ≤ x2_3.toInt ∧ x2_3.toInt < 24 := by have := bd_26_1 hI; omega
        refine ⟨o5850, ?_⟩
        refine ⟨fun h5851 => ?_, fun h5851 => ?_⟩
        · have o5852 : (0 ≤ (x2_3 + (1 : Int32)).toInt) ∧ ((x2_3 + (1 : Int32)).toInt ≤ 24) := by have := bd_26_1 hI; have := ti_add2 (Eq.refl x2_3.toInt) (by decide : ((1 : Int32)).toInt = 1) (by omega) (by omega); exact ⟨by omega, by omega⟩
          exact ih _ w hI  o5852.1 o5852.2 (by have := bd_26_1 hI; have := ti_add2 (Eq.refl x2_3.toInt) (by decide : ((1 : Int32)).toInt = 1) (by omega) (by omega); omega) (fun w9 hI9 hF9 => hE w9 hI9 ((FR.refl _ w).tr hF9 rfl) ) (fun r w9 hI9 hF9 q0 q1 q2 => hQ r w9 hI9 ((FR.refl _ w).tr hF9 rfl) (by have := bd_26_1 hI; have := ti_add2 (Eq.refl x2_3.toInt) (by decide : ((1 : Int32)).toInt = 1) (by omega) (by omega); omega) (by have := bd_26_1 hI; have := ti_add2 (Eq.refl x2_3.toInt) (by decide : ((1 : Int32)).toInt = 1) (by omega) (by omega); omega) (by have := bd_26_1 hI; have := ti_add2 (Eq.refl x2_3.toInt) (by decide : ((1 : Int32)).toInt = 1) (by omega) (by omega); omega))
        · have o5853 : (0 ≤ x2_3.toInt) ∧ (x2_3.toInt ≤ 23) ∧ (x2_3.toInt < 0 ∨ x2_3.toInt < (w.1 26 1).toInt) := by have := bd_26_1 hI; exact ⟨by omega, by omega, by omega⟩
          exact hQ _ _ hI (FR.refl _ w)  o5853.1 o5853.2.1 o5853.2.2
set_option maxRecDepth 20000 in
set_option maxHeartbeats 2000000 in
theorem h_Wa_indexOf {w : MW} {a0 : Int32} {b0 : Int32} {Q : Int32 → MW → Prop} (hI : BND w)  (hQ : ∀ (r : Int32) (w' : MW), BND w' → FR l_Wa_indexOf w w' → (-1) ≤ r.toInt → r.toInt ≤ 23 → r.toInt < 0 ∨ r.toInt < (w.1 26 1).toInt → Q r w') : p_Wa_indexOf w a0 b0 Q := by
  refine Eq.mpr (p_Wa_indexOf.eq_1 _ _ _ _) ?_
  have o5854 : (0 ≤ (0 : Int32).toInt) ∧ ((0 : Int32).toInt ≤ 24) := by have := ti_lo a0; have := ti_hi a0; have := ti_lo b0; have := ti_hi b0; have := (by decide : ((0 : Int32)).toInt = 0); exact ⟨by omega, by omega⟩
  refine hq_Wa_indexOf_2 FU _ w hI  o5854.1 o5854.2 (fu_lt (by have := ti_lo a0; have := ti_hi a0; have := ti_lo b0; have := ti_hi b0; have := (by decide : ((0 : Int32)).toInt = 0); omega)) (fun w5855 hI5856 hL5857  => ?_) (fun r w9 hI9 hF9 q0 q1 q2 => hQ r w9 hI9 (((FR.refl _ w)).tr hF9 rfl) (by have := ti_lo a0; have := ti_hi a0; have := ti_lo b0; have := ti_hi b0; have := (by decide : ((0 : Int32)).toInt = 0); have := bd_26_1 hI; omega) (by have := ti_lo a0; have := ti_hi a0; have := ti_lo b0; have := ti_hi b0; have := (by decide : ((0 : Int32)).toInt = 0); have := bd_26_1 hI; omega) (by have := ti_lo a0; have := ti_hi a0; have := ti_lo b0; have := ti_hi b0; have := (by decide : ((0 : Int32)).toInt = 0); have := bd_26_1 hI; omega))
  have hF5858 : FR l_Wa_indexOf w w5855 := (FR.refl _ w).tr hL5857 rfl
  have o5859 : ((-1) ≤ ((-1) : Int32).toInt) ∧ (((-1) : Int32).toInt ≤ 23) ∧ (((-1) : Int32).toInt < 0 ∨ ((-1) : Int32).toInt < (w.1 26 1).toInt) := by have := (by decide : (((-1) : Int32)).toInt = (-1)); have := bd_26_1 hI; exact ⟨by omega, by omega, by omega⟩
  exact hQ _ _ hI5856 hF5858  o5859.1 o5859.2.1 o5859.2.2
def l_St_emptyCells_12 : Pl := [(20, none)]
def l_St_emptyCells : Pl := [(20, none)]
set_option maxRecDepth 20000 in
set_option maxHeartbeats 2000000 in
theorem hq_St_emptyCells_12 {x12_2 : Int32} {E : MW → Prop} {Q : MW → Prop} (n : Nat) : ∀ (x12_3 : Int32) (w : MW), BND w → (-20) ≤ x12_2.toInt → x12_2.toInt ≤ 23 → 0 ≤ x12_3.toInt → x12_3.toInt ≤ 4 → (4 - x12_3.toInt).toNat < n → (∀ (w' : MW), BND w' → FR l_St_emptyCells_12 w w' → E w') → (∀ (w' : MW), BND w' → FR l_St_emptyCells_12 w w' → False → Q w') → q_St_emptyCells_12 x12_2 E Q n x12_3 w := by
  induction n with
  | zero => intros; omega
  | succ n ih =>
    intro x12_3 w hI  hp0 hp1 hp2 hp3 hm hE hQ
    rw [q_St_emptyCells_12.eq_2]
    refine ⟨fun h5860 => ?_, fun h5860 => ?_⟩
    · exact hE _ hI (FR.refl _ w)
    · refine ⟨fun h5861 => ?_, fun h5861 => ?_⟩
      · exact hE _ hI (FR.refl _ w)
      · have o5862 : 0 ≤ ((x12_2 * (4 : Int32)) + x12_3).toInt ∧ ((x12_2 * (4 : Int32)) + x12_3).toInt < 96 := by have := (by decide : ((0 : Int32)).toInt = 0); have := (by decide : ((4 : Int32)).toInt = 4); have := ti_mul2 (Eq.refl x12_2.toInt) (by decide : ((4 : Int32)).toInt = 4) (by omega) (by omega); have := ti_add2 (Eq.refl (x12_2 * (4 : Int32)).toInt) (Eq.refl x12_3.toInt) (by omega) (by omega); omega
        refine ⟨o5862, ?_⟩
        have o5863 : ((-20) ≤ x12_2.toInt) ∧ (x12_2.toInt ≤ 23) ∧ (0 ≤ (x12_3 + (1 : Int32)).toInt) ∧ ((x12_3 + (1 : Int32)).toInt ≤ 4) := by have := (by decide : ((4 : Int32)).toInt = 4); have := ti_add2 (Eq.refl x12_3.toInt) (by decide : ((1 : Int32)).toInt = 1) (by omega) (by omega); exact ⟨by omega, by omega, by omega, by omega⟩
        exact ih _ (sJ w 20 (((x12_2 * (4 : Int32)) + x12_3).toInt.toNat) 0) (bnd_J hI (k := 20) (j := ((x12_2 * (4 : Int32)) + x12_3).toInt.toNat) (v := 0))  o5863.1 o5863.2.1 o5863.2.2.1 o5863.2.2.2 (by have := (by decide : ((4 : Int32)).toInt = 4); have := ti_add2 (Eq.refl x12_3.toInt) (by decide : ((1 : Int32)).toInt = 1) (by omega) (by omega); omega) (fun w9 hI9 hF9 => hE w9 hI9 ((FR.J (FR.refl _ w) (k := 20) (j := ((x12_2 * (4 : Int32)) + x12_3).toInt.toNat) (v := 0) rfl).tr hF9 rfl) ) (fun w9 hI9 hF9 q0 => q0.elim)
set_option maxRecDepth 20000 in
set_option maxHeartbeats 2000000 in
theorem h_St_emptyCells {w : MW} {a0 : Int32} {Q : MW → Prop} (hI : BND w) (hr_7_0 : w.2.2 7 0 = some 8) (hp0 : 0 ≤ a0.toInt) (hp1 : a0.toInt ≤ 43) (hp2 : a0.toInt < (w.1 8 0).toInt + (w.1 8 1).toInt) (hQ : ∀ (w' : MW), BND w' → FR l_St_emptyCells w w' → Q w') : p_St_emptyCells w a0 Q := by
  refine Eq.mpr (p_St_emptyCells.eq_1 _ _ _) ?_
  refine ⟨hr_7_0, ?_⟩
  have o5864 : ((-20) ≤ (a0 - (w.1 8 0)).toInt) ∧ ((a0 - (w.1 8 0)).toInt ≤ 23) ∧ (0 ≤ (0 : Int32).toInt) ∧ ((0 : Int32).toInt ≤ 4) := by have := bd_8_0 hI; have := (by decide : ((0 : Int32)).toInt = 0); have := bd_8_1 hI; have := ti_sub2 (Eq.refl a0.toInt) (Eq.refl (w.1 8 0).toInt) (by omega) (by omega); exact ⟨by omega, by omega, by omega, by omega⟩
  refine hq_St_emptyCells_12 FU _ w hI  o5864.1 o5864.2.1 o5864.2.2.1 o5864.2.2.2 (fu_lt (by have := bd_8_0 hI; have := (by decide : ((0 : Int32)).toInt = 0); have := bd_8_1 hI; have := ti_sub2 (Eq.refl a0.toInt) (Eq.refl (w.1 8 0).toInt) (by omega) (by omega); omega)) (fun w5865 hI5866 hL5867  => ?_) (fun w9 hI9 hF9 q0 => q0.elim)
  have hF5868 : FR l_St_emptyCells w w5865 := (FR.refl _ w).tr hL5867 rfl
  exact hQ _ hI5866 hF5868 
def l_St_leave : Pl := [(17, none), (18, none), (19, none), (23, none)]
set_option maxRecDepth 20000 in
set_option maxHeartbeats 2000000 in
theorem h_St_leave {w : MW} {a0 : Int32} {b0 : Int32} {Q : MW → Prop} (hI : BND w) (hp0 : 0 ≤ a0.toInt) (hp1 : a0.toInt ≤ 43) (hQ : ∀ (w' : MW), BND w' → FR l_St_leave w w' → Q w') : p_St_leave w a0 b0 Q := by
  refine Eq.mpr (p_St_leave.eq_1 _ _ _ _) ?_
  have o5869 : 0 ≤ a0.toInt ∧ a0.toInt < 44 := by omega
  refine ⟨o5869, ?_⟩
  refine ⟨fun h5870 => ?_, fun h5870 => ?_⟩
  · have o5871 : 0 ≤ a0.toInt ∧ a0.toInt < 44 := by omega
    refine ⟨o5871, ?_⟩
    refine Eq.mpr (p_Ma_max.eq_1 _ _ _ _) ?_
    refine ⟨fun h5872 => ?_, fun h5872 => ?_⟩
    · replace h5872 : 0 < ((w.1 18 a0.toInt.toNat) - b0).toInt := h5872
      have o5873 : 0 ≤ a0.toInt ∧ a0.toInt < 44 := by omega
      refine ⟨o5873, ?_⟩
      have o5874 : 0 ≤ a0.toInt ∧ a0.toInt < 44 := by omega
      refine ⟨o5874, ?_⟩
      refine ⟨fun h5875 => ?_, fun h5875 => ?_⟩
      · have hI5876 : BND (sI w 18 a0.toInt.toNat ((w.1 18 a0.toInt.toNat) - b0)) := wbd_18 hI a0.toInt.toNat
        exact hQ _ hI5876 (FR.I (FR.refl _ w) (k := 18) (j := a0.toInt.toNat) (v := ((w.1 18 a0.toInt.toNat) - b0)) rfl) 
      · have o5877 : 0 ≤ a0.toInt ∧ a0.toInt < 44 := by omega
        refine ⟨o5877, ?_⟩
        have o5878 : 0 ≤ a0.toInt ∧ a0.toInt < 44 := by omega
        refine ⟨o5878, ?_⟩
        have o5879 : 0 ≤ a0.toInt ∧ a0.toInt < 44 := by omega
        refine ⟨o5879, ?_⟩
        have hI5880 : BND (sI w 18 a0.toInt.toNat ((w.1 18 a0.toInt.toNat) - b0)) := wbd_18 hI a0.toInt.toNat
        have o5882 : 0 ≤ (w.1 17 a0.toInt.toNat).toInt ∧ (w.1 17 a0.toInt.toNat).toInt ≤ 14 := by have := bd_17 hI a0.toInt.toNat; have := (by decide : ((0 : Int32)).toInt = 0); omega
        have hI5881 : BND (sI (sI w 18 a0.toInt.toNat ((w.1 18 a0.toInt.toNat) - b0)) 19 a0.toInt.toNat (w.1 17 a0.toInt.toNat)) := wbd_19 hI5880 a0.toInt.toNat o5882.1 o5882.2
        have hI5883 : BND (sI (sI (sI w 18 a0.toInt.toNat ((w.1 18 a0.toInt.toNat) - b0)) 19 a0.toInt.toNat (w.1 17 a0.toInt.toNat)) 17 a0.toInt.toNat 0) := wbd_17 hI5881 a0.toInt.toNat (by decide) (by decide)
        have o5884 : (0 ≤ a0.toInt) ∧ (a0.toInt ≤ 43) := by exact ⟨by omega, by omega⟩
        refine h_St_forgetCleanings hI5883  o5884.1 o5884.2 (fun w5885 hI5886 hL5887  => ?_)
        have hF5889 : FR l_St_leave w w5885 := (FR.I (FR.I (FR.I (FR.refl _ w) (k := 18) (j := a0.toInt.toNat) (v := ((w.1 18 a0.toInt.toNat) - b0)) rfl) (k := 19) (j := a0.toInt.toNat) (v := (w.1 17 a0.toInt.toNat)) rfl) (k := 17) (j := a0.toInt.toNat) (v := 0) rfl).tr hL5887 rfl
        exact hQ _ hI5886 hF5889 
    · replace h5872 : ¬ (0 < ((w.1 18 a0.toInt.toNat) - b0).toInt) := h5872
      have o5890 : 0 ≤ a0.toInt ∧ a0.toInt < 44 := by omega
      refine ⟨o5890, ?_⟩
      have o5891 : 0 ≤ a0.toInt ∧ a0.toInt < 44 := by omega
      refine ⟨o5891, ?_⟩
      refine ⟨fun h5892 => ?_, fun h5892 => ?_⟩
      · have hI5893 : BND (sI w 18 a0.toInt.toNat 0) := wbd_18 hI a0.toInt.toNat
        exact hQ _ hI5893 (FR.I (FR.refl _ w) (k := 18) (j := a0.toInt.toNat) (v := 0) rfl) 
      · have o5894 : 0 ≤ a0.toInt ∧ a0.toInt < 44 := by omega
        refine ⟨o5894, ?_⟩
        have o5895 : 0 ≤ a0.toInt ∧ a0.toInt < 44 := by omega
        refine ⟨o5895, ?_⟩
        have o5896 : 0 ≤ a0.toInt ∧ a0.toInt < 44 := by omega
        refine ⟨o5896, ?_⟩
        have hI5897 : BND (sI w 18 a0.toInt.toNat 0) := wbd_18 hI a0.toInt.toNat
        have o5899 : 0 ≤ (w.1 17 a0.toInt.toNat).toInt ∧ (w.1 17 a0.toInt.toNat).toInt ≤ 14 := by have := bd_17 hI a0.toInt.toNat; have := (by decide : ((0 : Int32)).toInt = 0); omega
        have hI5898 : BND (sI (sI w 18 a0.toInt.toNat 0) 19 a0.toInt.toNat (w.1 17 a0.toInt.toNat)) := wbd_19 hI5897 a0.toInt.toNat o5899.1 o5899.2
        have hI5900 : BND (sI (sI (sI w 18 a0.toInt.toNat 0) 19 a0.toInt.toNat (w.1 17 a0.toInt.toNat)) 17 a0.toInt.toNat 0) := wbd_17 hI5898 a0.toInt.toNat (by decide) (by decide)
        have o5901 : (0 ≤ a0.toInt) ∧ (a0.toInt ≤ 43) := by exact ⟨by omega, by omega⟩
        refine h_St_forgetCleanings hI5900  o5901.1 o5901.2 (fun w5902 hI5903 hL5904  => ?_)
        have hF5906 : FR l_St_leave w w5902 := (FR.I (FR.I (FR.I (FR.refl _ w) (k := 18) (j := a0.toInt.toNat) (v := 0) rfl) (k := 19) (j := a0.toInt.toNat) (v := (w.1 17 a0.toInt.toNat)) rfl) (k := 17) (j := a0.toInt.toNat) (v := 0) rfl).tr hL5904 rfl
        exact hQ _ hI5903 hF5906 
  · exact hQ _ hI (FR.refl _ w)
def l_St_isHolder : Pl := []
set_option maxRecDepth 20000 in
set_option maxHeartbeats 2000000 in
theorem h_St_isHolder {w : MW} {a0 : Int32} {Q : Int32 → MW → Prop} (hI : BND w) (hr_7_0 : w.2.2 7 0 = some 8)  (hQ : ∀ (r : Int32) (w' : MW), BND w' → FR l_St_isHolder w w' → 0 ≤ r.toInt → r.toInt ≤ 1 → r.toInt = 0 ∨ (0 ≤ a0.toInt ∧ a0.toInt < (w.1 8 0).toInt + (w.1 8 1).toInt) → Q r w') : p_St_isHolder w a0 Q := by
  refine Eq.mpr (p_St_isHolder.eq_1 _ _ _) ?_
  refine Eq.mpr (p_St_isTank.eq_1 _ _ _) ?_
  refine ⟨fun h5907 => ?_, fun h5907 => ?_⟩
  · refine ⟨fun h => absurd h (by decide), fun _ => ?_⟩
    refine Eq.mpr (p_St_isPipe.eq_1 _ _ _) ?_
    refine ⟨hr_7_0, ?_⟩
    refine ⟨fun h5908 => ?_, fun h5908 => ?_⟩
    · refine ⟨fun _ => ?_, fun h => absurd (by decide) h⟩
      have o5909 : (0 ≤ (0 : Int32).toInt) ∧ ((0 : Int32).toInt ≤ 1) ∧ ((0 : Int32).toInt = 0 ∨ (0 ≤ a0.toInt ∧ a0.toInt < (w.1 8 0).toInt + (w.1 8 1).toInt)) := by have := (by decide : ((0 : Int32)).toInt = 0); have := bd_8_0 hI; have := bd_8_1 hI; exact ⟨by omega, by omega, by omega⟩
      exact hQ _ _ hI (FR.refl _ w)  o5909.1 o5909.2.1 o5909.2.2
    · exfalso; have := (by decide : ((0 : Int32)).toInt = 0); have := bd_8_0 hI; omega
  · refine ⟨hr_7_0, ?_⟩
    refine ⟨fun h5910 => ?_, fun h5910 => ?_⟩
    · refine ⟨fun h => absurd h (by decide), fun _ => ?_⟩
      refine Eq.mpr (p_St_isPipe.eq_1 _ _ _) ?_
      refine ⟨hr_7_0, ?_⟩
      refine ⟨fun h5911 => ?_, fun h5911 => ?_⟩
      · refine ⟨fun _ => ?_, fun h => absurd (by decide) h⟩
        have o5912 : (0 ≤ (0 : Int32).toInt) ∧ ((0 : Int32).toInt ≤ 1) ∧ ((0 : Int32).toInt = 0 ∨ (0 ≤ a0.toInt ∧ a0.toInt < (w.1 8 0).toInt + (w.1 8 1).toInt)) := by have := (by decide : ((0 : Int32)).toInt = 0); have := bd_8_0 hI; have := bd_8_1 hI; exact ⟨by omega, by omega, by omega⟩
        exact hQ _ _ hI (FR.refl _ w)  o5912.1 o5912.2.1 o5912.2.2
      · refine ⟨hr_7_0, ?_⟩
        refine ⟨hr_7_0, ?_⟩
        refine ⟨fun h5913 => ?_, fun h5913 => ?_⟩
        · refine ⟨fun _ => ?_, fun h => absurd (by decide) h⟩
          have o5914 : (0 ≤ (0 : Int32).toInt) ∧ ((0 : Int32).toInt ≤ 1) ∧ ((0 : Int32).toInt = 0 ∨ (0 ≤ a0.toInt ∧ a0.toInt < (w.1 8 0).toInt + (w.1 8 1).toInt)) := by have := (by decide : ((0 : Int32)).toInt = 0); have := bd_8_0 hI; have := bd_8_1 hI; have := ti_add2 (Eq.refl (w.1 8 0).toInt) (Eq.refl (w.1 8 1).toInt) (by omega) (by omega); exact ⟨by omega, by omega, by omega⟩
          exact hQ _ _ hI (FR.refl _ w)  o5914.1 o5914.2.1 o5914.2.2
        · refine ⟨fun h => absurd h (by decide), fun _ => ?_⟩
          have o5915 : (0 ≤ (1 : Int32).toInt) ∧ ((1 : Int32).toInt ≤ 1) ∧ ((1 : Int32).toInt = 0 ∨ (0 ≤ a0.toInt ∧ a0.toInt < (w.1 8 0).toInt + (w.1 8 1).toInt)) := by have := (by decide : ((1 : Int32)).toInt = 1); have := bd_8_0 hI; have := bd_8_1 hI; have := (by decide : ((0 : Int32)).toInt = 0); have := ti_add2 (Eq.refl (w.1 8 0).toInt) (Eq.refl (w.1 8 1).toInt) (by omega) (by omega); exact ⟨by omega, by omega, by omega⟩
          exact hQ _ _ hI (FR.refl _ w)  o5915.1 o5915.2.1 o5915.2.2
    · refine ⟨hr_7_0, ?_⟩
      have o5916 : 0 ≤ a0.toInt ∧ a0.toInt < 20 := by have := (by decide : ((0 : Int32)).toInt = 0); have := bd_8_0 hI; omega
      refine ⟨o5916, ?_⟩
      refine ⟨fun h5917 => ?_, fun h5917 => ?_⟩
      · refine ⟨fun h => absurd h (by decide), fun _ => ?_⟩
        refine Eq.mpr (p_St_isPipe.eq_1 _ _ _) ?_
        refine ⟨hr_7_0, ?_⟩
        refine ⟨fun h5918 => ?_, fun h5918 => ?_⟩
        · refine ⟨fun _ => ?_, fun h => absurd (by decide) h⟩
          have o5919 : (0 ≤ (0 : Int32).toInt) ∧ ((0 : Int32).toInt ≤ 1) ∧ ((0 : Int32).toInt = 0 ∨ (0 ≤ a0.toInt ∧ a0.toInt < (w.1 8 0).toInt + (w.1 8 1).toInt)) := by have := (by decide : ((0 : Int32)).toInt = 0); have := bd_8_0 hI; have := bd_8_1 hI; exact ⟨by omega, by omega, by omega⟩
          exact hQ _ _ hI (FR.refl _ w)  o5919.1 o5919.2.1 o5919.2.2
        · refine ⟨hr_7_0, ?_⟩
          refine ⟨hr_7_0, ?_⟩
          refine ⟨fun h5920 => ?_, fun h5920 => ?_⟩
          · refine ⟨fun _ => ?_, fun h => absurd (by decide) h⟩
            have o5921 : (0 ≤ (0 : Int32).toInt) ∧ ((0 : Int32).toInt ≤ 1) ∧ ((0 : Int32).toInt = 0 ∨ (0 ≤ a0.toInt ∧ a0.toInt < (w.1 8 0).toInt + (w.1 8 1).toInt)) := by have := (by decide : ((0 : Int32)).toInt = 0); have := bd_8_0 hI; have := bd_8_1 hI; have := ti_add2 (Eq.refl (w.1 8 0).toInt) (Eq.refl (w.1 8 1).toInt) (by omega) (by omega); exact ⟨by omega, by omega, by omega⟩
            exact hQ _ _ hI (FR.refl _ w)  o5921.1 o5921.2.1 o5921.2.2
          · refine ⟨fun h => absurd h (by decide), fun _ => ?_⟩
            have o5922 : (0 ≤ (1 : Int32).toInt) ∧ ((1 : Int32).toInt ≤ 1) ∧ ((1 : Int32).toInt = 0 ∨ (0 ≤ a0.toInt ∧ a0.toInt < (w.1 8 0).toInt + (w.1 8 1).toInt)) := by have := (by decide : ((1 : Int32)).toInt = 1); have := bd_8_0 hI; have := bd_8_1 hI; have := (by decide : ((0 : Int32)).toInt = 0); have := ti_add2 (Eq.refl (w.1 8 0).toInt) (Eq.refl (w.1 8 1).toInt) (by omega) (by omega); exact ⟨by omega, by omega, by omega⟩
            exact hQ _ _ hI (FR.refl _ w)  o5922.1 o5922.2.1 o5922.2.2
      · refine ⟨fun _ => ?_, fun h => absurd (by decide) h⟩
        have o5923 : (0 ≤ (1 : Int32).toInt) ∧ ((1 : Int32).toInt ≤ 1) ∧ ((1 : Int32).toInt = 0 ∨ (0 ≤ a0.toInt ∧ a0.toInt < (w.1 8 0).toInt + (w.1 8 1).toInt)) := by have := (by decide : ((1 : Int32)).toInt = 1); have := bd_8_0 hI; have := bd_8_1 hI; have := (by decide : ((0 : Int32)).toInt = 0); exact ⟨by omega, by omega, by omega⟩
        exact hQ _ _ hI (FR.refl _ w)  o5923.1 o5923.2.1 o5923.2.2
def l_Ac_isBound : Pl := []
set_option maxRecDepth 20000 in
set_option maxHeartbeats 2000000 in
theorem h_Ac_isBound {w : MW} {a0 : Int32} {Q : Int32 → MW → Prop} (hI : BND w) (hf_AC : AC w) (hr_7_0 : w.2.2 7 0 = some 8) (hp0 : 0 ≤ a0.toInt) (hp1 : a0.toInt ≤ 31) (hQ : ∀ (r : Int32) (w' : MW), BND w' → FR l_Ac_isBound w w' → 0 ≤ r.toInt → r.toInt ≤ 1 → r.toInt = 0 ∨ 2 ≤ (w.1 60 a0.toInt.toNat).toInt ∨ (0 ≤ (w.1 57 a0.toInt.toNat).toInt ∧ (w.1 57 a0.toInt.toNat).toInt < (w.1 8 0).toInt ∧ 0 ≤ (w.1 58 a0.toInt.toNat).toInt ∧ (w.1 58 a0.toInt.toNat).toInt < (w.1 8 0).toInt) → r.toInt = 0 ∨ ¬ (w.1 60 a0.toInt.toNat).toInt = 2 ∨ (0 ≤ (w.1 57 a0.toInt.toNat).toInt ∧ (w.1 57 a0.toInt.toNat).toInt < (w.1 8 0).toInt) → r.toInt = 0 ∨ (w.1 60 a0.toInt.toNat).toInt ≤ 2 ∨ (0 ≤ (w.1 57 a0.toInt.toNat).toInt ∧ (w.1 57 a0.toInt.toNat).toInt < (w.1 8 0).toInt + (w.1 8 1).toInt) → r.toInt = 0 ∨ 0 ≤ (w.1 60 a0.toInt.toNat).toInt → Q r w') : p_Ac_isBound w a0 Q := by
  refine Eq.mpr (p_Ac_isBound.eq_1 _ _ _) ?_
  have o5924 : 0 ≤ a0.toInt ∧ a0.toInt < 32 := by omega
  refine ⟨o5924, ?_⟩
  refine ⟨fun h5925 => ?_, fun h5925 => ?_⟩
  · have o5926 : 0 ≤ a0.toInt ∧ a0.toInt < 32 := by omega
    refine ⟨o5926, ?_⟩
    refine Eq.mpr (p_St_isTank.eq_1 _ _ _) ?_
    refine ⟨fun h5927 => ?_, fun h5927 => ?_⟩
    · refine ⟨fun _ => ?_, fun h => absurd (by decide) h⟩
      have o5928 : (0 ≤ (0 : Int32).toInt) ∧ ((0 : Int32).toInt ≤ 1) ∧ ((0 : Int32).toInt = 0 ∨ 2 ≤ (w.1 60 a0.toInt.toNat).toInt ∨ (0 ≤ (w.1 57 a0.toInt.toNat).toInt ∧ (w.1 57 a0.toInt.toNat).toInt < (w.1 8 0).toInt ∧ 0 ≤ (w.1 58 a0.toInt.toNat).toInt ∧ (w.1 58 a0.toInt.toNat).toInt < (w.1 8 0).toInt)) ∧ ((0 : Int32).toInt = 0 ∨ ¬ (w.1 60 a0.toInt.toNat).toInt = 2 ∨ (0 ≤ (w.1 57 a0.toInt.toNat).toInt ∧ (w.1 57 a0.toInt.toNat).toInt < (w.1 8 0).toInt)) ∧ ((0 : Int32).toInt = 0 ∨ (w.1 60 a0.toInt.toNat).toInt ≤ 2 ∨ (0 ≤ (w.1 57 a0.toInt.toNat).toInt ∧ (w.1 57 a0.toInt.toNat).toInt < (w.1 8 0).toInt + (w.1 8 1).toInt)) ∧ ((0 : Int32).toInt = 0 ∨ 0 ≤ (w.1 60 a0.toInt.toNat).toInt) := by have := (by decide : ((0 : Int32)).toInt = 0); have := bd_8_0 hI; have := bd_60 hI a0.toInt.toNat; have := bd_8_1 hI; have := hf_AC a0; exact ⟨by omega, by omega, by omega, by omega, by omega, by omega⟩
      exact hQ _ _ hI (FR.refl _ w)  o5928.1 o5928.2.1 o5928.2.2.1 o5928.2.2.2.1 o5928.2.2.2.2.1 o5928.2.2.2.2.2
    · refine ⟨hr_7_0, ?_⟩
      refine ⟨fun h5929 => ?_, fun h5929 => ?_⟩
      · refine ⟨fun _ => ?_, fun h => absurd (by decide) h⟩
        have o5930 : (0 ≤ (0 : Int32).toInt) ∧ ((0 : Int32).toInt ≤ 1) ∧ ((0 : Int32).toInt = 0 ∨ 2 ≤ (w.1 60 a0.toInt.toNat).toInt ∨ (0 ≤ (w.1 57 a0.toInt.toNat).toInt ∧ (w.1 57 a0.toInt.toNat).toInt < (w.1 8 0).toInt ∧ 0 ≤ (w.1 58 a0.toInt.toNat).toInt ∧ (w.1 58 a0.toInt.toNat).toInt < (w.1 8 0).toInt)) ∧ ((0 : Int32).toInt = 0 ∨ ¬ (w.1 60 a0.toInt.toNat).toInt = 2 ∨ (0 ≤ (w.1 57 a0.toInt.toNat).toInt ∧ (w.1 57 a0.toInt.toNat).toInt < (w.1 8 0).toInt)) ∧ ((0 : Int32).toInt = 0 ∨ (w.1 60 a0.toInt.toNat).toInt ≤ 2 ∨ (0 ≤ (w.1 57 a0.toInt.toNat).toInt ∧ (w.1 57 a0.toInt.toNat).toInt < (w.1 8 0).toInt + (w.1 8 1).toInt)) ∧ ((0 : Int32).toInt = 0 ∨ 0 ≤ (w.1 60 a0.toInt.toNat).toInt) := by have := (by decide : ((0 : Int32)).toInt = 0); have := bd_8_0 hI; have := bd_60 hI a0.toInt.toNat; have := bd_8_1 hI; have := hf_AC a0; exact ⟨by omega, by omega, by omega, by omega, by omega, by omega⟩
        exact hQ _ _ hI (FR.refl _ w)  o5930.1 o5930.2.1 o5930.2.2.1 o5930.2.2.2.1 o5930.2.2.2.2.1 o5930.2.2.2.2.2
      · refine ⟨hr_7_0, ?_⟩
        have o5931 : 0 ≤ (w.1 57 a0.toInt.toNat).toInt ∧ (w.1 57 a0.toInt.toNat).toInt < 20 := by have := (by decide : ((0 : Int32)).toInt = 0); have := bd_8_0 hI; omega
        refine ⟨o5931, ?_⟩
        refine ⟨fun h5932 => ?_, fun h5932 => ?_⟩
        · refine ⟨fun _ => ?_, fun h => absurd (by decide) h⟩
          have o5933 : (0 ≤ (0 : Int32).toInt) ∧ ((0 : Int32).toInt ≤ 1) ∧ ((0 : Int32).toInt = 0 ∨ 2 ≤ (w.1 60 a0.toInt.toNat).toInt ∨ (0 ≤ (w.1 57 a0.toInt.toNat).toInt ∧ (w.1 57 a0.toInt.toNat).toInt < (w.1 8 0).toInt ∧ 0 ≤ (w.1 58 a0.toInt.toNat).toInt ∧ (w.1 58 a0.toInt.toNat).toInt < (w.1 8 0).toInt)) ∧ ((0 : Int32).toInt = 0 ∨ ¬ (w.1 60 a0.toInt.toNat).toInt = 2 ∨ (0 ≤ (w.1 57 a0.toInt.toNat).toInt ∧ (w.1 57 a0.toInt.toNat).toInt < (w.1 8 0).toInt)) ∧ ((0 : Int32).toInt = 0 ∨ (w.1 60 a0.toInt.toNat).toInt ≤ 2 ∨ (0 ≤ (w.1 57 a0.toInt.toNat).toInt ∧ (w.1 57 a0.toInt.toNat).toInt < (w.1 8 0).toInt + (w.1 8 1).toInt)) ∧ ((0 : Int32).toInt = 0 ∨ 0 ≤ (w.1 60 a0.toInt.toNat).toInt) := by have := (by decide : ((0 : Int32)).toInt = 0); have := bd_8_0 hI; have := bd_60 hI a0.toInt.toNat; have := bd_8_1 hI; have := hf_AC a0; exact ⟨by omega, by omega, by omega, by omega, by omega, by omega⟩
          exact hQ _ _ hI (FR.refl _ w)  o5933.1 o5933.2.1 o5933.2.2.1 o5933.2.2.2.1 o5933.2.2.2.2.1 o5933.2.2.2.2.2
        · refine ⟨fun h => absurd h (by decide), fun _ => ?_⟩
          have o5934 : 0 ≤ a0.toInt ∧ a0.toInt < 32 := by omega
          refine ⟨o5934, ?_⟩
          refine Eq.mpr (p_St_isTank.eq_1 _ _ _) ?_
          refine ⟨fun h5935 => ?_, fun h5935 => ?_⟩
          · refine ⟨fun _ => ?_, fun h => absurd (by decide) h⟩
            have o5936 : (0 ≤ (0 : Int32).toInt) ∧ ((0 : Int32).toInt ≤ 1) ∧ ((0 : Int32).toInt = 0 ∨ 2 ≤ (w.1 60 a0.toInt.toNat).toInt ∨ (0 ≤ (w.1 57 a0.toInt.toNat).toInt ∧ (w.1 57 a0.toInt.toNat).toInt < (w.1 8 0).toInt ∧ 0 ≤ (w.1 58 a0.toInt.toNat).toInt ∧ (w.1 58 a0.toInt.toNat).toInt < (w.1 8 0).toInt)) ∧ ((0 : Int32).toInt = 0 ∨ ¬ (w.1 60 a0.toInt.toNat).toInt = 2 ∨ (0 ≤ (w.1 57 a0.toInt.toNat).toInt ∧ (w.1 57 a0.toInt.toNat).toInt < (w.1 8 0).toInt)) ∧ ((0 : Int32).toInt = 0 ∨ (w.1 60 a0.toInt.toNat).toInt ≤ 2 ∨ (0 ≤ (w.1 57 a0.toInt.toNat).toInt ∧ (w.1 57 a0.toInt.toNat).toInt < (w.1 8 0).toInt + (w.1 8 1).toInt)) ∧ ((0 : Int32).toInt = 0 ∨ 0 ≤ (w.1 60 a0.toInt.toNat).toInt) := by have := (by decide : ((0 : Int32)).toInt = 0); have := bd_8_0 hI; have := bd_60 hI a0.toInt.toNat; have := bd_8_1 hI; have := hf_AC a0; exact ⟨by omega, by omega, by omega, by omega, by omega, by omega⟩
            exact hQ _ _ hI (FR.refl _ w)  o5936.1 o5936.2.1 o5936.2.2.1 o5936.2.2.2.1 o5936.2.2.2.2.1 o5936.2.2.2.2.2
          · refine ⟨hr_7_0, ?_⟩
            refine ⟨fun h5937 => ?_, fun h5937 => ?_⟩
            · refine ⟨fun _ => ?_, fun h => absurd (by decide) h⟩
              have o5938 : (0 ≤ (0 : Int32).toInt) ∧ ((0 : Int32).toInt ≤ 1) ∧ ((0 : Int32).toInt = 0 ∨ 2 ≤ (w.1 60 a0.toInt.toNat).toInt ∨ (0 ≤ (w.1 57 a0.toInt.toNat).toInt ∧ (w.1 57 a0.toInt.toNat).toInt < (w.1 8 0).toInt ∧ 0 ≤ (w.1 58 a0.toInt.toNat).toInt ∧ (w.1 58 a0.toInt.toNat).toInt < (w.1 8 0).toInt)) ∧ ((0 : Int32).toInt = 0 ∨ ¬ (w.1 60 a0.toInt.toNat).toInt = 2 ∨ (0 ≤ (w.1 57 a0.toInt.toNat).toInt ∧ (w.1 57 a0.toInt.toNat).toInt < (w.1 8 0).toInt)) ∧ ((0 : Int32).toInt = 0 ∨ (w.1 60 a0.toInt.toNat).toInt ≤ 2 ∨ (0 ≤ (w.1 57 a0.toInt.toNat).toInt ∧ (w.1 57 a0.toInt.toNat).toInt < (w.1 8 0).toInt + (w.1 8 1).toInt)) ∧ ((0 : Int32).toInt = 0 ∨ 0 ≤ (w.1 60 a0.toInt.toNat).toInt) := by have := (by decide : ((0 : Int32)).toInt = 0); have := bd_8_0 hI; have := bd_60 hI a0.toInt.toNat; have := bd_8_1 hI; have := hf_AC a0; exact ⟨by omega, by omega, by omega, by omega, by omega, by omega⟩
              exact hQ _ _ hI (FR.refl _ w)  o5938.1 o5938.2.1 o5938.2.2.1 o5938.2.2.2.1 o5938.2.2.2.2.1 o5938.2.2.2.2.2
            · refine ⟨hr_7_0, ?_⟩
              have o5939 : 0 ≤ (w.1 58 a0.toInt.toNat).toInt ∧ (w.1 58 a0.toInt.toNat).toInt < 20 := by have := bd_60 hI a0.toInt.toNat; have := (by decide : ((0 : Int32)).toInt = 0); have := bd_8_0 hI; have := hf_AC a0; omega
              refine ⟨o5939, ?_⟩
              refine ⟨fun h5940 => ?_, fun h5940 => ?_⟩
              · refine ⟨fun _ => ?_, fun h => absurd (by decide) h⟩
                have o5941 : (0 ≤ (0 : Int32).toInt) ∧ ((0 : Int32).toInt ≤ 1) ∧ ((0 : Int32).toInt = 0 ∨ 2 ≤ (w.1 60 a0.toInt.toNat).toInt ∨ (0 ≤ (w.1 57 a0.toInt.toNat).toInt ∧ (w.1 57 a0.toInt.toNat).toInt < (w.1 8 0).toInt ∧ 0 ≤ (w.1 58 a0.toInt.toNat).toInt ∧ (w.1 58 a0.toInt.toNat).toInt < (w.1 8 0).toInt)) ∧ ((0 : Int32).toInt = 0 ∨ ¬ (w.1 60 a0.toInt.toNat).toInt = 2 ∨ (0 ≤ (w.1 57 a0.toInt.toNat).toInt ∧ (w.1 57 a0.toInt.toNat).toInt < (w.1 8 0).toInt)) ∧ ((0 : Int32).toInt = 0 ∨ (w.1 60 a0.toInt.toNat).toInt ≤ 2 ∨ (0 ≤ (w.1 57 a0.toInt.toNat).toInt ∧ (w.1 57 a0.toInt.toNat).toInt < (w.1 8 0).toInt + (w.1 8 1).toInt)) ∧ ((0 : Int32).toInt = 0 ∨ 0 ≤ (w.1 60 a0.toInt.toNat).toInt) := by have := (by decide : ((0 : Int32)).toInt = 0); have := bd_8_0 hI; have := bd_60 hI a0.toInt.toNat; have := bd_8_1 hI; have := hf_AC a0; exact ⟨by omega, by omega, by omega, by omega, by omega, by omega⟩
                exact hQ _ _ hI (FR.refl _ w)  o5941.1 o5941.2.1 o5941.2.2.1 o5941.2.2.2.1 o5941.2.2.2.2.1 o5941.2.2.2.2.2
              · refine ⟨fun h => absurd h (by decide), fun _ => ?_⟩
                have o5942 : 0 ≤ a0.toInt ∧ a0.toInt < 32 := by have := bd_60 hI a0.toInt.toNat; have := (by decide : ((0 : Int32)).toInt = 0); have := bd_8_0 hI; have := hf_AC a0; omega
                refine ⟨o5942, ?_⟩
                have o5943 : 0 ≤ a0.toInt ∧ a0.toInt < 32 := by have := bd_60 hI a0.toInt.toNat; have := (by decide : ((0 : Int32)).toInt = 0); have := bd_8_0 hI; have := hf_AC a0; omega
                refine ⟨o5943, ?_⟩
                refine ⟨fun h5944 => ?_, fun h5944 => ?_⟩
                · have o5945 : (0 ≤ (0 : Int32).toInt) ∧ ((0 : Int32).toInt ≤ 1) ∧ ((0 : Int32).toInt = 0 ∨ 2 ≤ (w.1 60 a0.toInt.toNat).toInt ∨ (0 ≤ (w.1 57 a0.toInt.toNat).toInt ∧ (w.1 57 a0.toInt.toNat).toInt < (w.1 8 0).toInt ∧ 0 ≤ (w.1 58 a0.toInt.toNat).toInt ∧ (w.1 58 a0.toInt.toNat).toInt < (w.1 8 0).toInt)) ∧ ((0 : Int32).toInt = 0 ∨ ¬ (w.1 60 a0.toInt.toNat).toInt = 2 ∨ (0 ≤ (w.1 57 a0.toInt.toNat).toInt ∧ (w.1 57 a0.toInt.toNat).toInt < (w.1 8 0).toInt)) ∧ ((0 : Int32).toInt = 0 ∨ (w.1 60 a0.toInt.toNat).toInt ≤ 2 ∨ (0 ≤ (w.1 57 a0.toInt.toNat).toInt ∧ (w.1 57 a0.toInt.toNat).toInt < (w.1 8 0).toInt + (w.1 8 1).toInt)) ∧ ((0 : Int32).toInt = 0 ∨ 0 ≤ (w.1 60 a0.toInt.toNat).toInt) := by have := (by decide : ((0 : Int32)).toInt = 0); have := bd_8_0 hI; have := bd_60 hI a0.toInt.toNat; have := bd_8_1 hI; have := hf_AC a0; exact ⟨by omega, by omega, by omega, by omega, by omega, by omega⟩
                  exact hQ _ _ hI (FR.refl _ w)  o5945.1 o5945.2.1 o5945.2.2.1 o5945.2.2.2.1 o5945.2.2.2.2.1 o5945.2.2.2.2.2
                · have o5946 : (0 ≤ (1 : Int32).toInt) ∧ ((1 : Int32).toInt ≤ 1) ∧ ((1 : Int32).toInt = 0 ∨ 2 ≤ (w.1 60 a0.toInt.toNat).toInt ∨ (0 ≤ (w.1 57 a0.toInt.toNat).toInt ∧ (w.1 57 a0.toInt.toNat).toInt < (w.1 8 0).toInt ∧ 0 ≤ (w.1 58 a0.toInt.toNat).toInt ∧ (w.1 58 a0.toInt.toNat).toInt < (w.1 8 0).toInt)) ∧ ((1 : Int32).toInt = 0 ∨ ¬ (w.1 60 a0.toInt.toNat).toInt = 2 ∨ (0 ≤ (w.1 57 a0.toInt.toNat).toInt ∧ (w.1 57 a0.toInt.toNat).toInt < (w.1 8 0).toInt)) ∧ ((1 : Int32).toInt = 0 ∨ (w.1 60 a0.toInt.toNat).toInt ≤ 2 ∨ (0 ≤ (w.1 57 a0.toInt.toNat).toInt ∧ (w.1 57 a0.toInt.toNat).toInt < (w.1 8 0).toInt + (w.1 8 1).toInt)) ∧ ((1 : Int32).toInt = 0 ∨ 0 ≤ (w.1 60 a0.toInt.toNat).toInt) := by have := (by decide : ((1 : Int32)).toInt = 1); have := bd_8_0 hI; have := bd_60 hI a0.toInt.toNat; have := bd_8_1 hI; have := (by decide : ((0 : Int32)).toInt = 0); have := hf_AC a0; exact ⟨by omega, by omega, by omega, by omega, by omega, by omega⟩
                  exact hQ _ _ hI (FR.refl _ w)  o5946.1 o5946.2.1 o5946.2.2.1 o5946.2.2.2.1 o5946.2.2.2.2.1 o5946.2.2.2.2.2
  · refine ⟨fun h5947 => ?_, fun h5947 => ?_⟩
    · have o5948 : 0 ≤ a0.toInt ∧ a0.toInt < 32 := by omega
      refine ⟨o5948, ?_⟩
      refine Eq.mpr (p_St_isTank.eq_1 _ _ _) ?_
      refine ⟨fun h5949 => ?_, fun h5949 => ?_⟩
      · refine ⟨fun _ => ?_, fun h => absurd (by decide) h⟩
        have o5950 : (0 ≤ (0 : Int32).toInt) ∧ ((0 : Int32).toInt ≤ 1) ∧ ((0 : Int32).toInt = 0 ∨ 2 ≤ (w.1 60 a0.toInt.toNat).toInt ∨ (0 ≤ (w.1 57 a0.toInt.toNat).toInt ∧ (w.1 57 a0.toInt.toNat).toInt < (w.1 8 0).toInt ∧ 0 ≤ (w.1 58 a0.toInt.toNat).toInt ∧ (w.1 58 a0.toInt.toNat).toInt < (w.1 8 0).toInt)) ∧ ((0 : Int32).toInt = 0 ∨ ¬ (w.1 60 a0.toInt.toNat).toInt = 2 ∨ (0 ≤ (w.1 57 a0.toInt.toNat).toInt ∧ (w.1 57 a0.toInt.toNat).toInt < (w.1 8 0).toInt)) ∧ ((0 : Int32).toInt = 0 ∨ (w.1 60 a0.toInt.toNat).toInt ≤ 2 ∨ (0 ≤ (w.1 57 a0.toInt.toNat).toInt ∧ (w.1 57 a0.toInt.toNat).toInt < (w.1 8 0).toInt + (w.1 8 1).toInt)) ∧ ((0 : Int32).toInt = 0 ∨ 0 ≤ (w.1 60 a0.toInt.toNat).toInt) := by have := (by decide : ((0 : Int32)).toInt = 0); have := bd_8_0 hI; have := bd_60 hI a0.toInt.toNat; have := bd_8_1 hI; have := (by decide : ((1 : Int32)).toInt = 1); have := hf_AC a0; exact ⟨by omega, by omega, by omega, by omega, by omega, by omega⟩
        exact hQ _ _ hI (FR.refl _ w)  o5950.1 o5950.2.1 o5950.2.2.1 o5950.2.2.2.1 o5950.2.2.2.2.1 o5950.2.2.2.2.2
      · refine ⟨hr_7_0, ?_⟩
        refine ⟨fun h5951 => ?_, fun h5951 => ?_⟩
        · refine ⟨fun _ => ?_, fun h => absurd (by decide) h⟩
          have o5952 : (0 ≤ (0 : Int32).toInt) ∧ ((0 : Int32).toInt ≤ 1) ∧ ((0 : Int32).toInt = 0 ∨ 2 ≤ (w.1 60 a0.toInt.toNat).toInt ∨ (0 ≤ (w.1 57 a0.toInt.toNat).toInt ∧ (w.1 57 a0.toInt.toNat).toInt < (w.1 8 0).toInt ∧ 0 ≤ (w.1 58 a0.toInt.toNat).toInt ∧ (w.1 58 a0.toInt.toNat).toInt < (w.1 8 0).toInt)) ∧ ((0 : Int32).toInt = 0 ∨ ¬ (w.1 60 a0.toInt.toNat).toInt = 2 ∨ (0 ≤ (w.1 57 a0.toInt.toNat).toInt ∧ (w.1 57 a0.toInt.toNat).toInt < (w.1 8 0).toInt)) ∧ ((0 : Int32).toInt = 0 ∨ (w.1 60 a0.toInt.toNat).toInt ≤ 2 ∨ (0 ≤ (w.1 57 a0.toInt.toNat).toInt ∧ (w.1 57 a0.toInt.toNat).toInt < (w.1 8 0).toInt + (w.1 8 1).toInt)) ∧ ((0 : Int32).toInt = 0 ∨ 0 ≤ (w.1 60 a0.toInt.toNat).toInt) := by have := (by decide : ((0 : Int32)).toInt = 0); have := bd_8_0 hI; have := bd_60 hI a0.toInt.toNat; have := bd_8_1 hI; have := (by decide : ((1 : Int32)).toInt = 1); have := hf_AC a0; exact ⟨by omega, by omega, by omega, by omega, by omega, by omega⟩
          exact hQ _ _ hI (FR.refl _ w)  o5952.1 o5952.2.1 o5952.2.2.1 o5952.2.2.2.1 o5952.2.2.2.2.1 o5952.2.2.2.2.2
        · refine ⟨hr_7_0, ?_⟩
          have o5953 : 0 ≤ (w.1 57 a0.toInt.toNat).toInt ∧ (w.1 57 a0.toInt.toNat).toInt < 20 := by have := (by decide : ((0 : Int32)).toInt = 0); have := bd_8_0 hI; omega
          refine ⟨o5953, ?_⟩
          refine ⟨fun h5954 => ?_, fun h5954 => ?_⟩
          · refine ⟨fun _ => ?_, fun h => absurd (by decide) h⟩
            have o5955 : (0 ≤ (0 : Int32).toInt) ∧ ((0 : Int32).toInt ≤ 1) ∧ ((0 : Int32).toInt = 0 ∨ 2 ≤ (w.1 60 a0.toInt.toNat).toInt ∨ (0 ≤ (w.1 57 a0.toInt.toNat).toInt ∧ (w.1 57 a0.toInt.toNat).toInt < (w.1 8 0).toInt ∧ 0 ≤ (w.1 58 a0.toInt.toNat).toInt ∧ (w.1 58 a0.toInt.toNat).toInt < (w.1 8 0).toInt)) ∧ ((0 : Int32).toInt = 0 ∨ ¬ (w.1 60 a0.toInt.toNat).toInt = 2 ∨ (0 ≤ (w.1 57 a0.toInt.toNat).toInt ∧ (w.1 57 a0.toInt.toNat).toInt < (w.1 8 0).toInt)) ∧ ((0 : Int32).toInt = 0 ∨ (w.1 60 a0.toInt.toNat).toInt ≤ 2 ∨ (0 ≤ (w.1 57 a0.toInt.toNat).toInt ∧ (w.1 57 a0.toInt.toNat).toInt < (w.1 8 0).toInt + (w.1 8 1).toInt)) ∧ ((0 : Int32).toInt = 0 ∨ 0 ≤ (w.1 60 a0.toInt.toNat).toInt) := by have := (by decide : ((0 : Int32)).toInt = 0); have := bd_8_0 hI; have := bd_60 hI a0.toInt.toNat; have := bd_8_1 hI; have := (by decide : ((1 : Int32)).toInt = 1); have := hf_AC a0; exact ⟨by omega, by omega, by omega, by omega, by omega, by omega⟩
            exact hQ _ _ hI (FR.refl _ w)  o5955.1 o5955.2.1 o5955.2.2.1 o5955.2.2.2.1 o5955.2.2.2.2.1 o5955.2.2.2.2.2
          · refine ⟨fun h => absurd h (by decide), fun _ => ?_⟩
            have o5956 : 0 ≤ a0.toInt ∧ a0.toInt < 32 := by omega
            refine ⟨o5956, ?_⟩
            refine Eq.mpr (p_St_isTank.eq_1 _ _ _) ?_
            refine ⟨fun h5957 => ?_, fun h5957 => ?_⟩
            · refine ⟨fun _ => ?_, fun h => absurd (by decide) h⟩
              have o5958 : (0 ≤ (0 : Int32).toInt) ∧ ((0 : Int32).toInt ≤ 1) ∧ ((0 : Int32).toInt = 0 ∨ 2 ≤ (w.1 60 a0.toInt.toNat).toInt ∨ (0 ≤ (w.1 57 a0.toInt.toNat).toInt ∧ (w.1 57 a0.toInt.toNat).toInt < (w.1 8 0).toInt ∧ 0 ≤ (w.1 58 a0.toInt.toNat).toInt ∧ (w.1 58 a0.toInt.toNat).toInt < (w.1 8 0).toInt)) ∧ ((0 : Int32).toInt = 0 ∨ ¬ (w.1 60 a0.toInt.toNat).toInt = 2 ∨ (0 ≤ (w.1 57 a0.toInt.toNat).toInt ∧ (w.1 57 a0.toInt.toNat).toInt < (w.1 8 0).toInt)) ∧ ((0 : Int32).toInt = 0 ∨ (w.1 60 a0.toInt.toNat).toInt ≤ 2 ∨ (0 ≤ (w.1 57 a0.toInt.toNat).toInt ∧ (w.1 57 a0.toInt.toNat).toInt < (w.1 8 0).toInt + (w.1 8 1).toInt)) ∧ ((0 : Int32).toInt = 0 ∨ 0 ≤ (w.1 60 a0.toInt.toNat).toInt) := by have := (by decide : ((0 : Int32)).toInt = 0); have := bd_8_0 hI; have := bd_60 hI a0.toInt.toNat; have := bd_8_1 hI; have := (by decide : ((1 : Int32)).toInt = 1); have := hf_AC a0; exact ⟨by omega, by omega, by omega, by omega, by omega, by omega⟩
              exact hQ _ _ hI (FR.refl _ w)  o5958.1 o5958.2.1 o5958.2.2.1 o5958.2.2.2.1 o5958.2.2.2.2.1 o5958.2.2.2.2.2
            · refine ⟨hr_7_0, ?_⟩
              refine ⟨fun h5959 => ?_, fun h5959 => ?_⟩
              · refine ⟨fun _ => ?_, fun h => absurd (by decide) h⟩
                have o5960 : (0 ≤ (0 : Int32).toInt) ∧ ((0 : Int32).toInt ≤ 1) ∧ ((0 : Int32).toInt = 0 ∨ 2 ≤ (w.1 60 a0.toInt.toNat).toInt ∨ (0 ≤ (w.1 57 a0.toInt.toNat).toInt ∧ (w.1 57 a0.toInt.toNat).toInt < (w.1 8 0).toInt ∧ 0 ≤ (w.1 58 a0.toInt.toNat).toInt ∧ (w.1 58 a0.toInt.toNat).toInt < (w.1 8 0).toInt)) ∧ ((0 : Int32).toInt = 0 ∨ ¬ (w.1 60 a0.toInt.toNat).toInt = 2 ∨ (0 ≤ (w.1 57 a0.toInt.toNat).toInt ∧ (w.1 57 a0.toInt.toNat).toInt < (w.1 8 0).toInt)) ∧ ((0 : Int32).toInt = 0 ∨ (w.1 60 a0.toInt.toNat).toInt ≤ 2 ∨ (0 ≤ (w.1 57 a0.toInt.toNat).toInt ∧ (w.1 57 a0.toInt.toNat).toInt < (w.1 8 0).toInt + (w.1 8 1).toInt)) ∧ ((0 : Int32).toInt = 0 ∨ 0 ≤ (w.1 60 a0.toInt.toNat).toInt) := by have := (by decide : ((0 : Int32)).toInt = 0); have := bd_8_0 hI; have := bd_60 hI a0.toInt.toNat; have := bd_8_1 hI; have := (by decide : ((1 : Int32)).toInt = 1); have := hf_AC a0; exact ⟨by omega, by omega, by omega, by omega, by omega, by omega⟩
                exact hQ _ _ hI (FR.refl _ w)  o5960.1 o5960.2.1 o5960.2.2.1 o5960.2.2.2.1 o5960.2.2.2.2.1 o5960.2.2.2.2.2
              · refine ⟨hr_7_0, ?_⟩
                have o5961 : 0 ≤ (w.1 58 a0.toInt.toNat).toInt ∧ (w.1 58 a0.toInt.toNat).toInt < 20 := by have := bd_60 hI a0.toInt.toNat; have := (by decide : ((0 : Int32)).toInt = 0); have := bd_8_0 hI; have := hf_AC a0; omega
                refine ⟨o5961, ?_⟩
                refine ⟨fun h5962 => ?_, fun h5962 => ?_⟩
                · refine ⟨fun _ => ?_, fun h => absurd (by decide) h⟩
                  have o5963 : (0 ≤ (0 : Int32).toInt) ∧ ((0 : Int32).toInt ≤ 1) ∧ ((0 : Int32).toInt = 0 ∨ 2 ≤ (w.1 60 a0.toInt.toNat).toInt ∨ (0 ≤ (w.1 57 a0.toInt.toNat).toInt ∧ (w.1 57 a0.toInt.toNat).toInt < (w.1 8 0).toInt ∧ 0 ≤ (w.1 58 a0.toInt.toNat).toInt ∧ (w.1 58 a0.toInt.toNat).toInt < (w.1 8 0).toInt)) ∧ ((0 : Int32).toInt = 0 ∨ ¬ (w.1 60 a0.toInt.toNat).toInt = 2 ∨ (0 ≤ (w.1 57 a0.toInt.toNat).toInt ∧ (w.1 57 a0.toInt.toNat).toInt < (w.1 8 0).toInt)) ∧ ((0 : Int32).toInt = 0 ∨ (w.1 60 a0.toInt.toNat).toInt ≤ 2 ∨ (0 ≤ (w.1 57 a0.toInt.toNat).toInt ∧ (w.1 57 a0.toInt.toNat).toInt < (w.1 8 0).toInt + (w.1 8 1).toInt)) ∧ ((0 : Int32).toInt = 0 ∨ 0 ≤ (w.1 60 a0.toInt.toNat).toInt) := by have := (by decide : ((0 : Int32)).toInt = 0); have := bd_8_0 hI; have := bd_60 hI a0.toInt.toNat; have := bd_8_1 hI; have := (by decide : ((1 : Int32)).toInt = 1); have := hf_AC a0; exact ⟨by omega, by omega, by omega, by omega, by omega, by omega⟩
                  exact hQ _ _ hI (FR.refl _ w)  o5963.1 o5963.2.1 o5963.2.2.1 o5963.2.2.2.1 o5963.2.2.2.2.1 o5963.2.2.2.2.2
                · refine ⟨fun h => absurd h (by decide), fun _ => ?_⟩
                  have o5964 : 0 ≤ a0.toInt ∧ a0.toInt < 32 := by have := bd_60 hI a0.toInt.toNat; have := (by decide : ((0 : Int32)).toInt = 0); have := bd_8_0 hI; have := hf_AC a0; omega
                  refine ⟨o5964, ?_⟩
                  have o5965 : 0 ≤ a0.toInt ∧ a0.toInt < 32 := by have := bd_60 hI a0.toInt.toNat; have := (by decide : ((0 : Int32)).toInt = 0); have := bd_8_0 hI; have := hf_AC a0; omega
                  refine ⟨o5965, ?_⟩
                  refine ⟨fun h5966 => ?_, fun h5966 => ?_⟩
                  · have o5967 : (0 ≤ (0 : Int32).toInt) ∧ ((0 : Int32).toInt ≤ 1) ∧ ((0 : Int32).toInt = 0 ∨ 2 ≤ (w.1 60 a0.toInt.toNat).toInt ∨ (0 ≤ (w.1 57 a0.toInt.toNat).toInt ∧ (w.1 57 a0.toInt.toNat).toInt < (w.1 8 0).toInt ∧ 0 ≤ (w.1 58 a0.toInt.toNat).toInt ∧ (w.1 58 a0.toInt.toNat).toInt < (w.1 8 0).toInt)) ∧ ((0 : Int32).toInt = 0 ∨ ¬ (w.1 60 a0.toInt.toNat).toInt = 2 ∨ (0 ≤ (w.1 57 a0.toInt.toNat).toInt ∧ (w.1 57 a0.toInt.toNat).toInt < (w.1 8 0).toInt)) ∧ ((0 : Int32).toInt = 0 ∨ (w.1 60 a0.toInt.toNat).toInt ≤ 2 ∨ (0 ≤ (w.1 57 a0.toInt.toNat).toInt ∧ (w.1 57 a0.toInt.toNat).toInt < (w.1 8 0).toInt + (w.1 8 1).toInt)) ∧ ((0 : Int32).toInt = 0 ∨ 0 ≤ (w.1 60 a0.toInt.toNat).toInt) := by have := (by decide : ((0 : Int32)).toInt = 0); have := bd_8_0 hI; have := bd_60 hI a0.toInt.toNat; have := bd_8_1 hI; have := (by decide : ((1 : Int32)).toInt = 1); have := hf_AC a0; exact ⟨by omega, by omega, by omega, by omega, by omega, by omega⟩
                    exact hQ _ _ hI (FR.refl _ w)  o5967.1 o5967.2.1 o5967.2.2.1 o5967.2.2.2.1 o5967.2.2.2.2.1 o5967.2.2.2.2.2
                  · have o5968 : (0 ≤ (1 : Int32).toInt) ∧ ((1 : Int32).toInt ≤ 1) ∧ ((1 : Int32).toInt = 0 ∨ 2 ≤ (w.1 60 a0.toInt.toNat).toInt ∨ (0 ≤ (w.1 57 a0.toInt.toNat).toInt ∧ (w.1 57 a0.toInt.toNat).toInt < (w.1 8 0).toInt ∧ 0 ≤ (w.1 58 a0.toInt.toNat).toInt ∧ (w.1 58 a0.toInt.toNat).toInt < (w.1 8 0).toInt)) ∧ ((1 : Int32).toInt = 0 ∨ ¬ (w.1 60 a0.toInt.toNat).toInt = 2 ∨ (0 ≤ (w.1 57 a0.toInt.toNat).toInt ∧ (w.1 57 a0.toInt.toNat).toInt < (w.1 8 0).toInt)) ∧ ((1 : Int32).toInt = 0 ∨ (w.1 60 a0.toInt.toNat).toInt ≤ 2 ∨ (0 ≤ (w.1 57 a0.toInt.toNat).toInt ∧ (w.1 57 a0.toInt.toNat).toInt < (w.1 8 0).toInt + (w.1 8 1).toInt)) ∧ ((1 : Int32).toInt = 0 ∨ 0 ≤ (w.1 60 a0.toInt.toNat).toInt) := by have := (by decide : ((1 : Int32)).toInt = 1); have := bd_8_0 hI; have := bd_60 hI a0.toInt.toNat; have := bd_8_1 hI; have := (by decide : ((0 : Int32)).toInt = 0); have := hf_AC a0; exact ⟨by omega, by omega, by omega, by omega, by omega, by omega⟩
                    exact hQ _ _ hI (FR.refl _ w)  o5968.1 o5968.2.1 o5968.2.2.1 o5968.2.2.2.1 o5968.2.2.2.2.1 o5968.2.2.2.2.2
    · refine ⟨fun h5969 => ?_, fun h5969 => ?_⟩
      · have o5970 : 0 ≤ a0.toInt ∧ a0.toInt < 32 := by omega
        refine ⟨o5970, ?_⟩
        refine Eq.mpr (p_St_isValve.eq_1 _ _ _) ?_
        refine ⟨fun h5971 => ?_, fun h5971 => ?_⟩
        · have o5972 : (0 ≤ (0 : Int32).toInt) ∧ ((0 : Int32).toInt ≤ 1) ∧ ((0 : Int32).toInt = 0 ∨ 2 ≤ (w.1 60 a0.toInt.toNat).toInt ∨ (0 ≤ (w.1 57 a0.toInt.toNat).toInt ∧ (w.1 57 a0.toInt.toNat).toInt < (w.1 8 0).toInt ∧ 0 ≤ (w.1 58 a0.toInt.toNat).toInt ∧ (w.1 58 a0.toInt.toNat).toInt < (w.1 8 0).toInt)) ∧ ((0 : Int32).toInt = 0 ∨ ¬ (w.1 60 a0.toInt.toNat).toInt = 2 ∨ (0 ≤ (w.1 57 a0.toInt.toNat).toInt ∧ (w.1 57 a0.toInt.toNat).toInt < (w.1 8 0).toInt)) ∧ ((0 : Int32).toInt = 0 ∨ (w.1 60 a0.toInt.toNat).toInt ≤ 2 ∨ (0 ≤ (w.1 57 a0.toInt.toNat).toInt ∧ (w.1 57 a0.toInt.toNat).toInt < (w.1 8 0).toInt + (w.1 8 1).toInt)) ∧ ((0 : Int32).toInt = 0 ∨ 0 ≤ (w.1 60 a0.toInt.toNat).toInt) := by have := (by decide : ((0 : Int32)).toInt = 0); have := bd_8_0 hI; have := bd_60 hI a0.toInt.toNat; have := bd_8_1 hI; have := (by decide : ((1 : Int32)).toInt = 1); have := (by decide : ((2 : Int32)).toInt = 2); have := hf_AC a0; exact ⟨by omega, by omega, by omega, by omega, by omega, by omega⟩
          exact hQ _ _ hI (FR.refl _ w)  o5972.1 o5972.2.1 o5972.2.2.1 o5972.2.2.2.1 o5972.2.2.2.2.1 o5972.2.2.2.2.2
        · refine ⟨hr_7_0, ?_⟩
          refine ⟨fun h5973 => ?_, fun h5973 => ?_⟩
          · have o5974 : (0 ≤ (0 : Int32).toInt) ∧ ((0 : Int32).toInt ≤ 1) ∧ ((0 : Int32).toInt = 0 ∨ 2 ≤ (w.1 60 a0.toInt.toNat).toInt ∨ (0 ≤ (w.1 57 a0.toInt.toNat).toInt ∧ (w.1 57 a0.toInt.toNat).toInt < (w.1 8 0).toInt ∧ 0 ≤ (w.1 58 a0.toInt.toNat).toInt ∧ (w.1 58 a0.toInt.toNat).toInt < (w.1 8 0).toInt)) ∧ ((0 : Int32).toInt = 0 ∨ ¬ (w.1 60 a0.toInt.toNat).toInt = 2 ∨ (0 ≤ (w.1 57 a0.toInt.toNat).toInt ∧ (w.1 57 a0.toInt.toNat).toInt < (w.1 8 0).toInt)) ∧ ((0 : Int32).toInt = 0 ∨ (w.1 60 a0.toInt.toNat).toInt ≤ 2 ∨ (0 ≤ (w.1 57 a0.toInt.toNat).toInt ∧ (w.1 57 a0.toInt.toNat).toInt < (w.1 8 0).toInt + (w.1 8 1).toInt)) ∧ ((0 : Int32).toInt = 0 ∨ 0 ≤ (w.1 60 a0.toInt.toNat).toInt) := by have := (by decide : ((0 : Int32)).toInt = 0); have := bd_8_0 hI; have := bd_60 hI a0.toInt.toNat; have := bd_8_1 hI; have := (by decide : ((1 : Int32)).toInt = 1); have := (by decide : ((2 : Int32)).toInt = 2); have := hf_AC a0; exact ⟨by omega, by omega, by omega, by omega, by omega, by omega⟩
            exact hQ _ _ hI (FR.refl _ w)  o5974.1 o5974.2.1 o5974.2.2.1 o5974.2.2.2.1 o5974.2.2.2.2.1 o5974.2.2.2.2.2
          · refine ⟨hr_7_0, ?_⟩
            have o5975 : 0 ≤ (w.1 57 a0.toInt.toNat).toInt ∧ (w.1 57 a0.toInt.toNat).toInt < 20 := by have := (by decide : ((0 : Int32)).toInt = 0); have := bd_8_0 hI; omega
            refine ⟨o5975, ?_⟩
            refine ⟨fun h5976 => ?_, fun h5976 => ?_⟩
            · have o5977 : (0 ≤ (0 : Int32).toInt) ∧ ((0 : Int32).toInt ≤ 1) ∧ ((0 : Int32).toInt = 0 ∨ 2 ≤ (w.1 60 a0.toInt.toNat).toInt ∨ (0 ≤ (w.1 57 a0.toInt.toNat).toInt ∧ (w.1 57 a0.toInt.toNat).toInt < (w.1 8 0).toInt ∧ 0 ≤ (w.1 58 a0.toInt.toNat).toInt ∧ (w.1 58 a0.toInt.toNat).toInt < (w.1 8 0).toInt)) ∧ ((0 : Int32).toInt = 0 ∨ ¬ (w.1 60 a0.toInt.toNat).toInt = 2 ∨ (0 ≤ (w.1 57 a0.toInt.toNat).toInt ∧ (w.1 57 a0.toInt.toNat).toInt < (w.1 8 0).toInt)) ∧ ((0 : Int32).toInt = 0 ∨ (w.1 60 a0.toInt.toNat).toInt ≤ 2 ∨ (0 ≤ (w.1 57 a0.toInt.toNat).toInt ∧ (w.1 57 a0.toInt.toNat).toInt < (w.1 8 0).toInt + (w.1 8 1).toInt)) ∧ ((0 : Int32).toInt = 0 ∨ 0 ≤ (w.1 60 a0.toInt.toNat).toInt) := by have := (by decide : ((0 : Int32)).toInt = 0); have := bd_8_0 hI; have := bd_60 hI a0.toInt.toNat; have := bd_8_1 hI; have := (by decide : ((1 : Int32)).toInt = 1); have := (by decide : ((2 : Int32)).toInt = 2); have := hf_AC a0; exact ⟨by omega, by omega, by omega, by omega, by omega, by omega⟩
              exact hQ _ _ hI (FR.refl _ w)  o5977.1 o5977.2.1 o5977.2.2.1 o5977.2.2.2.1 o5977.2.2.2.2.1 o5977.2.2.2.2.2
            · have o5978 : (0 ≤ (1 : Int32).toInt) ∧ ((1 : Int32).toInt ≤ 1) ∧ ((1 : Int32).toInt = 0 ∨ 2 ≤ (w.1 60 a0.toInt.toNat).toInt ∨ (0 ≤ (w.1 57 a0.toInt.toNat).toInt ∧ (w.1 57 a0.toInt.toNat).toInt < (w.1 8 0).toInt ∧ 0 ≤ (w.1 58 a0.toInt.toNat).toInt ∧ (w.1 58 a0.toInt.toNat).toInt < (w.1 8 0).toInt)) ∧ ((1 : Int32).toInt = 0 ∨ ¬ (w.1 60 a0.toInt.toNat).toInt = 2 ∨ (0 ≤ (w.1 57 a0.toInt.toNat).toInt ∧ (w.1 57 a0.toInt.toNat).toInt < (w.1 8 0).toInt)) ∧ ((1 : Int32).toInt = 0 ∨ (w.1 60 a0.toInt.toNat).toInt ≤ 2 ∨ (0 ≤ (w.1 57 a0.toInt.toNat).toInt ∧ (w.1 57 a0.toInt.toNat).toInt < (w.1 8 0).toInt + (w.1 8 1).toInt)) ∧ ((1 : Int32).toInt = 0 ∨ 0 ≤ (w.1 60 a0.toInt.toNat).toInt) := by have := (by decide : ((1 : Int32)).toInt = 1); have := bd_8_0 hI; have := bd_60 hI a0.toInt.toNat; have := bd_8_1 hI; have := (by decide : ((0 : Int32)).toInt = 0); have := (by decide : ((2 : Int32)).toInt = 2); have := hf_AC a0; exact ⟨by omega, by omega, by omega, by omega, by omega, by omega⟩
              exact hQ _ _ hI (FR.refl _ w)  o5978.1 o5978.2.1 o5978.2.2.1 o5978.2.2.2.1 o5978.2.2.2.2.1 o5978.2.2.2.2.2
      · refine ⟨fun h5979 => ?_, fun h5979 => ?_⟩
        · have o5980 : 0 ≤ a0.toInt ∧ a0.toInt < 32 := by omega
          refine ⟨o5980, ?_⟩
          refine h_St_isHolder hI hr_7_0  (fun r5984 w5981 hI5982 hL5983 p5985 p5986 p5987 => ?_)
          have hF5988 : FR l_Ac_isBound w w5981 := (FR.refl _ w).tr hL5983 rfl
          have o5989 : (0 ≤ r5984.toInt) ∧ (r5984.toInt ≤ 1) ∧ (r5984.toInt = 0 ∨ 2 ≤ (w.1 60 a0.toInt.toNat).toInt ∨ (0 ≤ (w.1 57 a0.toInt.toNat).toInt ∧ (w.1 57 a0.toInt.toNat).toInt < (w.1 8 0).toInt ∧ 0 ≤ (w.1 58 a0.toInt.toNat).toInt ∧ (w.1 58 a0.toInt.toNat).toInt < (w.1 8 0).toInt)) ∧ (r5984.toInt = 0 ∨ ¬ (w.1 60 a0.toInt.toNat).toInt = 2 ∨ (0 ≤ (w.1 57 a0.toInt.toNat).toInt ∧ (w.1 57 a0.toInt.toNat).toInt < (w.1 8 0).toInt)) ∧ (r5984.toInt = 0 ∨ (w.1 60 a0.toInt.toNat).toInt ≤ 2 ∨ (0 ≤ (w.1 57 a0.toInt.toNat).toInt ∧ (w.1 57 a0.toInt.toNat).toInt < (w.1 8 0).toInt + (w.1 8 1).toInt)) ∧ (r5984.toInt = 0 ∨ 0 ≤ (w.1 60 a0.toInt.toNat).toInt) := by have := bd_8_0 hI; have := bd_60 hI a0.toInt.toNat; have := bd_8_1 hI; have := (by decide : ((0 : Int32)).toInt = 0); have := (by decide : ((1 : Int32)).toInt = 1); have := (by decide : ((2 : Int32)).toInt = 2); have := (by decide : ((3 : Int32)).toInt = 3); have := hf_AC a0; exact ⟨by omega, by omega, by omega, by omega, by omega, by omega⟩
          exact hQ _ _ hI5982 hF5988  o5989.1 o5989.2.1 o5989.2.2.1 o5989.2.2.2.1 o5989.2.2.2.2.1 o5989.2.2.2.2.2
        · refine ⟨fun h5990 => ?_, fun h5990 => ?_⟩
          · have o5991 : 0 ≤ a0.toInt ∧ a0.toInt < 32 := by omega
            refine ⟨o5991, ?_⟩
            refine h_St_isHolder hI hr_7_0  (fun r5995 w5992 hI5993 hL5994 p5996 p5997 p5998 => ?_)
            have hF5999 : FR l_Ac_isBound w w5992 := (FR.refl _ w).tr hL5994 rfl
            have o6000 : (0 ≤ r5995.toInt) ∧ (r5995.toInt ≤ 1) ∧ (r5995.toInt = 0 ∨ 2 ≤ (w.1 60 a0.toInt.toNat).toInt ∨ (0 ≤ (w.1 57 a0.toInt.toNat).toInt ∧ (w.1 57 a0.toInt.toNat).toInt < (w.1 8 0).toInt ∧ 0 ≤ (w.1 58 a0.toInt.toNat).toInt ∧ (w.1 58 a0.toInt.toNat).toInt < (w.1 8 0).toInt)) ∧ (r5995.toInt = 0 ∨ ¬ (w.1 60 a0.toInt.toNat).toInt = 2 ∨ (0 ≤ (w.1 57 a0.toInt.toNat).toInt ∧ (w.1 57 a0.toInt.toNat).toInt < (w.1 8 0).toInt)) ∧ (r5995.toInt = 0 ∨ (w.1 60 a0.toInt.toNat).toInt ≤ 2 ∨ (0 ≤ (w.1 57 a0.toInt.toNat).toInt ∧ (w.1 57 a0.toInt.toNat).toInt < (w.1 8 0).toInt + (w.1 8 1).toInt)) ∧ (r5995.toInt = 0 ∨ 0 ≤ (w.1 60 a0.toInt.toNat).toInt) := by have := bd_8_0 hI; have := bd_60 hI a0.toInt.toNat; have := bd_8_1 hI; have := (by decide : ((0 : Int32)).toInt = 0); have := (by decide : ((1 : Int32)).toInt = 1); have := (by decide : ((2 : Int32)).toInt = 2); have := (by decide : ((3 : Int32)).toInt = 3); have := (by decide : ((4 : Int32)).toInt = 4); have := hf_AC a0; exact ⟨by omega, by omega, by omega, by omega, by omega, by omega⟩
            exact hQ _ _ hI5993 hF5999  o6000.1 o6000.2.1 o6000.2.2.1 o6000.2.2.2.1 o6000.2.2.2.2.1 o6000.2.2.2.2.2
          · have o6001 : (0 ≤ (0 : Int32).toInt) ∧ ((0 : Int32).toInt ≤ 1) ∧ ((0 : Int32).toInt = 0 ∨ 2 ≤ (w.1 60 a0.toInt.toNat).toInt ∨ (0 ≤ (w.1 57 a0.toInt.toNat).toInt ∧ (w.1 57 a0.toInt.toNat).toInt < (w.1 8 0).toInt ∧ 0 ≤ (w.1 58 a0.toInt.toNat).toInt ∧ (w.1 58 a0.toInt.toNat).toInt < (w.1 8 0).toInt)) ∧ ((0 : Int32).toInt = 0 ∨ ¬ (w.1 60 a0.toInt.toNat).toInt = 2 ∨ (0 ≤ (w.1 57 a0.toInt.toNat).toInt ∧ (w.1 57 a0.toInt.toNat).toInt < (w.1 8 0).toInt)) ∧ ((0 : Int32).toInt = 0 ∨ (w.1 60 a0.toInt.toNat).toInt ≤ 2 ∨ (0 ≤ (w.1 57 a0.toInt.toNat).toInt ∧ (w.1 57 a0.toInt.toNat).toInt < (w.1 8 0).toInt + (w.1 8 1).toInt)) ∧ ((0 : Int32).toInt = 0 ∨ 0 ≤ (w.1 60 a0.toInt.toNat).toInt) := by have := (by decide : ((0 : Int32)).toInt = 0); have := bd_8_0 hI; have := bd_60 hI a0.toInt.toNat; have := bd_8_1 hI; have := (by decide : ((1 : Int32)).toInt = 1); have := (by decide : ((2 : Int32)).toInt = 2); have := (by decide : ((3 : Int32)).toInt = 3); have := (by decide : ((4 : Int32)).toInt = 4); have := hf_AC a0; exact ⟨by omega, by omega, by omega, by omega, by omega, by omega⟩
            exact hQ _ _ hI (FR.refl _ w)  o6001.1 o6001.2.1 o6001.2.2.1 o6001.2.2.2.1 o6001.2.2.2.2.1 o6001.2.2.2.2.2
def l_Wa_cheapestEntry_8 : Pl := []
def l_Wa_cheapestEntry : Pl := []
set_option maxRecDepth 20000 in
set_option maxHeartbeats 2000000 in
theorem hq_Wa_cheapestEntry_8 {x8_1 : Int32} {E : Int32 → MW → Prop} {Q : Int32 → MW → Prop} (n : Nat) : ∀ (x8_2 : Int32) (x8_3 : Int32) (x8_4 : Int32) (w : MW), BND w → PL w → w.2.2 7 0 = some 8 → 0 ≤ x8_1.toInt → x8_1.toInt ≤ 19 → (-1) ≤ x8_2.toInt → x8_2.toInt ≤ 47 → x8_3.toInt ≤ 536870912 → 0 ≤ x8_4.toInt → x8_4.toInt ≤ 48 → x8_2.toInt < 0 ∨ x8_2.toInt < 2 * (w.1 8 1).toInt → (48 - x8_4.toInt).toNat < n → (∀ (e8_2 : Int32) (w' : MW), BND w' → FR l_Wa_cheapestEntry_8 w w' → (-1) ≤ e8_2.toInt → e8_2.toInt ≤ 47 → e8_2.toInt < 0 ∨ e8_2.toInt < 2 * (w.1 8 1).toInt → E e8_2 w') → (∀ (r : Int32) (w' : MW), BND w' → FR l_Wa_cheapestEntry_8 w w' → False → Q r w') → q_Wa_cheapestEntry_8 x8_1 E Q n x8_2 x8_3 x8_4 w := by
  induction n with
  | zero => intros; omega
  | succ n ih =>
    intro x8_2 x8_3 x8_4 w hI hf_PL hr_7_0 hp0 hp1 hp2 hp3 hp4 hp5 hp6 hp7 hm hE hQ
    rw [q_Wa_cheapestEntry_8.eq_2]
    refine ⟨hr_7_0, ?_⟩
    refine ⟨fun h6002 => ?_, fun h6002 => ?_⟩
    · have o6003 : ((-1) ≤ x8_2.toInt) ∧ (x8_2.toInt ≤ 47) ∧ (x8_2.toInt < 0 ∨ x8_2.toInt < 2 * (w.1 8 1).toInt) := by have := bd_8_1 hI; have := ti_mul2 (by decide : ((2 : Int32)).toInt = 2) (Eq.refl (w.1 8 1).toInt) (by omega) (by omega); exact ⟨by omega, by omega, by omega⟩
      exact hE _ _ hI (FR.refl _ w) o6003.1 o6003.2.1 o6003.2.2
    · refine ⟨hr_7_0, ?_⟩
      have o6004 : 0 ≤ x8_4.toInt ∧ x8_4.toInt < 48 := by have := bd_8_1 hI; have := ti_mul2 (by decide : ((2 : Int32)).toInt = 2) (Eq.refl (w.1 8 1).toInt) (by omega) (by omega); omega
      refine ⟨o6004, ?_⟩
      refine ⟨fun h6005 => ?_, fun h6005 => ?_⟩
      · have o6006 : (0 ≤ x8_1.toInt) ∧ (x8_1.toInt ≤ 19) ∧ ((-1) ≤ x8_2.toInt) ∧ (x8_2.toInt ≤ 47) ∧ (x8_3.toInt ≤ 536870912) ∧ (0 ≤ (x8_4 + (1 : Int32)).toInt) ∧ ((x8_4 + (1 : Int32)).toInt ≤ 48) ∧ (x8_2.toInt < 0 ∨ x8_2.toInt < 2 * (w.1 8 1).toInt) := by have := bd_8_1 hI; have := bd_8_0 hI; have := bd_13 hI x8_4.toInt.toNat; have := ti_add2 (Eq.refl x8_4.toInt) (by decide : ((1 : Int32)).toInt = 1) (by omega) (by omega); have := ti_mul2 (by decide : ((2 : Int32)).toInt = 2) (Eq.refl (w.1 8 1).toInt) (by omega) (by omega); have := hf_PL x8_4; exact ⟨by omega, by omega, by omega, by omega, by omega, by omega, by omega, by omega⟩
        exact ih _ _ _ w hI hf_PL hr_7_0 o6006.1 o6006.2.1 o6006.2.2.1 o6006.2.2.2.1 o6006.2.2.2.2.1 o6006.2.2.2.2.2.1 o6006.2.2.2.2.2.2.1 o6006.2.2.2.2.2.2.2 (by have := bd_8_1 hI; have := bd_8_0 hI; have := bd_13 hI x8_4.toInt.toNat; have := ti_add2 (Eq.refl x8_4.toInt) (by decide : ((1 : Int32)).toInt = 1) (by omega) (by omega); have := ti_mul2 (by decide : ((2 : Int32)).toInt = 2) (Eq.refl (w.1 8 1).toInt) (by omega) (by omega); have := hf_PL x8_4; omega) (fun e0 w9 hI9 hF9 p0 p1 u0 => hE e0 w9 hI9 ((FR.refl _ w).tr hF9 rfl) p0 p1 (by have := bd_8_1 hI; have := bd_8_0 hI; have := bd_13 hI x8_4.toInt.toNat; have := ti_add2 (Eq.refl x8_4.toInt) (by decide : ((1 : Int32)).toInt = 1) (by omega) (by omega); have := ti_mul2 (by decide : ((2 : Int32)).toInt = 2) (Eq.refl (w.1 8 1).toInt) (by omega) (by omega); have := hf_PL x8_4; omega)) (fun r w9 hI9 hF9 q0 => q0.elim)
      · have o6007 : 0 ≤ x8_4.toInt ∧ x8_4.toInt < 48 := by have := bd_8_1 hI; have := bd_8_0 hI; have := bd_13 hI x8_4.toInt.toNat; have := ti_mul2 (by decide : ((2 : Int32)).toInt = 2) (Eq.refl (w.1 8 1).toInt) (by omega) (by omega); have := hf_PL x8_4; omega
        refine ⟨o6007, ?_⟩
        refine ⟨fun h6008 => ?_, fun h6008 => ?_⟩
        · have o6009 : (0 ≤ x8_1.toInt) ∧ (x8_1.toInt ≤ 19) ∧ ((-1) ≤ x8_2.toInt) ∧ (x8_2.toInt ≤ 47) ∧ (x8_3.toInt ≤ 536870912) ∧ (0 ≤ (x8_4 + (1 : Int32)).toInt) ∧ ((x8_4 + (1 : Int32)).toInt ≤ 48) ∧ (x8_2.toInt < 0 ∨ x8_2.toInt < 2 * (w.1 8 1).toInt) := by have := bd_8_1 hI; have := bd_8_0 hI; have := bd_13 hI x8_4.toInt.toNat; have := ti_add2 (Eq.refl x8_4.toInt) (by decide : ((1 : Int32)).toInt = 1) (by omega) (by omega); have := ti_mul2 (by decide : ((2 : Int32)).toInt = 2) (Eq.refl (w.1 8 1).toInt) (by omega) (by omega); have := hf_PL x8_4; exact ⟨by omega, by omega, by omega, by omega, by omega, by omega, by omega, by omega⟩
          exact ih _ _ _ w hI hf_PL hr_7_0 o6009.1 o6009.2.1 o6009.2.2.1 o6009.2.2.2.1 o6009.2.2.2.2.1 o6009.2.2.2.2.2.1 o6009.2.2.2.2.2.2.1 o6009.2.2.2.2.2.2.2 (by have := bd_8_1 hI; have := bd_8_0 hI; have := bd_13 hI x8_4.toInt.toNat; have := ti_add2 (Eq.refl x8_4.toInt) (by decide : ((1 : Int32)).toInt = 1) (by omega) (by omega); have := ti_mul2 (by decide : ((2 : Int32)).toInt = 2) (Eq.refl (w.1 8 1).toInt) (by omega) (by omega); have := hf_PL x8_4; omega) (fun e0 w9 hI9 hF9 p0 p1 u0 => hE e0 w9 hI9 ((FR.refl _ w).tr hF9 rfl) p0 p1 (by have := bd_8_1 hI; have := bd_8_0 hI; have := bd_13 hI x8_4.toInt.toNat; have := ti_add2 (Eq.refl x8_4.toInt) (by decide : ((1 : Int32)).toInt = 1) (by omega) (by omega); have := ti_mul2 (by decide : ((2 : Int32)).toInt = 2) (Eq.refl (w.1 8 1).toInt) (by omega) (by omega); have := hf_PL x8_4; omega)) (fun r w9 hI9 hF9 q0 => q0.elim)
        · have o6010 : 0 ≤ x8_4.toInt ∧ x8_4.toInt < 48 := by have := bd_8_1 hI; have := bd_8_0 hI; have := bd_13 hI x8_4.toInt.toNat; have := ti_mul2 (by decide : ((2 : Int32)).toInt = 2) (Eq.refl (w.1 8 1).toInt) (by omega) (by omega); have := hf_PL x8_4; omega
          refine ⟨o6010, ?_⟩
          have o6011 : (0 ≤ x8_1.toInt) ∧ (x8_1.toInt ≤ 19) ∧ ((-1) ≤ x8_4.toInt) ∧ (x8_4.toInt ≤ 47) ∧ ((w.1 38 x8_4.toInt.toNat).toInt ≤ 536870912) ∧ (0 ≤ (x8_4 + (1 : Int32)).toInt) ∧ ((x8_4 + (1 : Int32)).toInt ≤ 48) ∧ (x8_4.toInt < 0 ∨ x8_4.toInt < 2 * (w.1 8 1).toInt) := by have := bd_8_1 hI; have := bd_8_0 hI; have := bd_13 hI x8_4.toInt.toNat; have := ti_add2 (Eq.refl x8_4.toInt) (by decide : ((1 : Int32)).toInt = 1) (by omega) (by omega); have := ti_mul2 (by decide : ((2 : Int32)).toInt = 2) (Eq.refl (w.1 8 1).toInt) (by omega) (by omega); have := hf_PL x8_4; exact ⟨by omega, by omega, by omega, by omega, by omega, by omega, by omega, by omega⟩
          exact ih _ _ _ w hI hf_PL hr_7_0 o6011.1 o6011.2.1 o6011.2.2.1 o6011.2.2.2.1 o6011.2.2.2.2.1 o6011.2.2.2.2.2.1 o6011.2.2.2.2.2.2.1 o6011.2.2.2.2.2.2.2 (by have := bd_8_1 hI; have := bd_8_0 hI; have := bd_13 hI x8_4.toInt.toNat; have := ti_add2 (Eq.refl x8_4.toInt) (by decide : ((1 : Int32)).toInt = 1) (by omega) (by omega); have := ti_mul2 (by decide : ((2 : Int32)).toInt = 2) (Eq.refl (w.1 8 1).toInt) (by omega) (by omega); have := hf_PL x8_4; omega) (fun e0 w9 hI9 hF9 p0 p1 u0 => hE e0 w9 hI9 ((FR.refl _ w).tr hF9 rfl) p0 p1 (by have := bd_8_1 hI; have := bd_8_0 hI; have := bd_13 hI x8_4.toInt.toNat; have := ti_add2 (Eq.refl x8_4.toInt) (by decide : ((1 : Int32)).toInt = 1) (by omega) (by omega); have := ti_mul2 (by decide : ((2 : Int32)).toInt = 2) (Eq.refl (w.1 8 1).toInt) (by omega) (by omega); have := hf_PL x8_4; omega)) (fun r w9 hI9 hF9 q0 => q0.elim)
set_option maxRecDepth 20000 in
set_option maxHeartbeats 2000000 in
theorem h_Wa_cheapestEntry {w : MW} {a0 : Int32} {Q : Int32 → MW → Prop} (hI : BND w) (hf_PL : PL w) (hr_7_0 : w.2.2 7 0 = some 8) (hp0 : 0 ≤ a0.toInt) (hp1 : a0.toInt ≤ 19) (hQ : ∀ (r : Int32) (w' : MW), BND w' → FR l_Wa_cheapestEntry w w' → (-1) ≤ r.toInt → r.toInt ≤ 47 → r.toInt < 0 ∨ r.toInt < 2 * (w.1 8 1).toInt → Q r w') : p_Wa_cheapestEntry w a0 Q := by
  refine Eq.mpr (p_Wa_cheapestEntry.eq_1 _ _ _) ?_
  have o6012 : (0 ≤ a0.toInt) ∧ (a0.toInt ≤ 19) ∧ ((-1) ≤ ((-1) : Int32).toInt) ∧ (((-1) : Int32).toInt ≤ 47) ∧ ((536870912 : Int32).toInt ≤ 536870912) ∧ (0 ≤ (0 : Int32).toInt) ∧ ((0 : Int32).toInt ≤ 48) ∧ (((-1) : Int32).toInt < 0 ∨ ((-1) : Int32).toInt < 2 * (w.1 8 1).toInt) := by have := (by decide : (((-1) : Int32)).toInt = (-1)); have := (by decide : ((536870912 : Int32)).toInt = 536870912); have := (by decide : ((0 : Int32)).toInt = 0); have := bd_8_1 hI; exact ⟨by omega, by omega, by omega, by omega, by omega, by omega, by omega, by omega⟩
  refine hq_Wa_cheapestEntry_8 FU _ _ _ w hI hf_PL hr_7_0 o6012.1 o6012.2.1 o6012.2.2.1 o6012.2.2.2.1 o6012.2.2.2.2.1 o6012.2.2.2.2.2.1 o6012.2.2.2.2.2.2.1 o6012.2.2.2.2.2.2.2 (fu_lt (by have := (by decide : (((-1) : Int32)).toInt = (-1)); have := (by decide : ((536870912 : Int32)).toInt = 536870912); have := (by decide : ((0 : Int32)).toInt = 0); omega)) (fun e6016 w6013 hI6014 hL6015 p6017 p6018 p6019 => ?_) (fun r w9 hI9 hF9 q0 => q0.elim)
  have hF6020 : FR l_Wa_cheapestEntry w w6013 := (FR.refl _ w).tr hL6015 rfl
  have o6021 : ((-1) ≤ e6016.toInt) ∧ (e6016.toInt ≤ 47) ∧ (e6016.toInt < 0 ∨ e6016.toInt < 2 * (w.1 8 1).toInt) := by have := bd_8_1 hI; exact ⟨by omega, by omega, by omega⟩
  exact hQ _ _ hI6014 hF6020  o6021.1 o6021.2.1 o6021.2.2
