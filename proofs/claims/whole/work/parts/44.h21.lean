def l_Mo_lasts : Pl := [(177, none)]
set_option maxRecDepth 20000 in
set_option maxHeartbeats 2000000 in
theorem h_Mo_lasts {w : MW} {a0 : Int32} {b0 : Int32} {Q : Int32 → MW → Prop} (hI : BND w)  (hQ : ∀ (r : Int32) (w' : MW), BND w' → FR l_Mo_lasts w w' → 0 ≤ r.toInt → r.toInt ≤ 1 → Q r w') : p_Mo_lasts w a0 b0 Q := by
  refine Eq.mpr (p_Mo_lasts.eq_1 _ _ _ _) ?_
  refine ⟨fun h4787 => ?_, fun h4787 => ?_⟩
  · have o4788 : (0 ≤ (0 : Int32).toInt) ∧ ((0 : Int32).toInt ≤ 1) := by have := (by decide : ((0 : Int32)).toInt = 0); exact ⟨by omega, by omega⟩
    exact hQ _ _ hI (FR.refl _ w)  o4788.1 o4788.2
  · refine ⟨fun h4789 => ?_, fun h4789 => ?_⟩
    · have o4790 : (0 ≤ (0 : Int32).toInt) ∧ ((0 : Int32).toInt ≤ 1) := by have := (by decide : ((0 : Int32)).toInt = 0); exact ⟨by omega, by omega⟩
      exact hQ _ _ hI (FR.refl _ w)  o4790.1 o4790.2
    · refine ⟨fun h4791 => ?_, fun h4791 => ?_⟩
      · have o4792 : (0 ≤ (0 : Int32).toInt) ∧ ((0 : Int32).toInt ≤ 1) := by have := (by decide : ((0 : Int32)).toInt = 0); exact ⟨by omega, by omega⟩
        exact hQ _ _ hI (FR.refl _ w)  o4792.1 o4792.2
      · refine ⟨fun h4793 => ?_, fun h4793 => ?_⟩
        · have o4794 : 0 ≤ a0.toInt ∧ a0.toInt < 6 := by have := (by decide : ((1 : Int32)).toInt = 1); have := (by decide : ((5 : Int32)).toInt = 5); omega
          refine ⟨o4794, ?_⟩
          have o4796 : 0 ≤ b0.toInt ∧ b0.toInt ≤ 1000000 := by have := (by decide : ((0 : Int32)).toInt = 0); have := (by decide : ((1000000 : Int32)).toInt = 1000000); omega
          have hI4795 : BND (sI w 177 a0.toInt.toNat b0) := wbd_177 hI a0.toInt.toNat o4796.1 o4796.2
          have o4797 : (0 ≤ (1 : Int32).toInt) ∧ ((1 : Int32).toInt ≤ 1) := by have := (by decide : ((1 : Int32)).toInt = 1); exact ⟨by omega, by omega⟩
          exact hQ _ _ hI4795 (FR.I (FR.refl _ w) (k := 177) (j := a0.toInt.toNat) (v := b0) rfl)  o4797.1 o4797.2
        · have o4798 : (0 ≤ (0 : Int32).toInt) ∧ ((0 : Int32).toInt ≤ 1) := by have := (by decide : ((0 : Int32)).toInt = 0); exact ⟨by omega, by omega⟩
          exact hQ _ _ hI (FR.refl _ w)  o4798.1 o4798.2
def l_Mo_bind_72 : Pl := [(197, none), (198, none), (199, none), (200, none)]
def l_Mo_bind_53 : Pl := [(197, none), (198, none), (199, none), (200, none)]
def l_Mo_bind_36 : Pl := [(197, none), (198, none), (199, none), (200, none)]
def l_Mo_bind : Pl := [(197, none), (198, none), (199, none), (200, none)]
set_option maxRecDepth 20000 in
set_option maxHeartbeats 2000000 in
theorem h_Mo_bind {w : MW} {a0 : Int32} {b0 : Int32} {c0 : Int32} {e0 : Int32} {f0 : Int32} {Q : Int32 → MW → Prop} (hI : BND w)  (hQ : ∀ (r : Int32) (w' : MW), BND w' → FR l_Mo_bind w w' → 0 ≤ r.toInt → r.toInt ≤ 1 → Q r w') : p_Mo_bind w a0 b0 c0 e0 f0 Q := by
  refine Eq.mpr (p_Mo_bind.eq_1 _ _ _ _ _ _ _) ?_
  refine ⟨fun h4799 => ?_, fun h4799 => ?_⟩
  · have o4800 : (0 ≤ (0 : Int32).toInt) ∧ ((0 : Int32).toInt ≤ 1) := by have := (by decide : ((0 : Int32)).toInt = 0); exact ⟨by omega, by omega⟩
    exact hQ _ _ hI (FR.refl _ w)  o4800.1 o4800.2
  · refine ⟨fun h4801 => ?_, fun h4801 => ?_⟩
    · have o4802 : (0 ≤ (0 : Int32).toInt) ∧ ((0 : Int32).toInt ≤ 1) := by have := (by decide : ((0 : Int32)).toInt = 0); exact ⟨by omega, by omega⟩
      exact hQ _ _ hI (FR.refl _ w)  o4802.1 o4802.2
    · refine ⟨fun h4803 => ?_, fun h4803 => ?_⟩
      · have o4804 : (0 ≤ (0 : Int32).toInt) ∧ ((0 : Int32).toInt ≤ 1) := by have := (by decide : ((0 : Int32)).toInt = 0); exact ⟨by omega, by omega⟩
        exact hQ _ _ hI (FR.refl _ w)  o4804.1 o4804.2
      · refine ⟨fun h4805 => ?_, fun h4805 => ?_⟩
        · have o4806 : (0 ≤ (0 : Int32).toInt) ∧ ((0 : Int32).toInt ≤ 1) := by have := (by decide : ((0 : Int32)).toInt = 0); exact ⟨by omega, by omega⟩
          exact hQ _ _ hI (FR.refl _ w)  o4806.1 o4806.2
        · refine ⟨fun h4807 => ?_, fun h4807 => ?_⟩
          · refine Eq.mpr (q_Mo_bind_36.eq_1 _ _ _ _ _ _ _) ?_
            refine ⟨fun h4808 => ?_, fun h4808 => ?_⟩
            · refine Eq.mpr (q_Mo_bind_53.eq_1 _ _ _ _ _ _ _) ?_
              refine ⟨fun h4809 => ?_, fun h4809 => ?_⟩
              · refine Eq.mpr (q_Mo_bind_72.eq_1 _ _ _ _ _ _ _) ?_
                have o4810 : 0 ≤ a0.toInt ∧ a0.toInt < 32 := by have := (by decide : ((0 : Int32)).toInt = 0); have := (by decide : ((31 : Int32)).toInt = 31); omega
                refine ⟨o4810, ?_⟩
                have o4811 : 0 ≤ a0.toInt ∧ a0.toInt < 32 := by have := (by decide : ((0 : Int32)).toInt = 0); have := (by decide : ((31 : Int32)).toInt = 31); omega
                refine ⟨o4811, ?_⟩
                have o4812 : 0 ≤ a0.toInt ∧ a0.toInt < 32 := by have := (by decide : ((0 : Int32)).toInt = 0); have := (by decide : ((31 : Int32)).toInt = 31); omega
                refine ⟨o4812, ?_⟩
                have o4813 : 0 ≤ a0.toInt ∧ a0.toInt < 32 := by have := (by decide : ((0 : Int32)).toInt = 0); have := (by decide : ((31 : Int32)).toInt = 31); omega
                refine ⟨o4813, ?_⟩
                have o4815 : (-1) ≤ b0.toInt ∧ b0.toInt ≤ 4 := by have := (by decide : ((0 : Int32)).toInt = 0); have := (by decide : ((4 : Int32)).toInt = 4); have := (by decide : ((2 : Int32)).toInt = 2); have := (by decide : ((3 : Int32)).toInt = 3); omega
                have hI4814 : BND (sI w 197 a0.toInt.toNat b0) := wbd_197 hI a0.toInt.toNat o4815.1 o4815.2
                have hI4816 : BND (sI (sI w 197 a0.toInt.toNat b0) 198 a0.toInt.toNat c0) := wbd_198 hI4814 a0.toInt.toNat
                have hI4817 : BND (sI (sI (sI w 197 a0.toInt.toNat b0) 198 a0.toInt.toNat c0) 199 a0.toInt.toNat e0) := wbd_199 hI4816 a0.toInt.toNat
                have hI4818 : BND (sI (sI (sI (sI w 197 a0.toInt.toNat b0) 198 a0.toInt.toNat c0) 199 a0.toInt.toNat e0) 200 a0.toInt.toNat f0) := wbd_200 hI4817 a0.toInt.toNat
                have o4819 : (0 ≤ (1 : Int32).toInt) ∧ ((1 : Int32).toInt ≤ 1) := by have := (by decide : ((1 : Int32)).toInt = 1); exact ⟨by omega, by omega⟩
                exact hQ _ _ hI4818 (FR.I (FR.I (FR.I (FR.I (FR.refl _ w) (k := 197) (j := a0.toInt.toNat) (v := b0) rfl) (k := 198) (j := a0.toInt.toNat) (v := c0) rfl) (k := 199) (j := a0.toInt.toNat) (v := e0) rfl) (k := 200) (j := a0.toInt.toNat) (v := f0) rfl)  o4819.1 o4819.2
              · refine ⟨fun h4820 => ?_, fun h4820 => ?_⟩
                · have o4821 : (0 ≤ (0 : Int32).toInt) ∧ ((0 : Int32).toInt ≤ 1) := by have := (by decide : ((0 : Int32)).toInt = 0); exact ⟨by omega, by omega⟩
                  exact hQ _ _ hI (FR.refl _ w)  o4821.1 o4821.2
                · refine ⟨fun h4822 => ?_, fun h4822 => ?_⟩
                  · refine Eq.mpr (q_Mo_bind_72.eq_1 _ _ _ _ _ _ _) ?_
                    have o4823 : 0 ≤ a0.toInt ∧ a0.toInt < 32 := by have := (by decide : ((0 : Int32)).toInt = 0); have := (by decide : ((31 : Int32)).toInt = 31); omega
                    refine ⟨o4823, ?_⟩
                    have o4824 : 0 ≤ a0.toInt ∧ a0.toInt < 32 := by have := (by decide : ((0 : Int32)).toInt = 0); have := (by decide : ((31 : Int32)).toInt = 31); omega
                    refine ⟨o4824, ?_⟩
                    have o4825 : 0 ≤ a0.toInt ∧ a0.toInt < 32 := by have := (by decide : ((0 : Int32)).toInt = 0); have := (by decide : ((31 : Int32)).toInt = 31); omega
                    refine ⟨o4825, ?_⟩
                    have o4826 : 0 ≤ a0.toInt ∧ a0.toInt < 32 := by have := (by decide : ((0 : Int32)).toInt = 0); have := (by decide : ((31 : Int32)).toInt = 31); omega
                    refine ⟨o4826, ?_⟩
                    have o4828 : (-1) ≤ b0.toInt ∧ b0.toInt ≤ 4 := by have := (by decide : ((0 : Int32)).toInt = 0); have := (by decide : ((4 : Int32)).toInt = 4); have := (by decide : ((2 : Int32)).toInt = 2); have := (by decide : ((3 : Int32)).toInt = 3); omega
                    have hI4827 : BND (sI w 197 a0.toInt.toNat b0) := wbd_197 hI a0.toInt.toNat o4828.1 o4828.2
                    have hI4829 : BND (sI (sI w 197 a0.toInt.toNat b0) 198 a0.toInt.toNat c0) := wbd_198 hI4827 a0.toInt.toNat
                    have hI4830 : BND (sI (sI (sI w 197 a0.toInt.toNat b0) 198 a0.toInt.toNat c0) 199 a0.toInt.toNat e0) := wbd_199 hI4829 a0.toInt.toNat
                    have hI4831 : BND (sI (sI (sI (sI w 197 a0.toInt.toNat b0) 198 a0.toInt.toNat c0) 199 a0.toInt.toNat e0) 200 a0.toInt.toNat f0) := wbd_200 hI4830 a0.toInt.toNat
                    have o4832 : (0 ≤ (1 : Int32).toInt) ∧ ((1 : Int32).toInt ≤ 1) := by have := (by decide : ((1 : Int32)).toInt = 1); exact ⟨by omega, by omega⟩
                    exact hQ _ _ hI4831 (FR.I (FR.I (FR.I (FR.I (FR.refl _ w) (k := 197) (j := a0.toInt.toNat) (v := b0) rfl) (k := 198) (j := a0.toInt.toNat) (v := c0) rfl) (k := 199) (j := a0.toInt.toNat) (v := e0) rfl) (k := 200) (j := a0.toInt.toNat) (v := f0) rfl)  o4832.1 o4832.2
                  · have o4833 : (0 ≤ (0 : Int32).toInt) ∧ ((0 : Int32).toInt ≤ 1) := by have := (by decide : ((0 : Int32)).toInt = 0); exact ⟨by omega, by omega⟩
                    exact hQ _ _ hI (FR.refl _ w)  o4833.1 o4833.2
            · refine ⟨fun h4834 => ?_, fun h4834 => ?_⟩
              · have o4835 : (0 ≤ (0 : Int32).toInt) ∧ ((0 : Int32).toInt ≤ 1) := by have := (by decide : ((0 : Int32)).toInt = 0); exact ⟨by omega, by omega⟩
                exact hQ _ _ hI (FR.refl _ w)  o4835.1 o4835.2
              · refine ⟨fun h4836 => ?_, fun h4836 => ?_⟩
                · have o4837 : (0 ≤ (0 : Int32).toInt) ∧ ((0 : Int32).toInt ≤ 1) := by have := (by decide : ((0 : Int32)).toInt = 0); exact ⟨by omega, by omega⟩
                  exact hQ _ _ hI (FR.refl _ w)  o4837.1 o4837.2
                · refine Eq.mpr (q_Mo_bind_53.eq_1 _ _ _ _ _ _ _) ?_
                  refine ⟨fun h4838 => ?_, fun h4838 => ?_⟩
                  · refine Eq.mpr (q_Mo_bind_72.eq_1 _ _ _ _ _ _ _) ?_
                    have o4839 : 0 ≤ a0.toInt ∧ a0.toInt < 32 := by have := (by decide : ((0 : Int32)).toInt = 0); have := (by decide : ((31 : Int32)).toInt = 31); omega
                    refine ⟨o4839, ?_⟩
                    have o4840 : 0 ≤ a0.toInt ∧ a0.toInt < 32 := by have := (by decide : ((0 : Int32)).toInt = 0); have := (by decide : ((31 : Int32)).toInt = 31); omega
                    refine ⟨o4840, ?_⟩
                    have o4841 : 0 ≤ a0.toInt ∧ a0.toInt < 32 := by have := (by decide : ((0 : Int32)).toInt = 0); have := (by decide : ((31 : Int32)).toInt = 31); omega
                    refine ⟨o4841, ?_⟩
                    have o4842 : 0 ≤ a0.toInt ∧ a0.toInt < 32 := by have := (by decide : ((0 : Int32)).toInt = 0); have := (by decide : ((31 : Int32)).toInt = 31); omega
                    refine ⟨o4842, ?_⟩
                    have o4844 : (-1) ≤ b0.toInt ∧ b0.toInt ≤ 4 := by have := (by decide : ((0 : Int32)).toInt = 0); have := (by decide : ((4 : Int32)).toInt = 4); have := (by decide : ((2 : Int32)).toInt = 2); have := (by decide : ((3 : Int32)).toInt = 3); omega
                    have hI4843 : BND (sI w 197 a0.toInt.toNat b0) := wbd_197 hI a0.toInt.toNat o4844.1 o4844.2
                    have hI4845 : BND (sI (sI w 197 a0.toInt.toNat b0) 198 a0.toInt.toNat c0) := wbd_198 hI4843 a0.toInt.toNat
                    have hI4846 : BND (sI (sI (sI w 197 a0.toInt.toNat b0) 198 a0.toInt.toNat c0) 199 a0.toInt.toNat e0) := wbd_199 hI4845 a0.toInt.toNat
                    have hI4847 : BND (sI (sI (sI (sI w 197 a0.toInt.toNat b0) 198 a0.toInt.toNat c0) 199 a0.toInt.toNat e0) 200 a0.toInt.toNat f0) := wbd_200 hI4846 a0.toInt.toNat
                    have o4848 : (0 ≤ (1 : Int32).toInt) ∧ ((1 : Int32).toInt ≤ 1) := by have := (by decide : ((1 : Int32)).toInt = 1); exact ⟨by omega, by omega⟩
                    exact hQ _ _ hI4847 (FR.I (FR.I (FR.I (FR.I (FR.refl _ w) (k := 197) (j := a0.toInt.toNat) (v := b0) rfl) (k := 198) (j := a0.toInt.toNat) (v := c0) rfl) (k := 199) (j := a0.toInt.toNat) (v := e0) rfl) (k := 200) (j := a0.toInt.toNat) (v := f0) rfl)  o4848.1 o4848.2
                  · exfalso; have := (by decide : ((0 : Int32)).toInt = 0); have := (by decide : ((31 : Int32)).toInt = 31); have := (by decide : ((4 : Int32)).toInt = 4); have := (by decide : ((2 : Int32)).toInt = 2); have := (by decide : ((9 : Int32)).toInt = 9); have := (by decide : ((3 : Int32)).toInt = 3); omega
          · refine ⟨fun h4849 => ?_, fun h4849 => ?_⟩
            · have o4850 : (0 ≤ (0 : Int32).toInt) ∧ ((0 : Int32).toInt ≤ 1) := by have := (by decide : ((0 : Int32)).toInt = 0); exact ⟨by omega, by omega⟩
              exact hQ _ _ hI (FR.refl _ w)  o4850.1 o4850.2
            · refine ⟨fun h4851 => ?_, fun h4851 => ?_⟩
              · have o4852 : (0 ≤ (0 : Int32).toInt) ∧ ((0 : Int32).toInt ≤ 1) := by have := (by decide : ((0 : Int32)).toInt = 0); exact ⟨by omega, by omega⟩
                exact hQ _ _ hI (FR.refl _ w)  o4852.1 o4852.2
              · refine Eq.mpr (q_Mo_bind_36.eq_1 _ _ _ _ _ _ _) ?_
                refine ⟨fun h4853 => ?_, fun h4853 => ?_⟩
                · refine Eq.mpr (q_Mo_bind_53.eq_1 _ _ _ _ _ _ _) ?_
                  refine ⟨fun h4854 => ?_, fun h4854 => ?_⟩
                  · refine Eq.mpr (q_Mo_bind_72.eq_1 _ _ _ _ _ _ _) ?_
                    have o4855 : 0 ≤ a0.toInt ∧ a0.toInt < 32 := by have := (by decide : ((0 : Int32)).toInt = 0); have := (by decide : ((31 : Int32)).toInt = 31); omega
                    refine ⟨o4855, ?_⟩
                    have o4856 : 0 ≤ a0.toInt ∧ a0.toInt < 32 := by have := (by decide : ((0 : Int32)).toInt = 0); have := (by decide : ((31 : Int32)).toInt = 31); omega
                    refine ⟨o4856, ?_⟩
                    have o4857 : 0 ≤ a0.toInt ∧ a0.toInt < 32 := by have := (by decide : ((0 : Int32)).toInt = 0); have := (by decide : ((31 : Int32)).toInt = 31); omega
                    refine ⟨o4857, ?_⟩
                    have o4858 : 0 ≤ a0.toInt ∧ a0.toInt < 32 := by have := (by decide : ((0 : Int32)).toInt = 0); have := (by decide : ((31 : Int32)).toInt = 31); omega
                    refine ⟨o4858, ?_⟩
                    have o4860 : (-1) ≤ b0.toInt ∧ b0.toInt ≤ 4 := by have := (by decide : ((0 : Int32)).toInt = 0); have := (by decide : ((4 : Int32)).toInt = 4); have := (by decide : ((2 : Int32)).toInt = 2); have := (by decide : ((3 : Int32)).toInt = 3); omega
                    have hI4859 : BND (sI w 197 a0.toInt.toNat b0) := wbd_197 hI a0.toInt.toNat o4860.1 o4860.2
                    have hI4861 : BND (sI (sI w 197 a0.toInt.toNat b0) 198 a0.toInt.toNat c0) := wbd_198 hI4859 a0.toInt.toNat
                    have hI4862 : BND (sI (sI (sI w 197 a0.toInt.toNat b0) 198 a0.toInt.toNat c0) 199 a0.toInt.toNat e0) := wbd_199 hI4861 a0.toInt.toNat
                    have hI4863 : BND (sI (sI (sI (sI w 197 a0.toInt.toNat b0) 198 a0.toInt.toNat c0) 199 a0.toInt.toNat e0) 200 a0.toInt.toNat f0) := wbd_200 hI4862 a0.toInt.toNat
                    have o4864 : (0 ≤ (1 : Int32).toInt) ∧ ((1 : Int32).toInt ≤ 1) := by have := (by decide : ((1 : Int32)).toInt = 1); exact ⟨by omega, by omega⟩
                    exact hQ _ _ hI4863 (FR.I (FR.I (FR.I (FR.I (FR.refl _ w) (k := 197) (j := a0.toInt.toNat) (v := b0) rfl) (k := 198) (j := a0.toInt.toNat) (v := c0) rfl) (k := 199) (j := a0.toInt.toNat) (v := e0) rfl) (k := 200) (j := a0.toInt.toNat) (v := f0) rfl)  o4864.1 o4864.2
                  · exfalso; have := (by decide : ((0 : Int32)).toInt = 0); have := (by decide : ((31 : Int32)).toInt = 31); have := (by decide : ((4 : Int32)).toInt = 4); have := (by decide : ((1 : Int32)).toInt = 1); have := (by decide : ((100 : Int32)).toInt = 100); have := (by decide : ((2 : Int32)).toInt = 2); have := (by decide : ((3 : Int32)).toInt = 3); omega
                · exfalso; have := (by decide : ((0 : Int32)).toInt = 0); have := (by decide : ((31 : Int32)).toInt = 31); have := (by decide : ((4 : Int32)).toInt = 4); have := (by decide : ((1 : Int32)).toInt = 1); have := (by decide : ((100 : Int32)).toInt = 100); have := (by decide : ((2 : Int32)).toInt = 2); omega
def l_Mo_isOnWay_34 : Pl := []
def l_Mo_isOnWay_2 : Pl := []
def l_Mo_isOnWay : Pl := []
set_option maxRecDepth 20000 in
set_option maxHeartbeats 2000000 in
theorem hq_Mo_isOnWay_34 {x34_1 : Int32} {x34_2 : Int32} {E : MW → Prop} {Q : Int32 → MW → Prop} (n : Nat) : ∀ (x34_3 : Int32) (w : MW), BND w → 0 ≤ x34_1.toInt → x34_1.toInt ≤ 43 → 0 ≤ x34_2.toInt → x34_2.toInt ≤ 23 → 0 ≤ x34_3.toInt → x34_3.toInt ≤ 24 → (24 - x34_3.toInt).toNat < n → (∀ (w' : MW), BND w' → FR l_Mo_isOnWay_34 w w' → E w') → (∀ (r : Int32) (w' : MW), BND w' → FR l_Mo_isOnWay_34 w w' → 1 ≤ r.toInt → r.toInt ≤ 1 → Q r w') → q_Mo_isOnWay_34 x34_1 x34_2 E Q n x34_3 w := by
  induction n with
  | zero => intros; omega
  | succ n ih =>
    intro x34_3 w hI  hp0 hp1 hp2 hp3 hp4 hp5 hm hE hQ
    rw [q_Mo_isOnWay_34.eq_2]
    have o4865 : 0 ≤ x34_2.toInt ∧ x34_2.toInt < 24 := by omega
    refine ⟨o4865, ?_⟩
    refine ⟨fun h4866 => ?_, fun h4866 => ?_⟩
    · exact hE _ hI (FR.refl _ w)
    · have o4867 : 0 ≤ (((24 : Int32) * x34_2) + x34_3).toInt ∧ (((24 : Int32) * x34_2) + x34_3).toInt < 576 := by have := ti_mul2 (by decide : ((24 : Int32)).toInt = 24) (Eq.refl x34_2.toInt) (by omega) (by omega); have := ti_add2 (Eq.refl ((24 : Int32) * x34_2).toInt) (Eq.refl x34_3.toInt) (by omega) (by omega); have := bd_185 hI x34_2.toInt.toNat; omega
      refine ⟨o4867, ?_⟩
      refine ⟨fun h4868 => ?_, fun h4868 => ?_⟩
      · have o4869 : (0 ≤ x34_1.toInt) ∧ (x34_1.toInt ≤ 43) ∧ (0 ≤ x34_2.toInt) ∧ (x34_2.toInt ≤ 23) ∧ (0 ≤ (x34_3 + (1 : Int32)).toInt) ∧ ((x34_3 + (1 : Int32)).toInt ≤ 24) := by have := ti_add2 (Eq.refl x34_3.toInt) (by decide : ((1 : Int32)).toInt = 1) (by omega) (by omega); have := bd_185 hI x34_2.toInt.toNat; exact ⟨by omega, by omega, by omega, by omega, by omega, by omega⟩
        exact ih _ w hI  o4869.1 o4869.2.1 o4869.2.2.1 o4869.2.2.2.1 o4869.2.2.2.2.1 o4869.2.2.2.2.2 (by have := ti_add2 (Eq.refl x34_3.toInt) (by decide : ((1 : Int32)).toInt = 1) (by omega) (by omega); have := bd_185 hI x34_2.toInt.toNat; omega) (fun w9 hI9 hF9 => hE w9 hI9 ((FR.refl _ w).tr hF9 rfl) ) (fun r w9 hI9 hF9 q0 q1 => hQ r w9 hI9 ((FR.refl _ w).tr hF9 rfl) (by have := ti_add2 (Eq.refl x34_3.toInt) (by decide : ((1 : Int32)).toInt = 1) (by omega) (by omega); have := bd_185 hI x34_2.toInt.toNat; omega) (by have := ti_add2 (Eq.refl x34_3.toInt) (by decide : ((1 : Int32)).toInt = 1) (by omega) (by omega); have := bd_185 hI x34_2.toInt.toNat; omega))
      · have o4870 : (1 ≤ (1 : Int32).toInt) ∧ ((1 : Int32).toInt ≤ 1) := by have := (by decide : ((1 : Int32)).toInt = 1); exact ⟨by omega, by omega⟩
        exact hQ _ _ hI (FR.refl _ w)  o4870.1 o4870.2
set_option maxRecDepth 20000 in
set_option maxHeartbeats 2000000 in
theorem hq_Mo_isOnWay_2 {x2_1 : Int32} {E : MW → Prop} {Q : Int32 → MW → Prop} (n : Nat) : ∀ (x2_2 : Int32) (w : MW), BND w → 0 ≤ x2_1.toInt → x2_1.toInt ≤ 43 → 0 ≤ x2_2.toInt → x2_2.toInt ≤ 24 → (24 - x2_2.toInt).toNat < n → (∀ (w' : MW), BND w' → FR l_Mo_isOnWay_2 w w' → E w') → (∀ (r : Int32) (w' : MW), BND w' → FR l_Mo_isOnWay_2 w w' → 1 ≤ r.toInt → r.toInt ≤ 1 → Q r w') → q_Mo_isOnWay_2 x2_1 E Q n x2_2 w := by
  induction n with
  | zero => intros; omega
  | succ n ih =>
    intro x2_2 w hI  hp0 hp1 hp2 hp3 hm hE hQ
    rw [q_Mo_isOnWay_2.eq_2]
    refine ⟨fun h4871 => ?_, fun h4871 => ?_⟩
    · exact hE _ hI (FR.refl _ w)
    · have o4872 : 0 ≤ x2_2.toInt ∧ x2_2.toInt < 24 := by have := bd_127_26 hI; omega
      refine ⟨o4872, ?_⟩
      refine ⟨fun h4873 => ?_, fun h4873 => ?_⟩
      · have o4874 : (1 ≤ (1 : Int32).toInt) ∧ ((1 : Int32).toInt ≤ 1) := by have := (by decide : ((1 : Int32)).toInt = 1); exact ⟨by omega, by omega⟩
        exact hQ _ _ hI (FR.refl _ w)  o4874.1 o4874.2
      · have o4875 : 0 ≤ x2_2.toInt ∧ x2_2.toInt < 24 := by have := bd_127_26 hI; omega
        refine ⟨o4875, ?_⟩
        refine ⟨fun h4876 => ?_, fun h4876 => ?_⟩
        · have o4877 : (0 ≤ x2_1.toInt) ∧ (x2_1.toInt ≤ 43) ∧ (0 ≤ x2_2.toInt) ∧ (x2_2.toInt ≤ 23) ∧ (0 ≤ (0 : Int32).toInt) ∧ ((0 : Int32).toInt ≤ 24) := by have := (by decide : ((0 : Int32)).toInt = 0); have := bd_127_26 hI; have := bd_181 hI x2_2.toInt.toNat; have := bd_182 hI x2_2.toInt.toNat; exact ⟨by omega, by omega, by omega, by omega, by omega, by omega⟩
          refine hq_Mo_isOnWay_34 FU _ w hI  o4877.1 o4877.2.1 o4877.2.2.1 o4877.2.2.2.1 o4877.2.2.2.2.1 o4877.2.2.2.2.2 (fu_lt (by have := (by decide : ((0 : Int32)).toInt = 0); have := bd_127_26 hI; have := bd_181 hI x2_2.toInt.toNat; have := bd_182 hI x2_2.toInt.toNat; omega)) (fun w4878 hI4879 hL4880  => ?_) (fun r w9 hI9 hF9 q0 q1 => hQ r w9 hI9 (((FR.refl _ w)).tr hF9 rfl) (by have := (by decide : ((0 : Int32)).toInt = 0); have := bd_127_26 hI; have := bd_181 hI x2_2.toInt.toNat; have := bd_182 hI x2_2.toInt.toNat; omega) (by have := (by decide : ((0 : Int32)).toInt = 0); have := bd_127_26 hI; have := bd_181 hI x2_2.toInt.toNat; have := bd_182 hI x2_2.toInt.toNat; omega))
          have hF4881 : FR l_Mo_isOnWay_2 w w4878 := (FR.refl _ w).tr hL4880 rfl
          have o4882 : (0 ≤ x2_1.toInt) ∧ (x2_1.toInt ≤ 43) ∧ (0 ≤ (x2_2 + (1 : Int32)).toInt) ∧ ((x2_2 + (1 : Int32)).toInt ≤ 24) := by have := ti_add2 (Eq.refl x2_2.toInt) (by decide : ((1 : Int32)).toInt = 1) (by omega) (by omega); have := bd_127_26 hI; exact ⟨by omega, by omega, by omega, by omega⟩
          exact ih _ w4878 hI4879  o4882.1 o4882.2.1 o4882.2.2.1 o4882.2.2.2 (by have := ti_add2 (Eq.refl x2_2.toInt) (by decide : ((1 : Int32)).toInt = 1) (by omega) (by omega); have := bd_127_26 hI; omega) (fun w9 hI9 hF9 => hE w9 hI9 (hF4881.tr hF9 rfl) ) (fun r w9 hI9 hF9 q0 q1 => hQ r w9 hI9 (hF4881.tr hF9 rfl) (by have := ti_add2 (Eq.refl x2_2.toInt) (by decide : ((1 : Int32)).toInt = 1) (by omega) (by omega); have := bd_127_26 hI; omega) (by have := ti_add2 (Eq.refl x2_2.toInt) (by decide : ((1 : Int32)).toInt = 1) (by omega) (by omega); have := bd_127_26 hI; omega))
        · have o4883 : (1 ≤ (1 : Int32).toInt) ∧ ((1 : Int32).toInt ≤ 1) := by have := (by decide : ((1 : Int32)).toInt = 1); exact ⟨by omega, by omega⟩
          exact hQ _ _ hI (FR.refl _ w)  o4883.1 o4883.2
set_option maxRecDepth 20000 in
set_option maxHeartbeats 2000000 in
theorem h_Mo_isOnWay {w : MW} {a0 : Int32} {Q : Int32 → MW → Prop} (hI : BND w) (hp0 : 0 ≤ a0.toInt) (hp1 : a0.toInt ≤ 43) (hQ : ∀ (r : Int32) (w' : MW), BND w' → FR l_Mo_isOnWay w w' → 0 ≤ r.toInt → r.toInt ≤ 1 → Q r w') : p_Mo_isOnWay w a0 Q := by
  refine Eq.mpr (p_Mo_isOnWay.eq_1 _ _ _) ?_
  have o4884 : (0 ≤ a0.toInt) ∧ (a0.toInt ≤ 43) ∧ (0 ≤ (0 : Int32).toInt) ∧ ((0 : Int32).toInt ≤ 24) := by have := (by decide : ((0 : Int32)).toInt = 0); exact ⟨by omega, by omega, by omega, by omega⟩
  refine hq_Mo_isOnWay_2 FU _ w hI  o4884.1 o4884.2.1 o4884.2.2.1 o4884.2.2.2 (fu_lt (by have := (by decide : ((0 : Int32)).toInt = 0); omega)) (fun w4885 hI4886 hL4887  => ?_) (fun r w9 hI9 hF9 q0 q1 => hQ r w9 hI9 (((FR.refl _ w)).tr hF9 rfl) (by have := (by decide : ((0 : Int32)).toInt = 0); omega) (by have := (by decide : ((0 : Int32)).toInt = 0); omega))
  have hF4888 : FR l_Mo_isOnWay w w4885 := (FR.refl _ w).tr hL4887 rfl
  have o4889 : (0 ≤ (0 : Int32).toInt) ∧ ((0 : Int32).toInt ≤ 1) := by have := (by decide : ((0 : Int32)).toInt = 0); exact ⟨by omega, by omega⟩
  exact hQ _ _ hI4886 hF4888  o4889.1 o4889.2
def l_Mo_openWay_2 : Pl := []
def l_Mo_openWay : Pl := []
set_option maxRecDepth 20000 in
set_option maxHeartbeats 2000000 in
theorem hq_Mo_openWay_2 {x2_1 : Int32} {x2_2 : Int32} {E : MW → Prop} {Q : Int32 → MW → Prop} (n : Nat) : ∀ (x2_3 : Int32) (w : MW), BND w → 0 ≤ x2_3.toInt → x2_3.toInt ≤ 24 → (24 - x2_3.toInt).toNat < n → (∀ (w' : MW), BND w' → FR l_Mo_openWay_2 w w' → E w') → (∀ (r : Int32) (w' : MW), BND w' → FR l_Mo_openWay_2 w w' → 0 ≤ r.toInt → r.toInt ≤ 23 → Q r w') → q_Mo_openWay_2 x2_1 x2_2 E Q n x2_3 w := by
  induction n with
  | zero => intros; omega
  | succ n ih =>
    intro x2_3 w hI  hp0 hp1 hm hE hQ
    rw [q_Mo_openWay_2.eq_2]
    refine ⟨fun h4890 => ?_, fun h4890 => ?_⟩
    · exact hE _ hI (FR.refl _ w)
    · have o4891 : 0 ≤ x2_3.toInt ∧ x2_3.toInt < 24 := by have := bd_127_26 hI; omega
      refine ⟨o4891, ?_⟩
      refine ⟨fun h4892 => ?_, fun h4892 => ?_⟩
      · have o4893 : (0 ≤ (x2_3 + (1 : Int32)).toInt) ∧ ((x2_3 + (1 : Int32)).toInt ≤ 24) := by have := ti_add2 (Eq.refl x2_3.toInt) (by decide : ((1 : Int32)).toInt = 1) (by omega) (by omega); have := bd_127_26 hI; exact ⟨by omega, by omega⟩
        exact ih _ w hI  o4893.1 o4893.2 (by have := ti_add2 (Eq.refl x2_3.toInt) (by decide : ((1 : Int32)).toInt = 1) (by omega) (by omega); have := bd_127_26 hI; omega) (fun w9 hI9 hF9 => hE w9 hI9 ((FR.refl _ w).tr hF9 rfl) ) (fun r w9 hI9 hF9 q0 q1 => hQ r w9 hI9 ((FR.refl _ w).tr hF9 rfl) (by have := ti_add2 (Eq.refl x2_3.toInt) (by decide : ((1 : Int32)).toInt = 1) (by omega) (by omega); have := bd_127_26 hI; omega) (by have := ti_add2 (Eq.refl x2_3.toInt) (by decide : ((1 : Int32)).toInt = 1) (by omega) (by omega); have := bd_127_26 hI; omega))
      · have o4894 : 0 ≤ x2_3.toInt ∧ x2_3.toInt < 24 := by have := bd_127_26 hI; omega
        refine ⟨o4894, ?_⟩
        refine ⟨fun h4895 => ?_, fun h4895 => ?_⟩
        · have o4896 : (0 ≤ (x2_3 + (1 : Int32)).toInt) ∧ ((x2_3 + (1 : Int32)).toInt ≤ 24) := by have := ti_add2 (Eq.refl x2_3.toInt) (by decide : ((1 : Int32)).toInt = 1) (by omega) (by omega); have := bd_127_26 hI; exact ⟨by omega, by omega⟩
          exact ih _ w hI  o4896.1 o4896.2 (by have := ti_add2 (Eq.refl x2_3.toInt) (by decide : ((1 : Int32)).toInt = 1) (by omega) (by omega); have := bd_127_26 hI; omega) (fun w9 hI9 hF9 => hE w9 hI9 ((FR.refl _ w).tr hF9 rfl) ) (fun r w9 hI9 hF9 q0 q1 => hQ r w9 hI9 ((FR.refl _ w).tr hF9 rfl) (by have := ti_add2 (Eq.refl x2_3.toInt) (by decide : ((1 : Int32)).toInt = 1) (by omega) (by omega); have := bd_127_26 hI; omega) (by have := ti_add2 (Eq.refl x2_3.toInt) (by decide : ((1 : Int32)).toInt = 1) (by omega) (by omega); have := bd_127_26 hI; omega))
        · have o4897 : (0 ≤ x2_3.toInt) ∧ (x2_3.toInt ≤ 23) := by have := bd_127_26 hI; exact ⟨by omega, by omega⟩
          exact hQ _ _ hI (FR.refl _ w)  o4897.1 o4897.2
set_option maxRecDepth 20000 in
set_option maxHeartbeats 2000000 in
theorem h_Mo_openWay {w : MW} {a0 : Int32} {b0 : Int32} {Q : Int32 → MW → Prop} (hI : BND w)  (hQ : ∀ (r : Int32) (w' : MW), BND w' → FR l_Mo_openWay w w' → (-1) ≤ r.toInt → r.toInt ≤ 23 → Q r w') : p_Mo_openWay w a0 b0 Q := by
  refine Eq.mpr (p_Mo_openWay.eq_1 _ _ _ _) ?_
  have o4898 : (0 ≤ (0 : Int32).toInt) ∧ ((0 : Int32).toInt ≤ 24) := by have := ti_lo a0; have := ti_hi a0; have := ti_lo b0; have := ti_hi b0; have := (by decide : ((0 : Int32)).toInt = 0); exact ⟨by omega, by omega⟩
  refine hq_Mo_openWay_2 FU _ w hI  o4898.1 o4898.2 (fu_lt (by have := ti_lo a0; have := ti_hi a0; have := ti_lo b0; have := ti_hi b0; have := (by decide : ((0 : Int32)).toInt = 0); omega)) (fun w4899 hI4900 hL4901  => ?_) (fun r w9 hI9 hF9 q0 q1 => hQ r w9 hI9 (((FR.refl _ w)).tr hF9 rfl) (by have := ti_lo a0; have := ti_hi a0; have := ti_lo b0; have := ti_hi b0; have := (by decide : ((0 : Int32)).toInt = 0); omega) (by have := ti_lo a0; have := ti_hi a0; have := ti_lo b0; have := ti_hi b0; have := (by decide : ((0 : Int32)).toInt = 0); omega))
  have hF4902 : FR l_Mo_openWay w w4899 := (FR.refl _ w).tr hL4901 rfl
  have o4903 : ((-1) ≤ ((-1) : Int32).toInt) ∧ (((-1) : Int32).toInt ≤ 23) := by have := (by decide : (((-1) : Int32)).toInt = (-1)); exact ⟨by omega, by omega⟩
  exact hQ _ _ hI4900 hF4902  o4903.1 o4903.2
def l_Mr_hasAct_16 : Pl := []
def l_Mr_hasAct : Pl := []
set_option maxRecDepth 20000 in
set_option maxHeartbeats 2000000 in
theorem hq_Mr_hasAct_16 {x16_2 : Int32} {x16_3 : Int32} {E : Int32 → MW → Prop} {Q : Int32 → MW → Prop} (n : Nat) : ∀ (x16_4 : Int32) (x16_5 : Int32) (w : MW), BND w → 0 ≤ x16_2.toInt → x16_2.toInt ≤ 31 → 0 ≤ x16_3.toInt → x16_3.toInt ≤ 79 → 0 ≤ x16_4.toInt → x16_4.toInt ≤ 1 → 0 ≤ x16_5.toInt → x16_5.toInt ≤ 8 → (8 - x16_5.toInt).toNat < n → (∀ (e16_4 : Int32) (w' : MW), BND w' → FR l_Mr_hasAct_16 w w' → 0 ≤ e16_4.toInt → e16_4.toInt ≤ 1 → E e16_4 w') → (∀ (r : Int32) (w' : MW), BND w' → FR l_Mr_hasAct_16 w w' → False → Q r w') → q_Mr_hasAct_16 x16_2 x16_3 E Q n x16_4 x16_5 w := by
  induction n with
  | zero => intros; omega
  | succ n ih =>
    intro x16_4 x16_5 w hI  hp0 hp1 hp2 hp3 hp4 hp5 hp6 hp7 hm hE hQ
    rw [q_Mr_hasAct_16.eq_2]
    have o4904 : 0 ≤ x16_3.toInt ∧ x16_3.toInt < 80 := by omega
    refine ⟨o4904, ?_⟩
    refine ⟨fun h4905 => ?_, fun h4905 => ?_⟩
    · have o4906 : (0 ≤ x16_4.toInt) ∧ (x16_4.toInt ≤ 1) := by exact ⟨by omega, by omega⟩
      exact hE _ _ hI (FR.refl _ w) o4906.1 o4906.2
    · refine ⟨fun h4907 => ?_, fun h4907 => ?_⟩
      · have o4908 : (0 ≤ x16_2.toInt) ∧ (x16_2.toInt ≤ 31) ∧ (0 ≤ x16_3.toInt) ∧ (x16_3.toInt ≤ 79) ∧ (0 ≤ (1 : Int32).toInt) ∧ ((1 : Int32).toInt ≤ 1) ∧ (0 ≤ (x16_5 + (1 : Int32)).toInt) ∧ ((x16_5 + (1 : Int32)).toInt ≤ 8) := by have := (by decide : ((1 : Int32)).toInt = 1); have := ti_add2 (Eq.refl x16_5.toInt) (by decide : ((1 : Int32)).toInt = 1) (by omega) (by omega); have := bd_155 hI x16_3.toInt.toNat; exact ⟨by omega, by omega, by omega, by omega, by omega, by omega, by omega, by omega⟩
        exact ih _ _ w hI  o4908.1 o4908.2.1 o4908.2.2.1 o4908.2.2.2.1 o4908.2.2.2.2.1 o4908.2.2.2.2.2.1 o4908.2.2.2.2.2.2.1 o4908.2.2.2.2.2.2.2 (by have := (by decide : ((1 : Int32)).toInt = 1); have := ti_add2 (Eq.refl x16_5.toInt) (by decide : ((1 : Int32)).toInt = 1) (by omega) (by omega); have := bd_155 hI x16_3.toInt.toNat; omega) (fun e0 w9 hI9 hF9 p0 p1 => hE e0 w9 hI9 ((FR.refl _ w).tr hF9 rfl) p0 p1 ) (fun r w9 hI9 hF9 q0 => q0.elim)
      · have o4909 : 0 ≤ (((8 : Int32) * x16_3) + x16_5).toInt ∧ (((8 : Int32) * x16_3) + x16_5).toInt < 640 := by have := ti_mul2 (by decide : ((8 : Int32)).toInt = 8) (Eq.refl x16_3.toInt) (by omega) (by omega); have := ti_add2 (Eq.refl ((8 : Int32) * x16_3).toInt) (Eq.refl x16_5.toInt) (by omega) (by omega); have := bd_155 hI x16_3.toInt.toNat; omega
        refine ⟨o4909, ?_⟩
        refine ⟨fun h4910 => ?_, fun h4910 => ?_⟩
        · have o4911 : (0 ≤ x16_2.toInt) ∧ (x16_2.toInt ≤ 31) ∧ (0 ≤ x16_3.toInt) ∧ (x16_3.toInt ≤ 79) ∧ (0 ≤ (0 : Int32).toInt) ∧ ((0 : Int32).toInt ≤ 1) ∧ (0 ≤ (x16_5 + (1 : Int32)).toInt) ∧ ((x16_5 + (1 : Int32)).toInt ≤ 8) := by have := (by decide : ((0 : Int32)).toInt = 0); have := ti_add2 (Eq.refl x16_5.toInt) (by decide : ((1 : Int32)).toInt = 1) (by omega) (by omega); have := bd_155 hI x16_3.toInt.toNat; exact ⟨by omega, by omega, by omega, by omega, by omega, by omega, by omega, by omega⟩
          exact ih _ _ w hI  o4911.1 o4911.2.1 o4911.2.2.1 o4911.2.2.2.1 o4911.2.2.2.2.1 o4911.2.2.2.2.2.1 o4911.2.2.2.2.2.2.1 o4911.2.2.2.2.2.2.2 (by have := (by decide : ((0 : Int32)).toInt = 0); have := ti_add2 (Eq.refl x16_5.toInt) (by decide : ((1 : Int32)).toInt = 1) (by omega) (by omega); have := bd_155 hI x16_3.toInt.toNat; omega) (fun e0 w9 hI9 hF9 p0 p1 => hE e0 w9 hI9 ((FR.refl _ w).tr hF9 rfl) p0 p1 ) (fun r w9 hI9 hF9 q0 => q0.elim)
        · have o4912 : (0 ≤ x16_2.toInt) ∧ (x16_2.toInt ≤ 31) ∧ (0 ≤ x16_3.toInt) ∧ (x16_3.toInt ≤ 79) ∧ (0 ≤ (1 : Int32).toInt) ∧ ((1 : Int32).toInt ≤ 1) ∧ (0 ≤ (x16_5 + (1 : Int32)).toInt) ∧ ((x16_5 + (1 : Int32)).toInt ≤ 8) := by have := (by decide : ((1 : Int32)).toInt = 1); have := ti_add2 (Eq.refl x16_5.toInt) (by decide : ((1 : Int32)).toInt = 1) (by omega) (by omega); have := bd_155 hI x16_3.toInt.toNat; exact ⟨by omega, by omega, by omega, by omega, by omega, by omega, by omega, by omega⟩
          exact ih _ _ w hI  o4912.1 o4912.2.1 o4912.2.2.1 o4912.2.2.2.1 o4912.2.2.2.2.1 o4912.2.2.2.2.2.1 o4912.2.2.2.2.2.2.1 o4912.2.2.2.2.2.2.2 (by have := (by decide : ((1 : Int32)).toInt = 1); have := ti_add2 (Eq.refl x16_5.toInt) (by decide : ((1 : Int32)).toInt = 1) (by omega) (by omega); have := bd_155 hI x16_3.toInt.toNat; omega) (fun e0 w9 hI9 hF9 p0 p1 => hE e0 w9 hI9 ((FR.refl _ w).tr hF9 rfl) p0 p1 ) (fun r w9 hI9 hF9 q0 => q0.elim)
set_option maxRecDepth 20000 in
set_option maxHeartbeats 2000000 in
theorem h_Mr_hasAct {w : MW} {a0 : Int32} {b0 : Int32} {Q : Int32 → MW → Prop} (hI : BND w) (hp0 : 0 ≤ a0.toInt) (hp1 : a0.toInt ≤ 39) (hp2 : 0 ≤ b0.toInt) (hp3 : b0.toInt ≤ 31) (hQ : ∀ (r : Int32) (w' : MW), BND w' → FR l_Mr_hasAct w w' → 0 ≤ r.toInt → r.toInt ≤ 1 → Q r w') : p_Mr_hasAct w a0 b0 Q := by
  refine Eq.mpr (p_Mr_hasAct.eq_1 _ _ _ _) ?_
  have o4913 : (0 ≤ b0.toInt) ∧ (b0.toInt ≤ 31) ∧ (0 ≤ (((40 : Int32) * (w.1 147 12)) + a0).toInt) ∧ ((((40 : Int32) * (w.1 147 12)) + a0).toInt ≤ 79) ∧ (0 ≤ (0 : Int32).toInt) ∧ ((0 : Int32).toInt ≤ 1) ∧ (0 ≤ (0 : Int32).toInt) ∧ ((0 : Int32).toInt ≤ 8) := by have := bd_147_12 hI; have := ti_mul2 (by decide : ((40 : Int32)).toInt = 40) (Eq.refl (w.1 147 12).toInt) (by omega) (by omega); have := ti_add2 (Eq.refl ((40 : Int32) * (w.1 147 12)).toInt) (Eq.refl a0.toInt) (by omega) (by omega); have := (by decide : ((0 : Int32)).toInt = 0); exact ⟨by omega, by omega, by omega, by omega, by omega, by omega, by omega, by omega⟩
  refine hq_Mr_hasAct_16 FU _ _ w hI  o4913.1 o4913.2.1 o4913.2.2.1 o4913.2.2.2.1 o4913.2.2.2.2.1 o4913.2.2.2.2.2.1 o4913.2.2.2.2.2.2.1 o4913.2.2.2.2.2.2.2 (fu_lt (by have := bd_147_12 hI; have := ti_mul2 (by decide : ((40 : Int32)).toInt = 40) (Eq.refl (w.1 147 12).toInt) (by omega) (by omega); have := ti_add2 (Eq.refl ((40 : Int32) * (w.1 147 12)).toInt) (Eq.refl a0.toInt) (by omega) (by omega); have := (by decide : ((0 : Int32)).toInt = 0); omega)) (fun e4917 w4914 hI4915 hL4916 p4918 p4919 => ?_) (fun r w9 hI9 hF9 q0 => q0.elim)
  have hF4920 : FR l_Mr_hasAct w w4914 := (FR.refl _ w).tr hL4916 rfl
  have o4921 : e4917.toInt = 0 ∨ e4917.toInt = 1 := by omega
  refine ⟨o4921, ?_⟩
  have o4922 : (0 ≤ e4917.toInt) ∧ (e4917.toInt ≤ 1) := by exact ⟨by omega, by omega⟩
  exact hQ _ _ hI4915 hF4920  o4922.1 o4922.2
def l_Mo_watch : Pl := [(203, none), (204, none), (205, none)]
set_option maxRecDepth 20000 in
set_option maxHeartbeats 2000000 in
theorem h_Mo_watch {w : MW} {a0 : Int32} {b0 : Int32} {c0 : Int32} {e0 : Int64} {Q : Int32 → MW → Prop} (hI : BND w)  (hQ : ∀ (r : Int32) (w' : MW), BND w' → FR l_Mo_watch w w' → 0 ≤ r.toInt → r.toInt ≤ 1 → Q r w') : p_Mo_watch w a0 b0 c0 e0 Q := by
  refine Eq.mpr (p_Mo_watch.eq_1 _ _ _ _ _ _) ?_
  refine ⟨fun h4923 => ?_, fun h4923 => ?_⟩
  · have o4924 : (0 ≤ (0 : Int32).toInt) ∧ ((0 : Int32).toInt ≤ 1) := by have := (by decide : ((0 : Int32)).toInt = 0); exact ⟨by omega, by omega⟩
    exact hQ _ _ hI (FR.refl _ w)  o4924.1 o4924.2
  · refine ⟨fun h4925 => ?_, fun h4925 => ?_⟩
    · have o4926 : (0 ≤ (0 : Int32).toInt) ∧ ((0 : Int32).toInt ≤ 1) := by have := (by decide : ((0 : Int32)).toInt = 0); exact ⟨by omega, by omega⟩
      exact hQ _ _ hI (FR.refl _ w)  o4926.1 o4926.2
    · refine ⟨fun h4927 => ?_, fun h4927 => ?_⟩
      · have o4928 : (0 ≤ (0 : Int32).toInt) ∧ ((0 : Int32).toInt ≤ 1) := by have := (by decide : ((0 : Int32)).toInt = 0); exact ⟨by omega, by omega⟩
        exact hQ _ _ hI (FR.refl _ w)  o4928.1 o4928.2
      · refine ⟨fun h4929 => ?_, fun h4929 => ?_⟩
        · have o4930 : 0 ≤ a0.toInt ∧ a0.toInt < 16 := by have := (by decide : ((0 : Int32)).toInt = 0); have := (by decide : ((15 : Int32)).toInt = 15); omega
          refine ⟨o4930, ?_⟩
          have o4931 : 0 ≤ a0.toInt ∧ a0.toInt < 16 := by have := (by decide : ((0 : Int32)).toInt = 0); have := (by decide : ((15 : Int32)).toInt = 15); omega
          refine ⟨o4931, ?_⟩
          have o4932 : 0 ≤ a0.toInt ∧ a0.toInt < 16 := by have := (by decide : ((0 : Int32)).toInt = 0); have := (by decide : ((15 : Int32)).toInt = 15); omega
          refine ⟨o4932, ?_⟩
          have o4934 : (-1) ≤ b0.toInt ∧ b0.toInt ≤ 5 := by have := (by decide : ((0 : Int32)).toInt = 0); have := (by decide : ((5 : Int32)).toInt = 5); omega
          have hI4933 : BND (sI w 203 a0.toInt.toNat b0) := wbd_203 hI a0.toInt.toNat o4934.1 o4934.2
          have hI4935 : BND (sI (sI w 203 a0.toInt.toNat b0) 204 a0.toInt.toNat c0) := wbd_204 hI4933 a0.toInt.toNat
          have o4936 : (0 ≤ (1 : Int32).toInt) ∧ ((1 : Int32).toInt ≤ 1) := by have := (by decide : ((1 : Int32)).toInt = 1); exact ⟨by omega, by omega⟩
          exact hQ _ _ (bnd_J hI4935 (k := 205) (j := a0.toInt.toNat) (v := e0)) (FR.J (FR.I (FR.I (FR.refl _ w) (k := 203) (j := a0.toInt.toNat) (v := b0) rfl) (k := 204) (j := a0.toInt.toNat) (v := c0) rfl) (k := 205) (j := a0.toInt.toNat) (v := e0) rfl)  o4936.1 o4936.2
        · have o4937 : (0 ≤ (0 : Int32).toInt) ∧ ((0 : Int32).toInt ≤ 1) := by have := (by decide : ((0 : Int32)).toInt = 0); exact ⟨by omega, by omega⟩
          exact hQ _ _ hI (FR.refl _ w)  o4937.1 o4937.2
def l_Mo_hold_24 : Pl := [(127, some 26), (127, some 59), (167, none), (181, none), (182, none), (183, none), (184, none), (185, none), (186, none), (187, none)]
def l_Mo_hold : Pl := [(127, some 26), (127, some 59), (167, none), (181, none), (182, none), (183, none), (184, none), (185, none), (186, none), (187, none)]
set_option maxRecDepth 20000 in
set_option maxHeartbeats 2000000 in
theorem h_Mo_hold {w : MW} {a0 : Int32} {Q : Int32 → MW → Prop} (hI : BND w)  (hQ : ∀ (r : Int32) (w' : MW), BND w' → FR l_Mo_hold w w' → 0 ≤ r.toInt → r.toInt ≤ 1 → Q r w') : p_Mo_hold w a0 Q := by
  refine Eq.mpr (p_Mo_hold.eq_1 _ _ _) ?_
  refine ⟨fun h4966 => ?_, fun h4966 => ?_⟩
  · refine ⟨fun h4967 => ?_, fun h4967 => ?_⟩
    · refine Eq.mpr (q_Mo_hold_24.eq_1 _ _ _) ?_
      refine ⟨fun _ => ?_, fun h => absurd h4966 h⟩
      have hI4968 : BND (sI w 127 59 0) := wbd_127_59 hI (by decide) (by decide)
      have o4969 : (0 ≤ (1 : Int32).toInt) ∧ ((1 : Int32).toInt ≤ 1) := by have := (by decide : ((1 : Int32)).toInt = 1); exact ⟨by omega, by omega⟩
      exact hQ _ _ hI4968 (FR.I (FR.refl _ w) (k := 127) (j := 59) (v := 0) rfl)  o4969.1 o4969.2
    · have o4970 : (0 ≤ (0 : Int32).toInt) ∧ ((0 : Int32).toInt ≤ 1) := by have := (by decide : ((0 : Int32)).toInt = 0); exact ⟨by omega, by omega⟩
      exact hQ _ _ hI (FR.refl _ w)  o4970.1 o4970.2
  · refine ⟨fun h4971 => ?_, fun h4971 => ?_⟩
    · refine Eq.mpr (q_Mo_hold_24.eq_1 _ _ _) ?_
      refine ⟨fun h => absurd h h4966, fun _ => ?_⟩
      have hI4972 : BND (sI w 127 59 2) := wbd_127_59 hI (by decide) (by decide)
      refine h_Mo_closeAll hI4972   (fun w4973 hI4974 hL4975  => ?_)
      have hF4977 : FR l_Mo_hold w w4973 := (FR.I (FR.refl _ w) (k := 127) (j := 59) (v := 2) rfl).tr hL4975 rfl
      have o4978 : (0 ≤ (1 : Int32).toInt) ∧ ((1 : Int32).toInt ≤ 1) := by have := (by decide : ((1 : Int32)).toInt = 1); exact ⟨by omega, by omega⟩
      exact hQ _ _ hI4974 hF4977  o4978.1 o4978.2
    · have o4979 : (0 ≤ (0 : Int32).toInt) ∧ ((0 : Int32).toInt ≤ 1) := by have := (by decide : ((0 : Int32)).toInt = 0); exact ⟨by omega, by omega⟩
      exact hQ _ _ hI (FR.refl _ w)  o4979.1 o4979.2
