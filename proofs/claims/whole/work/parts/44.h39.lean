def l_Mo_least_2 : Pl := []
def l_Mo_least : Pl := []
set_option maxRecDepth 20000 in
set_option maxHeartbeats 2000000 in
theorem hq_Mo_least_2 {x2_0 : Int32} {x2_1 : Int32} {x2_2 : Int32} {E : MW → Prop} {Q : Int32 → MW → Prop} (n : Nat) : ∀ (x2_3 : Int32) (w : MW), BND w → 0 ≤ x2_0.toInt → x2_0.toInt ≤ 7 → 0 ≤ x2_3.toInt → x2_3.toInt ≤ 10 → (10 - x2_3.toInt).toNat < n → (∀ (w' : MW), BND w' → FR l_Mo_least_2 w w' → E w') → (∀ (r : Int32) (w' : MW), BND w' → FR l_Mo_least_2 w w' → 0 ≤ r.toInt → r.toInt ≤ 9 → Q r w') → q_Mo_least_2 x2_0 x2_1 x2_2 E Q n x2_3 w := by
  induction n with
  | zero => intros; omega
  | succ n ih =>
    intro x2_3 w hI  hp0 hp1 hp2 hp3 hm hE hQ
    rw [q_Mo_least_2.eq_2]
    refine ⟨fun h9868 => ?_, fun h9868 => ?_⟩
    · exact hE _ hI (FR.refl _ w)
    · have o9869 : (0 ≤ x2_0.toInt) ∧ (x2_0.toInt ≤ 7) ∧ (0 ≤ x2_3.toInt) ∧ (x2_3.toInt ≤ 9) := by have := ti_lo x2_1; have := ti_hi x2_1; have := ti_lo x2_2; have := ti_hi x2_2; have := (by decide : ((10 : Int32)).toInt = 10); exact ⟨by omega, by omega, by omega, by omega⟩
      refine h_Mo_passes hI  o9869.1 o9869.2.1 o9869.2.2.1 o9869.2.2.2 (fun r9873 w9870 hI9871 hL9872 p9874 p9875 => ?_)
      have hF9876 : FR l_Mo_least_2 w w9870 := (FR.refl _ w).tr hL9872 rfl
      refine ⟨fun h9877 => ?_, fun h9877 => ?_⟩
      · have o9878 : (0 ≤ x2_0.toInt) ∧ (x2_0.toInt ≤ 7) ∧ (0 ≤ (x2_3 + (1 : Int32)).toInt) ∧ ((x2_3 + (1 : Int32)).toInt ≤ 10) := by have := (by decide : ((10 : Int32)).toInt = 10); have := ti_add2 (Eq.refl x2_3.toInt) (by decide : ((1 : Int32)).toInt = 1) (by omega) (by omega); exact ⟨by omega, by omega, by omega, by omega⟩
        exact ih _ w9870 hI9871  o9878.1 o9878.2.1 o9878.2.2.1 o9878.2.2.2 (by have := (by decide : ((10 : Int32)).toInt = 10); have := ti_add2 (Eq.refl x2_3.toInt) (by decide : ((1 : Int32)).toInt = 1) (by omega) (by omega); omega) (fun w9 hI9 hF9 => hE w9 hI9 (hF9876.tr hF9 rfl) ) (fun r w9 hI9 hF9 q0 q1 => hQ r w9 hI9 (hF9876.tr hF9 rfl) (by have := (by decide : ((10 : Int32)).toInt = 10); have := ti_add2 (Eq.refl x2_3.toInt) (by decide : ((1 : Int32)).toInt = 1) (by omega) (by omega); omega) (by have := (by decide : ((10 : Int32)).toInt = 10); have := ti_add2 (Eq.refl x2_3.toInt) (by decide : ((1 : Int32)).toInt = 1) (by omega) (by omega); omega))
      · have o9879 : (0 ≤ x2_3.toInt) ∧ (x2_3.toInt ≤ 9) := by have := (by decide : ((10 : Int32)).toInt = 10); exact ⟨by omega, by omega⟩
        exact hQ _ _ hI9871 hF9876  o9879.1 o9879.2
set_option maxRecDepth 20000 in
set_option maxHeartbeats 2000000 in
theorem h_Mo_least {w : MW} {a0 : Int32} {b0 : Int32} {c0 : Int32} {Q : Int32 → MW → Prop} (hI : BND w) (hp0 : 0 ≤ a0.toInt) (hp1 : a0.toInt ≤ 7) (hQ : ∀ (r : Int32) (w' : MW), BND w' → FR l_Mo_least w w' → (-1) ≤ r.toInt → r.toInt ≤ 9 → Q r w') : p_Mo_least w a0 b0 c0 Q := by
  refine Eq.mpr (p_Mo_least.eq_1 _ _ _ _ _) ?_
  have o9880 : (0 ≤ a0.toInt) ∧ (a0.toInt ≤ 7) ∧ (0 ≤ (0 : Int32).toInt) ∧ ((0 : Int32).toInt ≤ 10) := by have := ti_lo b0; have := ti_hi b0; have := ti_lo c0; have := ti_hi c0; have := (by decide : ((0 : Int32)).toInt = 0); exact ⟨by omega, by omega, by omega, by omega⟩
  refine hq_Mo_least_2 FU _ w hI  o9880.1 o9880.2.1 o9880.2.2.1 o9880.2.2.2 (fu_lt (by have := ti_lo b0; have := ti_hi b0; have := ti_lo c0; have := ti_hi c0; have := (by decide : ((0 : Int32)).toInt = 0); omega)) (fun w9881 hI9882 hL9883  => ?_) (fun r w9 hI9 hF9 q0 q1 => hQ r w9 hI9 (((FR.refl _ w)).tr hF9 rfl) (by have := ti_lo b0; have := ti_hi b0; have := ti_lo c0; have := ti_hi c0; have := (by decide : ((0 : Int32)).toInt = 0); omega) (by have := ti_lo b0; have := ti_hi b0; have := ti_lo c0; have := ti_hi c0; have := (by decide : ((0 : Int32)).toInt = 0); omega))
  have hF9884 : FR l_Mo_least w w9881 := (FR.refl _ w).tr hL9883 rfl
  have o9885 : ((-1) ≤ ((-1) : Int32).toInt) ∧ (((-1) : Int32).toInt ≤ 9) := by have := (by decide : (((-1) : Int32)).toInt = (-1)); exact ⟨by omega, by omega⟩
  exact hQ _ _ hI9882 hF9884  o9885.1 o9885.2
def l_Mo_needOf : Pl := []
set_option maxRecDepth 20000 in
set_option maxHeartbeats 2000000 in
theorem h_Mo_needOf {w : MW} {a0 : Int32} {b0 : Int32} {Q : Int32 → MW → Prop} (hI : BND w) (hp0 : 0 ≤ a0.toInt) (hp1 : a0.toInt ≤ 47) (hp2 : 0 ≤ b0.toInt) (hp3 : b0.toInt ≤ 47) (hQ : ∀ (r : Int32) (w' : MW), BND w' → FR l_Mo_needOf w w' → (-1) ≤ r.toInt → r.toInt ≤ 9 → Q r w') : p_Mo_needOf w a0 b0 Q := by
  refine Eq.mpr (p_Mo_needOf.eq_1 _ _ _ _) ?_
  have o9886 : 0 ≤ a0.toInt ∧ a0.toInt < 48 := by omega
  refine ⟨o9886, ?_⟩
  refine ⟨fun h9887 => ?_, fun h9887 => ?_⟩
  · have o9888 : ((-1) ≤ ((-1) : Int32).toInt) ∧ (((-1) : Int32).toInt ≤ 9) := by have := (by decide : (((-1) : Int32)).toInt = (-1)); exact ⟨by omega, by omega⟩
    exact hQ _ _ hI (FR.refl _ w)  o9888.1 o9888.2
  · have o9889 : 0 ≤ b0.toInt ∧ b0.toInt < 48 := by omega
    refine ⟨o9889, ?_⟩
    refine ⟨fun h9890 => ?_, fun h9890 => ?_⟩
    · have o9891 : ((-1) ≤ ((-1) : Int32).toInt) ∧ (((-1) : Int32).toInt ≤ 9) := by have := (by decide : (((-1) : Int32)).toInt = (-1)); exact ⟨by omega, by omega⟩
      exact hQ _ _ hI (FR.refl _ w)  o9891.1 o9891.2
    · refine ⟨fun h9892 => ?_, fun h9892 => ?_⟩
      · have o9893 : ((-1) ≤ ((-1) : Int32).toInt) ∧ (((-1) : Int32).toInt ≤ 9) := by have := (by decide : (((-1) : Int32)).toInt = (-1)); exact ⟨by omega, by omega⟩
        exact hQ _ _ hI (FR.refl _ w)  o9893.1 o9893.2
      · have o9894 : 0 ≤ (w.1 170 a0.toInt.toNat).toInt ∧ (w.1 170 a0.toInt.toNat).toInt < 20 := by have := bd_170 hI a0.toInt.toNat; have := (by decide : ((0 : Int32)).toInt = 0); have := bd_170 hI b0.toInt.toNat; omega
        refine ⟨o9894, ?_⟩
        refine ⟨fun h9895 => ?_, fun h9895 => ?_⟩
        · have o9896 : ((-1) ≤ ((-1) : Int32).toInt) ∧ (((-1) : Int32).toInt ≤ 9) := by have := (by decide : (((-1) : Int32)).toInt = (-1)); exact ⟨by omega, by omega⟩
          exact hQ _ _ hI (FR.refl _ w)  o9896.1 o9896.2
        · refine ⟨fun h9897 => ?_, fun h9897 => ?_⟩
          · have o9898 : 0 ≤ (w.1 170 a0.toInt.toNat).toInt ∧ (w.1 170 a0.toInt.toNat).toInt < 20 := by have := bd_170 hI a0.toInt.toNat; have := (by decide : ((0 : Int32)).toInt = 0); have := bd_170 hI b0.toInt.toNat; omega
            refine ⟨o9898, ?_⟩
            refine ⟨fun h9899 => ?_, fun h9899 => ?_⟩
            · have o9900 : 0 ≤ (w.1 170 a0.toInt.toNat).toInt ∧ (w.1 170 a0.toInt.toNat).toInt < 20 := by have := bd_170 hI a0.toInt.toNat; have := (by decide : ((0 : Int32)).toInt = 0); have := bd_170 hI b0.toInt.toNat; omega
              refine ⟨o9900, ?_⟩
              have o9901 : 0 ≤ a0.toInt ∧ a0.toInt < 48 := by have := nb_cmp (((w.2.1 127 40) >>> ((b0 / (2 : Int32)).toInt64 &&& 63)) &&& (1 : Int64)) (0 : Int64); have := (by decide : ((0 : Int64)).toInt = 0); have := (by decide : ((0 : Int32)).toInt = 0); omega
              refine ⟨o9901, ?_⟩
              have o9902 : 0 ≤ b0.toInt ∧ b0.toInt < 48 := by have := nb_cmp (((w.2.1 127 40) >>> ((b0 / (2 : Int32)).toInt64 &&& 63)) &&& (1 : Int64)) (0 : Int64); have := (by decide : ((0 : Int64)).toInt = 0); have := (by decide : ((0 : Int32)).toInt = 0); omega
              refine ⟨o9902, ?_⟩
              have o9903 : (0 ≤ ((w.1 163 ((w.1 170 a0.toInt.toNat).toInt.toNat)) - (2 : Int32)).toInt) ∧ (((w.1 163 ((w.1 170 a0.toInt.toNat).toInt.toNat)) - (2 : Int32)).toInt ≤ 7) := by have := bd_163 hI ((w.1 170 a0.toInt.toNat).toInt.toNat); have := (by decide : ((0 : Int32)).toInt = 0); have := (by decide : ((1 : Int32)).toInt = 1); have := ti_sub2 (Eq.refl (w.1 163 ((w.1 170 a0.toInt.toNat).toInt.toNat)).toInt) (by decide : ((2 : Int32)).toInt = 2) (by omega) (by omega); exact ⟨by omega, by omega⟩
              refine h_Mo_least hI  o9903.1 o9903.2 (fun r9907 w9904 hI9905 hL9906 p9908 p9909 => ?_)
              have hF9910 : FR l_Mo_needOf w w9904 := (FR.refl _ w).tr hL9906 rfl
              have o9911 : (0 ≤ (w.1 170 a0.toInt.toNat).toInt) ∧ ((w.1 170 a0.toInt.toNat).toInt ≤ 19) := by have := bd_170 hI a0.toInt.toNat; have := (by decide : ((0 : Int32)).toInt = 0); have := bd_170 hI b0.toInt.toNat; exact ⟨by omega, by omega⟩
              refine h_Mo_held hI9905  o9911.1 o9911.2 (fun r9915 w9912 hI9913 hL9914 p9916 p9917 => ?_)
              have hF9918 : FR l_Mo_needOf w w9912 := hF9910.tr hL9914 rfl
              refine ⟨fun h9919 => ?_, fun h9919 => ?_⟩
              · have o9920 : ((-1) ≤ r9907.toInt) ∧ (r9907.toInt ≤ 9) := by exact ⟨by omega, by omega⟩
                exact hQ _ _ hI9913 hF9918  o9920.1 o9920.2
              · have o9921 : (0 ≤ (w.1 170 a0.toInt.toNat).toInt) ∧ ((w.1 170 a0.toInt.toNat).toInt ≤ 19) := by have := bd_170 hI a0.toInt.toNat; have := (by decide : ((0 : Int32)).toInt = 0); have := bd_170 hI b0.toInt.toNat; exact ⟨by omega, by omega⟩
                refine h_Mo_held hI9913  o9921.1 o9921.2 (fun r9925 w9922 hI9923 hL9924 p9926 p9927 => ?_)
                have hF9928 : FR l_Mo_needOf w w9922 := hF9918.tr hL9924 rfl
                refine ⟨fun h9929 => ?_, fun h9929 => ?_⟩
                · have o9930 : ((-1) ≤ ((-1) : Int32).toInt) ∧ (((-1) : Int32).toInt ≤ 9) := by have := (by decide : (((-1) : Int32)).toInt = (-1)); exact ⟨by omega, by omega⟩
                  exact hQ _ _ hI9923 hF9928  o9930.1 o9930.2
                · have o9931 : ((-1) ≤ r9907.toInt) ∧ (r9907.toInt ≤ 9) := by exact ⟨by omega, by omega⟩
                  exact hQ _ _ hI9923 hF9928  o9931.1 o9931.2
            · have o9932 : 0 ≤ a0.toInt ∧ a0.toInt < 48 := by have := nb_cmp (((w.2.1 127 40) >>> ((b0 / (2 : Int32)).toInt64 &&& 63)) &&& (1 : Int64)) (0 : Int64); have := (by decide : ((0 : Int64)).toInt = 0); have := (by decide : ((0 : Int32)).toInt = 0); omega
              refine ⟨o9932, ?_⟩
              refine ⟨fun h9933 => ?_, fun h9933 => ?_⟩
              · have o9934 : ((-1) ≤ ((-1) : Int32).toInt) ∧ (((-1) : Int32).toInt ≤ 9) := by have := (by decide : (((-1) : Int32)).toInt = (-1)); exact ⟨by omega, by omega⟩
                exact hQ _ _ hI (FR.refl _ w)  o9934.1 o9934.2
              · have o9935 : (0 ≤ (w.1 170 a0.toInt.toNat).toInt) ∧ ((w.1 170 a0.toInt.toNat).toInt ≤ 19) := by have := bd_170 hI a0.toInt.toNat; have := (by decide : ((0 : Int32)).toInt = 0); have := bd_170 hI b0.toInt.toNat; exact ⟨by omega, by omega⟩
                refine h_Mo_held hI  o9935.1 o9935.2 (fun r9939 w9936 hI9937 hL9938 p9940 p9941 => ?_)
                have hF9942 : FR l_Mo_needOf w w9936 := (FR.refl _ w).tr hL9938 rfl
                refine ⟨fun h9943 => ?_, fun h9943 => ?_⟩
                · have o9944 : ((-1) ≤ ((-1) : Int32).toInt) ∧ (((-1) : Int32).toInt ≤ 9) := by have := (by decide : (((-1) : Int32)).toInt = (-1)); exact ⟨by omega, by omega⟩
                  exact hQ _ _ hI9937 hF9942  o9944.1 o9944.2
                · have o9945 : ((-1) ≤ (0 : Int32).toInt) ∧ ((0 : Int32).toInt ≤ 9) := by have := (by decide : ((0 : Int32)).toInt = 0); exact ⟨by omega, by omega⟩
                  exact hQ _ _ hI9937 hF9942  o9945.1 o9945.2
          · have o9946 : ((-1) ≤ ((-1) : Int32).toInt) ∧ (((-1) : Int32).toInt ≤ 9) := by have := (by decide : (((-1) : Int32)).toInt = (-1)); exact ⟨by omega, by omega⟩
            exact hQ _ _ hI (FR.refl _ w)  o9946.1 o9946.2
def l_Mo_openWay_2 : Pl := []
def l_Mo_openWay : Pl := []
set_option maxRecDepth 20000 in
set_option maxHeartbeats 2000000 in
theorem hq_Mo_openWay_2 {x2_1 : Int32} {x2_2 : Int32} {E : MW → Prop} {Q : Int32 → MW → Prop} (n : Nat) : ∀ (x2_3 : Int32) (w : MW), BND w → 0 ≤ x2_3.toInt → x2_3.toInt ≤ 24 → (24 - x2_3.toInt).toNat < n → (∀ (w' : MW), BND w' → FR l_Mo_openWay_2 w w' → E w') → (∀ (r : Int32) (w' : MW), BND w' → FR l_Mo_openWay_2 w w' → 0 ≤ r.toInt → r.toInt ≤ 23 → Q r w') → q_Mo_openWay_2 x2_1 x2_2 E Q n x2_3 w := by
  induction n with
  | zero => intros; omega
  | succ n ih =>
    intro x2_3 w hI  hp0 hp1 hm hE hQ
    rw [q_Mo_openWay_2.eq_2]
    refine ⟨fun h10028 => ?_, fun h10028 => ?_⟩
    · exact hE _ hI (FR.refl _ w)
    · have o10029 : 0 ≤ x2_3.toInt ∧ x2_3.toInt < 24 := by have := bd_127_26 hI; omega
      refine ⟨o10029, ?_⟩
      refine ⟨fun h10030 => ?_, fun h10030 => ?_⟩
      · have o10031 : (0 ≤ (x2_3 + (1 : Int32)).toInt) ∧ ((x2_3 + (1 : Int32)).toInt ≤ 24) := by have := bd_127_26 hI; have := ti_add2 (Eq.refl x2_3.toInt) (by decide : ((1 : Int32)).toInt = 1) (by omega) (by omega); exact ⟨by omega, by omega⟩
        exact ih _ w hI  o10031.1 o10031.2 (by have := bd_127_26 hI; have := ti_add2 (Eq.refl x2_3.toInt) (by decide : ((1 : Int32)).toInt = 1) (by omega) (by omega); omega) (fun w9 hI9 hF9 => hE w9 hI9 ((FR.refl _ w).tr hF9 rfl) ) (fun r w9 hI9 hF9 q0 q1 => hQ r w9 hI9 ((FR.refl _ w).tr hF9 rfl) (by have := bd_127_26 hI; have := ti_add2 (Eq.refl x2_3.toInt) (by decide : ((1 : Int32)).toInt = 1) (by omega) (by omega); omega) (by have := bd_127_26 hI; have := ti_add2 (Eq.refl x2_3.toInt) (by decide : ((1 : Int32)).toInt = 1) (by omega) (by omega); omega))
      · have o10032 : 0 ≤ x2_3.toInt ∧ x2_3.toInt < 24 := by have := bd_127_26 hI; omega
        refine ⟨o10032, ?_⟩
        refine ⟨fun h10033 => ?_, fun h10033 => ?_⟩
        · have o10034 : (0 ≤ (x2_3 + (1 : Int32)).toInt) ∧ ((x2_3 + (1 : Int32)).toInt ≤ 24) := by have := bd_127_26 hI; have := ti_add2 (Eq.refl x2_3.toInt) (by decide : ((1 : Int32)).toInt = 1) (by omega) (by omega); exact ⟨by omega, by omega⟩
          exact ih _ w hI  o10034.1 o10034.2 (by have := bd_127_26 hI; have := ti_add2 (Eq.refl x2_3.toInt) (by decide : ((1 : Int32)).toInt = 1) (by omega) (by omega); omega) (fun w9 hI9 hF9 => hE w9 hI9 ((FR.refl _ w).tr hF9 rfl) ) (fun r w9 hI9 hF9 q0 q1 => hQ r w9 hI9 ((FR.refl _ w).tr hF9 rfl) (by have := bd_127_26 hI; have := ti_add2 (Eq.refl x2_3.toInt) (by decide : ((1 : Int32)).toInt = 1) (by omega) (by omega); omega) (by have := bd_127_26 hI; have := ti_add2 (Eq.refl x2_3.toInt) (by decide : ((1 : Int32)).toInt = 1) (by omega) (by omega); omega))
        · have o10035 : (0 ≤ x2_3.toInt) ∧ (x2_3.toInt ≤ 23) := by have := bd_127_26 hI; exact ⟨by omega, by omega⟩
          exact hQ _ _ hI (FR.refl _ w)  o10035.1 o10035.2
set_option maxRecDepth 20000 in
set_option maxHeartbeats 2000000 in
theorem h_Mo_openWay {w : MW} {a0 : Int32} {b0 : Int32} {Q : Int32 → MW → Prop} (hI : BND w)  (hQ : ∀ (r : Int32) (w' : MW), BND w' → FR l_Mo_openWay w w' → (-1) ≤ r.toInt → r.toInt ≤ 23 → Q r w') : p_Mo_openWay w a0 b0 Q := by
  refine Eq.mpr (p_Mo_openWay.eq_1 _ _ _ _) ?_
  have o10036 : (0 ≤ (0 : Int32).toInt) ∧ ((0 : Int32).toInt ≤ 24) := by have := ti_lo a0; have := ti_hi a0; have := ti_lo b0; have := ti_hi b0; have := (by decide : ((0 : Int32)).toInt = 0); exact ⟨by omega, by omega⟩
  refine hq_Mo_openWay_2 FU _ w hI  o10036.1 o10036.2 (fu_lt (by have := ti_lo a0; have := ti_hi a0; have := ti_lo b0; have := ti_hi b0; have := (by decide : ((0 : Int32)).toInt = 0); omega)) (fun w10037 hI10038 hL10039  => ?_) (fun r w9 hI9 hF9 q0 q1 => hQ r w9 hI9 (((FR.refl _ w)).tr hF9 rfl) (by have := ti_lo a0; have := ti_hi a0; have := ti_lo b0; have := ti_hi b0; have := (by decide : ((0 : Int32)).toInt = 0); omega) (by have := ti_lo a0; have := ti_hi a0; have := ti_lo b0; have := ti_hi b0; have := (by decide : ((0 : Int32)).toInt = 0); omega))
  have hF10040 : FR l_Mo_openWay w w10037 := (FR.refl _ w).tr hL10039 rfl
  have o10041 : ((-1) ≤ ((-1) : Int32).toInt) ∧ (((-1) : Int32).toInt ≤ 23) := by have := (by decide : (((-1) : Int32)).toInt = (-1)); exact ⟨by omega, by omega⟩
  exact hQ _ _ hI10038 hF10040  o10041.1 o10041.2
def l_Mr_hasAct_16 : Pl := []
def l_Mr_hasAct : Pl := []
set_option maxRecDepth 20000 in
set_option maxHeartbeats 2000000 in
theorem hq_Mr_hasAct_16 {x16_2 : Int32} {x16_3 : Int32} {E : Int32 → MW → Prop} {Q : Int32 → MW → Prop} (n : Nat) : ∀ (x16_4 : Int32) (x16_5 : Int32) (w : MW), BND w → 0 ≤ x16_2.toInt → x16_2.toInt ≤ 31 → 0 ≤ x16_3.toInt → x16_3.toInt ≤ 79 → 0 ≤ x16_4.toInt → x16_4.toInt ≤ 1 → 0 ≤ x16_5.toInt → x16_5.toInt ≤ 8 → (8 - x16_5.toInt).toNat < n → (∀ (e16_4 : Int32) (w' : MW), BND w' → FR l_Mr_hasAct_16 w w' → 0 ≤ e16_4.toInt → e16_4.toInt ≤ 1 → E e16_4 w') → (∀ (r : Int32) (w' : MW), BND w' → FR l_Mr_hasAct_16 w w' → False → Q r w') → q_Mr_hasAct_16 x16_2 x16_3 E Q n x16_4 x16_5 w := by
  induction n with
  | zero => intros; omega
  | succ n ih =>
    intro x16_4 x16_5 w hI  hp0 hp1 hp2 hp3 hp4 hp5 hp6 hp7 hm hE hQ
    rw [q_Mr_hasAct_16.eq_2]
    have o10042 : 0 ≤ x16_3.toInt ∧ x16_3.toInt < 80 := by omega
    refine ⟨o10042, ?_⟩
    refine ⟨fun h10043 => ?_, fun h10043 => ?_⟩
    · have o10044 : (0 ≤ x16_4.toInt) ∧ (x16_4.toInt ≤ 1) := by exact ⟨by omega, by omega⟩
      exact hE _ _ hI (FR.refl _ w) o10044.1 o10044.2
    · refine ⟨fun h10045 => ?_, fun h10045 => ?_⟩
      · have o10046 : (0 ≤ x16_2.toInt) ∧ (x16_2.toInt ≤ 31) ∧ (0 ≤ x16_3.toInt) ∧ (x16_3.toInt ≤ 79) ∧ (0 ≤ (1 : Int32).toInt) ∧ ((1 : Int32).toInt ≤ 1) ∧ (0 ≤ (x16_5 + (1 : Int32)).toInt) ∧ ((x16_5 + (1 : Int32)).toInt ≤ 8) := by have := (by decide : ((1 : Int32)).toInt = 1); have := bd_155 hI x16_3.toInt.toNat; have := ti_add2 (Eq.refl x16_5.toInt) (by decide : ((1 : Int32)).toInt = 1) (by omega) (by omega); exact ⟨by omega, by omega, by omega, by omega, by omega, by omega, by omega, by omega⟩
        exact ih _ _ w hI  o10046.1 o10046.2.1 o10046.2.2.1 o10046.2.2.2.1 o10046.2.2.2.2.1 o10046.2.2.2.2.2.1 o10046.2.2.2.2.2.2.1 o10046.2.2.2.2.2.2.2 (by have := (by decide : ((1 : Int32)).toInt = 1); have := bd_155 hI x16_3.toInt.toNat; have := ti_add2 (Eq.refl x16_5.toInt) (by decide : ((1 : Int32)).toInt = 1) (by omega) (by omega); omega) (fun e0 w9 hI9 hF9 p0 p1 => hE e0 w9 hI9 ((FR.refl _ w).tr hF9 rfl) p0 p1 ) (fun r w9 hI9 hF9 q0 => q0.elim)
      · have o10047 : 0 ≤ (((8 : Int32) * x16_3) + x16_5).toInt ∧ (((8 : Int32) * x16_3) + x16_5).toInt < 640 := by have := bd_155 hI x16_3.toInt.toNat; have := ti_mul2 (by decide : ((8 : Int32)).toInt = 8) (Eq.refl x16_3.toInt) (by omega) (by omega); have := ti_add2 (Eq.refl ((8 : Int32) * x16_3).toInt) (Eq.refl x16_5.toInt) (by omega) (by omega); omega
        refine ⟨o10047, ?_⟩
        refine ⟨fun h10048 => ?_, fun h10048 => ?_⟩
        · have o10049 : (0 ≤ x16_2.toInt) ∧ (x16_2.toInt ≤ 31) ∧ (0 ≤ x16_3.toInt) ∧ (x16_3.toInt ≤ 79) ∧ (0 ≤ (0 : Int32).toInt) ∧ ((0 : Int32).toInt ≤ 1) ∧ (0 ≤ (x16_5 + (1 : Int32)).toInt) ∧ ((x16_5 + (1 : Int32)).toInt ≤ 8) := by have := (by decide : ((0 : Int32)).toInt = 0); have := bd_155 hI x16_3.toInt.toNat; have := ti_add2 (Eq.refl x16_5.toInt) (by decide : ((1 : Int32)).toInt = 1) (by omega) (by omega); exact ⟨by omega, by omega, by omega, by omega, by omega, by omega, by omega, by omega⟩
          exact ih _ _ w hI  o10049.1 o10049.2.1 o10049.2.2.1 o10049.2.2.2.1 o10049.2.2.2.2.1 o10049.2.2.2.2.2.1 o10049.2.2.2.2.2.2.1 o10049.2.2.2.2.2.2.2 (by have := (by decide : ((0 : Int32)).toInt = 0); have := bd_155 hI x16_3.toInt.toNat; have := ti_add2 (Eq.refl x16_5.toInt) (by decide : ((1 : Int32)).toInt = 1) (by omega) (by omega); omega) (fun e0 w9 hI9 hF9 p0 p1 => hE e0 w9 hI9 ((FR.refl _ w).tr hF9 rfl) p0 p1 ) (fun r w9 hI9 hF9 q0 => q0.elim)
        · have o10050 : (0 ≤ x16_2.toInt) ∧ (x16_2.toInt ≤ 31) ∧ (0 ≤ x16_3.toInt) ∧ (x16_3.toInt ≤ 79) ∧ (0 ≤ (1 : Int32).toInt) ∧ ((1 : Int32).toInt ≤ 1) ∧ (0 ≤ (x16_5 + (1 : Int32)).toInt) ∧ ((x16_5 + (1 : Int32)).toInt ≤ 8) := by have := (by decide : ((1 : Int32)).toInt = 1); have := bd_155 hI x16_3.toInt.toNat; have := ti_add2 (Eq.refl x16_5.toInt) (by decide : ((1 : Int32)).toInt = 1) (by omega) (by omega); exact ⟨by omega, by omega, by omega, by omega, by omega, by omega, by omega, by omega⟩
          exact ih _ _ w hI  o10050.1 o10050.2.1 o10050.2.2.1 o10050.2.2.2.1 o10050.2.2.2.2.1 o10050.2.2.2.2.2.1 o10050.2.2.2.2.2.2.1 o10050.2.2.2.2.2.2.2 (by have := (by decide : ((1 : Int32)).toInt = 1); have := bd_155 hI x16_3.toInt.toNat; have := ti_add2 (Eq.refl x16_5.toInt) (by decide : ((1 : Int32)).toInt = 1) (by omega) (by omega); omega) (fun e0 w9 hI9 hF9 p0 p1 => hE e0 w9 hI9 ((FR.refl _ w).tr hF9 rfl) p0 p1 ) (fun r w9 hI9 hF9 q0 => q0.elim)
set_option maxRecDepth 20000 in
set_option maxHeartbeats 2000000 in
theorem h_Mr_hasAct {w : MW} {a0 : Int32} {b0 : Int32} {Q : Int32 → MW → Prop} (hI : BND w) (hp0 : 0 ≤ a0.toInt) (hp1 : a0.toInt ≤ 39) (hp2 : 0 ≤ b0.toInt) (hp3 : b0.toInt ≤ 31) (hQ : ∀ (r : Int32) (w' : MW), BND w' → FR l_Mr_hasAct w w' → 0 ≤ r.toInt → r.toInt ≤ 1 → Q r w') : p_Mr_hasAct w a0 b0 Q := by
  refine Eq.mpr (p_Mr_hasAct.eq_1 _ _ _ _) ?_
  have o10051 : (0 ≤ b0.toInt) ∧ (b0.toInt ≤ 31) ∧ (0 ≤ (((40 : Int32) * (w.1 147 12)) + a0).toInt) ∧ ((((40 : Int32) * (w.1 147 12)) + a0).toInt ≤ 79) ∧ (0 ≤ (0 : Int32).toInt) ∧ ((0 : Int32).toInt ≤ 1) ∧ (0 ≤ (0 : Int32).toInt) ∧ ((0 : Int32).toInt ≤ 8) := by have := bd_147_12 hI; have := (by decide : ((0 : Int32)).toInt = 0); have := ti_mul2 (by decide : ((40 : Int32)).toInt = 40) (Eq.refl (w.1 147 12).toInt) (by omega) (by omega); have := ti_add2 (Eq.refl ((40 : Int32) * (w.1 147 12)).toInt) (Eq.refl a0.toInt) (by omega) (by omega); exact ⟨by omega, by omega, by omega, by omega, by omega, by omega, by omega, by omega⟩
  refine hq_Mr_hasAct_16 FU _ _ w hI  o10051.1 o10051.2.1 o10051.2.2.1 o10051.2.2.2.1 o10051.2.2.2.2.1 o10051.2.2.2.2.2.1 o10051.2.2.2.2.2.2.1 o10051.2.2.2.2.2.2.2 (fu_lt (by have := bd_147_12 hI; have := (by decide : ((0 : Int32)).toInt = 0); have := ti_mul2 (by decide : ((40 : Int32)).toInt = 40) (Eq.refl (w.1 147 12).toInt) (by omega) (by omega); have := ti_add2 (Eq.refl ((40 : Int32) * (w.1 147 12)).toInt) (Eq.refl a0.toInt) (by omega) (by omega); omega)) (fun e10055 w10052 hI10053 hL10054 p10056 p10057 => ?_) (fun r w9 hI9 hF9 q0 => q0.elim)
  have hF10058 : FR l_Mr_hasAct w w10052 := (FR.refl _ w).tr hL10054 rfl
  have o10059 : e10055.toInt = 0 ∨ e10055.toInt = 1 := by omega
  refine ⟨o10059, ?_⟩
  have o10060 : (0 ≤ e10055.toInt) ∧ (e10055.toInt ≤ 1) := by exact ⟨by omega, by omega⟩
  exact hQ _ _ hI10053 hF10058  o10060.1 o10060.2
def l_Mo_sense : Pl := [(201, none), (202, none)]
set_option maxRecDepth 20000 in
set_option maxHeartbeats 2000000 in
theorem h_Mo_sense {w : MW} {a0 : Int32} {b0 : Int32} {c0 : Int32} {Q : Int32 → MW → Prop} (hI : BND w)  (hQ : ∀ (r : Int32) (w' : MW), BND w' → FR l_Mo_sense w w' → 0 ≤ r.toInt → r.toInt ≤ 1 → Q r w') : p_Mo_sense w a0 b0 c0 Q := by
  refine Eq.mpr (p_Mo_sense.eq_1 _ _ _ _ _) ?_
  refine Eq.mpr (p_Mo_isRole.eq_1 _ _ _ _) ?_
  refine ⟨fun h10061 => ?_, fun h10061 => ?_⟩
  · refine ⟨fun _ => ?_, fun h => absurd (by decide) h⟩
    have o10062 : (0 ≤ (0 : Int32).toInt) ∧ ((0 : Int32).toInt ≤ 1) := by have := (by decide : ((0 : Int32)).toInt = 0); exact ⟨by omega, by omega⟩
    exact hQ _ _ hI (FR.refl _ w)  o10062.1 o10062.2
  · refine ⟨fun h10063 => ?_, fun h10063 => ?_⟩
    · refine ⟨fun _ => ?_, fun h => absurd (by decide) h⟩
      have o10064 : (0 ≤ (0 : Int32).toInt) ∧ ((0 : Int32).toInt ≤ 1) := by have := (by decide : ((0 : Int32)).toInt = 0); exact ⟨by omega, by omega⟩
      exact hQ _ _ hI (FR.refl _ w)  o10064.1 o10064.2
    · have o10065 : 0 ≤ (((40 : Int32) * (w.1 129 12)) + a0).toInt ∧ (((40 : Int32) * (w.1 129 12)) + a0).toInt < 80 := by have := bd_129_12 hI; have := (by decide : ((0 : Int32)).toInt = 0); have := bd_129_32 hI; have := ti_mul2 (by decide : ((40 : Int32)).toInt = 40) (Eq.refl (w.1 129 12).toInt) (by omega) (by omega); have := ti_add2 (Eq.refl ((40 : Int32) * (w.1 129 12)).toInt) (Eq.refl a0.toInt) (by omega) (by omega); omega
      refine ⟨o10065, ?_⟩
      refine ⟨fun h10066 => ?_, fun h10066 => ?_⟩
      · replace h10066 : ¬ (w.1 141 ((((40 : Int32) * (w.1 129 12)) + a0).toInt.toNat)).toInt = 30 := h10066
        refine ⟨fun _ => ?_, fun h => absurd (by decide) h⟩
        have o10067 : (0 ≤ (0 : Int32).toInt) ∧ ((0 : Int32).toInt ≤ 1) := by have := (by decide : ((0 : Int32)).toInt = 0); exact ⟨by omega, by omega⟩
        exact hQ _ _ hI (FR.refl _ w)  o10067.1 o10067.2
      · replace h10066 : ¬ (¬ (w.1 141 ((((40 : Int32) * (w.1 129 12)) + a0).toInt.toNat)).toInt = 30) := h10066
        refine ⟨fun h => absurd h (by decide), fun _ => ?_⟩
        refine ⟨fun h10068 => ?_, fun h10068 => ?_⟩
        · have o10069 : (0 ≤ (0 : Int32).toInt) ∧ ((0 : Int32).toInt ≤ 1) := by have := (by decide : ((0 : Int32)).toInt = 0); exact ⟨by omega, by omega⟩
          exact hQ _ _ hI (FR.refl _ w)  o10069.1 o10069.2
        · refine ⟨fun h10070 => ?_, fun h10070 => ?_⟩
          · have o10071 : 0 ≤ a0.toInt ∧ a0.toInt < 40 := by have := (by decide : ((0 : Int32)).toInt = 0); have := bd_129_32 hI; omega
            refine ⟨o10071, ?_⟩
            have o10072 : 0 ≤ a0.toInt ∧ a0.toInt < 40 := by have := (by decide : ((0 : Int32)).toInt = 0); have := bd_129_32 hI; omega
            refine ⟨o10072, ?_⟩
            have o10074 : (-1) ≤ b0.toInt ∧ b0.toInt ≤ 5 := by have := (by decide : ((0 : Int32)).toInt = 0); have := (by decide : ((5 : Int32)).toInt = 5); omega
            have hI10073 : BND (sI w 201 a0.toInt.toNat b0) := wbd_201 hI a0.toInt.toNat o10074.1 o10074.2
            have hI10075 : BND (sI (sI w 201 a0.toInt.toNat b0) 202 a0.toInt.toNat c0) := wbd_202 hI10073 a0.toInt.toNat
            have o10076 : (0 ≤ (1 : Int32).toInt) ∧ ((1 : Int32).toInt ≤ 1) := by have := (by decide : ((1 : Int32)).toInt = 1); exact ⟨by omega, by omega⟩
            exact hQ _ _ hI10075 (FR.I (FR.I (FR.refl _ w) (k := 201) (j := a0.toInt.toNat) (v := b0) rfl) (k := 202) (j := a0.toInt.toNat) (v := c0) rfl)  o10076.1 o10076.2
          · have o10077 : (0 ≤ (0 : Int32).toInt) ∧ ((0 : Int32).toInt ≤ 1) := by have := (by decide : ((0 : Int32)).toInt = 0); exact ⟨by omega, by omega⟩
            exact hQ _ _ hI (FR.refl _ w)  o10077.1 o10077.2
def l_Mo_watch : Pl := [(203, none), (204, none), (205, none)]
set_option maxRecDepth 20000 in
set_option maxHeartbeats 2000000 in
theorem h_Mo_watch {w : MW} {a0 : Int32} {b0 : Int32} {c0 : Int32} {e0 : Int64} {Q : Int32 → MW → Prop} (hI : BND w)  (hQ : ∀ (r : Int32) (w' : MW), BND w' → FR l_Mo_watch w w' → 0 ≤ r.toInt → r.toInt ≤ 1 → Q r w') : p_Mo_watch w a0 b0 c0 e0 Q := by
  refine Eq.mpr (p_Mo_watch.eq_1 _ _ _ _ _ _) ?_
  refine ⟨fun h10078 => ?_, fun h10078 => ?_⟩
  · have o10079 : (0 ≤ (0 : Int32).toInt) ∧ ((0 : Int32).toInt ≤ 1) := by have := (by decide : ((0 : Int32)).toInt = 0); exact ⟨by omega, by omega⟩
    exact hQ _ _ hI (FR.refl _ w)  o10079.1 o10079.2
  · refine ⟨fun h10080 => ?_, fun h10080 => ?_⟩
    · have o10081 : (0 ≤ (0 : Int32).toInt) ∧ ((0 : Int32).toInt ≤ 1) := by have := (by decide : ((0 : Int32)).toInt = 0); exact ⟨by omega, by omega⟩
      exact hQ _ _ hI (FR.refl _ w)  o10081.1 o10081.2
    · refine ⟨fun h10082 => ?_, fun h10082 => ?_⟩
      · have o10083 : (0 ≤ (0 : Int32).toInt) ∧ ((0 : Int32).toInt ≤ 1) := by have := (by decide : ((0 : Int32)).toInt = 0); exact ⟨by omega, by omega⟩
        exact hQ _ _ hI (FR.refl _ w)  o10083.1 o10083.2
      · refine ⟨fun h10084 => ?_, fun h10084 => ?_⟩
        · have o10085 : 0 ≤ a0.toInt ∧ a0.toInt < 16 := by have := (by decide : ((0 : Int32)).toInt = 0); have := (by decide : ((15 : Int32)).toInt = 15); omega
          refine ⟨o10085, ?_⟩
          have o10086 : 0 ≤ a0.toInt ∧ a0.toInt < 16 := by have := (by decide : ((0 : Int32)).toInt = 0); have := (by decide : ((15 : Int32)).toInt = 15); omega
          refine ⟨o10086, ?_⟩
          have o10087 : 0 ≤ a0.toInt ∧ a0.toInt < 16 := by have := (by decide : ((0 : Int32)).toInt = 0); have := (by decide : ((15 : Int32)).toInt = 15); omega
          refine ⟨o10087, ?_⟩
          have o10089 : (-1) ≤ b0.toInt ∧ b0.toInt ≤ 5 := by have := (by decide : ((0 : Int32)).toInt = 0); have := (by decide : ((5 : Int32)).toInt = 5); omega
          have hI10088 : BND (sI w 203 a0.toInt.toNat b0) := wbd_203 hI a0.toInt.toNat o10089.1 o10089.2
          have hI10090 : BND (sI (sI w 203 a0.toInt.toNat b0) 204 a0.toInt.toNat c0) := wbd_204 hI10088 a0.toInt.toNat
          have o10091 : (0 ≤ (1 : Int32).toInt) ∧ ((1 : Int32).toInt ≤ 1) := by have := (by decide : ((1 : Int32)).toInt = 1); exact ⟨by omega, by omega⟩
          exact hQ _ _ (bnd_J hI10090 (k := 205) (j := a0.toInt.toNat) (v := e0)) (FR.J (FR.I (FR.I (FR.refl _ w) (k := 203) (j := a0.toInt.toNat) (v := b0) rfl) (k := 204) (j := a0.toInt.toNat) (v := c0) rfl) (k := 205) (j := a0.toInt.toNat) (v := e0) rfl)  o10091.1 o10091.2
        · have o10092 : (0 ≤ (0 : Int32).toInt) ∧ ((0 : Int32).toInt ≤ 1) := by have := (by decide : ((0 : Int32)).toInt = 0); exact ⟨by omega, by omega⟩
          exact hQ _ _ hI (FR.refl _ w)  o10092.1 o10092.2
def l_Mo_signal : Pl := [(206, none)]
set_option maxRecDepth 20000 in
set_option maxHeartbeats 2000000 in
theorem h_Mo_signal {w : MW} {a0 : Int32} {b0 : Int64} {Q : Int32 → MW → Prop} (hI : BND w)  (hQ : ∀ (r : Int32) (w' : MW), BND w' → FR l_Mo_signal w w' → 0 ≤ r.toInt → r.toInt ≤ 1 → Q r w') : p_Mo_signal w a0 b0 Q := by
  refine Eq.mpr (p_Mo_signal.eq_1 _ _ _ _) ?_
  refine Eq.mpr (p_Mo_isRole.eq_1 _ _ _ _) ?_
  refine ⟨fun h10093 => ?_, fun h10093 => ?_⟩
  · refine ⟨fun h => absurd h (by decide), fun _ => ?_⟩
    have o10094 : (0 ≤ (0 : Int32).toInt) ∧ ((0 : Int32).toInt ≤ 1) := by have := (by decide : ((0 : Int32)).toInt = 0); exact ⟨by omega, by omega⟩
    exact hQ _ _ hI (FR.refl _ w)  o10094.1 o10094.2
  · refine ⟨fun h10095 => ?_, fun h10095 => ?_⟩
    · refine ⟨fun h => absurd h (by decide), fun _ => ?_⟩
      have o10096 : (0 ≤ (0 : Int32).toInt) ∧ ((0 : Int32).toInt ≤ 1) := by have := (by decide : ((0 : Int32)).toInt = 0); exact ⟨by omega, by omega⟩
      exact hQ _ _ hI (FR.refl _ w)  o10096.1 o10096.2
    · have o10097 : 0 ≤ (((40 : Int32) * (w.1 129 12)) + a0).toInt ∧ (((40 : Int32) * (w.1 129 12)) + a0).toInt < 80 := by have := bd_129_12 hI; have := (by decide : ((0 : Int32)).toInt = 0); have := bd_129_32 hI; have := ti_mul2 (by decide : ((40 : Int32)).toInt = 40) (Eq.refl (w.1 129 12).toInt) (by omega) (by omega); have := ti_add2 (Eq.refl ((40 : Int32) * (w.1 129 12)).toInt) (Eq.refl a0.toInt) (by omega) (by omega); omega
      refine ⟨o10097, ?_⟩
      refine ⟨fun h10098 => ?_, fun h10098 => ?_⟩
      · replace h10098 : ¬ (w.1 141 ((((40 : Int32) * (w.1 129 12)) + a0).toInt.toNat)).toInt = 30 := h10098
        refine ⟨fun h => absurd h (by decide), fun _ => ?_⟩
        have o10099 : (0 ≤ (0 : Int32).toInt) ∧ ((0 : Int32).toInt ≤ 1) := by have := (by decide : ((0 : Int32)).toInt = 0); exact ⟨by omega, by omega⟩
        exact hQ _ _ hI (FR.refl _ w)  o10099.1 o10099.2
      · replace h10098 : ¬ (¬ (w.1 141 ((((40 : Int32) * (w.1 129 12)) + a0).toInt.toNat)).toInt = 30) := h10098
        refine ⟨fun _ => ?_, fun h => absurd (by decide) h⟩
        have o10100 : 0 ≤ a0.toInt ∧ a0.toInt < 40 := by have := (by decide : ((0 : Int32)).toInt = 0); have := bd_129_32 hI; omega
        refine ⟨o10100, ?_⟩
        have o10101 : (0 ≤ (1 : Int32).toInt) ∧ ((1 : Int32).toInt ≤ 1) := by have := (by decide : ((1 : Int32)).toInt = 1); exact ⟨by omega, by omega⟩
        exact hQ _ _ (bnd_J hI (k := 206) (j := a0.toInt.toNat) (v := b0)) (FR.J (FR.refl _ w) (k := 206) (j := a0.toInt.toNat) (v := b0) rfl)  o10101.1 o10101.2
def l_Mo_value : Pl := []
set_option maxRecDepth 20000 in
set_option maxHeartbeats 2000000 in
theorem h_Mo_value {w : MW} {a0 : Int32} {Q : Int64 → MW → Prop} (hI : BND w)  (hQ : ∀ (r : Int64) (w' : MW), BND w' → FR l_Mo_value w w' → Q r w') : p_Mo_value w a0 Q := by
  refine Eq.mpr (p_Mo_value.eq_1 _ _ _) ?_
  refine Eq.mpr (p_Mo_isRole.eq_1 _ _ _ _) ?_
  refine ⟨fun h10102 => ?_, fun h10102 => ?_⟩
  · refine ⟨fun h => absurd h (by decide), fun _ => ?_⟩
    refine Eq.mpr (p_Mo_isRole.eq_1 _ _ _ _) ?_
    refine ⟨fun _ => ?_, fun h => absurd h10102 h⟩
    refine ⟨fun _ => ?_, fun h => absurd (by decide) h⟩
    exact hQ _ _ hI (FR.refl _ w) 
  · refine ⟨fun h10103 => ?_, fun h10103 => ?_⟩
    · refine ⟨fun h => absurd h (by decide), fun _ => ?_⟩
      refine Eq.mpr (p_Mo_isRole.eq_1 _ _ _ _) ?_
      refine ⟨fun h => absurd h h10102, fun _ => ?_⟩
      refine ⟨fun _ => ?_, fun h => absurd h10103 h⟩
      refine ⟨fun _ => ?_, fun h => absurd (by decide) h⟩
      exact hQ _ _ hI (FR.refl _ w) 
    · have o10104 : 0 ≤ (((40 : Int32) * (w.1 129 12)) + a0).toInt ∧ (((40 : Int32) * (w.1 129 12)) + a0).toInt < 80 := by have := bd_129_12 hI; have := (by decide : ((0 : Int32)).toInt = 0); have := bd_129_32 hI; have := ti_mul2 (by decide : ((40 : Int32)).toInt = 40) (Eq.refl (w.1 129 12).toInt) (by omega) (by omega); have := ti_add2 (Eq.refl ((40 : Int32) * (w.1 129 12)).toInt) (Eq.refl a0.toInt) (by omega) (by omega); omega
      refine ⟨o10104, ?_⟩
      refine ⟨fun h10105 => ?_, fun h10105 => ?_⟩
      · replace h10105 : ¬ (w.1 141 ((((40 : Int32) * (w.1 129 12)) + a0).toInt.toNat)).toInt = 30 := h10105
        refine ⟨fun h => absurd h (by decide), fun _ => ?_⟩
        refine Eq.mpr (p_Mo_isRole.eq_1 _ _ _ _) ?_
        refine ⟨fun h => absurd h h10102, fun _ => ?_⟩
        refine ⟨fun h => absurd h h10103, fun _ => ?_⟩
        have o10106 : 0 ≤ (((40 : Int32) * (w.1 129 12)) + a0).toInt ∧ (((40 : Int32) * (w.1 129 12)) + a0).toInt < 80 := by have := bd_129_12 hI; have := (by decide : ((0 : Int32)).toInt = 0); have := bd_129_32 hI; have := ti_mul2 (by decide : ((40 : Int32)).toInt = 40) (Eq.refl (w.1 129 12).toInt) (by omega) (by omega); have := ti_add2 (Eq.refl ((40 : Int32) * (w.1 129 12)).toInt) (Eq.refl a0.toInt) (by omega) (by omega); omega
        refine ⟨o10106, ?_⟩
        refine ⟨fun h10107 => ?_, fun h10107 => ?_⟩
        · replace h10107 : ¬ (w.1 141 ((((40 : Int32) * (w.1 129 12)) + a0).toInt.toNat)).toInt = 31 := h10107
          refine ⟨fun _ => ?_, fun h => absurd (by decide) h⟩
          exact hQ _ _ hI (FR.refl _ w) 
        · replace h10107 : ¬ (¬ (w.1 141 ((((40 : Int32) * (w.1 129 12)) + a0).toInt.toNat)).toInt = 31) := h10107
          refine ⟨fun h => absurd h (by decide), fun _ => ?_⟩
          have o10108 : 0 ≤ a0.toInt ∧ a0.toInt < 40 := by have := (by decide : ((0 : Int32)).toInt = 0); have := bd_129_32 hI; omega
          refine ⟨o10108, ?_⟩
          exact hQ _ _ hI (FR.refl _ w) 
      · replace h10105 : ¬ (¬ (w.1 141 ((((40 : Int32) * (w.1 129 12)) + a0).toInt.toNat)).toInt = 30) := h10105
        refine ⟨fun _ => ?_, fun h => absurd (by decide) h⟩
        have o10109 : 0 ≤ a0.toInt ∧ a0.toInt < 40 := by have := (by decide : ((0 : Int32)).toInt = 0); have := bd_129_32 hI; omega
        refine ⟨o10109, ?_⟩
        exact hQ _ _ hI (FR.refl _ w) 
def l_Mr_pass : Pl := [(162, none)]
set_option maxRecDepth 20000 in
set_option maxHeartbeats 2000000 in
theorem h_Mr_pass {w : MW} {a0 : Int32} {b0 : Int32} {c0 : Int32} {e0 : Int32} {Q : Int32 → MW → Prop} (hI : BND w)  (hQ : ∀ (r : Int32) (w' : MW), BND w' → FR l_Mr_pass w w' → (-4) ≤ r.toInt → r.toInt ≤ 0 → Q r w') : p_Mr_pass w a0 b0 c0 e0 Q := by
  refine Eq.mpr (p_Mr_pass.eq_1 _ _ _ _ _ _) ?_
  refine Eq.mpr (p_Mr_isRow.eq_1 _ _ _) ?_
  refine ⟨fun h10110 => ?_, fun h10110 => ?_⟩
  · refine ⟨fun h => absurd h (by decide), fun _ => ?_⟩
    have o10111 : ((-4) ≤ ((-1) : Int32).toInt) ∧ (((-1) : Int32).toInt ≤ 0) := by have := (by decide : (((-1) : Int32)).toInt = (-1)); exact ⟨by omega, by omega⟩
    exact hQ _ _ hI (FR.refl _ w)  o10111.1 o10111.2
  · refine ⟨fun h10112 => ?_, fun h10112 => ?_⟩
    · refine ⟨fun h => absurd h (by decide), fun _ => ?_⟩
      have o10113 : ((-4) ≤ ((-1) : Int32).toInt) ∧ (((-1) : Int32).toInt ≤ 0) := by have := (by decide : (((-1) : Int32)).toInt = (-1)); exact ⟨by omega, by omega⟩
      exact hQ _ _ hI (FR.refl _ w)  o10113.1 o10113.2
    · refine ⟨fun _ => ?_, fun h => absurd (by decide) h⟩
      refine ⟨fun h10114 => ?_, fun h10114 => ?_⟩
      · have o10115 : ((-4) ≤ ((-2) : Int32).toInt) ∧ (((-2) : Int32).toInt ≤ 0) := by have := (by decide : (((-2) : Int32)).toInt = (-2)); exact ⟨by omega, by omega⟩
        exact hQ _ _ hI (FR.refl _ w)  o10115.1 o10115.2
      · refine ⟨fun h10116 => ?_, fun h10116 => ?_⟩
        · have o10117 : ((-4) ≤ ((-2) : Int32).toInt) ∧ (((-2) : Int32).toInt ≤ 0) := by have := (by decide : (((-2) : Int32)).toInt = (-2)); exact ⟨by omega, by omega⟩
          exact hQ _ _ hI (FR.refl _ w)  o10117.1 o10117.2
        · refine ⟨fun h10118 => ?_, fun h10118 => ?_⟩
          · have o10119 : ((-4) ≤ ((-2) : Int32).toInt) ∧ (((-2) : Int32).toInt ≤ 0) := by have := (by decide : (((-2) : Int32)).toInt = (-2)); exact ⟨by omega, by omega⟩
            exact hQ _ _ hI (FR.refl _ w)  o10119.1 o10119.2
          · refine ⟨fun h10120 => ?_, fun h10120 => ?_⟩
            · have o10121 : ((-4) ≤ ((-2) : Int32).toInt) ∧ (((-2) : Int32).toInt ≤ 0) := by have := (by decide : (((-2) : Int32)).toInt = (-2)); exact ⟨by omega, by omega⟩
              exact hQ _ _ hI (FR.refl _ w)  o10121.1 o10121.2
            · refine ⟨fun h10122 => ?_, fun h10122 => ?_⟩
              · refine ⟨fun h10123 => ?_, fun h10123 => ?_⟩
                · have o10124 : ((-4) ≤ ((-3) : Int32).toInt) ∧ (((-3) : Int32).toInt ≤ 0) := by have := (by decide : (((-3) : Int32)).toInt = (-3)); exact ⟨by omega, by omega⟩
                  exact hQ _ _ hI (FR.refl _ w)  o10124.1 o10124.2
                · refine ⟨fun h10125 => ?_, fun h10125 => ?_⟩
                  · have o10126 : 0 ≤ (a0 - (1 : Int32)).toInt ∧ (a0 - (1 : Int32)).toInt < 40 := by have := (by decide : ((1 : Int32)).toInt = 1); have := bd_147_20 hI; have := ti_sub2 (Eq.refl a0.toInt) (by decide : ((1 : Int32)).toInt = 1) (by omega) (by omega); omega
                    refine ⟨o10126, ?_⟩
                    refine ⟨fun h10127 => ?_, fun h10127 => ?_⟩
                    · have o10128 : 0 ≤ (a0 - (1 : Int32)).toInt ∧ (a0 - (1 : Int32)).toInt < 40 := by have := (by decide : ((1 : Int32)).toInt = 1); have := bd_147_20 hI; have := ti_sub2 (Eq.refl a0.toInt) (by decide : ((1 : Int32)).toInt = 1) (by omega) (by omega); omega
                      refine ⟨o10128, ?_⟩
                      have o10130 : 0 ≤ e0.toInt ∧ e0.toInt ≤ 3600 := by have := (by decide : ((1 : Int32)).toInt = 1); have := (by decide : ((3600 : Int32)).toInt = 3600); omega
                      have hI10129 : BND (sI w 162 ((a0 - (1 : Int32)).toInt.toNat) e0) := wbd_162 hI ((a0 - (1 : Int32)).toInt.toNat) o10130.1 o10130.2
                      have o10131 : ((-4) ≤ (0 : Int32).toInt) ∧ ((0 : Int32).toInt ≤ 0) := by have := (by decide : ((0 : Int32)).toInt = 0); exact ⟨by omega, by omega⟩
                      exact hQ _ _ hI10129 (FR.I (FR.refl _ w) (k := 162) (j := (a0 - (1 : Int32)).toInt.toNat) (v := e0) rfl)  o10131.1 o10131.2
                    · have o10132 : ((-4) ≤ ((-4) : Int32).toInt) ∧ (((-4) : Int32).toInt ≤ 0) := by have := (by decide : (((-4) : Int32)).toInt = (-4)); exact ⟨by omega, by omega⟩
                      exact hQ _ _ hI (FR.refl _ w)  o10132.1 o10132.2
                  · have o10133 : ((-4) ≤ ((-3) : Int32).toInt) ∧ (((-3) : Int32).toInt ≤ 0) := by have := (by decide : (((-3) : Int32)).toInt = (-3)); exact ⟨by omega, by omega⟩
                    exact hQ _ _ hI (FR.refl _ w)  o10133.1 o10133.2
              · have o10134 : ((-4) ≤ ((-2) : Int32).toInt) ∧ (((-2) : Int32).toInt ≤ 0) := by have := (by decide : (((-2) : Int32)).toInt = (-2)); exact ⟨by omega, by omega⟩
                exact hQ _ _ hI (FR.refl _ w)  o10134.1 o10134.2
def l_Mo_flow_54 : Pl := [(193, none)]
def l_Mo_flow_20 : Pl := [(193, none)]
def l_Mo_flow_235 : Pl := [(165, none), (166, none), (173, none), (174, none)]
def l_Mo_flow_174 : Pl := [(165, none), (166, none), (173, none), (174, none)]
def l_Mo_flow_130 : Pl := [(165, none), (166, none), (173, none), (174, none)]
def l_Mo_flow_318 : Pl := []
def l_Mo_flow_438 : Pl := [(172, none)]
def l_Mo_flow_400 : Pl := [(172, none)]
def l_Mo_flow_281 : Pl := [(172, none), (173, none), (174, none)]
def l_Mo_flow : Pl := [(165, none), (166, none), (172, none), (173, none), (174, none), (193, none)]
set_option maxRecDepth 20000 in
set_option maxHeartbeats 2000000 in
theorem hq_Mo_flow_54 {x54_1 : Int32} {x54_2 : Int32} {x54_3 : Int32} {x54_5 : Int32} {x54_6 : Int32} {x54_7 : Int32} {E : Int32 → MW → Prop} {Q : MW → Prop} (n : Nat) : ∀ (x54_4 : Int32) (x54_8 : Int32) (w : MW), BND w → 0 ≤ x54_1.toInt → x54_1.toInt ≤ 23 → 0 ≤ x54_2.toInt → x54_2.toInt ≤ 19 → 0 ≤ x54_3.toInt → x54_3.toInt ≤ 19 → 0 ≤ x54_5.toInt → x54_5.toInt ≤ 23 → 0 ≤ x54_6.toInt → x54_6.toInt ≤ 47 → 0 ≤ x54_7.toInt → x54_7.toInt ≤ 23 → 0 ≤ x54_4.toInt → x54_4.toInt ≤ 4800 → 0 ≤ x54_8.toInt → x54_8.toInt ≤ 200 → x54_4.toInt - x54_8.toInt ≤ 200 * x54_5.toInt → x54_8.toInt ≤ (w.1 169 x54_7.toInt.toNat).toInt → x54_5.toInt ≤ 23 → (4800 - x54_4.toInt).toNat < n → (∀ (e54_4 : Int32) (w' : MW), BND w' → FR l_Mo_flow_54 w w' → 0 ≤ e54_4.toInt → e54_4.toInt ≤ 4800 → e54_4.toInt ≤ 200 * x54_5.toInt + 200 → E e54_4 w') → (∀ (w' : MW), BND w' → FR l_Mo_flow_54 w w' → False → Q w') → q_Mo_flow_54 x54_1 x54_2 x54_3 x54_5 x54_6 x54_7 E Q n x54_4 x54_8 w := by
  induction n with
  | zero => intros; omega
  | succ n ih =>
    intro x54_4 x54_8 w hI  hp0 hp1 hp2 hp3 hp4 hp5 hp6 hp7 hp8 hp9 hp10 hp11 hp12 hp13 hp14 hp15 hp16 hp17 hp18 hm hE hQ
    rw [q_Mo_flow_54.eq_2]
    have o10135 : 0 ≤ x54_7.toInt ∧ x54_7.toInt < 24 := by have := bd_169 hI x54_7.toInt.toNat; omega
    refine ⟨o10135, ?_⟩
    refine ⟨fun h10136 => ?_, fun h10136 => ?_⟩
    · have o10137 : (0 ≤ x54_4.toInt) ∧ (x54_4.toInt ≤ 4800) ∧ (x54_4.toInt ≤ 200 * x54_5.toInt + 200) := by have := bd_169 hI x54_7.toInt.toNat; exact ⟨by omega, by omega, by omega⟩
      exact hE _ _ hI (FR.refl _ w) o10137.1 o10137.2.1 o10137.2.2
    · refine ⟨fun h10138 => ?_, fun h10138 => ?_⟩
      · have o10139 : 0 ≤ x54_7.toInt ∧ x54_7.toInt < 24 := by have := bd_169 hI x54_7.toInt.toNat; omega
        refine ⟨o10139, ?_⟩
        have o10140 : 0 ≤ (((200 : Int32) * x54_7) + (((w.1 169 x54_7.toInt.toNat) - (1 : Int32)) - x54_8)).toInt ∧ (((200 : Int32) * x54_7) + (((w.1 169 x54_7.toInt.toNat) - (1 : Int32)) - x54_8)).toInt < 4800 := by have := bd_169 hI x54_7.toInt.toNat; have := ti_mul2 (by decide : ((200 : Int32)).toInt = 200) (Eq.refl x54_7.toInt) (by omega) (by omega); have := ti_sub2 (Eq.refl (w.1 169 x54_7.toInt.toNat).toInt) (by decide : ((1 : Int32)).toInt = 1) (by omega) (by omega); have := ti_sub2 (Eq.refl ((w.1 169 x54_7.toInt.toNat) - (1 : Int32)).toInt) (Eq.refl x54_8.toInt) (by omega) (by omega); have := ti_add2 (Eq.refl ((200 : Int32) * x54_7).toInt) (Eq.refl (((w.1 169 x54_7.toInt.toNat) - (1 : Int32)) - x54_8).toInt) (by omega) (by omega); omega
        refine ⟨o10140, ?_⟩
        have o10141 : 0 ≤ x54_4.toInt ∧ x54_4.toInt < 4800 := by have := bd_169 hI x54_7.toInt.toNat; omega
        refine ⟨o10141, ?_⟩
        have o10143 : 0 ≤ (vp_nar .byte (w.1 172 ((((200 : Int32) * x54_7) + (((w.1 169 x54_7.toInt.toNat) - (1 : Int32)) - x54_8)).toInt.toNat))).toInt ∧ (vp_nar .byte (w.1 172 ((((200 : Int32) * x54_7) + (((w.1 169 x54_7.toInt.toNat) - (1 : Int32)) - x54_8)).toInt.toNat))).toInt ≤ 15 := by have := bd_172 hI ((((200 : Int32) * x54_7) + (((w.1 169 x54_7.toInt.toNat) - (1 : Int32)) - x54_8)).toInt.toNat); have := nb_byteq (x := (w.1 172 ((((200 : Int32) * x54_7) + (((w.1 169 x54_7.toInt.toNat) - (1 : Int32)) - x54_8)).toInt.toNat))) (by omega) (by omega); omega
        have hI10142 : BND (sI w 193 x54_4.toInt.toNat (vp_nar .byte (w.1 172 ((((200 : Int32) * x54_7) + (((w.1 169 x54_7.toInt.toNat) - (1 : Int32)) - x54_8)).toInt.toNat)))) := wbd_193 hI x54_4.toInt.toNat o10143.1 o10143.2
        have o10144 : (0 ≤ x54_1.toInt) ∧ (x54_1.toInt ≤ 23) ∧ (0 ≤ x54_2.toInt) ∧ (x54_2.toInt ≤ 19) ∧ (0 ≤ x54_3.toInt) ∧ (x54_3.toInt ≤ 19) ∧ (0 ≤ x54_5.toInt) ∧ (x54_5.toInt ≤ 23) ∧ (0 ≤ x54_6.toInt) ∧ (x54_6.toInt ≤ 47) ∧ (0 ≤ x54_7.toInt) ∧ (x54_7.toInt ≤ 23) ∧ (0 ≤ (x54_4 + (1 : Int32)).toInt) ∧ ((x54_4 + (1 : Int32)).toInt ≤ 4800) ∧ (0 ≤ (x54_8 + (1 : Int32)).toInt) ∧ ((x54_8 + (1 : Int32)).toInt ≤ 200) ∧ ((x54_4 + (1 : Int32)).toInt - (x54_8 + (1 : Int32)).toInt ≤ 200 * x54_5.toInt) ∧ ((x54_8 + (1 : Int32)).toInt ≤ ((sI w 193 x54_4.toInt.toNat (vp_nar .byte (w.1 172 ((((200 : Int32) * x54_7) + (((w.1 169 x54_7.toInt.toNat) - (1 : Int32)) - x54_8)).toInt.toNat)))).1 169 x54_7.toInt.toNat).toInt) ∧ (x54_5.toInt ≤ 23) := by have := bd_169 hI x54_7.toInt.toNat; have : ((sI w 193 x54_4.toInt.toNat (vp_nar .byte (w.1 172 ((((200 : Int32) * x54_7) + (((w.1 169 x54_7.toInt.toNat) - (1 : Int32)) - x54_8)).toInt.toNat)))).1 169 x54_7.toInt.toNat).toInt = (w.1 169 x54_7.toInt.toNat).toInt := rfl; have := ti_add2 (Eq.refl x54_4.toInt) (by decide : ((1 : Int32)).toInt = 1) (by omega) (by omega); have := ti_add2 (Eq.refl x54_8.toInt) (by decide : ((1 : Int32)).toInt = 1) (by omega) (by omega); exact ⟨by omega, by omega, by omega, by omega, by omega, by omega, by omega, by omega, by omega, by omega, by omega, by omega, by omega, by omega, by omega, by omega, by omega, by omega, by omega⟩
        exact ih _ _ (sI w 193 x54_4.toInt.toNat (vp_nar .byte (w.1 172 ((((200 : Int32) * x54_7) + (((w.1 169 x54_7.toInt.toNat) - (1 : Int32)) - x54_8)).toInt.toNat)))) hI10142  o10144.1 o10144.2.1 o10144.2.2.1 o10144.2.2.2.1 o10144.2.2.2.2.1 o10144.2.2.2.2.2.1 o10144.2.2.2.2.2.2.1 o10144.2.2.2.2.2.2.2.1 o10144.2.2.2.2.2.2.2.2.1 o10144.2.2.2.2.2.2.2.2.2.1 o10144.2.2.2.2.2.2.2.2.2.2.1 o10144.2.2.2.2.2.2.2.2.2.2.2.1 o10144.2.2.2.2.2.2.2.2.2.2.2.2.1 o10144.2.2.2.2.2.2.2.2.2.2.2.2.2.1 o10144.2.2.2.2.2.2.2.2.2.2.2.2.2.2.1 o10144.2.2.2.2.2.2.2.2.2.2.2.2.2.2.2.1 o10144.2.2.2.2.2.2.2.2.2.2.2.2.2.2.2.2.1 o10144.2.2.2.2.2.2.2.2.2.2.2.2.2.2.2.2.2.1 o10144.2.2.2.2.2.2.2.2.2.2.2.2.2.2.2.2.2.2 (by have := bd_169 hI x54_7.toInt.toNat; have := ti_add2 (Eq.refl x54_4.toInt) (by decide : ((1 : Int32)).toInt = 1) (by omega) (by omega); have := ti_add2 (Eq.refl x54_8.toInt) (by decide : ((1 : Int32)).toInt = 1) (by omega) (by omega); omega) (fun e0 w9 hI9 hF9 p0 p1 u0 => hE e0 w9 hI9 ((FR.I (FR.refl _ w) (k := 193) (j := x54_4.toInt.toNat) (v := (vp_nar .byte (w.1 172 ((((200 : Int32) * x54_7) + (((w.1 169 x54_7.toInt.toNat) - (1 : Int32)) - x54_8)).toInt.toNat)))) rfl).tr hF9 rfl) p0 p1 (by have := bd_169 hI x54_7.toInt.toNat; have := ti_add2 (Eq.refl x54_4.toInt) (by decide : ((1 : Int32)).toInt = 1) (by omega) (by omega); have := ti_add2 (Eq.refl x54_8.toInt) (by decide : ((1 : Int32)).toInt = 1) (by omega) (by omega); omega)) (fun w9 hI9 hF9 q0 => q0.elim)
      · have o10145 : 0 ≤ (((200 : Int32) * x54_7) + x54_8).toInt ∧ (((200 : Int32) * x54_7) + x54_8).toInt < 4800 := by have := bd_169 hI x54_7.toInt.toNat; have := ti_mul2 (by decide : ((200 : Int32)).toInt = 200) (Eq.refl x54_7.toInt) (by omega) (by omega); have := ti_add2 (Eq.refl ((200 : Int32) * x54_7).toInt) (Eq.refl x54_8.toInt) (by omega) (by omega); omega
        refine ⟨o10145, ?_⟩
        have o10146 : 0 ≤ x54_4.toInt ∧ x54_4.toInt < 4800 := by have := bd_169 hI x54_7.toInt.toNat; omega
        refine ⟨o10146, ?_⟩
        have o10148 : 0 ≤ (vp_nar .byte (w.1 172 ((((200 : Int32) * x54_7) + x54_8).toInt.toNat))).toInt ∧ (vp_nar .byte (w.1 172 ((((200 : Int32) * x54_7) + x54_8).toInt.toNat))).toInt ≤ 15 := by have := bd_172 hI ((((200 : Int32) * x54_7) + x54_8).toInt.toNat); have := nb_byteq (x := (w.1 172 ((((200 : Int32) * x54_7) + x54_8).toInt.toNat))) (by omega) (by omega); omega
        have hI10147 : BND (sI w 193 x54_4.toInt.toNat (vp_nar .byte (w.1 172 ((((200 : Int32) * x54_7) + x54_8).toInt.toNat)))) := wbd_193 hI x54_4.toInt.toNat o10148.1 o10148.2
        have o10149 : (0 ≤ x54_1.toInt) ∧ (x54_1.toInt ≤ 23) ∧ (0 ≤ x54_2.toInt) ∧ (x54_2.toInt ≤ 19) ∧ (0 ≤ x54_3.toInt) ∧ (x54_3.toInt ≤ 19) ∧ (0 ≤ x54_5.toInt) ∧ (x54_5.toInt ≤ 23) ∧ (0 ≤ x54_6.toInt) ∧ (x54_6.toInt ≤ 47) ∧ (0 ≤ x54_7.toInt) ∧ (x54_7.toInt ≤ 23) ∧ (0 ≤ (x54_4 + (1 : Int32)).toInt) ∧ ((x54_4 + (1 : Int32)).toInt ≤ 4800) ∧ (0 ≤ (x54_8 + (1 : Int32)).toInt) ∧ ((x54_8 + (1 : Int32)).toInt ≤ 200) ∧ ((x54_4 + (1 : Int32)).toInt - (x54_8 + (1 : Int32)).toInt ≤ 200 * x54_5.toInt) ∧ ((x54_8 + (1 : Int32)).toInt ≤ ((sI w 193 x54_4.toInt.toNat (vp_nar .byte (w.1 172 ((((200 : Int32) * x54_7) + x54_8).toInt.toNat)))).1 169 x54_7.toInt.toNat).toInt) ∧ (x54_5.toInt ≤ 23) := by have := bd_169 hI x54_7.toInt.toNat; have : ((sI w 193 x54_4.toInt.toNat (vp_nar .byte (w.1 172 ((((200 : Int32) * x54_7) + x54_8).toInt.toNat)))).1 169 x54_7.toInt.toNat).toInt = (w.1 169 x54_7.toInt.toNat).toInt := rfl; have := ti_add2 (Eq.refl x54_4.toInt) (by decide : ((1 : Int32)).toInt = 1) (by omega) (by omega); have := ti_add2 (Eq.refl x54_8.toInt) (by decide : ((1 : Int32)).toInt = 1) (by omega) (by omega); exact ⟨by omega, by omega, by omega, by omega, by omega, by omega, by omega, by omega, by omega, by omega, by omega, by omega, by omega, by omega, by omega, by omega, by omega, by omega, by omega⟩
        exact ih _ _ (sI w 193 x54_4.toInt.toNat (vp_nar .byte (w.1 172 ((((200 : Int32) * x54_7) + x54_8).toInt.toNat)))) hI10147  o10149.1 o10149.2.1 o10149.2.2.1 o10149.2.2.2.1 o10149.2.2.2.2.1 o10149.2.2.2.2.2.1 o10149.2.2.2.2.2.2.1 o10149.2.2.2.2.2.2.2.1 o10149.2.2.2.2.2.2.2.2.1 o10149.2.2.2.2.2.2.2.2.2.1 o10149.2.2.2.2.2.2.2.2.2.2.1 o10149.2.2.2.2.2.2.2.2.2.2.2.1 o10149.2.2.2.2.2.2.2.2.2.2.2.2.1 o10149.2.2.2.2.2.2.2.2.2.2.2.2.2.1 o10149.2.2.2.2.2.2.2.2.2.2.2.2.2.2.1 o10149.2.2.2.2.2.2.2.2.2.2.2.2.2.2.2.1 o10149.2.2.2.2.2.2.2.2.2.2.2.2.2.2.2.2.1 o10149.2.2.2.2.2.2.2.2.2.2.2.2.2.2.2.2.2.1 o10149.2.2.2.2.2.2.2.2.2.2.2.2.2.2.2.2.2.2 (by have := bd_169 hI x54_7.toInt.toNat; have := ti_add2 (Eq.refl x54_4.toInt) (by decide : ((1 : Int32)).toInt = 1) (by omega) (by omega); have := ti_add2 (Eq.refl x54_8.toInt) (by decide : ((1 : Int32)).toInt = 1) (by omega) (by omega); omega) (fun e0 w9 hI9 hF9 p0 p1 u0 => hE e0 w9 hI9 ((FR.I (FR.refl _ w) (k := 193) (j := x54_4.toInt.toNat) (v := (vp_nar .byte (w.1 172 ((((200 : Int32) * x54_7) + x54_8).toInt.toNat)))) rfl).tr hF9 rfl) p0 p1 (by have := bd_169 hI x54_7.toInt.toNat; have := ti_add2 (Eq.refl x54_4.toInt) (by decide : ((1 : Int32)).toInt = 1) (by omega) (by omega); have := ti_add2 (Eq.refl x54_8.toInt) (by decide : ((1 : Int32)).toInt = 1) (by omega) (by omega); omega)) (fun w9 hI9 hF9 q0 => q0.elim)
set_option maxRecDepth 20000 in
set_option maxHeartbeats 2000000 in
theorem hq_Mo_flow_20 {x20_1 : Int32} {x20_2 : Int32} {x20_3 : Int32} {E : Int32 → MW → Prop} {Q : MW → Prop} (n : Nat) : ∀ (x20_4 : Int32) (x20_5 : Int32) (w : MW), BND w → 0 ≤ x20_1.toInt → x20_1.toInt ≤ 23 → 0 ≤ x20_2.toInt → x20_2.toInt ≤ 19 → 0 ≤ x20_3.toInt → x20_3.toInt ≤ 19 → 0 ≤ x20_4.toInt → x20_4.toInt ≤ 4800 → 0 ≤ x20_5.toInt → x20_5.toInt ≤ 24 → x20_4.toInt ≤ 200 * x20_5.toInt → (24 - x20_5.toInt).toNat < n → (∀ (e20_4 : Int32) (w' : MW), BND w' → FR l_Mo_flow_20 w w' → 0 ≤ e20_4.toInt → e20_4.toInt ≤ 4800 → E e20_4 w') → (∀ (w' : MW), BND w' → FR l_Mo_flow_20 w w' → False → Q w') → q_Mo_flow_20 x20_1 x20_2 x20_3 E Q n x20_4 x20_5 w := by
  induction n with
  | zero => intros; omega
  | succ n ih =>
    intro x20_4 x20_5 w hI  hp0 hp1 hp2 hp3 hp4 hp5 hp6 hp7 hp8 hp9 hp10 hm hE hQ
    rw [q_Mo_flow_20.eq_2]
    have o10150 : 0 ≤ x20_1.toInt ∧ x20_1.toInt < 24 := by omega
    refine ⟨o10150, ?_⟩
    refine ⟨fun h10151 => ?_, fun h10151 => ?_⟩
    · have o10152 : (0 ≤ x20_4.toInt) ∧ (x20_4.toInt ≤ 4800) := by have := bd_185 hI x20_1.toInt.toNat; exact ⟨by omega, by omega⟩
      exact hE _ _ hI (FR.refl _ w) o10152.1 o10152.2
    · have o10153 : 0 ≤ (((24 : Int32) * x20_1) + x20_5).toInt ∧ (((24 : Int32) * x20_1) + x20_5).toInt < 576 := by have := bd_185 hI x20_1.toInt.toNat; have := ti_mul2 (by decide : ((24 : Int32)).toInt = 24) (Eq.refl x20_1.toInt) (by omega) (by omega); have := ti_add2 (Eq.refl ((24 : Int32) * x20_1).toInt) (Eq.refl x20_5.toInt) (by omega) (by omega); omega
      refine ⟨o10153, ?_⟩
      have o10154 : (0 ≤ x20_1.toInt) ∧ (x20_1.toInt ≤ 23) ∧ (0 ≤ x20_2.toInt) ∧ (x20_2.toInt ≤ 19) ∧ (0 ≤ x20_3.toInt) ∧ (x20_3.toInt ≤ 19) ∧ (0 ≤ x20_5.toInt) ∧ (x20_5.toInt ≤ 23) ∧ (0 ≤ (w.1 186 ((((24 : Int32) * x20_1) + x20_5).toInt.toNat)).toInt) ∧ ((w.1 186 ((((24 : Int32) * x20_1) + x20_5).toInt.toNat)).toInt ≤ 47) ∧ (0 ≤ ((w.1 186 ((((24 : Int32) * x20_1) + x20_5).toInt.toNat)) / (2 : Int32)).toInt) ∧ (((w.1 186 ((((24 : Int32) * x20_1) + x20_5).toInt.toNat)) / (2 : Int32)).toInt ≤ 23) ∧ (0 ≤ x20_4.toInt) ∧ (x20_4.toInt ≤ 4800) ∧ (0 ≤ (0 : Int32).toInt) ∧ ((0 : Int32).toInt ≤ 200) ∧ (x20_4.toInt - (0 : Int32).toInt ≤ 200 * x20_5.toInt) ∧ ((0 : Int32).toInt ≤ (w.1 169 ((w.1 186 ((((24 : Int32) * x20_1) + x20_5).toInt.toNat)) / (2 : Int32)).toInt.toNat).toInt) ∧ (x20_5.toInt ≤ 23) := by have := bd_186 hI ((((24 : Int32) * x20_1) + x20_5).toInt.toNat); have := (by decide : ((0 : Int32)).toInt = 0); have := bd_169 hI (((w.1 186 ((((24 : Int32) * x20_1) + x20_5).toInt.toNat)) / (2 : Int32)).toInt.toNat); have := bd_185 hI x20_1.toInt.toNat; have := nb_div (x := (w.1 186 ((((24 : Int32) * x20_1) + x20_5).toInt.toNat))) (by omega) (by decide : ((2 : Int32)).toInt = 2) (by decide); exact ⟨by omega, by omega, by omega, by omega, by omega, by omega, by omega, by omega, by omega, by omega, by omega, by omega, by omega, by omega, by omega, by omega, by omega, by omega, by omega⟩
      refine hq_Mo_flow_54 FU _ _ w hI  o10154.1 o10154.2.1 o10154.2.2.1 o10154.2.2.2.1 o10154.2.2.2.2.1 o10154.2.2.2.2.2.1 o10154.2.2.2.2.2.2.1 o10154.2.2.2.2.2.2.2.1 o10154.2.2.2.2.2.2.2.2.1 o10154.2.2.2.2.2.2.2.2.2.1 o10154.2.2.2.2.2.2.2.2.2.2.1 o10154.2.2.2.2.2.2.2.2.2.2.2.1 o10154.2.2.2.2.2.2.2.2.2.2.2.2.1 o10154.2.2.2.2.2.2.2.2.2.2.2.2.2.1 o10154.2.2.2.2.2.2.2.2.2.2.2.2.2.2.1 o10154.2.2.2.2.2.2.2.2.2.2.2.2.2.2.2.1 o10154.2.2.2.2.2.2.2.2.2.2.2.2.2.2.2.2.1 o10154.2.2.2.2.2.2.2.2.2.2.2.2.2.2.2.2.2.1 o10154.2.2.2.2.2.2.2.2.2.2.2.2.2.2.2.2.2.2 (fu_lt (by have := bd_186 hI ((((24 : Int32) * x20_1) + x20_5).toInt.toNat); have := (by decide : ((0 : Int32)).toInt = 0); have := bd_185 hI x20_1.toInt.toNat; have := nb_div (x := (w.1 186 ((((24 : Int32) * x20_1) + x20_5).toInt.toNat))) (by omega) (by decide : ((2 : Int32)).toInt = 2) (by decide); omega)) (fun e10158 w10155 hI10156 hL10157 p10159 p10160 p10161 => ?_) (fun w9 hI9 hF9 q0 => q0.elim)
      have hF10162 : FR l_Mo_flow_20 w w10155 := (FR.refl _ w).tr hL10157 rfl
      have o10163 : (0 ≤ x20_1.toInt) ∧ (x20_1.toInt ≤ 23) ∧ (0 ≤ x20_2.toInt) ∧ (x20_2.toInt ≤ 19) ∧ (0 ≤ x20_3.toInt) ∧ (x20_3.toInt ≤ 19) ∧ (0 ≤ e10158.toInt) ∧ (e10158.toInt ≤ 4800) ∧ (0 ≤ (x20_5 + (1 : Int32)).toInt) ∧ ((x20_5 + (1 : Int32)).toInt ≤ 24) ∧ (e10158.toInt ≤ 200 * (x20_5 + (1 : Int32)).toInt) := by have := bd_185 hI x20_1.toInt.toNat; have := ti_add2 (Eq.refl x20_5.toInt) (by decide : ((1 : Int32)).toInt = 1) (by omega) (by omega); exact ⟨by omega, by omega, by omega, by omega, by omega, by omega, by omega, by omega, by omega, by omega, by omega⟩
      exact ih _ _ w10155 hI10156  o10163.1 o10163.2.1 o10163.2.2.1 o10163.2.2.2.1 o10163.2.2.2.2.1 o10163.2.2.2.2.2.1 o10163.2.2.2.2.2.2.1 o10163.2.2.2.2.2.2.2.1 o10163.2.2.2.2.2.2.2.2.1 o10163.2.2.2.2.2.2.2.2.2.1 o10163.2.2.2.2.2.2.2.2.2.2 (by have := bd_185 hI x20_1.toInt.toNat; have := ti_add2 (Eq.refl x20_5.toInt) (by decide : ((1 : Int32)).toInt = 1) (by omega) (by omega); omega) (fun e0 w9 hI9 hF9 p0 p1 => hE e0 w9 hI9 (hF10162.tr hF9 rfl) p0 p1 ) (fun w9 hI9 hF9 q0 => q0.elim)
set_option maxRecDepth 20000 in
set_option maxHeartbeats 2000000 in
theorem hq_Mo_flow_174 {x130_1 : Int32} {x130_2 : Int32} {x130_3 : Int32} {x130_4 : Int32} {y174_5 : Int32} {ys174_0 : Int32} {w : MW} {A : Int32 → Int32 → MW → Prop} {E : Int32 → MW → Prop} {Q : MW → Prop} (hI : BND w) (hp0 : 0 ≤ x130_1.toInt) (hp1 : x130_1.toInt ≤ 23) (hp2 : 0 ≤ x130_2.toInt) (hp3 : x130_2.toInt ≤ 19) (hp4 : 0 ≤ x130_3.toInt) (hp5 : x130_3.toInt ≤ 19) (hp6 : 0 ≤ x130_4.toInt) (hp7 : x130_4.toInt ≤ 4800) (hp8 : 0 ≤ y174_5.toInt) (hp9 : y174_5.toInt ≤ 100) (hp10 : 0 ≤ ys174_0.toInt) (hp11 : ys174_0.toInt ≤ 15) (hp12 : y174_5.toInt < 100) (hA : ∀ (a_x130_5 : Int32) (a_x130_6 : Int32) (w' : MW), BND w' → FR l_Mo_flow_174 w w' → 0 ≤ a_x130_5.toInt → a_x130_5.toInt ≤ 100 → 0 ≤ a_x130_6.toInt → a_x130_6.toInt ≤ 1 → a_x130_5.toInt = y174_5.toInt + a_x130_6.toInt → A a_x130_5 a_x130_6 w') (hE : ∀ (e130_5 : Int32) (w' : MW), BND w' → FR l_Mo_flow_174 w w' → 0 ≤ e130_5.toInt → e130_5.toInt ≤ 100 → E e130_5 w') (hQ : ∀ (w' : MW), BND w' → FR l_Mo_flow_174 w w' → False → Q w') : q_Mo_flow_174 x130_1 x130_2 x130_3 x130_4 y174_5 ys174_0 w A E Q := by
  refine Eq.mpr (q_Mo_flow_174.eq_1 _ _ _ _ _ _ _ _ _ _) ?_
  have o10164 : 0 ≤ x130_2.toInt ∧ x130_2.toInt < 20 := by omega
  refine ⟨o10164, ?_⟩
  refine ⟨fun h10165 => ?_, fun h10165 => ?_⟩
  · refine Eq.mpr (q_Mo_flow_235.eq_1 _ _ _ _ _ _ _ _ _ _ _) ?_
    refine ⟨fun _ => ?_, fun h => absurd (by decide) h⟩
    exact hA _ _ _ hI (FR.refl _ w) (by have := (by decide : ((0 : Int32)).toInt = 0); omega) (by have := (by decide : ((0 : Int32)).toInt = 0); omega) (by have := (by decide : ((0 : Int32)).toInt = 0); omega) (by have := (by decide : ((0 : Int32)).toInt = 0); omega) (by have := (by decide : ((0 : Int32)).toInt = 0); omega)
  · have o10166 : 0 ≤ x130_2.toInt ∧ x130_2.toInt < 20 := by omega
    refine ⟨o10166, ?_⟩
    have o10167 : 0 ≤ x130_1.toInt ∧ x130_1.toInt < 24 := by omega
    refine ⟨o10167, ?_⟩
    refine ⟨fun h10168 => ?_, fun h10168 => ?_⟩
    · refine Eq.mpr (q_Mo_flow_235.eq_1 _ _ _ _ _ _ _ _ _ _ _) ?_
      refine ⟨fun _ => ?_, fun h => absurd (by decide) h⟩
      exact hA _ _ _ hI (FR.refl _ w) (by have := (by decide : ((0 : Int32)).toInt = 0); omega) (by have := (by decide : ((0 : Int32)).toInt = 0); omega) (by have := (by decide : ((0 : Int32)).toInt = 0); omega) (by have := (by decide : ((0 : Int32)).toInt = 0); omega) (by have := (by decide : ((0 : Int32)).toInt = 0); omega)
    · refine ⟨fun h10169 => ?_, fun h10169 => ?_⟩
      · refine Eq.mpr (q_Mo_flow_235.eq_1 _ _ _ _ _ _ _ _ _ _ _) ?_
        refine ⟨fun h => absurd h (by decide), fun _ => ?_⟩
        have o10170 : 0 ≤ x130_2.toInt ∧ x130_2.toInt < 20 := by omega
        refine ⟨o10170, ?_⟩
        have o10171 : 0 ≤ x130_2.toInt ∧ x130_2.toInt < 20 := by omega
        refine ⟨o10171, ?_⟩
        refine ⟨fun h10172 => ?_, fun h10172 => ?_⟩
        · have hI10173 : BND (sI w 165 x130_2.toInt.toNat ((w.1 165 x130_2.toInt.toNat) - (1 : Int32))) := wbd_165 hI x130_2.toInt.toNat
          exact hA _ _ _ hI10173 (FR.I (FR.refl _ w) (k := 165) (j := x130_2.toInt.toNat) (v := ((w.1 165 x130_2.toInt.toNat) - (1 : Int32))) rfl) (by have := (by decide : ((1 : Int32)).toInt = 1); have := ti_add2 (Eq.refl y174_5.toInt) (by decide : ((1 : Int32)).toInt = 1) (by omega) (by omega); omega) (by have := (by decide : ((1 : Int32)).toInt = 1); have := ti_add2 (Eq.refl y174_5.toInt) (by decide : ((1 : Int32)).toInt = 1) (by omega) (by omega); omega) (by have := (by decide : ((1 : Int32)).toInt = 1); have := ti_add2 (Eq.refl y174_5.toInt) (by decide : ((1 : Int32)).toInt = 1) (by omega) (by omega); omega) (by have := (by decide : ((1 : Int32)).toInt = 1); have := ti_add2 (Eq.refl y174_5.toInt) (by decide : ((1 : Int32)).toInt = 1) (by omega) (by omega); omega) (by have := (by decide : ((1 : Int32)).toInt = 1); have := ti_add2 (Eq.refl y174_5.toInt) (by decide : ((1 : Int32)).toInt = 1) (by omega) (by omega); omega)
        · exfalso; have := (by decide : ((0 : Int32)).toInt = 0); have := bd_166 hI x130_2.toInt.toNat; have := bd_183 hI x130_1.toInt.toNat; omega
      · have o10174 : 0 ≤ x130_3.toInt ∧ x130_3.toInt < 20 := by omega
        refine ⟨o10174, ?_⟩
        have o10175 : 0 ≤ x130_3.toInt ∧ x130_3.toInt < 20 := by omega
        refine ⟨o10175, ?_⟩
        refine ⟨fun h10176 => ?_, fun h10176 => ?_⟩
        · refine Eq.mpr (q_Mo_flow_235.eq_1 _ _ _ _ _ _ _ _ _ _ _) ?_
          refine ⟨fun _ => ?_, fun h => absurd (by decide) h⟩
          exact hA _ _ _ hI (FR.refl _ w) (by have := (by decide : ((0 : Int32)).toInt = 0); omega) (by have := (by decide : ((0 : Int32)).toInt = 0); omega) (by have := (by decide : ((0 : Int32)).toInt = 0); omega) (by have := (by decide : ((0 : Int32)).toInt = 0); omega) (by have := (by decide : ((0 : Int32)).toInt = 0); omega)
        · have o10177 : (0 ≤ ys174_0.toInt) ∧ (ys174_0.toInt ≤ 15) ∧ (0 ≤ x130_3.toInt) ∧ (x130_3.toInt ≤ 43) ∧ (x130_3.toInt < (w.1 127 4).toInt + (w.1 127 11).toInt) := by have := bd_127_4 hI; have := bd_127_11 hI; have := (by decide : ((0 : Int32)).toInt = 0); exact ⟨by omega, by omega, by omega, by omega, by omega⟩
          refine h_Mo_mayCome hI  o10177.1 o10177.2.1 o10177.2.2.1 o10177.2.2.2.1 o10177.2.2.2.2 (fun r10181 w10178 hI10179 hL10180 p10182 p10183 => ?_)
          have hF10184 : FR l_Mo_flow_174 w w10178 := (FR.refl _ w).tr hL10180 rfl
          refine ⟨fun h10185 => ?_, fun h10185 => ?_⟩
          · refine Eq.mpr (q_Mo_flow_235.eq_1 _ _ _ _ _ _ _ _ _ _ _) ?_
            refine ⟨fun _ => ?_, fun h => absurd (by decide) h⟩
            exact hA _ _ _ hI10179 hF10184 (by have := (by decide : ((0 : Int32)).toInt = 0); omega) (by have := (by decide : ((0 : Int32)).toInt = 0); omega) (by have := (by decide : ((0 : Int32)).toInt = 0); omega) (by have := (by decide : ((0 : Int32)).toInt = 0); omega) (by have := (by decide : ((0 : Int32)).toInt = 0); omega)
          · refine Eq.mpr (q_Mo_flow_235.eq_1 _ _ _ _ _ _ _ _ _ _ _) ?_
            refine ⟨fun h => absurd h (by decide), fun _ => ?_⟩
            have o10186 : 0 ≤ x130_2.toInt ∧ x130_2.toInt < 20 := by omega
            refine ⟨o10186, ?_⟩
            have o10187 : 0 ≤ x130_2.toInt ∧ x130_2.toInt < 20 := by omega
            refine ⟨o10187, ?_⟩
            refine ⟨fun h10188 => ?_, fun h10188 => ?_⟩
            · exfalso; have := (by decide : ((0 : Int32)).toInt = 0); have := bd_166 hI x130_2.toInt.toNat; have := bd_183 hI x130_1.toInt.toNat; have := bd_164 hI x130_3.toInt.toNat; omega
            · refine Eq.mpr (p_Mo_come.eq_1 _ _ _ _) ?_
              have o10189 : 0 ≤ x130_3.toInt ∧ x130_3.toInt < 20 := by omega
              refine ⟨o10189, ?_⟩
              refine ⟨fun h10190 => ?_, fun h10190 => ?_⟩
              · have o10191 : 0 ≤ x130_3.toInt ∧ x130_3.toInt < 20 := by omega
                refine ⟨o10191, ?_⟩
                have o10192 : 0 ≤ x130_3.toInt ∧ x130_3.toInt < 20 := by omega
                refine ⟨o10192, ?_⟩
                have o10193 : 0 ≤ x130_3.toInt ∧ x130_3.toInt < 20 := by omega
                refine ⟨o10193, ?_⟩
                refine Eq.mpr (p_Mo_note.eq_1 _ _ _) ?_
                have hI10194 : BND (sI w10178 165 x130_2.toInt.toNat ((w10178.1 165 x130_2.toInt.toNat) - (1 : Int32))) := wbd_165 hI10179 x130_2.toInt.toNat
                have o10196 : 0 ≤ ys174_0.toInt ∧ ys174_0.toInt ≤ 15 := by have := (by decide : ((0 : Int32)).toInt = 0); omega
                have hI10195 : BND (sI (sI w10178 165 x130_2.toInt.toNat ((w10178.1 165 x130_2.toInt.toNat) - (1 : Int32))) 166 x130_3.toInt.toNat ys174_0) := wbd_166 hI10194 x130_3.toInt.toNat o10196.1 o10196.2
                have hI10197 : BND (sI (sI (sI w10178 165 x130_2.toInt.toNat ((w10178.1 165 x130_2.toInt.toNat) - (1 : Int32))) 166 x130_3.toInt.toNat ys174_0) 165 x130_3.toInt.toNat (((sI w10178 165 x130_2.toInt.toNat ((w10178.1 165 x130_2.toInt.toNat) - (1 : Int32))).1 165 x130_3.toInt.toNat) + (1 : Int32))) := wbd_165 hI10195 x130_3.toInt.toNat
                have o10198 : (0 ≤ x130_3.toInt) ∧ (x130_3.toInt ≤ 43) ∧ (x130_3.toInt < ((sI (sI (sI w10178 165 x130_2.toInt.toNat ((w10178.1 165 x130_2.toInt.toNat) - (1 : Int32))) 166 x130_3.toInt.toNat ys174_0) 165 x130_3.toInt.toNat (((sI w10178 165 x130_2.toInt.toNat ((w10178.1 165 x130_2.toInt.toNat) - (1 : Int32))).1 165 x130_3.toInt.toNat) + (1 : Int32))).1 127 4).toInt + ((sI (sI (sI w10178 165 x130_2.toInt.toNat ((w10178.1 165 x130_2.toInt.toNat) - (1 : Int32))) 166 x130_3.toInt.toNat ys174_0) 165 x130_3.toInt.toNat (((sI w10178 165 x130_2.toInt.toNat ((w10178.1 165 x130_2.toInt.toNat) - (1 : Int32))).1 165 x130_3.toInt.toNat) + (1 : Int32))).1 127 11).toInt) := by have := bd_127_4 hI10179; have := bd_127_4 hI; have := (congrArg Int32.toInt (hL10180 127 4 rfl).1); have : ((sI (sI (sI w10178 165 x130_2.toInt.toNat ((w10178.1 165 x130_2.toInt.toNat) - (1 : Int32))) 166 x130_3.toInt.toNat ys174_0) 165 x130_3.toInt.toNat (((sI w10178 165 x130_2.toInt.toNat ((w10178.1 165 x130_2.toInt.toNat) - (1 : Int32))).1 165 x130_3.toInt.toNat) + (1 : Int32))).1 127 4).toInt = (w10178.1 127 4).toInt := rfl; have := bd_127_11 hI10179; have := bd_127_11 hI; have := (congrArg Int32.toInt (hL10180 127 11 rfl).1); have : ((sI (sI (sI w10178 165 x130_2.toInt.toNat ((w10178.1 165 x130_2.toInt.toNat) - (1 : Int32))) 166 x130_3.toInt.toNat ys174_0) 165 x130_3.toInt.toNat (((sI w10178 165 x130_2.toInt.toNat ((w10178.1 165 x130_2.toInt.toNat) - (1 : Int32))).1 165 x130_3.toInt.toNat) + (1 : Int32))).1 127 11).toInt = (w10178.1 127 11).toInt := rfl; exact ⟨by omega, by omega, by omega⟩
                refine h_Mo_liquidIn hI10197  o10198.1 o10198.2.1 o10198.2.2 (fun r10202 w10199 hI10200 hL10201 p10203 p10204 => ?_)
                have hF10205 : FR l_Mo_flow_174 w w10199 := (FR.I (FR.I (FR.I hF10184 (k := 165) (j := x130_2.toInt.toNat) (v := ((w10178.1 165 x130_2.toInt.toNat) - (1 : Int32))) rfl) (k := 166) (j := x130_3.toInt.toNat) (v := ys174_0) rfl) (k := 165) (j := x130_3.toInt.toNat) (v := (((sI w10178 165 x130_2.toInt.toNat ((w10178.1 165 x130_2.toInt.toNat) - (1 : Int32))).1 165 x130_3.toInt.toNat) + (1 : Int32))) rfl).tr hL10201 rfl
                refine ⟨fun h10206 => ?_, fun h10206 => ?_⟩
                · exact hA _ _ _ hI10200 hF10205 (by have := (by decide : ((1 : Int32)).toInt = 1); have := ti_add2 (Eq.refl y174_5.toInt) (by decide : ((1 : Int32)).toInt = 1) (by omega) (by omega); omega) (by have := (by decide : ((1 : Int32)).toInt = 1); have := ti_add2 (Eq.refl y174_5.toInt) (by decide : ((1 : Int32)).toInt = 1) (by omega) (by omega); omega) (by have := (by decide : ((1 : Int32)).toInt = 1); have := ti_add2 (Eq.refl y174_5.toInt) (by decide : ((1 : Int32)).toInt = 1) (by omega) (by omega); omega) (by have := (by decide : ((1 : Int32)).toInt = 1); have := ti_add2 (Eq.refl y174_5.toInt) (by decide : ((1 : Int32)).toInt = 1) (by omega) (by omega); omega) (by have := (by decide : ((1 : Int32)).toInt = 1); have := ti_add2 (Eq.refl y174_5.toInt) (by decide : ((1 : Int32)).toInt = 1) (by omega) (by omega); omega)
                · have o10207 : 0 ≤ x130_3.toInt ∧ x130_3.toInt < 44 := by omega
                  refine ⟨o10207, ?_⟩
                  have o10209 : 0 ≤ r10202.toInt ∧ r10202.toInt ≤ 15 := by have := (by decide : ((0 : Int32)).toInt = 0); omega
                  have hI10208 : BND (sI w10199 173 x130_3.toInt.toNat r10202) := wbd_173 hI10200 x130_3.toInt.toNat o10209.1 o10209.2
                  have o10210 : (0 ≤ x130_3.toInt) ∧ (x130_3.toInt ≤ 43) := by exact ⟨by omega, by omega⟩
                  refine h_Mo_forget hI10208  o10210.1 o10210.2 (fun w10211 hI10212 hL10213  => ?_)
                  have hF10215 : FR l_Mo_flow_174 w w10211 := (FR.I hF10205 (k := 173) (j := x130_3.toInt.toNat) (v := r10202) rfl).tr hL10213 rfl
                  exact hA _ _ _ hI10212 hF10215 (by have := (by decide : ((1 : Int32)).toInt = 1); have := ti_add2 (Eq.refl y174_5.toInt) (by decide : ((1 : Int32)).toInt = 1) (by omega) (by omega); omega) (by have := (by decide : ((1 : Int32)).toInt = 1); have := ti_add2 (Eq.refl y174_5.toInt) (by decide : ((1 : Int32)).toInt = 1) (by omega) (by omega); omega) (by have := (by decide : ((1 : Int32)).toInt = 1); have := ti_add2 (Eq.refl y174_5.toInt) (by decide : ((1 : Int32)).toInt = 1) (by omega) (by omega); omega) (by have := (by decide : ((1 : Int32)).toInt = 1); have := ti_add2 (Eq.refl y174_5.toInt) (by decide : ((1 : Int32)).toInt = 1) (by omega) (by omega); omega) (by have := (by decide : ((1 : Int32)).toInt = 1); have := ti_add2 (Eq.refl y174_5.toInt) (by decide : ((1 : Int32)).toInt = 1) (by omega) (by omega); omega)
              · have o10216 : 0 ≤ x130_3.toInt ∧ x130_3.toInt < 20 := by omega
                refine ⟨o10216, ?_⟩
                refine ⟨fun h10217 => ?_, fun h10217 => ?_⟩
                · have o10218 : 0 ≤ x130_3.toInt ∧ x130_3.toInt < 20 := by omega
                  refine ⟨o10218, ?_⟩
                  have o10219 : 0 ≤ x130_3.toInt ∧ x130_3.toInt < 20 := by omega
                  refine ⟨o10219, ?_⟩
                  have o10220 : 0 ≤ x130_3.toInt ∧ x130_3.toInt < 20 := by omega
                  refine ⟨o10220, ?_⟩
                  refine Eq.mpr (p_Mo_note.eq_1 _ _ _) ?_
                  have hI10221 : BND (sI w10178 165 x130_2.toInt.toNat ((w10178.1 165 x130_2.toInt.toNat) - (1 : Int32))) := wbd_165 hI10179 x130_2.toInt.toNat
                  have hI10222 : BND (sI (sI w10178 165 x130_2.toInt.toNat ((w10178.1 165 x130_2.toInt.toNat) - (1 : Int32))) 166 x130_3.toInt.toNat 15) := wbd_166 hI10221 x130_3.toInt.toNat (by decide) (by decide)
                  have hI10223 : BND (sI (sI (sI w10178 165 x130_2.toInt.toNat ((w10178.1 165 x130_2.toInt.toNat) - (1 : Int32))) 166 x130_3.toInt.toNat 15) 165 x130_3.toInt.toNat (((sI w10178 165 x130_2.toInt.toNat ((w10178.1 165 x130_2.toInt.toNat) - (1 : Int32))).1 165 x130_3.toInt.toNat) + (1 : Int32))) := wbd_165 hI10222 x130_3.toInt.toNat
                  have o10224 : (0 ≤ x130_3.toInt) ∧ (x130_3.toInt ≤ 43) ∧ (x130_3.toInt < ((sI (sI (sI w10178 165 x130_2.toInt.toNat ((w10178.1 165 x130_2.toInt.toNat) - (1 : Int32))) 166 x130_3.toInt.toNat 15) 165 x130_3.toInt.toNat (((sI w10178 165 x130_2.toInt.toNat ((w10178.1 165 x130_2.toInt.toNat) - (1 : Int32))).1 165 x130_3.toInt.toNat) + (1 : Int32))).1 127 4).toInt + ((sI (sI (sI w10178 165 x130_2.toInt.toNat ((w10178.1 165 x130_2.toInt.toNat) - (1 : Int32))) 166 x130_3.toInt.toNat 15) 165 x130_3.toInt.toNat (((sI w10178 165 x130_2.toInt.toNat ((w10178.1 165 x130_2.toInt.toNat) - (1 : Int32))).1 165 x130_3.toInt.toNat) + (1 : Int32))).1 127 11).toInt) := by have := bd_127_4 hI10179; have := bd_127_4 hI; have := (congrArg Int32.toInt (hL10180 127 4 rfl).1); have : ((sI (sI (sI w10178 165 x130_2.toInt.toNat ((w10178.1 165 x130_2.toInt.toNat) - (1 : Int32))) 166 x130_3.toInt.toNat 15) 165 x130_3.toInt.toNat (((sI w10178 165 x130_2.toInt.toNat ((w10178.1 165 x130_2.toInt.toNat) - (1 : Int32))).1 165 x130_3.toInt.toNat) + (1 : Int32))).1 127 4).toInt = (w10178.1 127 4).toInt := rfl; have := bd_127_11 hI10179; have := bd_127_11 hI; have := (congrArg Int32.toInt (hL10180 127 11 rfl).1); have : ((sI (sI (sI w10178 165 x130_2.toInt.toNat ((w10178.1 165 x130_2.toInt.toNat) - (1 : Int32))) 166 x130_3.toInt.toNat 15) 165 x130_3.toInt.toNat (((sI w10178 165 x130_2.toInt.toNat ((w10178.1 165 x130_2.toInt.toNat) - (1 : Int32))).1 165 x130_3.toInt.toNat) + (1 : Int32))).1 127 11).toInt = (w10178.1 127 11).toInt := rfl; exact ⟨by omega, by omega, by omega⟩
                  refine h_Mo_liquidIn hI10223  o10224.1 o10224.2.1 o10224.2.2 (fun r10228 w10225 hI10226 hL10227 p10229 p10230 => ?_)
                  have hF10231 : FR l_Mo_flow_174 w w10225 := (FR.I (FR.I (FR.I hF10184 (k := 165) (j := x130_2.toInt.toNat) (v := ((w10178.1 165 x130_2.toInt.toNat) - (1 : Int32))) rfl) (k := 166) (j := x130_3.toInt.toNat) (v := 15) rfl) (k := 165) (j := x130_3.toInt.toNat) (v := (((sI w10178 165 x130_2.toInt.toNat ((w10178.1 165 x130_2.toInt.toNat) - (1 : Int32))).1 165 x130_3.toInt.toNat) + (1 : Int32))) rfl).tr hL10227 rfl
                  refine ⟨fun h10232 => ?_, fun h10232 => ?_⟩
                  · exact hA _ _ _ hI10226 hF10231 (by have := (by decide : ((1 : Int32)).toInt = 1); have := ti_add2 (Eq.refl y174_5.toInt) (by decide : ((1 : Int32)).toInt = 1) (by omega) (by omega); omega) (by have := (by decide : ((1 : Int32)).toInt = 1); have := ti_add2 (Eq.refl y174_5.toInt) (by decide : ((1 : Int32)).toInt = 1) (by omega) (by omega); omega) (by have := (by decide : ((1 : Int32)).toInt = 1); have := ti_add2 (Eq.refl y174_5.toInt) (by decide : ((1 : Int32)).toInt = 1) (by omega) (by omega); omega) (by have := (by decide : ((1 : Int32)).toInt = 1); have := ti_add2 (Eq.refl y174_5.toInt) (by decide : ((1 : Int32)).toInt = 1) (by omega) (by omega); omega) (by have := (by decide : ((1 : Int32)).toInt = 1); have := ti_add2 (Eq.refl y174_5.toInt) (by decide : ((1 : Int32)).toInt = 1) (by omega) (by omega); omega)
                  · have o10233 : 0 ≤ x130_3.toInt ∧ x130_3.toInt < 44 := by omega
                    refine ⟨o10233, ?_⟩
                    have o10235 : 0 ≤ r10228.toInt ∧ r10228.toInt ≤ 15 := by have := (by decide : ((0 : Int32)).toInt = 0); omega
                    have hI10234 : BND (sI w10225 173 x130_3.toInt.toNat r10228) := wbd_173 hI10226 x130_3.toInt.toNat o10235.1 o10235.2
                    have o10236 : (0 ≤ x130_3.toInt) ∧ (x130_3.toInt ≤ 43) := by exact ⟨by omega, by omega⟩
                    refine h_Mo_forget hI10234  o10236.1 o10236.2 (fun w10237 hI10238 hL10239  => ?_)
                    have hF10241 : FR l_Mo_flow_174 w w10237 := (FR.I hF10231 (k := 173) (j := x130_3.toInt.toNat) (v := r10228) rfl).tr hL10239 rfl
                    exact hA _ _ _ hI10238 hF10241 (by have := (by decide : ((1 : Int32)).toInt = 1); have := ti_add2 (Eq.refl y174_5.toInt) (by decide : ((1 : Int32)).toInt = 1) (by omega) (by omega); omega) (by have := (by decide : ((1 : Int32)).toInt = 1); have := ti_add2 (Eq.refl y174_5.toInt) (by decide : ((1 : Int32)).toInt = 1) (by omega) (by omega); omega) (by have := (by decide : ((1 : Int32)).toInt = 1); have := ti_add2 (Eq.refl y174_5.toInt) (by decide : ((1 : Int32)).toInt = 1) (by omega) (by omega); omega) (by have := (by decide : ((1 : Int32)).toInt = 1); have := ti_add2 (Eq.refl y174_5.toInt) (by decide : ((1 : Int32)).toInt = 1) (by omega) (by omega); omega) (by have := (by decide : ((1 : Int32)).toInt = 1); have := ti_add2 (Eq.refl y174_5.toInt) (by decide : ((1 : Int32)).toInt = 1) (by omega) (by omega); omega)
                · have o10242 : 0 ≤ x130_3.toInt ∧ x130_3.toInt < 20 := by omega
                  refine ⟨o10242, ?_⟩
                  have o10243 : 0 ≤ x130_3.toInt ∧ x130_3.toInt < 20 := by omega
                  refine ⟨o10243, ?_⟩
                  have o10244 : 0 ≤ x130_3.toInt ∧ x130_3.toInt < 20 := by omega
                  refine ⟨o10244, ?_⟩
                  refine Eq.mpr (p_Mo_note.eq_1 _ _ _) ?_
                  have hI10245 : BND (sI w10178 165 x130_2.toInt.toNat ((w10178.1 165 x130_2.toInt.toNat) - (1 : Int32))) := wbd_165 hI10179 x130_2.toInt.toNat
                  have o10247 : 0 ≤ ys174_0.toInt ∧ ys174_0.toInt ≤ 15 := by have := (by decide : ((0 : Int32)).toInt = 0); have := bd_166 hI10179 x130_3.toInt.toNat; have := bd_166 hI x130_3.toInt.toNat; have := (congrArg Int32.toInt (hL10180 166 x130_3.toInt.toNat rfl).1); have : ((sI w10178 165 x130_2.toInt.toNat ((w10178.1 165 x130_2.toInt.toNat) - (1 : Int32))).1 166 x130_3.toInt.toNat).toInt = (w10178.1 166 x130_3.toInt.toNat).toInt := rfl; have := bd_166 hI x130_2.toInt.toNat; have := bd_183 hI x130_1.toInt.toNat; omega
                  have hI10246 : BND (sI (sI w10178 165 x130_2.toInt.toNat ((w10178.1 165 x130_2.toInt.toNat) - (1 : Int32))) 166 x130_3.toInt.toNat ys174_0) := wbd_166 hI10245 x130_3.toInt.toNat o10247.1 o10247.2
                  have hI10248 : BND (sI (sI (sI w10178 165 x130_2.toInt.toNat ((w10178.1 165 x130_2.toInt.toNat) - (1 : Int32))) 166 x130_3.toInt.toNat ys174_0) 165 x130_3.toInt.toNat (((sI w10178 165 x130_2.toInt.toNat ((w10178.1 165 x130_2.toInt.toNat) - (1 : Int32))).1 165 x130_3.toInt.toNat) + (1 : Int32))) := wbd_165 hI10246 x130_3.toInt.toNat
                  have o10249 : (0 ≤ x130_3.toInt) ∧ (x130_3.toInt ≤ 43) ∧ (x130_3.toInt < ((sI (sI (sI w10178 165 x130_2.toInt.toNat ((w10178.1 165 x130_2.toInt.toNat) - (1 : Int32))) 166 x130_3.toInt.toNat ys174_0) 165 x130_3.toInt.toNat (((sI w10178 165 x130_2.toInt.toNat ((w10178.1 165 x130_2.toInt.toNat) - (1 : Int32))).1 165 x130_3.toInt.toNat) + (1 : Int32))).1 127 4).toInt + ((sI (sI (sI w10178 165 x130_2.toInt.toNat ((w10178.1 165 x130_2.toInt.toNat) - (1 : Int32))) 166 x130_3.toInt.toNat ys174_0) 165 x130_3.toInt.toNat (((sI w10178 165 x130_2.toInt.toNat ((w10178.1 165 x130_2.toInt.toNat) - (1 : Int32))).1 165 x130_3.toInt.toNat) + (1 : Int32))).1 127 11).toInt) := by have := bd_127_4 hI10179; have := bd_127_4 hI; have := (congrArg Int32.toInt (hL10180 127 4 rfl).1); have : ((sI (sI (sI w10178 165 x130_2.toInt.toNat ((w10178.1 165 x130_2.toInt.toNat) - (1 : Int32))) 166 x130_3.toInt.toNat ys174_0) 165 x130_3.toInt.toNat (((sI w10178 165 x130_2.toInt.toNat ((w10178.1 165 x130_2.toInt.toNat) - (1 : Int32))).1 165 x130_3.toInt.toNat) + (1 : Int32))).1 127 4).toInt = (w10178.1 127 4).toInt := rfl; have := bd_127_11 hI10179; have := bd_127_11 hI; have := (congrArg Int32.toInt (hL10180 127 11 rfl).1); have : ((sI (sI (sI w10178 165 x130_2.toInt.toNat ((w10178.1 165 x130_2.toInt.toNat) - (1 : Int32))) 166 x130_3.toInt.toNat ys174_0) 165 x130_3.toInt.toNat (((sI w10178 165 x130_2.toInt.toNat ((w10178.1 165 x130_2.toInt.toNat) - (1 : Int32))).1 165 x130_3.toInt.toNat) + (1 : Int32))).1 127 11).toInt = (w10178.1 127 11).toInt := rfl; exact ⟨by omega, by omega, by omega⟩
                  refine h_Mo_liquidIn hI10248  o10249.1 o10249.2.1 o10249.2.2 (fun r10253 w10250 hI10251 hL10252 p10254 p10255 => ?_)
                  have hF10256 : FR l_Mo_flow_174 w w10250 := (FR.I (FR.I (FR.I hF10184 (k := 165) (j := x130_2.toInt.toNat) (v := ((w10178.1 165 x130_2.toInt.toNat) - (1 : Int32))) rfl) (k := 166) (j := x130_3.toInt.toNat) (v := ys174_0) rfl) (k := 165) (j := x130_3.toInt.toNat) (v := (((sI w10178 165 x130_2.toInt.toNat ((w10178.1 165 x130_2.toInt.toNat) - (1 : Int32))).1 165 x130_3.toInt.toNat) + (1 : Int32))) rfl).tr hL10252 rfl
                  refine ⟨fun h10257 => ?_, fun h10257 => ?_⟩
                  · exact hA _ _ _ hI10251 hF10256 (by have := (by decide : ((1 : Int32)).toInt = 1); have := ti_add2 (Eq.refl y174_5.toInt) (by decide : ((1 : Int32)).toInt = 1) (by omega) (by omega); omega) (by have := (by decide : ((1 : Int32)).toInt = 1); have := ti_add2 (Eq.refl y174_5.toInt) (by decide : ((1 : Int32)).toInt = 1) (by omega) (by omega); omega) (by have := (by decide : ((1 : Int32)).toInt = 1); have := ti_add2 (Eq.refl y174_5.toInt) (by decide : ((1 : Int32)).toInt = 1) (by omega) (by omega); omega) (by have := (by decide : ((1 : Int32)).toInt = 1); have := ti_add2 (Eq.refl y174_5.toInt) (by decide : ((1 : Int32)).toInt = 1) (by omega) (by omega); omega) (by have := (by decide : ((1 : Int32)).toInt = 1); have := ti_add2 (Eq.refl y174_5.toInt) (by decide : ((1 : Int32)).toInt = 1) (by omega) (by omega); omega)
                  · have o10258 : 0 ≤ x130_3.toInt ∧ x130_3.toInt < 44 := by omega
                    refine ⟨o10258, ?_⟩
                    have o10260 : 0 ≤ r10253.toInt ∧ r10253.toInt ≤ 15 := by have := (by decide : ((0 : Int32)).toInt = 0); omega
                    have hI10259 : BND (sI w10250 173 x130_3.toInt.toNat r10253) := wbd_173 hI10251 x130_3.toInt.toNat o10260.1 o10260.2
                    have o10261 : (0 ≤ x130_3.toInt) ∧ (x130_3.toInt ≤ 43) := by exact ⟨by omega, by omega⟩
                    refine h_Mo_forget hI10259  o10261.1 o10261.2 (fun w10262 hI10263 hL10264  => ?_)
                    have hF10266 : FR l_Mo_flow_174 w w10262 := (FR.I hF10256 (k := 173) (j := x130_3.toInt.toNat) (v := r10253) rfl).tr hL10264 rfl
                    exact hA _ _ _ hI10263 hF10266 (by have := (by decide : ((1 : Int32)).toInt = 1); have := ti_add2 (Eq.refl y174_5.toInt) (by decide : ((1 : Int32)).toInt = 1) (by omega) (by omega); omega) (by have := (by decide : ((1 : Int32)).toInt = 1); have := ti_add2 (Eq.refl y174_5.toInt) (by decide : ((1 : Int32)).toInt = 1) (by omega) (by omega); omega) (by have := (by decide : ((1 : Int32)).toInt = 1); have := ti_add2 (Eq.refl y174_5.toInt) (by decide : ((1 : Int32)).toInt = 1) (by omega) (by omega); omega) (by have := (by decide : ((1 : Int32)).toInt = 1); have := ti_add2 (Eq.refl y174_5.toInt) (by decide : ((1 : Int32)).toInt = 1) (by omega) (by omega); omega) (by have := (by decide : ((1 : Int32)).toInt = 1); have := ti_add2 (Eq.refl y174_5.toInt) (by decide : ((1 : Int32)).toInt = 1) (by omega) (by omega); omega)
set_option maxRecDepth 20000 in
set_option maxHeartbeats 2000000 in
theorem hq_Mo_flow_130 {x130_1 : Int32} {x130_2 : Int32} {x130_3 : Int32} {x130_4 : Int32} {E : Int32 → MW → Prop} {Q : MW → Prop} (n : Nat) : ∀ (x130_5 : Int32) (x130_6 : Int32) (w : MW), BND w → 0 ≤ x130_1.toInt → x130_1.toInt ≤ 23 → 0 ≤ x130_2.toInt → x130_2.toInt ≤ 19 → 0 ≤ x130_3.toInt → x130_3.toInt ≤ 19 → 0 ≤ x130_4.toInt → x130_4.toInt ≤ 4800 → 0 ≤ x130_5.toInt → x130_5.toInt ≤ 100 → 0 ≤ x130_6.toInt → x130_6.toInt ≤ 1 → ((100 - x130_5.toInt) + x130_6.toInt).toNat < n → (∀ (e130_5 : Int32) (w' : MW), BND w' → FR l_Mo_flow_130 w w' → 0 ≤ e130_5.toInt → e130_5.toInt ≤ 100 → E e130_5 w') → (∀ (w' : MW), BND w' → FR l_Mo_flow_130 w w' → False → Q w') → q_Mo_flow_130 x130_1 x130_2 x130_3 x130_4 E Q n x130_5 x130_6 w := by
  induction n with
  | zero => intros; omega
  | succ n ih =>
    intro x130_5 x130_6 w hI  hp0 hp1 hp2 hp3 hp4 hp5 hp6 hp7 hp8 hp9 hp10 hp11 hm hE hQ
    rw [q_Mo_flow_130.eq_2]
    refine ⟨fun h10267 => ?_, fun h10267 => ?_⟩
    · have o10268 : (0 ≤ x130_5.toInt) ∧ (x130_5.toInt ≤ 100) := by exact ⟨by omega, by omega⟩
      exact hE _ _ hI (FR.refl _ w) o10268.1 o10268.2
    · have o10269 : 0 ≤ x130_1.toInt ∧ x130_1.toInt < 24 := by omega
      refine ⟨o10269, ?_⟩
      refine ⟨fun h10270 => ?_, fun h10270 => ?_⟩
      · have o10271 : (0 ≤ x130_5.toInt) ∧ (x130_5.toInt ≤ 100) := by have := bd_184 hI x130_1.toInt.toNat; exact ⟨by omega, by omega⟩
        exact hE _ _ hI (FR.refl _ w) o10271.1 o10271.2
      · refine ⟨fun h10272 => ?_, fun h10272 => ?_⟩
        · have o10273 : 0 ≤ x130_1.toInt ∧ x130_1.toInt < 24 := by omega
          refine ⟨o10273, ?_⟩
          have o10274 : (0 ≤ x130_1.toInt) ∧ (x130_1.toInt ≤ 23) ∧ (0 ≤ x130_2.toInt) ∧ (x130_2.toInt ≤ 19) ∧ (0 ≤ x130_3.toInt) ∧ (x130_3.toInt ≤ 19) ∧ (0 ≤ x130_4.toInt) ∧ (x130_4.toInt ≤ 4800) ∧ (0 ≤ x130_5.toInt) ∧ (x130_5.toInt ≤ 100) ∧ (0 ≤ (w.1 183 x130_1.toInt.toNat).toInt) ∧ ((w.1 183 x130_1.toInt.toNat).toInt ≤ 15) ∧ (x130_5.toInt < 100) := by have := bd_183 hI x130_1.toInt.toNat; have := bd_184 hI x130_1.toInt.toNat; exact ⟨by omega, by omega, by omega, by omega, by omega, by omega, by omega, by omega, by omega, by omega, by omega, by omega, by omega⟩
          exact hq_Mo_flow_174 hI  o10274.1 o10274.2.1 o10274.2.2.1 o10274.2.2.2.1 o10274.2.2.2.2.1 o10274.2.2.2.2.2.1 o10274.2.2.2.2.2.2.1 o10274.2.2.2.2.2.2.2.1 o10274.2.2.2.2.2.2.2.2.1 o10274.2.2.2.2.2.2.2.2.2.1 o10274.2.2.2.2.2.2.2.2.2.2.1 o10274.2.2.2.2.2.2.2.2.2.2.2.1 o10274.2.2.2.2.2.2.2.2.2.2.2.2 (fun x0 x1 w9 hI9 hF9 i0 i1 i2 i3 d0 => ih x0 x1 w9 hI9  (by omega) (by omega) (by omega) (by omega) (by omega) (by omega) (by omega) (by omega) i0 i1 i2 i3 (by have := bd_183 hI x130_1.toInt.toNat; have := bd_184 hI x130_1.toInt.toNat; omega) (fun e0 w8 hI8 hF8 p0 p1 => hE e0 w8 hI8 (((FR.refl _ w).tr hF9 rfl).tr hF8 rfl) p0 p1 ) (fun w8 hI8 hF8 q0 => q0.elim)) (fun e0 w9 hI9 hF9 p0 p1 => hE e0 w9 hI9 ((FR.refl _ w).tr hF9 rfl) p0 p1 ) (fun w9 hI9 hF9 q0 => q0.elim)
        · have o10275 : 0 ≤ ((x130_4 - (1 : Int32)) - x130_5).toInt ∧ ((x130_4 - (1 : Int32)) - x130_5).toInt < 4800 := by have := bd_184 hI x130_1.toInt.toNat; have := ti_sub2 (Eq.refl x130_4.toInt) (by decide : ((1 : Int32)).toInt = 1) (by omega) (by omega); have := ti_sub2 (Eq.refl (x130_4 - (1 : Int32)).toInt) (Eq.refl x130_5.toInt) (by omega) (by omega); omega
          refine ⟨o10275, ?_⟩
          have o10276 : (0 ≤ x130_1.toInt) ∧ (x130_1.toInt ≤ 23) ∧ (0 ≤ x130_2.toInt) ∧ (x130_2.toInt ≤ 19) ∧ (0 ≤ x130_3.toInt) ∧ (x130_3.toInt ≤ 19) ∧ (0 ≤ x130_4.toInt) ∧ (x130_4.toInt ≤ 4800) ∧ (0 ≤ x130_5.toInt) ∧ (x130_5.toInt ≤ 100) ∧ (0 ≤ (w.1 193 (((x130_4 - (1 : Int32)) - x130_5).toInt.toNat)).toInt) ∧ ((w.1 193 (((x130_4 - (1 : Int32)) - x130_5).toInt.toNat)).toInt ≤ 15) ∧ (x130_5.toInt < 100) := by have := bd_193 hI (((x130_4 - (1 : Int32)) - x130_5).toInt.toNat); have := bd_184 hI x130_1.toInt.toNat; exact ⟨by omega, by omega, by omega, by omega, by omega, by omega, by omega, by omega, by omega, by omega, by omega, by omega, by omega⟩
          exact hq_Mo_flow_174 hI  o10276.1 o10276.2.1 o10276.2.2.1 o10276.2.2.2.1 o10276.2.2.2.2.1 o10276.2.2.2.2.2.1 o10276.2.2.2.2.2.2.1 o10276.2.2.2.2.2.2.2.1 o10276.2.2.2.2.2.2.2.2.1 o10276.2.2.2.2.2.2.2.2.2.1 o10276.2.2.2.2.2.2.2.2.2.2.1 o10276.2.2.2.2.2.2.2.2.2.2.2.1 o10276.2.2.2.2.2.2.2.2.2.2.2.2 (fun x0 x1 w9 hI9 hF9 i0 i1 i2 i3 d0 => ih x0 x1 w9 hI9  (by omega) (by omega) (by omega) (by omega) (by omega) (by omega) (by omega) (by omega) i0 i1 i2 i3 (by have := bd_193 hI (((x130_4 - (1 : Int32)) - x130_5).toInt.toNat); have := bd_184 hI x130_1.toInt.toNat; omega) (fun e0 w8 hI8 hF8 p0 p1 => hE e0 w8 hI8 (((FR.refl _ w).tr hF9 rfl).tr hF8 rfl) p0 p1 ) (fun w8 hI8 hF8 q0 => q0.elim)) (fun e0 w9 hI9 hF9 p0 p1 => hE e0 w9 hI9 ((FR.refl _ w).tr hF9 rfl) p0 p1 ) (fun w9 hI9 hF9 q0 => q0.elim)
set_option maxRecDepth 20000 in
set_option maxHeartbeats 2000000 in
theorem hq_Mo_flow_318 {x318_1 : Int32} {x318_5 : Int32} {x318_7 : Int32} {x318_8 : Int32} {x318_9 : Int32} {x318_10 : Int32} {E : Int32 → MW → Prop} {Q : MW → Prop} (n : Nat) : ∀ (x318_11 : Int32) (x318_12 : Int32) (w : MW), BND w → 0 ≤ x318_1.toInt → x318_1.toInt ≤ 23 → 0 ≤ x318_5.toInt → x318_5.toInt ≤ 100 → 0 ≤ x318_7.toInt → x318_7.toInt ≤ 4800 → 0 ≤ x318_8.toInt → x318_8.toInt ≤ 23 → 0 ≤ x318_9.toInt → x318_9.toInt ≤ 47 → 0 ≤ x318_10.toInt → x318_10.toInt ≤ 23 → 0 ≤ x318_11.toInt → x318_11.toInt ≤ 1 → 1 ≤ x318_12.toInt → x318_12.toInt ≤ 101 → (101 - x318_12.toInt).toNat < n → (∀ (e318_11 : Int32) (w' : MW), BND w' → FR l_Mo_flow_318 w w' → 0 ≤ e318_11.toInt → e318_11.toInt ≤ 1 → E e318_11 w') → (∀ (w' : MW), BND w' → FR l_Mo_flow_318 w w' → False → Q w') → q_Mo_flow_318 x318_1 x318_5 x318_7 x318_8 x318_9 x318_10 E Q n x318_11 x318_12 w := by
  induction n with
  | zero => intros; omega
  | succ n ih =>
    intro x318_11 x318_12 w hI  hp0 hp1 hp2 hp3 hp4 hp5 hp6 hp7 hp8 hp9 hp10 hp11 hp12 hp13 hp14 hp15 hm hE hQ
    rw [q_Mo_flow_318.eq_2]
    refine ⟨fun h10277 => ?_, fun h10277 => ?_⟩
    · have o10278 : (0 ≤ x318_11.toInt) ∧ (x318_11.toInt ≤ 1) := by exact ⟨by omega, by omega⟩
      exact hE _ _ hI (FR.refl _ w) o10278.1 o10278.2
    · refine ⟨fun h10279 => ?_, fun h10279 => ?_⟩
      · have o10280 : (0 ≤ x318_11.toInt) ∧ (x318_11.toInt ≤ 1) := by have := (by decide : ((0 : Int32)).toInt = 0); exact ⟨by omega, by omega⟩
        exact hE _ _ hI (FR.refl _ w) o10280.1 o10280.2
      · refine ⟨fun h10281 => ?_, fun h10281 => ?_⟩
        · have o10282 : (0 ≤ x318_1.toInt) ∧ (x318_1.toInt ≤ 23) ∧ (0 ≤ x318_5.toInt) ∧ (x318_5.toInt ≤ 100) ∧ (0 ≤ x318_7.toInt) ∧ (x318_7.toInt ≤ 4800) ∧ (0 ≤ x318_8.toInt) ∧ (x318_8.toInt ≤ 23) ∧ (0 ≤ x318_9.toInt) ∧ (x318_9.toInt ≤ 47) ∧ (0 ≤ x318_10.toInt) ∧ (x318_10.toInt ≤ 23) ∧ (0 ≤ (1 : Int32).toInt) ∧ ((1 : Int32).toInt ≤ 1) ∧ (1 ≤ (x318_12 + (1 : Int32)).toInt) ∧ ((x318_12 + (1 : Int32)).toInt ≤ 101) := by have := (by decide : ((1 : Int32)).toInt = 1); have := ti_add2 (Eq.refl x318_12.toInt) (by decide : ((1 : Int32)).toInt = 1) (by omega) (by omega); exact ⟨by omega, by omega, by omega, by omega, by omega, by omega, by omega, by omega, by omega, by omega, by omega, by omega, by omega, by omega, by omega, by omega⟩
          exact ih _ _ w hI  o10282.1 o10282.2.1 o10282.2.2.1 o10282.2.2.2.1 o10282.2.2.2.2.1 o10282.2.2.2.2.2.1 o10282.2.2.2.2.2.2.1 o10282.2.2.2.2.2.2.2.1 o10282.2.2.2.2.2.2.2.2.1 o10282.2.2.2.2.2.2.2.2.2.1 o10282.2.2.2.2.2.2.2.2.2.2.1 o10282.2.2.2.2.2.2.2.2.2.2.2.1 o10282.2.2.2.2.2.2.2.2.2.2.2.2.1 o10282.2.2.2.2.2.2.2.2.2.2.2.2.2.1 o10282.2.2.2.2.2.2.2.2.2.2.2.2.2.2.1 o10282.2.2.2.2.2.2.2.2.2.2.2.2.2.2.2 (by have := (by decide : ((1 : Int32)).toInt = 1); have := ti_add2 (Eq.refl x318_12.toInt) (by decide : ((1 : Int32)).toInt = 1) (by omega) (by omega); omega) (fun e0 w9 hI9 hF9 p0 p1 => hE e0 w9 hI9 ((FR.refl _ w).tr hF9 rfl) p0 p1 ) (fun w9 hI9 hF9 q0 => q0.elim)
        · have o10283 : 0 ≤ (x318_7 - x318_12).toInt ∧ (x318_7 - x318_12).toInt < 4800 := by have := ti_sub2 (Eq.refl x318_7.toInt) (Eq.refl x318_12.toInt) (by omega) (by omega); omega
          refine ⟨o10283, ?_⟩
          refine ⟨fun h10284 => ?_, fun h10284 => ?_⟩
          · have o10285 : (0 ≤ x318_1.toInt) ∧ (x318_1.toInt ≤ 23) ∧ (0 ≤ x318_5.toInt) ∧ (x318_5.toInt ≤ 100) ∧ (0 ≤ x318_7.toInt) ∧ (x318_7.toInt ≤ 4800) ∧ (0 ≤ x318_8.toInt) ∧ (x318_8.toInt ≤ 23) ∧ (0 ≤ x318_9.toInt) ∧ (x318_9.toInt ≤ 47) ∧ (0 ≤ x318_10.toInt) ∧ (x318_10.toInt ≤ 23) ∧ (0 ≤ (0 : Int32).toInt) ∧ ((0 : Int32).toInt ≤ 1) ∧ (1 ≤ (x318_12 + (1 : Int32)).toInt) ∧ ((x318_12 + (1 : Int32)).toInt ≤ 101) := by have := (by decide : ((0 : Int32)).toInt = 0); have := ti_add2 (Eq.refl x318_12.toInt) (by decide : ((1 : Int32)).toInt = 1) (by omega) (by omega); exact ⟨by omega, by omega, by omega, by omega, by omega, by omega, by omega, by omega, by omega, by omega, by omega, by omega, by omega, by omega, by omega, by omega⟩
            exact ih _ _ w hI  o10285.1 o10285.2.1 o10285.2.2.1 o10285.2.2.2.1 o10285.2.2.2.2.1 o10285.2.2.2.2.2.1 o10285.2.2.2.2.2.2.1 o10285.2.2.2.2.2.2.2.1 o10285.2.2.2.2.2.2.2.2.1 o10285.2.2.2.2.2.2.2.2.2.1 o10285.2.2.2.2.2.2.2.2.2.2.1 o10285.2.2.2.2.2.2.2.2.2.2.2.1 o10285.2.2.2.2.2.2.2.2.2.2.2.2.1 o10285.2.2.2.2.2.2.2.2.2.2.2.2.2.1 o10285.2.2.2.2.2.2.2.2.2.2.2.2.2.2.1 o10285.2.2.2.2.2.2.2.2.2.2.2.2.2.2.2 (by have := (by decide : ((0 : Int32)).toInt = 0); have := ti_add2 (Eq.refl x318_12.toInt) (by decide : ((1 : Int32)).toInt = 1) (by omega) (by omega); omega) (fun e0 w9 hI9 hF9 p0 p1 => hE e0 w9 hI9 ((FR.refl _ w).tr hF9 rfl) p0 p1 ) (fun w9 hI9 hF9 q0 => q0.elim)
          · have o10286 : (0 ≤ x318_1.toInt) ∧ (x318_1.toInt ≤ 23) ∧ (0 ≤ x318_5.toInt) ∧ (x318_5.toInt ≤ 100) ∧ (0 ≤ x318_7.toInt) ∧ (x318_7.toInt ≤ 4800) ∧ (0 ≤ x318_8.toInt) ∧ (x318_8.toInt ≤ 23) ∧ (0 ≤ x318_9.toInt) ∧ (x318_9.toInt ≤ 47) ∧ (0 ≤ x318_10.toInt) ∧ (x318_10.toInt ≤ 23) ∧ (0 ≤ (1 : Int32).toInt) ∧ ((1 : Int32).toInt ≤ 1) ∧ (1 ≤ (x318_12 + (1 : Int32)).toInt) ∧ ((x318_12 + (1 : Int32)).toInt ≤ 101) := by have := (by decide : ((1 : Int32)).toInt = 1); have := ti_add2 (Eq.refl x318_12.toInt) (by decide : ((1 : Int32)).toInt = 1) (by omega) (by omega); exact ⟨by omega, by omega, by omega, by omega, by omega, by omega, by omega, by omega, by omega, by omega, by omega, by omega, by omega, by omega, by omega, by omega⟩
            exact ih _ _ w hI  o10286.1 o10286.2.1 o10286.2.2.1 o10286.2.2.2.1 o10286.2.2.2.2.1 o10286.2.2.2.2.2.1 o10286.2.2.2.2.2.2.1 o10286.2.2.2.2.2.2.2.1 o10286.2.2.2.2.2.2.2.2.1 o10286.2.2.2.2.2.2.2.2.2.1 o10286.2.2.2.2.2.2.2.2.2.2.1 o10286.2.2.2.2.2.2.2.2.2.2.2.1 o10286.2.2.2.2.2.2.2.2.2.2.2.2.1 o10286.2.2.2.2.2.2.2.2.2.2.2.2.2.1 o10286.2.2.2.2.2.2.2.2.2.2.2.2.2.2.1 o10286.2.2.2.2.2.2.2.2.2.2.2.2.2.2.2 (by have := (by decide : ((1 : Int32)).toInt = 1); have := ti_add2 (Eq.refl x318_12.toInt) (by decide : ((1 : Int32)).toInt = 1) (by omega) (by omega); omega) (fun e0 w9 hI9 hF9 p0 p1 => hE e0 w9 hI9 ((FR.refl _ w).tr hF9 rfl) p0 p1 ) (fun w9 hI9 hF9 q0 => q0.elim)
set_option maxRecDepth 20000 in
set_option maxHeartbeats 2000000 in
theorem hq_Mo_flow_400 {x400_1 : Int32} {x400_5 : Int32} {x400_8 : Int32} {x400_9 : Int32} {x400_10 : Int32} {E : Int32 → MW → Prop} {Q : MW → Prop} (n : Nat) : ∀ (x400_7 : Int32) (x400_12 : Int32) (w : MW), BND w → 0 ≤ x400_1.toInt → x400_1.toInt ≤ 23 → 0 ≤ x400_5.toInt → x400_5.toInt ≤ 100 → 0 ≤ x400_8.toInt → x400_8.toInt ≤ 23 → 0 ≤ x400_9.toInt → x400_9.toInt ≤ 47 → 0 ≤ x400_10.toInt → x400_10.toInt ≤ 23 → 0 ≤ x400_7.toInt → x400_7.toInt ≤ 4800 → 0 ≤ x400_12.toInt → x400_12.toInt ≤ 200 → x400_7.toInt - x400_12.toInt ≤ 200 * x400_8.toInt → x400_12.toInt ≤ (w.1 169 x400_10.toInt.toNat).toInt → x400_8.toInt ≤ 23 → (4800 - x400_7.toInt).toNat < n → (∀ (e400_7 : Int32) (w' : MW), BND w' → FR l_Mo_flow_400 w w' → 0 ≤ e400_7.toInt → e400_7.toInt ≤ 4800 → e400_7.toInt ≤ 200 * x400_8.toInt + 200 → E e400_7 w') → (∀ (w' : MW), BND w' → FR l_Mo_flow_400 w w' → False → Q w') → q_Mo_flow_400 x400_1 x400_5 x400_8 x400_9 x400_10 E Q n x400_7 x400_12 w := by
  induction n with
  | zero => intros; omega
  | succ n ih =>
    intro x400_7 x400_12 w hI  hp0 hp1 hp2 hp3 hp4 hp5 hp6 hp7 hp8 hp9 hp10 hp11 hp12 hp13 hp14 hp15 hp16 hm hE hQ
    rw [q_Mo_flow_400.eq_2]
    have o10287 : 0 ≤ x400_10.toInt ∧ x400_10.toInt < 24 := by have := bd_169 hI x400_10.toInt.toNat; omega
    refine ⟨o10287, ?_⟩
    refine ⟨fun h10288 => ?_, fun h10288 => ?_⟩
    · have o10289 : (0 ≤ x400_7.toInt) ∧ (x400_7.toInt ≤ 4800) ∧ (x400_7.toInt ≤ 200 * x400_8.toInt + 200) := by have := bd_169 hI x400_10.toInt.toNat; exact ⟨by omega, by omega, by omega⟩
      exact hE _ _ hI (FR.refl _ w) o10289.1 o10289.2.1 o10289.2.2
    · refine ⟨fun h10290 => ?_, fun h10290 => ?_⟩
      · have o10291 : 0 ≤ (x400_7 - x400_5).toInt ∧ (x400_7 - x400_5).toInt < 4800 := by have := bd_169 hI x400_10.toInt.toNat; have := ti_sub2 (Eq.refl x400_7.toInt) (Eq.refl x400_5.toInt) (by omega) (by omega); omega
        refine ⟨o10291, ?_⟩
        refine Eq.mpr (q_Mo_flow_438.eq_1 _ _ _ _ _ _ _ _ _ _ _ _) ?_
        refine ⟨fun h10292 => ?_, fun h10292 => ?_⟩
        · have o10293 : 0 ≤ x400_10.toInt ∧ x400_10.toInt < 24 := by have := bd_169 hI x400_10.toInt.toNat; omega
          refine ⟨o10293, ?_⟩
          have o10294 : 0 ≤ (((200 : Int32) * x400_10) + (((w.1 169 x400_10.toInt.toNat) - (1 : Int32)) - x400_12)).toInt ∧ (((200 : Int32) * x400_10) + (((w.1 169 x400_10.toInt.toNat) - (1 : Int32)) - x400_12)).toInt < 4800 := by have := bd_169 hI x400_10.toInt.toNat; have := ti_mul2 (by decide : ((200 : Int32)).toInt = 200) (Eq.refl x400_10.toInt) (by omega) (by omega); have := ti_sub2 (Eq.refl (w.1 169 x400_10.toInt.toNat).toInt) (by decide : ((1 : Int32)).toInt = 1) (by omega) (by omega); have := ti_sub2 (Eq.refl ((w.1 169 x400_10.toInt.toNat) - (1 : Int32)).toInt) (Eq.refl x400_12.toInt) (by omega) (by omega); have := ti_add2 (Eq.refl ((200 : Int32) * x400_10).toInt) (Eq.refl (((w.1 169 x400_10.toInt.toNat) - (1 : Int32)) - x400_12).toInt) (by omega) (by omega); omega
          refine ⟨o10294, ?_⟩
          have o10296 : 0 ≤ (vp_nar .byte ((Int32.toInt8 (w.1 193 ((x400_7 - x400_5).toInt.toNat))).toInt32)).toInt ∧ (vp_nar .byte ((Int32.toInt8 (w.1 193 ((x400_7 - x400_5).toInt.toNat))).toInt32)).toInt ≤ 15 := by have := bd_193 hI ((x400_7 - x400_5).toInt.toNat); have := nb_i2beq (x := (w.1 193 ((x400_7 - x400_5).toInt.toNat))) (by omega) (by omega); have := nb_byteq (x := ((Int32.toInt8 (w.1 193 ((x400_7 - x400_5).toInt.toNat))).toInt32)) (by omega) (by omega); omega
          have hI10295 : BND (sI w 172 ((((200 : Int32) * x400_10) + (((w.1 169 x400_10.toInt.toNat) - (1 : Int32)) - x400_12)).toInt.toNat) (vp_nar .byte ((Int32.toInt8 (w.1 193 ((x400_7 - x400_5).toInt.toNat))).toInt32))) := wbd_172 hI ((((200 : Int32) * x400_10) + (((w.1 169 x400_10.toInt.toNat) - (1 : Int32)) - x400_12)).toInt.toNat) o10296.1 o10296.2
          have o10297 : (0 ≤ x400_1.toInt) ∧ (x400_1.toInt ≤ 23) ∧ (0 ≤ x400_5.toInt) ∧ (x400_5.toInt ≤ 100) ∧ (0 ≤ x400_8.toInt) ∧ (x400_8.toInt ≤ 23) ∧ (0 ≤ x400_9.toInt) ∧ (x400_9.toInt ≤ 47) ∧ (0 ≤ x400_10.toInt) ∧ (x400_10.toInt ≤ 23) ∧ (0 ≤ (x400_7 + (1 : Int32)).toInt) ∧ ((x400_7 + (1 : Int32)).toInt ≤ 4800) ∧ (0 ≤ (x400_12 + (1 : Int32)).toInt) ∧ ((x400_12 + (1 : Int32)).toInt ≤ 200) ∧ ((x400_7 + (1 : Int32)).toInt - (x400_12 + (1 : Int32)).toInt ≤ 200 * x400_8.toInt) ∧ ((x400_12 + (1 : Int32)).toInt ≤ ((sI w 172 ((((200 : Int32) * x400_10) + (((w.1 169 x400_10.toInt.toNat) - (1 : Int32)) - x400_12)).toInt.toNat) (vp_nar .byte ((Int32.toInt8 (w.1 193 ((x400_7 - x400_5).toInt.toNat))).toInt32))).1 169 x400_10.toInt.toNat).toInt) ∧ (x400_8.toInt ≤ 23) := by have := bd_169 hI x400_10.toInt.toNat; have : ((sI w 172 ((((200 : Int32) * x400_10) + (((w.1 169 x400_10.toInt.toNat) - (1 : Int32)) - x400_12)).toInt.toNat) (vp_nar .byte ((Int32.toInt8 (w.1 193 ((x400_7 - x400_5).toInt.toNat))).toInt32))).1 169 x400_10.toInt.toNat).toInt = (w.1 169 x400_10.toInt.toNat).toInt := rfl; have := ti_add2 (Eq.refl x400_7.toInt) (by decide : ((1 : Int32)).toInt = 1) (by omega) (by omega); have := ti_add2 (Eq.refl x400_12.toInt) (by decide : ((1 : Int32)).toInt = 1) (by omega) (by omega); exact ⟨by omega, by omega, by omega, by omega, by omega, by omega, by omega, by omega, by omega, by omega, by omega, by omega, by omega, by omega, by omega, by omega, by omega⟩
          exact ih _ _ (sI w 172 ((((200 : Int32) * x400_10) + (((w.1 169 x400_10.toInt.toNat) - (1 : Int32)) - x400_12)).toInt.toNat) (vp_nar .byte ((Int32.toInt8 (w.1 193 ((x400_7 - x400_5).toInt.toNat))).toInt32))) hI10295  o10297.1 o10297.2.1 o10297.2.2.1 o10297.2.2.2.1 o10297.2.2.2.2.1 o10297.2.2.2.2.2.1 o10297.2.2.2.2.2.2.1 o10297.2.2.2.2.2.2.2.1 o10297.2.2.2.2.2.2.2.2.1 o10297.2.2.2.2.2.2.2.2.2.1 o10297.2.2.2.2.2.2.2.2.2.2.1 o10297.2.2.2.2.2.2.2.2.2.2.2.1 o10297.2.2.2.2.2.2.2.2.2.2.2.2.1 o10297.2.2.2.2.2.2.2.2.2.2.2.2.2.1 o10297.2.2.2.2.2.2.2.2.2.2.2.2.2.2.1 o10297.2.2.2.2.2.2.2.2.2.2.2.2.2.2.2.1 o10297.2.2.2.2.2.2.2.2.2.2.2.2.2.2.2.2 (by have := bd_169 hI x400_10.toInt.toNat; have := ti_add2 (Eq.refl x400_7.toInt) (by decide : ((1 : Int32)).toInt = 1) (by omega) (by omega); have := ti_add2 (Eq.refl x400_12.toInt) (by decide : ((1 : Int32)).toInt = 1) (by omega) (by omega); omega) (fun e0 w9 hI9 hF9 p0 p1 u0 => hE e0 w9 hI9 ((FR.I (FR.refl _ w) (k := 172) (j := (((200 : Int32) * x400_10) + (((w.1 169 x400_10.toInt.toNat) - (1 : Int32)) - x400_12)).toInt.toNat) (v := (vp_nar .byte ((Int32.toInt8 (w.1 193 ((x400_7 - x400_5).toInt.toNat))).toInt32))) rfl).tr hF9 rfl) p0 p1 (by have := bd_169 hI x400_10.toInt.toNat; have := ti_add2 (Eq.refl x400_7.toInt) (by decide : ((1 : Int32)).toInt = 1) (by omega) (by omega); have := ti_add2 (Eq.refl x400_12.toInt) (by decide : ((1 : Int32)).toInt = 1) (by omega) (by omega); omega)) (fun w9 hI9 hF9 q0 => q0.elim)
        · have o10298 : 0 ≤ (((200 : Int32) * x400_10) + x400_12).toInt ∧ (((200 : Int32) * x400_10) + x400_12).toInt < 4800 := by have := bd_169 hI x400_10.toInt.toNat; have := ti_mul2 (by decide : ((200 : Int32)).toInt = 200) (Eq.refl x400_10.toInt) (by omega) (by omega); have := ti_add2 (Eq.refl ((200 : Int32) * x400_10).toInt) (Eq.refl x400_12.toInt) (by omega) (by omega); omega
          refine ⟨o10298, ?_⟩
          have o10300 : 0 ≤ (vp_nar .byte ((Int32.toInt8 (w.1 193 ((x400_7 - x400_5).toInt.toNat))).toInt32)).toInt ∧ (vp_nar .byte ((Int32.toInt8 (w.1 193 ((x400_7 - x400_5).toInt.toNat))).toInt32)).toInt ≤ 15 := by have := bd_193 hI ((x400_7 - x400_5).toInt.toNat); have := nb_i2beq (x := (w.1 193 ((x400_7 - x400_5).toInt.toNat))) (by omega) (by omega); have := nb_byteq (x := ((Int32.toInt8 (w.1 193 ((x400_7 - x400_5).toInt.toNat))).toInt32)) (by omega) (by omega); omega
          have hI10299 : BND (sI w 172 ((((200 : Int32) * x400_10) + x400_12).toInt.toNat) (vp_nar .byte ((Int32.toInt8 (w.1 193 ((x400_7 - x400_5).toInt.toNat))).toInt32))) := wbd_172 hI ((((200 : Int32) * x400_10) + x400_12).toInt.toNat) o10300.1 o10300.2
          have o10301 : (0 ≤ x400_1.toInt) ∧ (x400_1.toInt ≤ 23) ∧ (0 ≤ x400_5.toInt) ∧ (x400_5.toInt ≤ 100) ∧ (0 ≤ x400_8.toInt) ∧ (x400_8.toInt ≤ 23) ∧ (0 ≤ x400_9.toInt) ∧ (x400_9.toInt ≤ 47) ∧ (0 ≤ x400_10.toInt) ∧ (x400_10.toInt ≤ 23) ∧ (0 ≤ (x400_7 + (1 : Int32)).toInt) ∧ ((x400_7 + (1 : Int32)).toInt ≤ 4800) ∧ (0 ≤ (x400_12 + (1 : Int32)).toInt) ∧ ((x400_12 + (1 : Int32)).toInt ≤ 200) ∧ ((x400_7 + (1 : Int32)).toInt - (x400_12 + (1 : Int32)).toInt ≤ 200 * x400_8.toInt) ∧ ((x400_12 + (1 : Int32)).toInt ≤ ((sI w 172 ((((200 : Int32) * x400_10) + x400_12).toInt.toNat) (vp_nar .byte ((Int32.toInt8 (w.1 193 ((x400_7 - x400_5).toInt.toNat))).toInt32))).1 169 x400_10.toInt.toNat).toInt) ∧ (x400_8.toInt ≤ 23) := by have := bd_169 hI x400_10.toInt.toNat; have : ((sI w 172 ((((200 : Int32) * x400_10) + x400_12).toInt.toNat) (vp_nar .byte ((Int32.toInt8 (w.1 193 ((x400_7 - x400_5).toInt.toNat))).toInt32))).1 169 x400_10.toInt.toNat).toInt = (w.1 169 x400_10.toInt.toNat).toInt := rfl; have := ti_add2 (Eq.refl x400_7.toInt) (by decide : ((1 : Int32)).toInt = 1) (by omega) (by omega); have := ti_add2 (Eq.refl x400_12.toInt) (by decide : ((1 : Int32)).toInt = 1) (by omega) (by omega); exact ⟨by omega, by omega, by omega, by omega, by omega, by omega, by omega, by omega, by omega, by omega, by omega, by omega, by omega, by omega, by omega, by omega, by omega⟩
          exact ih _ _ (sI w 172 ((((200 : Int32) * x400_10) + x400_12).toInt.toNat) (vp_nar .byte ((Int32.toInt8 (w.1 193 ((x400_7 - x400_5).toInt.toNat))).toInt32))) hI10299  o10301.1 o10301.2.1 o10301.2.2.1 o10301.2.2.2.1 o10301.2.2.2.2.1 o10301.2.2.2.2.2.1 o10301.2.2.2.2.2.2.1 o10301.2.2.2.2.2.2.2.1 o10301.2.2.2.2.2.2.2.2.1 o10301.2.2.2.2.2.2.2.2.2.1 o10301.2.2.2.2.2.2.2.2.2.2.1 o10301.2.2.2.2.2.2.2.2.2.2.2.1 o10301.2.2.2.2.2.2.2.2.2.2.2.2.1 o10301.2.2.2.2.2.2.2.2.2.2.2.2.2.1 o10301.2.2.2.2.2.2.2.2.2.2.2.2.2.2.1 o10301.2.2.2.2.2.2.2.2.2.2.2.2.2.2.2.1 o10301.2.2.2.2.2.2.2.2.2.2.2.2.2.2.2.2 (by have := bd_169 hI x400_10.toInt.toNat; have := ti_add2 (Eq.refl x400_7.toInt) (by decide : ((1 : Int32)).toInt = 1) (by omega) (by omega); have := ti_add2 (Eq.refl x400_12.toInt) (by decide : ((1 : Int32)).toInt = 1) (by omega) (by omega); omega) (fun e0 w9 hI9 hF9 p0 p1 u0 => hE e0 w9 hI9 ((FR.I (FR.refl _ w) (k := 172) (j := (((200 : Int32) * x400_10) + x400_12).toInt.toNat) (v := (vp_nar .byte ((Int32.toInt8 (w.1 193 ((x400_7 - x400_5).toInt.toNat))).toInt32))) rfl).tr hF9 rfl) p0 p1 (by have := bd_169 hI x400_10.toInt.toNat; have := ti_add2 (Eq.refl x400_7.toInt) (by decide : ((1 : Int32)).toInt = 1) (by omega) (by omega); have := ti_add2 (Eq.refl x400_12.toInt) (by decide : ((1 : Int32)).toInt = 1) (by omega) (by omega); omega)) (fun w9 hI9 hF9 q0 => q0.elim)
      · have o10302 : 0 ≤ x400_1.toInt ∧ x400_1.toInt < 24 := by omega
        refine ⟨o10302, ?_⟩
        refine Eq.mpr (q_Mo_flow_438.eq_1 _ _ _ _ _ _ _ _ _ _ _ _) ?_
        refine ⟨fun h10303 => ?_, fun h10303 => ?_⟩
        · have o10304 : 0 ≤ x400_10.toInt ∧ x400_10.toInt < 24 := by have := bd_169 hI x400_10.toInt.toNat; omega
          refine ⟨o10304, ?_⟩
          have o10305 : 0 ≤ (((200 : Int32) * x400_10) + (((w.1 169 x400_10.toInt.toNat) - (1 : Int32)) - x400_12)).toInt ∧ (((200 : Int32) * x400_10) + (((w.1 169 x400_10.toInt.toNat) - (1 : Int32)) - x400_12)).toInt < 4800 := by have := bd_169 hI x400_10.toInt.toNat; have := ti_mul2 (by decide : ((200 : Int32)).toInt = 200) (Eq.refl x400_10.toInt) (by omega) (by omega); have := ti_sub2 (Eq.refl (w.1 169 x400_10.toInt.toNat).toInt) (by decide : ((1 : Int32)).toInt = 1) (by omega) (by omega); have := ti_sub2 (Eq.refl ((w.1 169 x400_10.toInt.toNat) - (1 : Int32)).toInt) (Eq.refl x400_12.toInt) (by omega) (by omega); have := ti_add2 (Eq.refl ((200 : Int32) * x400_10).toInt) (Eq.refl (((w.1 169 x400_10.toInt.toNat) - (1 : Int32)) - x400_12).toInt) (by omega) (by omega); omega
          refine ⟨o10305, ?_⟩
          have o10307 : 0 ≤ (vp_nar .byte ((Int32.toInt8 (w.1 183 x400_1.toInt.toNat)).toInt32)).toInt ∧ (vp_nar .byte ((Int32.toInt8 (w.1 183 x400_1.toInt.toNat)).toInt32)).toInt ≤ 15 := by have := bd_183 hI x400_1.toInt.toNat; have := nb_i2beq (x := (w.1 183 x400_1.toInt.toNat)) (by omega) (by omega); have := nb_byteq (x := ((Int32.toInt8 (w.1 183 x400_1.toInt.toNat)).toInt32)) (by omega) (by omega); omega
          have hI10306 : BND (sI w 172 ((((200 : Int32) * x400_10) + (((w.1 169 x400_10.toInt.toNat) - (1 : Int32)) - x400_12)).toInt.toNat) (vp_nar .byte ((Int32.toInt8 (w.1 183 x400_1.toInt.toNat)).toInt32))) := wbd_172 hI ((((200 : Int32) * x400_10) + (((w.1 169 x400_10.toInt.toNat) - (1 : Int32)) - x400_12)).toInt.toNat) o10307.1 o10307.2
          have o10308 : (0 ≤ x400_1.toInt) ∧ (x400_1.toInt ≤ 23) ∧ (0 ≤ x400_5.toInt) ∧ (x400_5.toInt ≤ 100) ∧ (0 ≤ x400_8.toInt) ∧ (x400_8.toInt ≤ 23) ∧ (0 ≤ x400_9.toInt) ∧ (x400_9.toInt ≤ 47) ∧ (0 ≤ x400_10.toInt) ∧ (x400_10.toInt ≤ 23) ∧ (0 ≤ (x400_7 + (1 : Int32)).toInt) ∧ ((x400_7 + (1 : Int32)).toInt ≤ 4800) ∧ (0 ≤ (x400_12 + (1 : Int32)).toInt) ∧ ((x400_12 + (1 : Int32)).toInt ≤ 200) ∧ ((x400_7 + (1 : Int32)).toInt - (x400_12 + (1 : Int32)).toInt ≤ 200 * x400_8.toInt) ∧ ((x400_12 + (1 : Int32)).toInt ≤ ((sI w 172 ((((200 : Int32) * x400_10) + (((w.1 169 x400_10.toInt.toNat) - (1 : Int32)) - x400_12)).toInt.toNat) (vp_nar .byte ((Int32.toInt8 (w.1 183 x400_1.toInt.toNat)).toInt32))).1 169 x400_10.toInt.toNat).toInt) ∧ (x400_8.toInt ≤ 23) := by have := bd_169 hI x400_10.toInt.toNat; have : ((sI w 172 ((((200 : Int32) * x400_10) + (((w.1 169 x400_10.toInt.toNat) - (1 : Int32)) - x400_12)).toInt.toNat) (vp_nar .byte ((Int32.toInt8 (w.1 183 x400_1.toInt.toNat)).toInt32))).1 169 x400_10.toInt.toNat).toInt = (w.1 169 x400_10.toInt.toNat).toInt := rfl; have := ti_add2 (Eq.refl x400_7.toInt) (by decide : ((1 : Int32)).toInt = 1) (by omega) (by omega); have := ti_add2 (Eq.refl x400_12.toInt) (by decide : ((1 : Int32)).toInt = 1) (by omega) (by omega); exact ⟨by omega, by omega, by omega, by omega, by omega, by omega, by omega, by omega, by omega, by omega, by omega, by omega, by omega, by omega, by omega, by omega, by omega⟩
          exact ih _ _ (sI w 172 ((((200 : Int32) * x400_10) + (((w.1 169 x400_10.toInt.toNat) - (1 : Int32)) - x400_12)).toInt.toNat) (vp_nar .byte ((Int32.toInt8 (w.1 183 x400_1.toInt.toNat)).toInt32))) hI10306  o10308.1 o10308.2.1 o10308.2.2.1 o10308.2.2.2.1 o10308.2.2.2.2.1 o10308.2.2.2.2.2.1 o10308.2.2.2.2.2.2.1 o10308.2.2.2.2.2.2.2.1 o10308.2.2.2.2.2.2.2.2.1 o10308.2.2.2.2.2.2.2.2.2.1 o10308.2.2.2.2.2.2.2.2.2.2.1 o10308.2.2.2.2.2.2.2.2.2.2.2.1 o10308.2.2.2.2.2.2.2.2.2.2.2.2.1 o10308.2.2.2.2.2.2.2.2.2.2.2.2.2.1 o10308.2.2.2.2.2.2.2.2.2.2.2.2.2.2.1 o10308.2.2.2.2.2.2.2.2.2.2.2.2.2.2.2.1 o10308.2.2.2.2.2.2.2.2.2.2.2.2.2.2.2.2 (by have := bd_169 hI x400_10.toInt.toNat; have := ti_add2 (Eq.refl x400_7.toInt) (by decide : ((1 : Int32)).toInt = 1) (by omega) (by omega); have := ti_add2 (Eq.refl x400_12.toInt) (by decide : ((1 : Int32)).toInt = 1) (by omega) (by omega); omega) (fun e0 w9 hI9 hF9 p0 p1 u0 => hE e0 w9 hI9 ((FR.I (FR.refl _ w) (k := 172) (j := (((200 : Int32) * x400_10) + (((w.1 169 x400_10.toInt.toNat) - (1 : Int32)) - x400_12)).toInt.toNat) (v := (vp_nar .byte ((Int32.toInt8 (w.1 183 x400_1.toInt.toNat)).toInt32))) rfl).tr hF9 rfl) p0 p1 (by have := bd_169 hI x400_10.toInt.toNat; have := ti_add2 (Eq.refl x400_7.toInt) (by decide : ((1 : Int32)).toInt = 1) (by omega) (by omega); have := ti_add2 (Eq.refl x400_12.toInt) (by decide : ((1 : Int32)).toInt = 1) (by omega) (by omega); omega)) (fun w9 hI9 hF9 q0 => q0.elim)
        · have o10309 : 0 ≤ (((200 : Int32) * x400_10) + x400_12).toInt ∧ (((200 : Int32) * x400_10) + x400_12).toInt < 4800 := by have := bd_169 hI x400_10.toInt.toNat; have := ti_mul2 (by decide : ((200 : Int32)).toInt = 200) (Eq.refl x400_10.toInt) (by omega) (by omega); have := ti_add2 (Eq.refl ((200 : Int32) * x400_10).toInt) (Eq.refl x400_12.toInt) (by omega) (by omega); omega
          refine ⟨o10309, ?_⟩
          have o10311 : 0 ≤ (vp_nar .byte ((Int32.toInt8 (w.1 183 x400_1.toInt.toNat)).toInt32)).toInt ∧ (vp_nar .byte ((Int32.toInt8 (w.1 183 x400_1.toInt.toNat)).toInt32)).toInt ≤ 15 := by have := bd_183 hI x400_1.toInt.toNat; have := nb_i2beq (x := (w.1 183 x400_1.toInt.toNat)) (by omega) (by omega); have := nb_byteq (x := ((Int32.toInt8 (w.1 183 x400_1.toInt.toNat)).toInt32)) (by omega) (by omega); omega
          have hI10310 : BND (sI w 172 ((((200 : Int32) * x400_10) + x400_12).toInt.toNat) (vp_nar .byte ((Int32.toInt8 (w.1 183 x400_1.toInt.toNat)).toInt32))) := wbd_172 hI ((((200 : Int32) * x400_10) + x400_12).toInt.toNat) o10311.1 o10311.2
          have o10312 : (0 ≤ x400_1.toInt) ∧ (x400_1.toInt ≤ 23) ∧ (0 ≤ x400_5.toInt) ∧ (x400_5.toInt ≤ 100) ∧ (0 ≤ x400_8.toInt) ∧ (x400_8.toInt ≤ 23) ∧ (0 ≤ x400_9.toInt) ∧ (x400_9.toInt ≤ 47) ∧ (0 ≤ x400_10.toInt) ∧ (x400_10.toInt ≤ 23) ∧ (0 ≤ (x400_7 + (1 : Int32)).toInt) ∧ ((x400_7 + (1 : Int32)).toInt ≤ 4800) ∧ (0 ≤ (x400_12 + (1 : Int32)).toInt) ∧ ((x400_12 + (1 : Int32)).toInt ≤ 200) ∧ ((x400_7 + (1 : Int32)).toInt - (x400_12 + (1 : Int32)).toInt ≤ 200 * x400_8.toInt) ∧ ((x400_12 + (1 : Int32)).toInt ≤ ((sI w 172 ((((200 : Int32) * x400_10) + x400_12).toInt.toNat) (vp_nar .byte ((Int32.toInt8 (w.1 183 x400_1.toInt.toNat)).toInt32))).1 169 x400_10.toInt.toNat).toInt) ∧ (x400_8.toInt ≤ 23) := by have := bd_169 hI x400_10.toInt.toNat; have : ((sI w 172 ((((200 : Int32) * x400_10) + x400_12).toInt.toNat) (vp_nar .byte ((Int32.toInt8 (w.1 183 x400_1.toInt.toNat)).toInt32))).1 169 x400_10.toInt.toNat).toInt = (w.1 169 x400_10.toInt.toNat).toInt := rfl; have := ti_add2 (Eq.refl x400_7.toInt) (by decide : ((1 : Int32)).toInt = 1) (by omega) (by omega); have := ti_add2 (Eq.refl x400_12.toInt) (by decide : ((1 : Int32)).toInt = 1) (by omega) (by omega); exact ⟨by omega, by omega, by omega, by omega, by omega, by omega, by omega, by omega, by omega, by omega, by omega, by omega, by omega, by omega, by omega, by omega, by omega⟩
          exact ih _ _ (sI w 172 ((((200 : Int32) * x400_10) + x400_12).toInt.toNat) (vp_nar .byte ((Int32.toInt8 (w.1 183 x400_1.toInt.toNat)).toInt32))) hI10310  o10312.1 o10312.2.1 o10312.2.2.1 o10312.2.2.2.1 o10312.2.2.2.2.1 o10312.2.2.2.2.2.1 o10312.2.2.2.2.2.2.1 o10312.2.2.2.2.2.2.2.1 o10312.2.2.2.2.2.2.2.2.1 o10312.2.2.2.2.2.2.2.2.2.1 o10312.2.2.2.2.2.2.2.2.2.2.1 o10312.2.2.2.2.2.2.2.2.2.2.2.1 o10312.2.2.2.2.2.2.2.2.2.2.2.2.1 o10312.2.2.2.2.2.2.2.2.2.2.2.2.2.1 o10312.2.2.2.2.2.2.2.2.2.2.2.2.2.2.1 o10312.2.2.2.2.2.2.2.2.2.2.2.2.2.2.2.1 o10312.2.2.2.2.2.2.2.2.2.2.2.2.2.2.2.2 (by have := bd_169 hI x400_10.toInt.toNat; have := ti_add2 (Eq.refl x400_7.toInt) (by decide : ((1 : Int32)).toInt = 1) (by omega) (by omega); have := ti_add2 (Eq.refl x400_12.toInt) (by decide : ((1 : Int32)).toInt = 1) (by omega) (by omega); omega) (fun e0 w9 hI9 hF9 p0 p1 u0 => hE e0 w9 hI9 ((FR.I (FR.refl _ w) (k := 172) (j := (((200 : Int32) * x400_10) + x400_12).toInt.toNat) (v := (vp_nar .byte ((Int32.toInt8 (w.1 183 x400_1.toInt.toNat)).toInt32))) rfl).tr hF9 rfl) p0 p1 (by have := bd_169 hI x400_10.toInt.toNat; have := ti_add2 (Eq.refl x400_7.toInt) (by decide : ((1 : Int32)).toInt = 1) (by omega) (by omega); have := ti_add2 (Eq.refl x400_12.toInt) (by decide : ((1 : Int32)).toInt = 1) (by omega) (by omega); omega)) (fun w9 hI9 hF9 q0 => q0.elim)
set_option maxRecDepth 20000 in
set_option maxHeartbeats 2000000 in
theorem hq_Mo_flow_281 {x281_1 : Int32} {x281_5 : Int32} {E : MW → Prop} {Q : MW → Prop} (n : Nat) : ∀ (x281_7 : Int32) (x281_8 : Int32) (w : MW), BND w → 0 ≤ x281_1.toInt → x281_1.toInt ≤ 23 → 0 ≤ x281_5.toInt → x281_5.toInt ≤ 100 → 0 ≤ x281_7.toInt → x281_7.toInt ≤ 4800 → 0 ≤ x281_8.toInt → x281_8.toInt ≤ 24 → x281_7.toInt ≤ 200 * x281_8.toInt → (24 - x281_8.toInt).toNat < n → (∀ (w' : MW), BND w' → FR l_Mo_flow_281 w w' → E w') → (∀ (w' : MW), BND w' → FR l_Mo_flow_281 w w' → False → Q w') → q_Mo_flow_281 x281_1 x281_5 E Q n x281_7 x281_8 w := by
  induction n with
  | zero => intros; omega
  | succ n ih =>
    intro x281_7 x281_8 w hI  hp0 hp1 hp2 hp3 hp4 hp5 hp6 hp7 hp8 hm hE hQ
    rw [q_Mo_flow_281.eq_2]
    have o10313 : 0 ≤ x281_1.toInt ∧ x281_1.toInt < 24 := by omega
    refine ⟨o10313, ?_⟩
    refine ⟨fun h10314 => ?_, fun h10314 => ?_⟩
    · exact hE _ hI (FR.refl _ w)
    · have o10315 : 0 ≤ (((24 : Int32) * x281_1) + x281_8).toInt ∧ (((24 : Int32) * x281_1) + x281_8).toInt < 576 := by have := bd_185 hI x281_1.toInt.toNat; have := ti_mul2 (by decide : ((24 : Int32)).toInt = 24) (Eq.refl x281_1.toInt) (by omega) (by omega); have := ti_add2 (Eq.refl ((24 : Int32) * x281_1).toInt) (Eq.refl x281_8.toInt) (by omega) (by omega); omega
      refine ⟨o10315, ?_⟩
      have o10316 : (0 ≤ x281_1.toInt) ∧ (x281_1.toInt ≤ 23) ∧ (0 ≤ x281_5.toInt) ∧ (x281_5.toInt ≤ 100) ∧ (0 ≤ x281_7.toInt) ∧ (x281_7.toInt ≤ 4800) ∧ (0 ≤ x281_8.toInt) ∧ (x281_8.toInt ≤ 23) ∧ (0 ≤ (w.1 186 ((((24 : Int32) * x281_1) + x281_8).toInt.toNat)).toInt) ∧ ((w.1 186 ((((24 : Int32) * x281_1) + x281_8).toInt.toNat)).toInt ≤ 47) ∧ (0 ≤ ((w.1 186 ((((24 : Int32) * x281_1) + x281_8).toInt.toNat)) / (2 : Int32)).toInt) ∧ (((w.1 186 ((((24 : Int32) * x281_1) + x281_8).toInt.toNat)) / (2 : Int32)).toInt ≤ 23) ∧ (0 ≤ (0 : Int32).toInt) ∧ ((0 : Int32).toInt ≤ 1) ∧ (1 ≤ (1 : Int32).toInt) ∧ ((1 : Int32).toInt ≤ 101) := by have := bd_186 hI ((((24 : Int32) * x281_1) + x281_8).toInt.toNat); have := (by decide : ((0 : Int32)).toInt = 0); have := (by decide : ((1 : Int32)).toInt = 1); have := bd_185 hI x281_1.toInt.toNat; have := nb_div (x := (w.1 186 ((((24 : Int32) * x281_1) + x281_8).toInt.toNat))) (by omega) (by decide : ((2 : Int32)).toInt = 2) (by decide); exact ⟨by omega, by omega, by omega, by omega, by omega, by omega, by omega, by omega, by omega, by omega, by omega, by omega, by omega, by omega, by omega, by omega⟩
      refine hq_Mo_flow_318 FU _ _ w hI  o10316.1 o10316.2.1 o10316.2.2.1 o10316.2.2.2.1 o10316.2.2.2.2.1 o10316.2.2.2.2.2.1 o10316.2.2.2.2.2.2.1 o10316.2.2.2.2.2.2.2.1 o10316.2.2.2.2.2.2.2.2.1 o10316.2.2.2.2.2.2.2.2.2.1 o10316.2.2.2.2.2.2.2.2.2.2.1 o10316.2.2.2.2.2.2.2.2.2.2.2.1 o10316.2.2.2.2.2.2.2.2.2.2.2.2.1 o10316.2.2.2.2.2.2.2.2.2.2.2.2.2.1 o10316.2.2.2.2.2.2.2.2.2.2.2.2.2.2.1 o10316.2.2.2.2.2.2.2.2.2.2.2.2.2.2.2 (fu_lt (by have := bd_186 hI ((((24 : Int32) * x281_1) + x281_8).toInt.toNat); have := (by decide : ((0 : Int32)).toInt = 0); have := (by decide : ((1 : Int32)).toInt = 1); have := bd_185 hI x281_1.toInt.toNat; have := nb_div (x := (w.1 186 ((((24 : Int32) * x281_1) + x281_8).toInt.toNat))) (by omega) (by decide : ((2 : Int32)).toInt = 2) (by decide); omega)) (fun e10320 w10317 hI10318 hL10319 p10321 p10322 => ?_) (fun w9 hI9 hF9 q0 => q0.elim)
      have hF10323 : FR l_Mo_flow_281 w w10317 := (FR.refl _ w).tr hL10319 rfl
      refine ⟨fun h10324 => ?_, fun h10324 => ?_⟩
      · have o10325 : (0 ≤ x281_1.toInt) ∧ (x281_1.toInt ≤ 23) ∧ (0 ≤ x281_5.toInt) ∧ (x281_5.toInt ≤ 100) ∧ (0 ≤ x281_8.toInt) ∧ (x281_8.toInt ≤ 23) ∧ (0 ≤ (w.1 186 ((((24 : Int32) * x281_1) + x281_8).toInt.toNat)).toInt) ∧ ((w.1 186 ((((24 : Int32) * x281_1) + x281_8).toInt.toNat)).toInt ≤ 47) ∧ (0 ≤ ((w.1 186 ((((24 : Int32) * x281_1) + x281_8).toInt.toNat)) / (2 : Int32)).toInt) ∧ (((w.1 186 ((((24 : Int32) * x281_1) + x281_8).toInt.toNat)) / (2 : Int32)).toInt ≤ 23) ∧ (0 ≤ x281_7.toInt) ∧ (x281_7.toInt ≤ 4800) ∧ (0 ≤ (0 : Int32).toInt) ∧ ((0 : Int32).toInt ≤ 200) ∧ (x281_7.toInt - (0 : Int32).toInt ≤ 200 * x281_8.toInt) ∧ ((0 : Int32).toInt ≤ (w10317.1 169 ((w.1 186 ((((24 : Int32) * x281_1) + x281_8).toInt.toNat)) / (2 : Int32)).toInt.toNat).toInt) ∧ (x281_8.toInt ≤ 23) := by have := bd_186 hI ((((24 : Int32) * x281_1) + x281_8).toInt.toNat); have := (by decide : ((0 : Int32)).toInt = 0); have := bd_169 hI10318 (((w.1 186 ((((24 : Int32) * x281_1) + x281_8).toInt.toNat)) / (2 : Int32)).toInt.toNat); have := bd_169 hI (((w.1 186 ((((24 : Int32) * x281_1) + x281_8).toInt.toNat)) / (2 : Int32)).toInt.toNat); have := (congrArg Int32.toInt (hL10319 169 (((w.1 186 ((((24 : Int32) * x281_1) + x281_8).toInt.toNat)) / (2 : Int32)).toInt.toNat) rfl).1); have := bd_185 hI x281_1.toInt.toNat; have := nb_div (x := (w.1 186 ((((24 : Int32) * x281_1) + x281_8).toInt.toNat))) (by omega) (by decide : ((2 : Int32)).toInt = 2) (by decide); exact ⟨by omega, by omega, by omega, by omega, by omega, by omega, by omega, by omega, by omega, by omega, by omega, by omega, by omega, by omega, by omega, by omega, by omega⟩
        refine hq_Mo_flow_400 FU _ _ w10317 hI10318  o10325.1 o10325.2.1 o10325.2.2.1 o10325.2.2.2.1 o10325.2.2.2.2.1 o10325.2.2.2.2.2.1 o10325.2.2.2.2.2.2.1 o10325.2.2.2.2.2.2.2.1 o10325.2.2.2.2.2.2.2.2.1 o10325.2.2.2.2.2.2.2.2.2.1 o10325.2.2.2.2.2.2.2.2.2.2.1 o10325.2.2.2.2.2.2.2.2.2.2.2.1 o10325.2.2.2.2.2.2.2.2.2.2.2.2.1 o10325.2.2.2.2.2.2.2.2.2.2.2.2.2.1 o10325.2.2.2.2.2.2.2.2.2.2.2.2.2.2.1 o10325.2.2.2.2.2.2.2.2.2.2.2.2.2.2.2.1 o10325.2.2.2.2.2.2.2.2.2.2.2.2.2.2.2.2 (fu_lt (by have := bd_186 hI ((((24 : Int32) * x281_1) + x281_8).toInt.toNat); have := (by decide : ((0 : Int32)).toInt = 0); have := bd_185 hI x281_1.toInt.toNat; have := nb_div (x := (w.1 186 ((((24 : Int32) * x281_1) + x281_8).toInt.toNat))) (by omega) (by decide : ((2 : Int32)).toInt = 2) (by decide); omega)) (fun e10329 w10326 hI10327 hL10328 p10330 p10331 p10332 => ?_) (fun w9 hI9 hF9 q0 => q0.elim)
        have hF10333 : FR l_Mo_flow_281 w w10326 := hF10323.tr hL10328 rfl
        have o10334 : (0 ≤ x281_1.toInt) ∧ (x281_1.toInt ≤ 23) ∧ (0 ≤ x281_5.toInt) ∧ (x281_5.toInt ≤ 100) ∧ (0 ≤ e10329.toInt) ∧ (e10329.toInt ≤ 4800) ∧ (0 ≤ (x281_8 + (1 : Int32)).toInt) ∧ ((x281_8 + (1 : Int32)).toInt ≤ 24) ∧ (e10329.toInt ≤ 200 * (x281_8 + (1 : Int32)).toInt) := by have := bd_185 hI x281_1.toInt.toNat; have := ti_add2 (Eq.refl x281_8.toInt) (by decide : ((1 : Int32)).toInt = 1) (by omega) (by omega); exact ⟨by omega, by omega, by omega, by omega, by omega, by omega, by omega, by omega, by omega⟩
        exact ih _ _ w10326 hI10327  o10334.1 o10334.2.1 o10334.2.2.1 o10334.2.2.2.1 o10334.2.2.2.2.1 o10334.2.2.2.2.2.1 o10334.2.2.2.2.2.2.1 o10334.2.2.2.2.2.2.2.1 o10334.2.2.2.2.2.2.2.2 (by have := bd_185 hI x281_1.toInt.toNat; have := ti_add2 (Eq.refl x281_8.toInt) (by decide : ((1 : Int32)).toInt = 1) (by omega) (by omega); omega) (fun w9 hI9 hF9 => hE w9 hI9 (hF10333.tr hF9 rfl) ) (fun w9 hI9 hF9 q0 => q0.elim)
      · have o10335 : 0 ≤ x281_1.toInt ∧ x281_1.toInt < 24 := by omega
        refine ⟨o10335, ?_⟩
        have o10336 : 0 ≤ ((w10317.1 127 4) + ((w.1 186 ((((24 : Int32) * x281_1) + x281_8).toInt.toNat)) / (2 : Int32))).toInt ∧ ((w10317.1 127 4) + ((w.1 186 ((((24 : Int32) * x281_1) + x281_8).toInt.toNat)) / (2 : Int32))).toInt < 44 := by have := bd_127_4 hI10318; have := bd_127_4 hI; have := (congrArg Int32.toInt (hL10319 127 4 rfl).1); have := bd_186 hI ((((24 : Int32) * x281_1) + x281_8).toInt.toNat); have := nb_div (x := (w.1 186 ((((24 : Int32) * x281_1) + x281_8).toInt.toNat))) (by omega) (by decide : ((2 : Int32)).toInt = 2) (by decide); have := ti_add2 (Eq.refl (w10317.1 127 4).toInt) (Eq.refl ((w.1 186 ((((24 : Int32) * x281_1) + x281_8).toInt.toNat)) / (2 : Int32)).toInt) (by omega) (by omega); omega
        refine ⟨o10336, ?_⟩
        have o10338 : 0 ≤ (w10317.1 183 x281_1.toInt.toNat).toInt ∧ (w10317.1 183 x281_1.toInt.toNat).toInt ≤ 15 := by have := bd_183 hI10318 x281_1.toInt.toNat; have := bd_183 hI x281_1.toInt.toNat; have := (congrArg Int32.toInt (hL10319 183 x281_1.toInt.toNat rfl).1); omega
        have hI10337 : BND (sI w10317 173 (((w10317.1 127 4) + ((w.1 186 ((((24 : Int32) * x281_1) + x281_8).toInt.toNat)) / (2 : Int32))).toInt.toNat) (w10317.1 183 x281_1.toInt.toNat)) := wbd_173 hI10318 (((w10317.1 127 4) + ((w.1 186 ((((24 : Int32) * x281_1) + x281_8).toInt.toNat)) / (2 : Int32))).toInt.toNat) o10338.1 o10338.2
        have o10339 : (0 ≤ ((w10317.1 127 4) + ((w.1 186 ((((24 : Int32) * x281_1) + x281_8).toInt.toNat)) / (2 : Int32))).toInt) ∧ (((w10317.1 127 4) + ((w.1 186 ((((24 : Int32) * x281_1) + x281_8).toInt.toNat)) / (2 : Int32))).toInt ≤ 43) := by have := bd_127_4 hI10318; have := bd_127_4 hI; have := (congrArg Int32.toInt (hL10319 127 4 rfl).1); have := bd_186 hI ((((24 : Int32) * x281_1) + x281_8).toInt.toNat); have := nb_div (x := (w.1 186 ((((24 : Int32) * x281_1) + x281_8).toInt.toNat))) (by omega) (by decide : ((2 : Int32)).toInt = 2) (by decide); have := ti_add2 (Eq.refl (w10317.1 127 4).toInt) (Eq.refl ((w.1 186 ((((24 : Int32) * x281_1) + x281_8).toInt.toNat)) / (2 : Int32)).toInt) (by omega) (by omega); exact ⟨by omega, by omega⟩
        refine h_Mo_forget hI10337  o10339.1 o10339.2 (fun w10340 hI10341 hL10342  => ?_)
        have hF10344 : FR l_Mo_flow_281 w w10340 := (FR.I hF10323 (k := 173) (j := ((w10317.1 127 4) + ((w.1 186 ((((24 : Int32) * x281_1) + x281_8).toInt.toNat)) / (2 : Int32))).toInt.toNat) (v := (w10317.1 183 x281_1.toInt.toNat)) rfl).tr hL10342 rfl
        have o10345 : (0 ≤ x281_1.toInt) ∧ (x281_1.toInt ≤ 23) ∧ (0 ≤ x281_5.toInt) ∧ (x281_5.toInt ≤ 100) ∧ (0 ≤ x281_8.toInt) ∧ (x281_8.toInt ≤ 23) ∧ (0 ≤ (w.1 186 ((((24 : Int32) * x281_1) + x281_8).toInt.toNat)).toInt) ∧ ((w.1 186 ((((24 : Int32) * x281_1) + x281_8).toInt.toNat)).toInt ≤ 47) ∧ (0 ≤ ((w.1 186 ((((24 : Int32) * x281_1) + x281_8).toInt.toNat)) / (2 : Int32)).toInt) ∧ (((w.1 186 ((((24 : Int32) * x281_1) + x281_8).toInt.toNat)) / (2 : Int32)).toInt ≤ 23) ∧ (0 ≤ x281_7.toInt) ∧ (x281_7.toInt ≤ 4800) ∧ (0 ≤ (0 : Int32).toInt) ∧ ((0 : Int32).toInt ≤ 200) ∧ (x281_7.toInt - (0 : Int32).toInt ≤ 200 * x281_8.toInt) ∧ ((0 : Int32).toInt ≤ (w10340.1 169 ((w.1 186 ((((24 : Int32) * x281_1) + x281_8).toInt.toNat)) / (2 : Int32)).toInt.toNat).toInt) ∧ (x281_8.toInt ≤ 23) := by have := bd_186 hI ((((24 : Int32) * x281_1) + x281_8).toInt.toNat); have := (by decide : ((0 : Int32)).toInt = 0); have := bd_169 hI10341 (((w.1 186 ((((24 : Int32) * x281_1) + x281_8).toInt.toNat)) / (2 : Int32)).toInt.toNat); have := bd_169 hI10318 (((w.1 186 ((((24 : Int32) * x281_1) + x281_8).toInt.toNat)) / (2 : Int32)).toInt.toNat); have := bd_169 hI (((w.1 186 ((((24 : Int32) * x281_1) + x281_8).toInt.toNat)) / (2 : Int32)).toInt.toNat); have := (congrArg Int32.toInt (hL10319 169 (((w.1 186 ((((24 : Int32) * x281_1) + x281_8).toInt.toNat)) / (2 : Int32)).toInt.toNat) rfl).1); have : ((sI w10317 173 (((w10317.1 127 4) + ((w.1 186 ((((24 : Int32) * x281_1) + x281_8).toInt.toNat)) / (2 : Int32))).toInt.toNat) (w10317.1 183 x281_1.toInt.toNat)).1 169 (((w.1 186 ((((24 : Int32) * x281_1) + x281_8).toInt.toNat)) / (2 : Int32)).toInt.toNat)).toInt = (w10317.1 169 (((w.1 186 ((((24 : Int32) * x281_1) + x281_8).toInt.toNat)) / (2 : Int32)).toInt.toNat)).toInt := rfl; have := (congrArg Int32.toInt (hL10342 169 (((w.1 186 ((((24 : Int32) * x281_1) + x281_8).toInt.toNat)) / (2 : Int32)).toInt.toNat) rfl).1); have := bd_185 hI x281_1.toInt.toNat; have := nb_div (x := (w.1 186 ((((24 : Int32) * x281_1) + x281_8).toInt.toNat))) (by omega) (by decide : ((2 : Int32)).toInt = 2) (by decide); exact ⟨by omega, by omega, by omega, by omega, by omega, by omega, by omega, by omega, by omega, by omega, by omega, by omega, by omega, by omega, by omega, by omega, by omega⟩
        refine hq_Mo_flow_400 FU _ _ w10340 hI10341  o10345.1 o10345.2.1 o10345.2.2.1 o10345.2.2.2.1 o10345.2.2.2.2.1 o10345.2.2.2.2.2.1 o10345.2.2.2.2.2.2.1 o10345.2.2.2.2.2.2.2.1 o10345.2.2.2.2.2.2.2.2.1 o10345.2.2.2.2.2.2.2.2.2.1 o10345.2.2.2.2.2.2.2.2.2.2.1 o10345.2.2.2.2.2.2.2.2.2.2.2.1 o10345.2.2.2.2.2.2.2.2.2.2.2.2.1 o10345.2.2.2.2.2.2.2.2.2.2.2.2.2.1 o10345.2.2.2.2.2.2.2.2.2.2.2.2.2.2.1 o10345.2.2.2.2.2.2.2.2.2.2.2.2.2.2.2.1 o10345.2.2.2.2.2.2.2.2.2.2.2.2.2.2.2.2 (fu_lt (by have := bd_186 hI ((((24 : Int32) * x281_1) + x281_8).toInt.toNat); have := (by decide : ((0 : Int32)).toInt = 0); have := bd_185 hI x281_1.toInt.toNat; have := nb_div (x := (w.1 186 ((((24 : Int32) * x281_1) + x281_8).toInt.toNat))) (by omega) (by decide : ((2 : Int32)).toInt = 2) (by decide); omega)) (fun e10349 w10346 hI10347 hL10348 p10350 p10351 p10352 => ?_) (fun w9 hI9 hF9 q0 => q0.elim)
        have hF10353 : FR l_Mo_flow_281 w w10346 := hF10344.tr hL10348 rfl
        have o10354 : (0 ≤ x281_1.toInt) ∧ (x281_1.toInt ≤ 23) ∧ (0 ≤ x281_5.toInt) ∧ (x281_5.toInt ≤ 100) ∧ (0 ≤ e10349.toInt) ∧ (e10349.toInt ≤ 4800) ∧ (0 ≤ (x281_8 + (1 : Int32)).toInt) ∧ ((x281_8 + (1 : Int32)).toInt ≤ 24) ∧ (e10349.toInt ≤ 200 * (x281_8 + (1 : Int32)).toInt) := by have := bd_185 hI x281_1.toInt.toNat; have := ti_add2 (Eq.refl x281_8.toInt) (by decide : ((1 : Int32)).toInt = 1) (by omega) (by omega); exact ⟨by omega, by omega, by omega, by omega, by omega, by omega, by omega, by omega, by omega⟩
        exact ih _ _ w10346 hI10347  o10354.1 o10354.2.1 o10354.2.2.1 o10354.2.2.2.1 o10354.2.2.2.2.1 o10354.2.2.2.2.2.1 o10354.2.2.2.2.2.2.1 o10354.2.2.2.2.2.2.2.1 o10354.2.2.2.2.2.2.2.2 (by have := bd_185 hI x281_1.toInt.toNat; have := ti_add2 (Eq.refl x281_8.toInt) (by decide : ((1 : Int32)).toInt = 1) (by omega) (by omega); omega) (fun w9 hI9 hF9 => hE w9 hI9 (hF10353.tr hF9 rfl) ) (fun w9 hI9 hF9 q0 => q0.elim)
set_option maxRecDepth 20000 in
set_option maxHeartbeats 2000000 in
theorem h_Mo_flow {w : MW} {a0 : Int32} {Q : MW → Prop} (hI : BND w) (hp0 : 0 ≤ a0.toInt) (hp1 : a0.toInt ≤ 23) (hQ : ∀ (w' : MW), BND w' → FR l_Mo_flow w w' → Q w') : p_Mo_flow w a0 Q := by
  refine Eq.mpr (p_Mo_flow.eq_1 _ _ _) ?_
  have o10355 : 0 ≤ a0.toInt ∧ a0.toInt < 24 := by omega
  refine ⟨o10355, ?_⟩
  have o10356 : 0 ≤ a0.toInt ∧ a0.toInt < 24 := by omega
  refine ⟨o10356, ?_⟩
  have o10357 : (0 ≤ a0.toInt) ∧ (a0.toInt ≤ 23) ∧ (0 ≤ (w.1 181 a0.toInt.toNat).toInt) ∧ ((w.1 181 a0.toInt.toNat).toInt ≤ 19) ∧ (0 ≤ (w.1 182 a0.toInt.toNat).toInt) ∧ ((w.1 182 a0.toInt.toNat).toInt ≤ 19) ∧ (0 ≤ (0 : Int32).toInt) ∧ ((0 : Int32).toInt ≤ 4800) ∧ (0 ≤ (0 : Int32).toInt) ∧ ((0 : Int32).toInt ≤ 24) ∧ ((0 : Int32).toInt ≤ 200 * (0 : Int32).toInt) := by have := bd_181 hI a0.toInt.toNat; have := bd_182 hI a0.toInt.toNat; have := (by decide : ((0 : Int32)).toInt = 0); exact ⟨by omega, by omega, by omega, by omega, by omega, by omega, by omega, by omega, by omega, by omega, by omega⟩
  refine hq_Mo_flow_20 FU _ _ w hI  o10357.1 o10357.2.1 o10357.2.2.1 o10357.2.2.2.1 o10357.2.2.2.2.1 o10357.2.2.2.2.2.1 o10357.2.2.2.2.2.2.1 o10357.2.2.2.2.2.2.2.1 o10357.2.2.2.2.2.2.2.2.1 o10357.2.2.2.2.2.2.2.2.2.1 o10357.2.2.2.2.2.2.2.2.2.2 (fu_lt (by have := bd_181 hI a0.toInt.toNat; have := bd_182 hI a0.toInt.toNat; have := (by decide : ((0 : Int32)).toInt = 0); omega)) (fun e10361 w10358 hI10359 hL10360 p10362 p10363 => ?_) (fun w9 hI9 hF9 q0 => q0.elim)
  have hF10364 : FR l_Mo_flow w w10358 := (FR.refl _ w).tr hL10360 rfl
  have o10365 : (0 ≤ a0.toInt) ∧ (a0.toInt ≤ 23) ∧ (0 ≤ (w.1 181 a0.toInt.toNat).toInt) ∧ ((w.1 181 a0.toInt.toNat).toInt ≤ 19) ∧ (0 ≤ (w.1 182 a0.toInt.toNat).toInt) ∧ ((w.1 182 a0.toInt.toNat).toInt ≤ 19) ∧ (0 ≤ e10361.toInt) ∧ (e10361.toInt ≤ 4800) ∧ (0 ≤ (0 : Int32).toInt) ∧ ((0 : Int32).toInt ≤ 100) ∧ (0 ≤ (1 : Int32).toInt) ∧ ((1 : Int32).toInt ≤ 1) := by have := bd_181 hI a0.toInt.toNat; have := bd_182 hI a0.toInt.toNat; have := (by decide : ((0 : Int32)).toInt = 0); have := (by decide : ((1 : Int32)).toInt = 1); exact ⟨by omega, by omega, by omega, by omega, by omega, by omega, by omega, by omega, by omega, by omega, by omega, by omega⟩
  refine hq_Mo_flow_130 FU _ _ w10358 hI10359  o10365.1 o10365.2.1 o10365.2.2.1 o10365.2.2.2.1 o10365.2.2.2.2.1 o10365.2.2.2.2.2.1 o10365.2.2.2.2.2.2.1 o10365.2.2.2.2.2.2.2.1 o10365.2.2.2.2.2.2.2.2.1 o10365.2.2.2.2.2.2.2.2.2.1 o10365.2.2.2.2.2.2.2.2.2.2.1 o10365.2.2.2.2.2.2.2.2.2.2.2 (fu_lt (by have := bd_181 hI a0.toInt.toNat; have := bd_182 hI a0.toInt.toNat; have := (by decide : ((0 : Int32)).toInt = 0); have := (by decide : ((1 : Int32)).toInt = 1); omega)) (fun e10369 w10366 hI10367 hL10368 p10370 p10371 => ?_) (fun w9 hI9 hF9 q0 => q0.elim)
  have hF10372 : FR l_Mo_flow w w10366 := hF10364.tr hL10368 rfl
  have o10373 : (0 ≤ a0.toInt) ∧ (a0.toInt ≤ 23) ∧ (0 ≤ e10369.toInt) ∧ (e10369.toInt ≤ 100) ∧ (0 ≤ (0 : Int32).toInt) ∧ ((0 : Int32).toInt ≤ 4800) ∧ (0 ≤ (0 : Int32).toInt) ∧ ((0 : Int32).toInt ≤ 24) ∧ ((0 : Int32).toInt ≤ 200 * (0 : Int32).toInt) := by have := (by decide : ((0 : Int32)).toInt = 0); exact ⟨by omega, by omega, by omega, by omega, by omega, by omega, by omega, by omega, by omega⟩
  refine hq_Mo_flow_281 FU _ _ w10366 hI10367  o10373.1 o10373.2.1 o10373.2.2.1 o10373.2.2.2.1 o10373.2.2.2.2.1 o10373.2.2.2.2.2.1 o10373.2.2.2.2.2.2.1 o10373.2.2.2.2.2.2.2.1 o10373.2.2.2.2.2.2.2.2 (fu_lt (by have := (by decide : ((0 : Int32)).toInt = 0); omega)) (fun w10374 hI10375 hL10376  => ?_) (fun w9 hI9 hF9 q0 => q0.elim)
  have hF10377 : FR l_Mo_flow w w10374 := hF10372.tr hL10376 rfl
  exact hQ _ hI10375 hF10377 
