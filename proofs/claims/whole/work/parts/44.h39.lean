def l_Mo_least_2 : Pl := []
def l_Mo_least : Pl := []
set_option maxRecDepth 20000 in
set_option maxHeartbeats 2000000 in
theorem hq_Mo_least_2 {x2_0 : Int32} {x2_1 : Int32} {x2_2 : Int32} {E : MW → Prop} {Q : Int32 → MW → Prop} (n : Nat) : ∀ (x2_3 : Int32) (w : MW), BND w → 0 ≤ x2_0.toInt → x2_0.toInt ≤ 7 → 0 ≤ x2_3.toInt → x2_3.toInt ≤ 10 → (10 - x2_3.toInt).toNat < n → (∀ (w' : MW), BND w' → FR l_Mo_least_2 w w' → E w') → (∀ (r : Int32) (w' : MW), BND w' → FR l_Mo_least_2 w w' → 0 ≤ r.toInt → r.toInt ≤ 9 → Q r w') → q_Mo_least_2 x2_0 x2_1 x2_2 E Q n x2_3 w := by
  induction n with
  | zero => intros; omega
  | succ n ih =>
    intro x2_3 w hI  hp0 hp1 hp2 hp3 hm hE hQ
    rw [q_Mo_least_2.eq_2]
    refine ⟨fun h9868 => ?_, fun h9868 => ?_⟩
    · exact hE _ hI (FR.refl _ w)
    · have o9869 : (0 ≤ x2_0.toInt) ∧ (x2_0.toInt ≤ 7) ∧ (0 ≤ x2_3.toInt) ∧ (x2_3.toInt ≤ 9) := by have := ti_lo x2_1; have := ti_hi x2_1; have := ti_lo x2_2; have := ti_hi x2_2; have := (by decide : ((10 : Int32)).toInt = 10); exact ⟨by omega, by omega, by omega, by omega⟩
      refine h_Mo_passes hI  o9869.1 o9869.2.1 o9869.2.2.1 o9869.2.2.2 (fun r9873 w9870 hI9871 hL9872 p9874 p9875 => ?_)
      have hF9876 : FR l_Mo_least_2 w w9870 := (FR.refl _ w).tr hL9872 rfl
      refine ⟨fun h9877 => ?_, fun h9877 => ?_⟩
      · have o9878 : (0 ≤ x2_0.toInt) ∧ (x2_0.toInt ≤ 7) ∧ (0 ≤ (x2_3 + (1 : Int32)).toInt) ∧ ((x2_3 + (1 : Int32)).toInt ≤ 10) := by have := (by decide : ((10 : Int32)).toInt = 10); have := ti_add2 (Eq.refl x2_3.toInt) (by decide : ((1 : Int32)).toInt = 1) (by omega) (by omega); exact ⟨by omega, by omega, by omega, by omega⟩
        exact ih _ w9870 hI9871  o9878.1 o9878.2.1 o9878.2.2.1 o9878.2.2.2 (by have := (by decide : ((10 : Int32)).toInt = 10); have := ti_add2 (Eq.refl x2_3.toInt) (by decide : ((1 : Int32)).toInt = 1) (by omega) (by omega); omega) (fun w9 hI9 hF9 => hE w9 hI9 (hF9876.tr hF9 rfl) ) (fun r w9 hI9 hF9 q0 q1 => hQ r w9 hI9 (hF9876.tr hF9 rfl) (by have := (by decide : ((10 : Int32)).toInt = 10); have := ti_add2 (Eq.refl x2_3.toInt) (by decide : ((1 : Int32)).toInt = 1) (by omega) (by omega); omega) (by have := (by decide : ((10 : Int32)).toInt = 10); have := ti_add2 (Eq.refl x2_3.toInt) (by decide : ((1 : Int32)).toInt = 1) (by omega) (by omega); omega))
      · have o9879 : (0 ≤ x2_3.toInt) ∧ (x2_3.toInt ≤ 9) := by have := (by decide : ((10 : Int32)).toInt = 10); exact ⟨by omega, by omega⟩
        exact hQ _ _ hI9871 hF9876  o9879.1 o9879.2
set_option maxRecDepth 20000 in
set_option maxHeartbeats 2000000 in
theorem h_Mo_least {w : MW} {a0 : Int32} {b0 : Int32} {c0 : Int32} {Q : Int32 → MW → Prop} (hI : BND w) (hp0 : 0 ≤ a0.toInt) (hp1 : a0.toInt ≤ 7) (hQ : ∀ (r : Int32) (w' : MW), BND w' → FR l_Mo_least w w' → (-1) ≤ r.toInt → r.toInt ≤ 9 → Q r w') : p_Mo_least w a0 b0 c0 Q := by
  refine Eq.mpr (p_Mo_least.eq_1 _ _ _ _ _) ?_
  have o9880 : (0 ≤ a0.toInt) ∧ (a0.toInt ≤ 7) ∧ (0 ≤ (0 : Int32).toInt) ∧ ((0 : Int32).toInt ≤ 10) := by have := ti_lo b0; have := ti_hi b0; have := ti_lo c0; have := ti_hi c0; have := (by decide : ((0 : Int32)).toInt = 0); exact ⟨by omega, by omega, by omega, by omega⟩
  refine hq_Mo_least_2 FU _ w hI  o9880.1 o9880.2.1 o9880.2.2.1 o9880.2.2.2 (fu_lt (by have := ti_lo b0; have := ti_hi b0; have := ti_lo c0; have := ti_hi c0; have := (by decide : ((0 : Int32)).toInt = 0); omega)) (fun w9881 hI9882 hL9883  => ?_) (fun r w9 hI9 hF9 q0 q1 => hQ r w9 hI9 (((FR.refl _ w)).tr hF9 rfl) (by have := ti_lo b0; have := ti_hi b0; have := ti_lo c0; have := ti_hi c0; have := (by decide : ((0 : Int32)).toInt = 0); omega) (by have := ti_lo b0; have := ti_hi b0; have := ti_lo c0; have := ti_hi c0; have := (by decide : ((0 : Int32)).toInt = 0); omega))
  have hF9884 : FR l_Mo_least w w9881 := (FR.refl _ w).tr hL9883 rfl
  have o9885 : ((-1) ≤ ((-1) : Int32).toInt) ∧ (((-1) : Int32).toInt ≤ 9) := by have := (by decide : (((-1) : Int32)).toInt = (-1)); exact ⟨by omega, by omega⟩
  exact hQ _ _ hI9882 hF9884  o9885.1 o9885.2
def l_Mo_needOf : Pl := []
set_option maxRecDepth 20000 in
set_option maxHeartbeats 2000000 in
theorem h_Mo_needOf {w : MW} {a0 : Int32} {b0 : Int32} {Q : Int32 → MW → Prop} (hI : BND w) (hp0 : 0 ≤ a0.toInt) (hp1 : a0.toInt ≤ 47) (hp2 : 0 ≤ b0.toInt) (hp3 : b0.toInt ≤ 47) (hQ : ∀ (r : Int32) (w' : MW), BND w' → FR l_Mo_needOf w w' → (-1) ≤ r.toInt → r.toInt ≤ 9 → Q r w') : p_Mo_needOf w a0 b0 Q := by
  refine Eq.mpr (p_Mo_needOf.eq_1 _ _ _ _) ?_
  have o9886 : 0 ≤ a0.toInt ∧ a0.toInt < 48 := by omega
  refine ⟨o9886, ?_⟩
  refine ⟨fun h9887 => ?_, fun h9887 => ?_⟩
  · have o9888 : ((-1) ≤ ((-1) : Int32).toInt) ∧ (((-1) : Int32).toInt ≤ 9) := by have := (by decide : (((-1) : Int32)).toInt = (-1)); exact ⟨by omega, by omega⟩
    exact hQ _ _ hI (FR.refl _ w)  o9888.1 o9888.2
  · have o9889 : 0 ≤ b0.toInt ∧ b0.toInt < 48 := by omega
    refine ⟨o9889, ?_⟩
    refine ⟨fun h9890 => ?_, fun h9890 => ?_⟩
    · have o9891 : ((-1) ≤ ((-1) : Int32).toInt) ∧ (((-1) : Int32).toInt ≤ 9) := by have := (by decide : (((-1) : Int32)).toInt = (-1)); exact ⟨by omega, by omega⟩
      exact hQ _ _ hI (FR.refl _ w)  o9891.1 o9891.2
    · refine ⟨fun h9892 => ?_, fun h9892 => ?_⟩
      · have o9893 : ((-1) ≤ ((-1) : Int32).toInt) ∧ (((-1) : Int32).toInt ≤ 9) := by have := (by decide : (((-1) : Int32)).toInt = (-1)); exact ⟨by omega, by omega⟩
        exact hQ _ _ hI (FR.refl _ w)  o9893.1 o9893.2
      · have o9894 : 0 ≤ (w.1 170 a0.toInt.toNat).toInt ∧ (w.1 170 a0.toInt.toNat).toInt < 20 := by have := bd_170 hI a0.toInt.toNat; have := (by decide : ((0 : Int32)).toInt = 0); have := bd_170 hI b0.toInt.toNat; omega
        refine ⟨o9894, ?_⟩
        refine ⟨fun h9895 => ?_, fun h9895 => ?_⟩
        · have o9896 : ((-1) ≤ ((-1) : Int32).toInt) ∧ (((-1) : Int32).toInt ≤ 9) := by have := (by decide : (((-1) : Int32)).toInt = (-1)); exact ⟨by omega, by omega⟩
          exact hQ _ _ hI (FR.refl _ w)  o9896.1 o9896.2
        · refine ⟨fun h9897 => ?_, fun h9897 => ?_⟩
          · have o9898 : 0 ≤ (w.1 170 a0.toInt.toNat).toInt ∧ (w.1 170 a0.toInt.toNat).toInt < 20 := by have := bd_170 hI a0.toInt.toNat; have := (by decide : ((0 : Int32)).toInt = 0); have := bd_170 hI b0.toInt.toNat; omega
            refine ⟨o9898, ?_⟩
            refine ⟨fun h9899 => ?_, fun h9899 => ?_⟩
            · have o9900 : 0 ≤ (w.1 170 a0.toInt.toNat).toInt ∧ (w.1 170 a0.toInt.toNat).toInt < 20 := by have := bd_170 hI a0.toInt.toNat; have := (by decide : ((0 : Int32)).toInt = 0); have := bd_170 hI b0.toInt.toNat; omega
              refine ⟨o9900, ?_⟩
              have o9901 : 0 ≤ a0.toInt ∧ a0.toInt < 48 := by have := nb_cmp (((w.2.1 127 40) >>> ((b0 / (2 : Int32)).toInt64 &&& 63)) &&& (1 : Int64)) (0 : Int64); have := (by decide : ((0 : Int64)).toInt = 0); have := (by decide : ((0 : Int32)).toInt = 0); omega
              refine ⟨o9901, ?_⟩
              have o9902 : 0 ≤ b0.toInt ∧ b0.toInt < 48 := by have := nb_cmp (((w.2.1 127 40) >>> ((b0 / (2 : Int32)).toInt64 &&& 63)) &&& (1 : Int64)) (0 : Int64); have := (by decide : ((0 : Int64)).toInt = 0); have := (by decide : ((0 : Int32)).toInt = 0); omega
              refine ⟨o9902, ?_⟩
              have o9903 : (0 ≤ ((w.1 163 ((w.1 170 a0.toInt.toNat).toInt.toNat)) - (2 : Int32)).toInt) ∧ (((w.1 163 ((w.1 170 a0.toInt.toNat).toInt.toNat)) - (2 : Int32)).toInt ≤ 7) := by have := bd_163 hI ((w.1 170 a0.toInt.toNat).toInt.toNat); have := (by decide : ((0 : Int32)).toInt = 0); have := (by decide : ((1 : Int32)).toInt = 1); have := ti_sub2 (Eq.refl (w.1 163 ((w.1 170 a0.toInt.toNat).toInt.toNat)).toInt) (by decide : ((2 : Int32)).toInt = 2) (by omega) (by omega); exact ⟨by omega, by omega⟩
              refine h_Mo_least hI  o9903.1 o9903.2 (fun r9907 w9904 hI9905 hL9906 p9908 p9909 => ?_)
              have hF9910 : FR l_Mo_needOf w w9904 := (FR.refl _ w).tr hL9906 rfl
              have o9911 : (0 ≤ (w.1 170 a0.toInt.toNat).toInt) ∧ ((w.1 170 a0.toInt.toNat).toInt ≤ 19) := by have := bd_170 hI a0.toInt.toNat; have := (by decide : ((0 : Int32)).toInt = 0); have := bd_170 hI b0.toInt.toNat; exact ⟨by omega, by omega⟩
              refine h_Mo_held hI9905  o9911.1 o9911.2 (fun r9915 w9912 hI9913 hL9914 p9916 p9917 => ?_)
              have hF9918 : FR l_Mo_needOf w w9912 := hF9910.tr hL9914 rfl
              refine ⟨fun h9919 => ?_, fun h9919 => ?_⟩
              · have o9920 : ((-1) ≤ r9907.toInt) ∧ (r9907.toInt ≤ 9) := by exact ⟨by omega, by omega⟩
                exact hQ _ _ hI9913 hF9918  o9920.1 o9920.2
              · have o9921 : (0 ≤ (w.1 170 a0.toInt.toNat).toInt) ∧ ((w.1 170 a0.toInt.toNat).toInt ≤ 19) := by have := bd_170 hI a0.toInt.toNat; have := (by decide : ((0 : Int32)).toInt = 0); have := bd_170 hI b0.toInt.toNat; exact ⟨by omega, by omega⟩
                refine h_Mo_held hI9913  o9921.1 o9921.2 (fun r9925 w9922 hI9923 hL9924 p9926 p9927 => ?_)
                have hF9928 : FR l_Mo_needOf w w9922 := hF9918.tr hL9924 rfl
                refine ⟨fun h9929 => ?_, fun h9929 => ?_⟩
                · have o9930 : ((-1) ≤ ((-1) : Int32).toInt) ∧ (((-1) : Int32).toInt ≤ 9) := by have := (by decide : (((-1) : Int32)).toInt = (-1)); exact ⟨by omega, by omega⟩
                  exact hQ _ _ hI9923 hF9928  o9930.1 o9930.2
                · have o9931 : ((-1) ≤ r9907.toInt) ∧ (r9907.toInt ≤ 9) := by exact ⟨by omega, by omega⟩
                  exact hQ _ _ hI9923 hF9928  o9931.1 o9931.2
            · have o9932 : 0 ≤ a0.toInt ∧ a0.toInt < 48 := by have := nb_cmp (((w.2.1 127 40) >>> ((b0 / (2 : Int32)).toInt64 &&& 63)) &&& (1 : Int64)) (0 : Int64); have := (by decide : ((0 : Int64)).toInt = 0); have := (by decide : ((0 : Int32)).toInt = 0); omega
              refine ⟨o9932, ?_⟩
              refine ⟨fun h9933 => ?_, fun h9933 => ?_⟩
              · have o9934 : ((-1) ≤ ((-1) : Int32).toInt) ∧ (((-1) : Int32).toInt ≤ 9) := by have := (by decide : (((-1) : Int32)).toInt = (-1)); exact ⟨by omega, by omega⟩
                exact hQ _ _ hI (FR.refl _ w)  o9934.1 o9934.2
              · have o9935 : (0 ≤ (w.1 170 a0.toInt.toNat).toInt) ∧ ((w.1 170 a0.toInt.toNat).toInt ≤ 19) := by have := bd_170 hI a0.toInt.toNat; have := (by decide : ((0 : Int32)).toInt = 0); have := bd_170 hI b0.toInt.toNat; exact ⟨by omega, by omega⟩
                refine h_Mo_held hI  o9935.1 o9935.2 (fun r9939 w9936 hI9937 hL9938 p9940 p9941 => ?_)
                have hF9942 : FR l_Mo_needOf w w9936 := (FR.refl _ w).tr hL9938 rfl
                refine ⟨fun h9943 => ?_, fun h9943 => ?_⟩
                · have o9944 : ((-1) ≤ ((-1) : Int32).toInt) ∧ (((-1) : Int32).toInt ≤ 9) := by have := (by decide : (((-1) : Int32)).toInt = (-1)); exact ⟨by omega, by omega⟩
                  exact hQ _ _ hI9937 hF9942  o9944.1 o9944.2
                · have o9945 : ((-1) ≤ (0 : Int32).toInt) ∧ ((0 : Int32).toInt ≤ 9) := by have := (by decide : ((0 : Int32)).toInt = 0); exact ⟨by omega, by omega⟩
                  exact hQ _ _ hI9937 hF9942  o9945.1 o9945.2
          · have o9946 : ((-1) ≤ ((-1) : Int32).toInt) ∧ (((-1) : Int32).toInt ≤ 9) := by have := (by decide : (((-1) : Int32)).toInt = (-1)); exact ⟨by omega, by omega⟩
            exact hQ _ _ hI (FR.refl _ w)  o9946.1 o9946.2
def l_Mo_openWay_2 : Pl := []
def l_Mo_openWay : Pl := []
set_option maxRecDepth 20000 in
set_option maxHeartbeats 2000000 in
theorem hq_Mo_openWay_2 {x2_1 : Int32} {x2_2 : Int32} {E : MW → Prop} {Q : Int32 → MW → Prop} (n : Nat) : ∀ (x2_3 : Int32) (w : MW), BND w → 0 ≤ x2_3.toInt → x2_3.toInt ≤ 24 → (24 - x2_3.toInt).toNat < n → (∀ (w' : MW), BND w' → FR l_Mo_openWay_2 w w' → E w') → (∀ (r : Int32) (w' : MW), BND w' → FR l_Mo_openWay_2 w w' → 0 ≤ r.toInt → r.toInt ≤ 23 → Q r w') → q_Mo_openWay_2 x2_1 x2_2 E Q n x2_3 w := by
  induction n with
  | zero => intros; omega
  | succ n ih =>
    intro x2_3 w hI  hp0 hp1 hm hE hQ
    rw [q_Mo_openWay_2.eq_2]
    refine ⟨fun h10028 => ?_, fun h10028 => ?_⟩
    · exact hE _ hI (FR.refl _ w)
    · have o10029 : 0 ≤ x2_3.toInt ∧ x2_3.toInt < 24 := by have := bd_127_26 hI; omega
      refine ⟨o10029, ?_⟩
      refine ⟨fun h10030 => ?_, fun h10030 => ?_⟩
      · have o10031 : (0 ≤ (x2_3 + (1 : Int32)).toInt) ∧ ((x2_3 + (1 : Int32)).toInt ≤ 24) := by have := bd_127_26 hI; have := ti_add2 (Eq.refl x2_3.toInt) (by decide : ((1 : Int32)).toInt = 1) (by omega) (by omega); exact ⟨by omega, by omega⟩
        exact ih _ w hI  o10031.1 o10031.2 (by have := bd_127_26 hI; have := ti_add2 (Eq.refl x2_3.toInt) (by decide : ((1 : Int32)).toInt = 1) (by omega) (by omega); omega) (fun w9 hI9 hF9 => hE w9 hI9 ((FR.refl _ w).tr hF9 rfl) ) (fun r w9 hI9 hF9 q0 q1 => hQ r w9 hI9 ((FR.refl _ w).tr hF9 rfl) (by have := bd_127_26 hI; have := ti_add2 (Eq.refl x2_3.toInt) (by decide : ((1 : Int32)).toInt = 1) (by omega) (by omega); omega) (by have := bd_127_26 hI; have := ti_add2 (Eq.refl x2_3.toInt) (by decide : ((1 : Int32)).toInt = 1) (by omega) (by omega); omega))
      · have o10032 : 0 ≤ x2_3.toInt ∧ x2_3.toInt < 24 := by have := bd_127_26 hI; omega
        refine ⟨o10032, ?_⟩
        refine ⟨fun h10033 => ?_, fun h10033 => ?_⟩
        · have o10034 : (0 ≤ (x2_3 + (1 : Int32)).toInt) ∧ ((x2_3 + (1 : Int32)).toInt ≤ 24) := by have := bd_127_26 hI; have := ti_add2 (Eq.refl x2_3.toInt) (by decide : ((1 : Int32)).toInt = 1) (by omega) (by omega); exact ⟨by omega, by omega⟩
          exact ih _ w hI  o10034.1 o10034.2 (by have := bd_127_26 hI; have := ti_add2 (Eq.refl x2_3.toInt) (by decide : ((1 : Int32)).toInt = 1) (by omega) (by omega); omega) (fun w9 hI9 hF9 => hE w9 hI9 ((FR.refl _ w).tr hF9 rfl) ) (fun r w9 hI9 hF9 q0 q1 => hQ r w9 hI9 ((FR.refl _ w).tr hF9 rfl) (by have := bd_127_26 hI; have := ti_add2 (Eq.refl x2_3.toInt) (by decide : ((1 : Int32)).toInt = 1) (by omega) (by omega); omega) (by have := bd_127_26 hI; have := ti_add2 (Eq.refl x2_3.toInt) (by decide : ((1 : Int32)).toInt = 1) (by omega) (by omega); omega))
        · have o10035 : (0 ≤ x2_3.toInt) ∧ (x2_3.toInt ≤ 23) := by have := bd_127_26 hI; exact ⟨by omega, by omega⟩
          exact hQ _ _ hI (FR.refl _ w)  o10035.1 o10035.2
set_option maxRecDepth 20000 in
set_option maxHeartbeats 2000000 in
theorem h_Mo_openWay {w : MW} {a0 : Int32} {b0 : Int32} {Q : Int32 → MW → Prop} (hI : BND w)  (hQ : ∀ (r : Int32) (w' : MW), BND w' → FR l_Mo_openWay w w' → (-1) ≤ r.toInt → r.toInt ≤ 23 → Q r w') : p_Mo_openWay w a0 b0 Q := by
  refine Eq.mpr (p_Mo_openWay.eq_1 _ _ _ _) ?_
  have o10036 : (0 ≤ (0 : Int32).toInt) ∧ ((0 : Int32).toInt ≤ 24) := by have := ti_lo a0; have := ti_hi a0; have := ti_lo b0; have := ti_hi b0; have := (by decide : ((0 : Int32)).toInt = 0); exact ⟨by omega, by omega⟩
  refine hq_Mo_openWay_2 FU _ w hI  o10036.1 o10036.2 (fu_lt (by have := ti_lo a0; have := ti_hi a0; have := ti_lo b0; have := ti_hi b0; have := (by decide : ((0 : Int32)).toInt = 0); omega)) (fun w10037 hI10038 hL10039  => ?_) (fun r w9 hI9 hF9 q0 q1 => hQ r w9 hI9 (((FR.refl _ w)).tr hF9 rfl) (by have := ti_lo a0; have := ti_hi a0; have := ti_lo b0; have := ti_hi b0; have := (by decide : ((0 : Int32)).toInt = 0); omega) (by have := ti_lo a0; have := ti_hi a0; have := ti_lo b0; have := ti_hi b0; have := (by decide : ((0 : Int32)).toInt = 0); omega))
  have hF10040 : FR l_Mo_openWay w w10037 := (FR.refl _ w).tr hL10039 rfl
  have o10041 : ((-1) ≤ ((-1) : Int32).toInt) ∧ (((-1) : Int32).toInt ≤ 23) := by have := (by decide : (((-1) : Int32)).toInt = (-1)); exact ⟨by omega, by omega⟩
  exact hQ _ _ hI10038 hF10040  o10041.1 o10041.2
def l_Mr_hasAct_16 : Pl := []
def l_Mr_hasAct : Pl := []
set_option maxRecDepth 20000 in
set_option maxHeartbeats 2000000 in
theorem hq_Mr_hasAct_16 {x16_2 : Int32} {x16_3 : Int32} {E : Int32 → MW → Prop} {Q : Int32 → MW → Prop} (n : Nat) : ∀ (x16_4 : Int32) (x16_5 : Int32) (w : MW), BND w → 0 ≤ x16_2.toInt → x16_2.toInt ≤ 31 → 0 ≤ x16_3.toInt → x16_3.toInt ≤ 79 → 0 ≤ x16_4.toInt → x16_4.toInt ≤ 1 → 0 ≤ x16_5.toInt → x16_5.toInt ≤ 8 → (8 - x16_5.toInt).toNat < n → (∀ (e16_4 : Int32) (w' : MW), BND w' → FR l_Mr_hasAct_16 w w' → 0 ≤ e16_4.toInt → e16_4.toInt ≤ 1 → E e16_4 w') → (∀ (r : Int32) (w' : MW), BND w' → FR l_Mr_hasAct_16 w w' → False → Q r w') → q_Mr_hasAct_16 x16_2 x16_3 E Q n x16_4 x16_5 w := by
  induction n with
  | zero => intros; omega
  | succ n ih =>
    intro x16_4 x16_5 w hI  hp0 hp1 hp2 hp3 hp4 hp5 hp6 hp7 hm hE hQ
    rw [q_Mr_hasAct_16.eq_2]
    have o10042 : 0 ≤ x16_3.toInt ∧ x16_3.toInt < 80 := by omega
    refine ⟨o10042, ?_⟩
    refine ⟨fun h10043 => ?_, fun h10043 => ?_⟩
    · have o10044 : (0 ≤ x16_4.toInt) ∧ (x16_4.toInt ≤ 1) := by exact ⟨by omega, by omega⟩
      exact hE _ _ hI (FR.refl _ w) o10044.1 o10044.2
    · refine ⟨fun h10045 => ?_, fun h10045 => ?_⟩
      · have o10046 : (0 ≤ x16_2.toInt) ∧ (x16_2.toInt ≤ 31) ∧ (0 ≤ x16_3.toInt) ∧ (x16_3.toInt ≤ 79) ∧ (0 ≤ (1 : Int32).toInt) ∧ ((1 : Int32).toInt ≤ 1) ∧ (0 ≤ (x16_5 + (1 : Int32)).toInt) ∧ ((x16_5 + (1 : Int32)).toInt ≤ 8) := by have := (by decide : ((1 : Int32)).toInt = 1); have := bd_155 hI x16_3.toInt.toNat; have := ti_add2 (Eq.refl x16_5.toInt) (by decide : ((1 : Int32)).toInt = 1) (by omega) (by omega); exact ⟨by omega, by omega, by omega, by omega, by omega, by omega, by omega, by omega⟩
        exact ih _ _ w hI  o10046.1 o10046.2.1 o10046.2.2.1 o10046.2.2.2.1 o10046.2.2.2.2.1 o10046.2.2.2.2.2.1 o10046.2.2.2.2.2.2.1 o10046.2.2.2.2.2.2.2 (by have := (by decide : ((1 : Int32)).toInt = 1); have := bd_155 hI x16_3.toInt.toNat; have := ti_add2 (Eq.refl x16_5.toInt) (by decide : ((1 : Int32)).toInt = 1) (by omega) (by omega); omega) (fun e0 w9 hI9 hF9 p0 p1 => hE e0 w9 hI9 ((FR.refl _ w).tr hF9 rfl) p0 p1 ) (fun r w9 hI9 hF9 q0 => q0.elim)
      · have o10047 : 0 ≤ (((8 : Int32) * x16_3) + x16_5).toInt ∧ (((8 : Int32) * x16_3) + x16_5).toInt < 640 := by have := bd_155 hI x16_3.toInt.toNat; have := ti_mul2 (by decide : ((8 : Int32)).toInt = 8) (Eq.refl x16_3.toInt) (by omega) (by omega); have := ti_add2 (Eq.refl ((8 : Int32) * x16_3).toInt) (Eq.refl x16_5.toInt) (by omega) (by omega); omega
        refine ⟨o10047, ?_⟩
        refine ⟨fun h10048 => ?_, fun h10048 => ?_⟩
        · have o10049 : (0 ≤ x16_2.toInt) ∧ (x16_2.toInt ≤ 31) ∧ (0 ≤ x16_3.toInt) ∧ (x16_3.toInt ≤ 79) ∧ (0 ≤ (0 : Int32).toInt) ∧ ((0 : Int32).toInt ≤ 1) ∧ (0 ≤ (x16_5 + (1 : Int32)).toInt) ∧ ((x16_5 + (1 : Int32)).toInt ≤ 8) := by have := (by decide : ((0 : Int32)).toInt = 0); have := bd_155 hI x16_3.toInt.toNat; have := ti_add2 (Eq.refl x16_5.toInt) (by decide : ((1 : Int32)).toInt = 1) (by omega) (by omega); exact ⟨by omega, by omega, by omega, by omega, by omega, by omega, by omega, by omega⟩
          exact ih _ _ w hI  o10049.1 o10049.2.1 o10049.2.2.1 o10049.2.2.2.1 o10049.2.2.2.2.1 o10049.2.2.2.2.2.1 o10049.2.2.2.2.2.2.1 o10049.2.2.2.2.2.2.2 (by have := (by decide : ((0 : Int32)).toInt = 0); have := bd_155 hI x16_3.toInt.toNat; have := ti_add2 (Eq.refl x16_5.toInt) (by decide : ((1 : Int32)).toInt = 1) (by omega) (by omega); omega) (fun e0 w9 hI9 hF9 p0 p1 => hE e0 w9 hI9 ((FR.refl _ w).tr hF9 rfl) p0 p1 ) (fun r w9 hI9 hF9 q0 => q0.elim)
        · have o10050 : (0 ≤ x16_2.toInt) ∧ (x16_2.toInt ≤ 31) ∧ (0 ≤ x16_3.toInt) ∧ (x16_3.toInt ≤ 79) ∧ (0 ≤ (1 : Int32).toInt) ∧ ((1 : Int32).toInt ≤ 1) ∧ (0 ≤ (x16_5 + (1 : Int32)).toInt) ∧ ((x16_5 + (1 : Int32)).toInt ≤ 8) := by have := (by decide : ((1 : Int32)).toInt = 1); have := bd_155 hI x16_3.toInt.toNat; have := ti_add2 (Eq.refl x16_5.toInt) (by decide : ((1 : Int32)).toInt = 1) (by omega) (by omega); exact ⟨by omega, by omega, by omega, by omega, by omega, by omega, by omega, by omega⟩
          exact ih _ _ w hI  o10050.1 o10050.2.1 o10050.2.2.1 o10050.2.2.2.1 o10050.2.2.2.2.1 o10050.2.2.2.2.2.1 o10050.2.2.2.2.2.2.1 o10050.2.2.2.2.2.2.2 (by have := (by decide : ((1 : Int32)).toInt = 1); have := bd_155 hI x16_3.toInt.toNat; have := ti_add2 (Eq.refl x16_5.toInt) (by decide : ((1 : Int32)).toInt = 1) (by omega) (by omega); omega) (fun e0 w9 hI9 hF9 p0 p1 => hE e0 w9 hI9 ((FR.refl _ w).tr hF9 rfl) p0 p1 ) (fun r w9 hI9 hF9 q0 => q0.elim)
set_option maxRecDepth 20000 in
set_option maxHeartbeats 2000000 in
theorem h_Mr_hasAct {w : MW} {a0 : Int32} {b0 : Int32} {Q : Int32 → MW → Prop} (hI : BND w) (hp0 : 0 ≤ a0.toInt) (hp1 : a0.toInt ≤ 39) (hp2 : 0 ≤ b0.toInt) (hp3 : b0.toInt ≤ 31) (hQ : ∀ (r : Int32) (w' : MW), BND w' → FR l_Mr_hasAct w w' → 0 ≤ r.toInt → r.toInt ≤ 1 → Q r w') : p_Mr_hasAct w a0 b0 Q := by
  refine Eq.mpr (p_Mr_hasAct.eq_1 _ _ _ _) ?_
  have o10051 : (0 ≤ b0.toInt) ∧ (b0.toInt ≤ 31) ∧ (0 ≤ (((40 : Int32) * (w.1 147 12)) + a0).toInt) ∧ ((((40 : Int32) * (w.1 147 12)) + a0).toInt ≤ 79) ∧ (0 ≤ (0 : Int32).toInt) ∧ ((0 : Int32).toInt ≤ 1) ∧ (0 ≤ (0 : Int32).toInt) ∧ ((0 : Int32).toInt ≤ 8) := by have := bd_147_12 hI; have := (by decide : ((0 : Int32)).toInt = 0); have := ti_mul2 (by decide : ((40 : Int32)).toInt = 40) (Eq.refl (w.1 147 12).toInt) (by omega) (by omega); have := ti_add2 (Eq.refl ((40 : Int32) * (w.1 147 12)).toInt) (Eq.refl a0.toInt) (by omega) (by omega); exact ⟨by omega, by omega, by omega, by omega, by omega, by omega, by omega, by omega⟩
  refine hq_Mr_hasAct_16 FU _ _ w hI  o10051.1 o10051.2.1 o10051.2.2.1 o10051.2.2.2.1 o10051.2.2.2.2.1 o10051.2.2.2.2.2.1 o10051.2.2.2.2.2.2.1 o10051.2.2.2.2.2.2.2 (fu_lt (by have := bd_147_12 hI; have := (by decide : ((0 : Int32)).toInt = 0); have := ti_mul2 (by decide : ((40 : Int32)).toInt = 40) (Eq.refl (w.1 147 12).toInt) (by omega) (by omega); have := ti_add2 (Eq.refl ((40 : Int32) * (w.1 147 12)).toInt) (Eq.refl a0.toInt) (by omega) (by omega); omega)) (fun e10055 w10052 hI10053 hL10054 p10056 p10057 => ?_) (fun r w9 hI9 hF9 q0 => q0.elim)
  have hF10058 : FR l_Mr_hasAct w w10052 := (FR.refl _ w).tr hL10054 rfl
  have o10059 : e10055.toInt = 0 ∨ e10055.toInt = 1 := by omega
  refine ⟨o10059, ?_⟩
  have o10060 : (0 ≤ e10055.toInt) ∧ (e10055.toInt ≤ 1) := by exact ⟨by omega, by omega⟩
  exact hQ _ _ hI10053 hF10058  o10060.1 o10060.2
def l_Mo_sense : Pl := [(201, none), (202, none)]
set_option maxRecDepth 20000 in
set_option maxHeartbeats 2000000 in
theorem h_Mo_sense {w : MW} {a0 : Int32} {b0 : Int32} {c0 : Int32} {Q : Int32 → MW → Prop} (hI : BND w)  (hQ : ∀ (r : Int32) (w' : MW), BND w' → FR l_Mo_sense w w' → 0 ≤ r.toInt → r.toInt ≤ 1 → Q r w') : p_Mo_sense w a0 b0 c0 Q := by
  refine Eq.mpr (p_Mo_sense.eq_1 _ _ _ _ _) ?_
  refine Eq.mpr (p_Mo_isRole.eq_1 _ _ _ _) ?_
  refine ⟨fun h10061 => ?_, fun h10061 => ?_⟩
  · refine ⟨fun _ => ?_, fun h => absurd (by decide) h⟩
    have o10062 : (0 ≤ (0 : Int32).toInt) ∧ ((0 : Int32).toInt ≤ 1) := by have := (by decide : ((0 : Int32)).toInt = 0); exact ⟨by omega, by omega⟩
    exact hQ _ _ hI (FR.refl _ w)  o10062.1 o10062.2
  · refine ⟨fun h10063 => ?_, fun h10063 => ?_⟩
    · refine ⟨fun _ => ?_, fun h => absurd (by decide) h⟩
      have o10064 : (0 ≤ (0 : Int32).toInt) ∧ ((0 : Int32).toInt ≤ 1) := by have := (by decide : ((0 : Int32)).toInt = 0); exact ⟨by omega, by omega⟩
      exact hQ _ _ hI (FR.refl _ w)  o10064.1 o10064.2
    · have o10065 : 0 ≤ (((40 : Int32) * (w.1 129 12)) + a0).toInt ∧ (((40 : Int32) * (w.1 129 12)) + a0).toInt < 80 := by have := bd_129_12 hI; have := (by decide : ((0 : Int32)).toInt = 0); have := bd_129_32 hI; have := ti_mul2 (by decide : ((40 : Int32)).toInt = 40) (Eq.refl (w.1 129 12).toInt) (by omega) (by omega); have := ti_add2 (Eq.refl ((40 : Int32) * (w.1 129 12)).toInt) (Eq.refl a0.toInt) (by omega) (by omega); omega
      refine ⟨o10065, ?_⟩
      refine ⟨fun h10066 => ?_, fun h10066 => ?_⟩
      · replace h10066 : ¬ (w.1 141 ((((40 : Int32) * (w.1 129 12)) + a0).toInt.toNat)).toInt = 30 := h10066
        refine ⟨fun _ => ?_, fun h => absurd (by decide) h⟩
        have o10067 : (0 ≤ (0 : Int32).toInt) ∧ ((0 : Int32).toInt ≤ 1) := by have := (by decide : ((0 : Int32)).toInt = 0); exact ⟨by omega, by omega⟩
        exact hQ _ _ hI (FR.refl _ w)  o10067.1 o10067.2
      · replace h10066 : ¬ (¬ (w.1 141 ((((40 : Int32) * (w.1 129 12)) + a0).toInt.toNat)).toInt = 30) := h10066
        refine ⟨fun h => absurd h (by decide), fun _ => ?_⟩
        refine ⟨fun h10068 => ?_, fun h10068 => ?_⟩
        · have o10069 : (0 ≤ (0 : Int32).toInt) ∧ ((0 : Int32).toInt ≤ 1) := by have := (by decide : ((0 : Int32)).toInt = 0); exact ⟨by omega, by omega⟩
          exact hQ _ _ hI (FR.refl _ w)  o10069.1 o10069.2
        · refine ⟨fun h10070 => ?_, fun h10070 => ?_⟩
          · have o10071 : 0 ≤ a0.toInt ∧ a0.toInt < 40 := by have := (by decide : ((0 : Int32)).toInt = 0); have := bd_129_32 hI; omega
            refine ⟨o10071, ?_⟩
            have o10072 : 0 ≤ a0.toInt ∧ a0.toInt < 40 := by have := (by decide : ((0 : Int32)).toInt = 0); have := bd_129_32 hI; omega
            refine ⟨o10072, ?_⟩
            have o10074 : (-1) ≤ b0.toInt ∧ b0.toInt ≤ 5 := by have := (by decide : ((0 : Int32)).toInt = 0); have := (by decide : ((5 : Int32)).toInt = 5); omega
            have hI10073 : BND (sI w 201 a0.toInt.toNat b0) := wbd_201 hI a0.toInt.toNat o10074.1 o10074.2
            have hI10075 : BND (sI (sI w 201 a0.toInt.toNat b0) 202 a0.toInt.toNat c0) := wbd_202 hI10073 a0.toInt.toNat
            have o10076 : (0 ≤ (1 : Int32).toInt) ∧ ((1 : Int32).toInt ≤ 1) := by have := (by decide : ((1 : Int32)).toInt = 1); exact ⟨by omega, by omega⟩
            exact hQ _ _ hI10075 (FR.I (FR.I (FR.refl _ w) (k := 201) (j := a0.toInt.toNat) (v := b0) rfl) (k := 202) (j := a0.toInt.toNat) (v := c0) rfl)  o10076.1 o10076.2
          · have o10077 : (0 ≤ (0 : Int32).toInt) ∧ ((0 : Int32).toInt ≤ 1) := by have := (by decide : ((0 : Int32)).toInt = 0); exact ⟨by omega, by omega⟩
            exact hQ _ _ hI (FR.refl _ w)  o10077.1 o10077.2
def l_Mo_watch : Pl := [(203, none), (204, none), (205, none)]
set_option maxRecDepth 20000 in
set_option maxHeartbeats 2000000 in
theorem h_Mo_watch {w : MW} {a0 : Int32} {b0 : Int32} {c0 : Int32} {e0 : Int64} {Q : Int32 → MW → Prop} (hI : BND w)  (hQ : ∀ (r : Int32) (w' : MW), BND w' → FR l_Mo_watch w w' → 0 ≤ r.toInt → r.toInt ≤ 1 → Q r w') : p_Mo_watch w a0 b0 c0 e0 Q := by
  refine Eq.mpr (p_Mo_watch.eq_1 _ _ _ _ _ _) ?_
  refine ⟨fun h10078 => ?_, fun h10078 => ?_⟩
  · have o10079 : (0 ≤ (0 : Int32).toInt) ∧ ((0 : Int32).toInt ≤ 1) := by have := (by decide : ((0 : Int32)).toInt = 0); exact ⟨by omega, by omega⟩
    exact hQ _ _ hI (FR.refl _ w)  o10079.1 o10079.2
  · refine ⟨fun h10080 => ?_, fun h10080 => ?_⟩
    · have o10081 : (0 ≤ (0 : Int32).toInt) ∧ ((0 : Int32).toInt ≤ 1) := by have := (by decide : ((0 : Int32)).toInt = 0); exact ⟨by omega, by omega⟩
      exact hQ _ _ hI (FR.refl _ w)  o10081.1 o10081.2
    · refine ⟨fun h10082 => ?_, fun h10082 => ?_⟩
      · have o10083 : (0 ≤ (0 : Int32).toInt) ∧ ((0 : Int32).toInt ≤ 1) := by have := (by decide : ((0 : Int32)).toInt = 0); exact ⟨by omega, by omega⟩
        exact hQ _ _ hI (FR.refl _ w)  o10083.1 o10083.2
      · refine ⟨fun h10084 => ?_, fun h10084 => ?_⟩
        · have o10085 : 0 ≤ a0.toInt ∧ a0.toInt < 16 := by have := (by decide : ((0 : Int32)).toInt = 0); have := (by decide : ((15 : Int32)).toInt = 15); omega
          refine ⟨o10085, ?_⟩
          have o10086 : 0 ≤ a0.toInt ∧ a0.toInt < 16 := by have := (by decide : ((0 : Int32)).toInt = 0); have := (by decide : ((15 : Int32)).toInt = 15); omega
          refine ⟨o10086, ?_⟩
          have o10087 : 0 ≤ a0.toInt ∧ a0.toInt < 16 := by have := (by decide : ((0 : Int32)).toInt = 0); have := (by decide : ((15 : Int32)).toInt = 15); omega
          refine ⟨o10087, ?_⟩
          have o10089 : (-1) ≤ b0.toInt ∧ b0.toInt ≤ 5 := by have := (by decide : ((0 : Int32)).toInt = 0); have := (by decide : ((5 : Int32)).toInt = 5); omega
          have hI10088 : BND (sI w 203 a0.toInt.toNat b0) := wbd_203 hI a0.toInt.toNat o10089.1 o10089.2
          have hI10090 : BND (sI (sI w 203 a0.toInt.toNat b0) 204 a0.toInt.toNat c0) := wbd_204 hI10088 a0.toInt.toNat
          have o10091 : (0 ≤ (1 : Int32).toInt) ∧ ((1 : Int32).toInt ≤ 1) := by have := (by decide : ((1 : Int32)).toInt = 1); exact ⟨by omega, by omega⟩
          exact hQ _ _ (bnd_J hI10090 (k := 205) (j := a0.toInt.toNat) (v := e0)) (FR.J (FR.I (FR.I (FR.refl _ w) (k := 203) (j := a0.toInt.toNat) (v := b0) rfl) (k := 204) (j := a0.toInt.toNat) (v := c0) rfl) (k := 205) (j := a0.toInt.toNat) (v := e0) rfl)  o10091.1 o10091.2
        · have o10092 : (0 ≤ (0 : Int32).toInt) ∧ ((0 : Int32).toInt ≤ 1) := by have := (by decide : ((0 : Int32)).toInt = 0); exact ⟨by omega, by omega⟩
          exact hQ _ _ hI (FR.refl _ w)  o10092.1 o10092.2
def l_Mo_signal : Pl := [(206, none)]
set_option maxRecDepth 20000 in
set_option maxHeartbeats 2000000 in
theorem h_Mo_signal {w : MW} {a0 : Int32} {b0 : Int64} {Q : Int32 → MW → Prop} (hI : BND w)  (hQ : ∀ (r : Int32) (w' : MW), BND w' → FR l_Mo_signal w w' → 0 ≤ r.toInt → r.toInt ≤ 1 → Q r w') : p_Mo_signal w a0 b0 Q := by
  refine Eq.mpr (p_Mo_signal.eq_1 _ _ _ _) ?_
  refine Eq.mpr (p_Mo_isRole.eq_1 _ _ _ _) ?_
  refine ⟨fun h10093 => ?_, fun h10093 => ?_⟩
  · refine ⟨fun h => absurd h (by decide), fun _ => ?_⟩
    have o10094 : (0 ≤ (0 : Int32).toInt) ∧ ((0 : Int32).toInt ≤ 1) := by have := (by decide : ((0 : Int32)).toInt = 0); exact ⟨by omega, by omega⟩
    exact hQ _ _ hI (FR.refl _ w)  o10094.1 o10094.2
  · refine ⟨fun h10095 => ?_, fun h10095 => ?_⟩
    · refine ⟨fun h => absurd h (by decide), fun _ => ?_⟩
      have o10096 : (0 ≤ (0 : Int32).toInt) ∧ ((0 : Int32).toInt ≤ 1) := by have := (by decide : ((0 : Int32)).toInt = 0); exact ⟨by omega, by omega⟩
      exact hQ _ _ hI (FR.refl _ w)  o10096.1 o10096.2
    · have o10097 : 0 ≤ (((40 : Int32) * (w.1 129 12)) + a0).toInt ∧ (((40 : Int32) * (w.1 129 12)) + a0).toInt < 80 := by have := bd_129_12 hI; have := (by decide : ((0 : Int32)).toInt = 0); have := bd_129_32 hI; have := ti_mul2 (by decide : ((40 : Int32)).toInt = 40) (Eq.refl (w.1 129 12).toInt) (by omega) (by omega); have := ti_add2 (Eq.refl ((40 : Int32) * (w.1 129 12)).toInt) (Eq.refl a0.toInt) (by omega) (by omega); omega
      refine ⟨o10097, ?_⟩
      refine ⟨fun h10098 => ?_, fun h10098 => ?_⟩
      · replace h10098 : ¬ (w.1 141 ((((40 : Int32) * (w.1 129 12)) + a0).toInt.toNat)).toInt = 30 := h10098
        refine ⟨fun h => absurd h (by decide), fun _ => ?_⟩
        have o10099 : (0 ≤ (0 : Int32).toInt) ∧ ((0 : Int32).toInt ≤ 1) := by have := (by decide : ((0 : Int32)).toInt = 0); exact ⟨by omega, by omega⟩
        exact hQ _ _ hI (FR.refl _ w)  o10099.1 o10099.2
      · replace h10098 : ¬ (¬ (w.1 141 ((((40 : Int32) * (w.1 129 12)) + a0).toInt.toNat)).toInt = 30) := h10098
        refine ⟨fun _ => ?_, fun h => absurd (by decide) h⟩
        have o10100 : 0 ≤ a0.toInt ∧ a0.toInt < 40 := by have := (by decide : ((0 : Int32)).toInt = 0); have := bd_129_32 hI; omega
        refine ⟨o10100, ?_⟩
        have o10101 : (0 ≤ (1 : Int32).toInt) ∧ ((1 : Int32).toInt ≤ 1) := by have := (by decide : ((1 : Int32)).toInt = 1); exact ⟨by omega, by omega⟩
        exact hQ _ _ (bnd_J hI (k := 206) (j := a0.toInt.toNat) (v := b0)) (FR.J (FR.refl _ w) (k := 206) (j := a0.toInt.toNat) (v := b0) rfl)  o10101.1 o10101.2
def l_Mo_value : Pl := []
set_option maxRecDepth 20000 in
set_option maxHeartbeats 2000000 in
theorem h_Mo_value {w : MW} {a0 : Int32} {Q : Int64 → MW → Prop} (hI : BND w)  (hQ : ∀ (r : Int64) (w' : MW), BND w' → FR l_Mo_value w w' → Q r w') : p_Mo_value w a0 Q := by
  refine Eq.mpr (p_Mo_value.eq_1 _ _ _) ?_
  refine Eq.mpr (p_Mo_isRole.eq_1 _ _ _ _) ?_
  refine ⟨fun h10102 => ?_, fun h10102 => ?_⟩
  · refine ⟨fun h => absurd h (by decide), fun _ => ?_⟩
    refine Eq.mpr (p_Mo_isRole.eq_1 _ _ _ _) ?_
    refine ⟨fun _ => ?_, fun h => absurd h10102 h⟩
    refine ⟨fun _ => ?_, fun h => absurd (by decide) h⟩
    exact hQ _ _ hI (FR.refl _ w) 
  · refine ⟨fun h10103 => ?_, fun h10103 => ?_⟩
    · refine ⟨fun h => absurd h (by decide), fun _ => ?_⟩
      refine Eq.mpr (p_Mo_isRole.eq_1 _ _ _ _) ?_
      refine ⟨fun h => absurd h h10102, fun _ => ?_⟩
      refine ⟨fun _ => ?_, fun h => absurd h10103 h⟩
      refine ⟨fun _ => ?_, fun h => absurd (by decide) h⟩
      exact hQ _ _ hI (FR.refl _ w) 
    · have o10104 : 0 ≤ (((40 : Int32) * (w.1 129 12)) + a0).toInt ∧ (((40 : Int32) * (w.1 129 12)) + a0).toInt < 80 := by have := bd_129_12 hI; have := (by decide : ((0 : Int32)).toInt = 0); have := bd_129_32 hI; have := ti_mul2 (by decide : ((40 : Int32)).toInt = 40) (Eq.refl (w.1 129 12).toInt) (by omega) (by omega); have := ti_add2 (Eq.refl ((40 : Int32) * (w.1 129 12)).toInt) (Eq.refl a0.toInt) (by omega) (by omega); omega
      refine ⟨o10104, ?_⟩
      refine ⟨fun h10105 => ?_, fun h10105 => ?_⟩
      · replace h10105 : ¬ (w.1 141 ((((40 : Int32) * (w.1 129 12)) + a0).toInt.toNat)).toInt = 30 := h10105
        refine ⟨fun h => absurd h (by decide), fun _ => ?_⟩
        refine Eq.mpr (p_Mo_isRole.eq_1 _ _ _ _) ?_
        refine ⟨fun h => absurd h h10102, fun _ => ?_⟩
        refine ⟨fun h => absurd h h10103, fun _ => ?_⟩
        have o10106 : 0 ≤ (((40 : Int32) * (w.1 129 12)) + a0).toInt ∧ (((40 : Int32) * (w.1 129 12)) + a0).toInt < 80 := by have := bd_129_12 hI; have := (by decide : ((0 : Int32)).toInt = 0); have := bd_129_32 hI; have := ti_mul2 (by decide : ((40 : Int32)).toInt = 40) (Eq.refl (w.1 129 12).toInt) (by omega) (by omega); have := ti_add2 (Eq.refl ((40 : Int32) * (w.1 129 12)).toInt) (Eq.refl a0.toInt) (by omega) (by omega); omega
        refine ⟨o10106, ?_⟩
        refine ⟨fun h10107 => ?_, fun h10107 => ?_⟩
        · replace h10107 : ¬ (w.1 141 ((((40 : Int32) * (w.1 129 12)) + a0).toInt.toNat)).toInt = 31 := h10107
          refine ⟨fun _ => ?_, fun h => absurd (by decide) h⟩
          exact hQ _ _ hI (FR.refl _ w) 
        · replace h10107 : ¬ (¬ (w.1 141 ((((40 : Int32) * (w.1 129 12)) + a0).toInt.toNat)).toInt = 31) := h10107
          refine ⟨fun h => absurd h (by decide), fun _ => ?_⟩
          have o10108 : 0 ≤ a0.toInt ∧ a0.toInt < 40 := by have := (by decide : ((0 : Int32)).toInt = 0); have := bd_129_32 hI; omega
          refine ⟨o10108, ?_⟩
          exact hQ _ _ hI (FR.refl _ w) 
      · replace h10105 : ¬ (¬ (w.1 141 ((((40 : Int32) * (w.1 129 12)) + a0).toInt.toNat)).toInt = 30) := h10105
        refine ⟨fun _ => ?_, fun h => absurd (by decide) h⟩
        have o10109 : 0 ≤ a0.toInt ∧ a0.toInt < 40 := by have := (by decide : ((0 : Int32)).toInt = 0); have := bd_129_32 hI; omega
        refine ⟨o10109, ?_⟩
        exact hQ _ _ hI (FR.refl _ w) 
def l_Mr_pass : Pl := [(162, none)]
set_option maxRecDepth 20000 in
set_option maxHeartbeats 2000000 in
theorem h_Mr_pass {w : MW} {a0 : Int32} {b0 : Int32} {c0 : Int32} {e0 : Int32} {Q : Int32 → MW → Prop} (hI : BND w)  (hQ : ∀ (r : Int32) (w' : MW), BND w' → FR l_Mr_pass w w' → (-4) ≤ r.toInt → r.toInt ≤ 0 → Q r w') : p_Mr_pass w a0 b0 c0 e0 Q := by
  refine Eq.mpr (p_Mr_pass.eq_1 _ _ _ _ _ _) ?_
  refine Eq.mpr (p_Mr_isRow.eq_1 _ _ _) ?_
  refine ⟨fun h10110 => ?_, fun h10110 => ?_⟩
  · refine ⟨fun h => absurd h (by decide), fun _ => ?_⟩
    have o10111 : ((-4) ≤ ((-1) : Int32).toInt) ∧ (((-1) : Int32).toInt ≤ 0) := by have := (by decide : (((-1) : Int32)).toInt = (-1)); exact ⟨by omega, by omega⟩
    exact hQ _ _ hI (FR.refl _ w)  o10111.1 o10111.2
  · refine ⟨fun h10112 => ?_, fun h10112 => ?_⟩
    · refine ⟨fun h => absurd h (by decide), fun _ => ?_⟩
      have o10113 : ((-4) ≤ ((-1) : Int32).toInt) ∧ (((-1) : Int32).toInt ≤ 0) := by have := (by decide : (((-1) : Int32)).toInt = (-1)); exact ⟨by omega, by omega⟩
      exact hQ _ _ hI (FR.refl _ w)  o10113.1 o10113.2
    · refine ⟨fun _ => ?_, fun h => absurd (by decide) h⟩
      refine ⟨fun h10114 => ?_, fun h10114 => ?_⟩
      · have o10115 : ((-4) ≤ ((-2) : Int32).toInt) ∧ (((-2) : Int32).toInt ≤ 0) := by have := (by decide : (((-2) : Int32)).toInt = (-2)); exact ⟨by omega, by omega⟩
        exact hQ _ _ hI (FR.refl _ w)  o10115.1 o10115.2
      · refine ⟨fun h10116 => ?_, fun h10116 => ?_⟩
        · have o10117 : ((-4) ≤ ((-2) : Int32).toInt) ∧ (((-2) : Int32).toInt ≤ 0) := by have := (by decide : (((-2) : Int32)).toInt = (-2)); exact ⟨by omega, by omega⟩
          exact hQ _ _ hI (FR.refl _ w)  o10117.1 o10117.2
        · refine ⟨fun h10118 => ?_, fun h10118 => ?_⟩
          · have o10119 : ((-4) ≤ ((-2) : Int32).toInt) ∧ (((-2) : Int32).toInt ≤ 0) := by have := (by decide : (((-2) : Int32)).toInt = (-2)); exact ⟨by omega, by omega⟩
            exact hQ _ _ hI (FR.refl _ w)  o10119.1 o10119.2
          · refine ⟨fun h10120 => ?_, fun h10120 => ?_⟩
            · have o10121 : ((-4) ≤ ((-2) : Int32).toInt) ∧ (((-2) : Int32).toInt ≤ 0) := by have := (by decide : (((-2) : Int32)).toInt = (-2)); exact ⟨by omega, by omega⟩
              exact hQ _ _ hI (FR.refl _ w)  o10121.1 o10121.2
            · refine ⟨fun h10122 => ?_, fun h10122 => ?_⟩
              · refine ⟨fun h10123 => ?_, fun h10123 => ?_⟩
                · have o10124 : ((-4) ≤ ((-3) : Int32).toInt) ∧ (((-3) : Int32).toInt ≤ 0) := by have := (by decide : (((-3) : Int32)).toInt = (-3)); exact ⟨by omega, by omega⟩
                  exact hQ _ _ hI (FR.refl _ w)  o10124.1 o10124.2
                · refine ⟨fun h10125 => ?_, fun h10125 => ?_⟩
                  · have o10126 : 0 ≤ (a0 - (1 : Int32)).toInt ∧ (a0 - (1 : Int32)).toInt < 40 := by have := (by decide : ((1 : Int32)).toInt = 1); have := bd_147_20 hI; have := ti_sub2 (Eq.refl a0.toInt) (by decide : ((1 : Int32)).toInt = 1) (by omega) (by omega); omega
                    refine ⟨o10126, ?_⟩
                    refine ⟨fun h10127 => ?_, fun h10127 => ?_⟩
                    · have o10128 : 0 ≤ (a0 - (1 : Int32)).toInt ∧ (a0 - (1 : Int32)).toInt < 40 := by have := (by decide : ((1 : Int32)).toInt = 1); have := bd_147_20 hI; have := ti_sub2 (Eq.refl a0.toInt) (by decide : ((1 : Int32)).toInt = 1) (by omega) (by omega); omega
                      refine ⟨o10128, ?_⟩
                      have o10130 : 0 ≤ e0.toInt ∧ e0.toInt ≤ 3600 := by have := (by decide : ((1 : Int32)).toInt = 1); have := (by decide : ((3600 : Int32)).toInt = 3600); omega
                      have hI10129 : BND (sI w 162 ((a0 - (1 : Int32)).toInt.toNat) e0) := wbd_162 hI ((a0 - (1 : Int32)).toInt.toNat) o10130.1 o10130.2
                      have o10131 : ((-4) ≤ (0 : Int32).toInt) ∧ ((0 : Int32).toInt ≤ 0) := by have := (by decide : ((0 : Int32)).toInt = 0); exact ⟨by omega, by omega⟩
                      exact hQ _ _ hI10129 (FR.I (FR.refl _ w) (k := 162) (j := (a0 - (1 : Int32)).toInt.toNat) (v := e0) rfl)  o10131.1 o10131.2
                    · have o10132 : ((-4) ≤ ((-4) : Int32).toInt) ∧ (((-4) : Int32).toInt ≤ 0) := by have := (by decide : (((-4) : Int32)).toInt = (-4)); exact ⟨by omega, by omega⟩
                      exact hQ _ _ hI (FR.refl _ w)  o10132.1 o10132.2
                  · have o10133 : ((-4) ≤ ((-3) : Int32).toInt) ∧ (((-3) : Int32).toInt ≤ 0) := by have := (by decide : (((-3) : Int32)).toInt = (-3)); exact ⟨by omega, by omega⟩
                    exact hQ _ _ hI (FR.refl _ w)  o10133.1 o10133.2
              · have o10134 : ((-4) ≤ ((-2) : Int32).toInt) ∧ (((-2) : Int32).toInt ≤ 0) := by have := (by decide : (((-2) : Int32)).toInt = (-2)); exact ⟨by omega, by omega⟩
                exact hQ _ _ hI (FR.refl _ w)  o10134.1 o10134.2
def l_Mo_sensed : Pl := []
set_option maxRecDepth 20000 in
set_option maxHeartbeats 2000000 in
theorem h_Mo_sensed {w : MW} {a0 : Int32} {b0 : Int32} {Q : Int64 → MW → Prop} (hI : BND w) (hp0 : 0 ≤ a0.toInt) (hp1 : a0.toInt ≤ 4) (hQ : ∀ (r : Int64) (w' : MW), BND w' → FR l_Mo_sensed w w' → Q r w') : p_Mo_sensed w a0 b0 Q := by
  refine Eq.mpr (p_Mo_sensed.eq_1 _ _ _ _) ?_
  refine ⟨fun h10135 => ?_, fun h10135 => ?_⟩
  · refine Eq.mpr (p_Mo_isTank.eq_1 _ _ _) ?_
    refine Eq.mpr (p_Mo_isThing.eq_1 _ _ _) ?_
    refine ⟨fun h10136 => ?_, fun h10136 => ?_⟩
    · refine ⟨fun _ => ?_, fun h => absurd (by decide) h⟩
      refine ⟨fun _ => ?_, fun h => absurd (by decide) h⟩
      exact hQ _ _ hI (FR.refl _ w) 
    · refine ⟨fun h10137 => ?_, fun h10137 => ?_⟩
      · refine ⟨fun _ => ?_, fun h => absurd (by decide) h⟩
        refine ⟨fun _ => ?_, fun h => absurd (by decide) h⟩
        exact hQ _ _ hI (FR.refl _ w) 
      · refine ⟨fun h => absurd h (by decide), fun _ => ?_⟩
        have o10138 : 0 ≤ b0.toInt ∧ b0.toInt < 20 := by have := (by decide : ((0 : Int32)).toInt = 0); have := bd_127_4 hI; omega
        refine ⟨o10138, ?_⟩
        refine ⟨fun h10139 => ?_, fun h10139 => ?_⟩
        · refine ⟨fun _ => ?_, fun h => absurd (by decide) h⟩
          exact hQ _ _ hI (FR.refl _ w) 
        · refine ⟨fun h => absurd h (by decide), fun _ => ?_⟩
          have o10140 : 0 ≤ b0.toInt ∧ b0.toInt < 20 := by have := (by decide : ((0 : Int32)).toInt = 0); have := bd_127_4 hI; omega
          refine ⟨o10140, ?_⟩
          exact hQ _ _ hI (FR.refl _ w) 
  · refine ⟨fun h10141 => ?_, fun h10141 => ?_⟩
    · refine h_Mo_holdsLiquid hI   (fun r10145 w10142 hI10143 hL10144 p10146 p10147 p10148 => ?_)
      have hF10149 : FR l_Mo_sensed w w10142 := (FR.refl _ w).tr hL10144 rfl
      refine ⟨fun h10150 => ?_, fun h10150 => ?_⟩
      · exact hQ _ _ hI10143 hF10149
      · have o10151 : (0 ≤ b0.toInt) ∧ (b0.toInt ≤ 43) ∧ (b0.toInt < (w10142.1 127 4).toInt + (w10142.1 127 11).toInt) := by have := ti_lo b0; have := ti_hi b0; have := bd_127_4 hI10143; have := bd_127_4 hI; have := (congrArg Int32.toInt (hL10144 127 4 rfl).1); have := bd_127_11 hI10143; have := bd_127_11 hI; have := (congrArg Int32.toInt (hL10144 127 11 rfl).1); have := (by decide : ((0 : Int32)).toInt = 0); exact ⟨by omega, by omega, by omega⟩
        refine h_Mo_liquidIn hI10143  o10151.1 o10151.2.1 o10151.2.2 (fun r10155 w10152 hI10153 hL10154 p10156 p10157 => ?_)
        have hF10158 : FR l_Mo_sensed w w10152 := hF10149.tr hL10154 rfl
        exact hQ _ _ hI10153 hF10158 
    · refine ⟨fun h10159 => ?_, fun h10159 => ?_⟩
      · refine Eq.mpr (p_Mo_isValve.eq_1 _ _ _) ?_
        refine Eq.mpr (p_Mo_isThing.eq_1 _ _ _) ?_
        refine ⟨fun h10160 => ?_, fun h10160 => ?_⟩
        · refine ⟨fun _ => ?_, fun h => absurd (by decide) h⟩
          refine ⟨fun _ => ?_, fun h => absurd (by decide) h⟩
          exact hQ _ _ hI (FR.refl _ w) 
        · refine ⟨fun h10161 => ?_, fun h10161 => ?_⟩
          · refine ⟨fun _ => ?_, fun h => absurd (by decide) h⟩
            refine ⟨fun _ => ?_, fun h => absurd (by decide) h⟩
            exact hQ _ _ hI (FR.refl _ w) 
          · refine ⟨fun h => absurd h (by decide), fun _ => ?_⟩
            have o10162 : 0 ≤ b0.toInt ∧ b0.toInt < 20 := by have := (by decide : ((0 : Int32)).toInt = 0); have := bd_127_4 hI; omega
            refine ⟨o10162, ?_⟩
            refine ⟨fun h10163 => ?_, fun h10163 => ?_⟩
            · refine ⟨fun _ => ?_, fun h => absurd (by decide) h⟩
              exact hQ _ _ hI (FR.refl _ w) 
            · refine ⟨fun h => absurd h (by decide), fun _ => ?_⟩
              have o10164 : 0 ≤ b0.toInt ∧ b0.toInt < 20 := by have := (by decide : ((0 : Int32)).toInt = 0); have := bd_127_4 hI; omega
              refine ⟨o10164, ?_⟩
              exact hQ _ _ hI (FR.refl _ w) 
      · refine ⟨fun h10165 => ?_, fun h10165 => ?_⟩
        · exact hQ _ _ hI (FR.refl _ w)
        · exact hQ _ _ hI (FR.refl _ w)
def l_Mo_senseAll_2 : Pl := [(206, none)]
def l_Mo_senseAll_146 : Pl := [(147, some 24)]
def l_Mo_senseAll_109 : Pl := [(147, some 24)]
def l_Mo_senseAll_63 : Pl := [(147, some 24)]
def l_Mo_senseAll : Pl := [(147, some 24), (206, none)]
set_option maxRecDepth 20000 in
set_option maxHeartbeats 2000000 in
theorem hq_Mo_senseAll_2 {E : MW → Prop} {Q : MW → Prop} (n : Nat) : ∀ (x2_1 : Int32) (w : MW), BND w → 0 ≤ x2_1.toInt → x2_1.toInt ≤ 40 → (40 - x2_1.toInt).toNat < n → (∀ (w' : MW), BND w' → FR l_Mo_senseAll_2 w w' → E w') → (∀ (w' : MW), BND w' → FR l_Mo_senseAll_2 w w' → False → Q w') → q_Mo_senseAll_2 E Q n x2_1 w := by
  induction n with
  | zero => intros; omega
  | succ n ih =>
    intro x2_1 w hI  hp0 hp1 hm hE hQ
    rw [q_Mo_senseAll_2.eq_2]
    refine ⟨fun h10166 => ?_, fun h10166 => ?_⟩
    · exact hE _ hI (FR.refl _ w)
    · have o10167 : 0 ≤ x2_1.toInt ∧ x2_1.toInt < 40 := by have := bd_129_32 hI; omega
      refine ⟨o10167, ?_⟩
      refine ⟨fun h10168 => ?_, fun h10168 => ?_⟩
      · have o10169 : (0 ≤ (x2_1 + (1 : Int32)).toInt) ∧ ((x2_1 + (1 : Int32)).toInt ≤ 40) := by have := bd_129_32 hI; have := ti_add2 (Eq.refl x2_1.toInt) (by decide : ((1 : Int32)).toInt = 1) (by omega) (by omega); exact ⟨by omega, by omega⟩
        exact ih _ w hI  o10169.1 o10169.2 (by have := bd_129_32 hI; have := ti_add2 (Eq.refl x2_1.toInt) (by decide : ((1 : Int32)).toInt = 1) (by omega) (by omega); omega) (fun w9 hI9 hF9 => hE w9 hI9 ((FR.refl _ w).tr hF9 rfl) ) (fun w9 hI9 hF9 q0 => q0.elim)
      · have o10170 : 0 ≤ x2_1.toInt ∧ x2_1.toInt < 40 := by have := bd_129_32 hI; omega
        refine ⟨o10170, ?_⟩
        refine ⟨fun h10171 => ?_, fun h10171 => ?_⟩
        · have o10172 : (0 ≤ (x2_1 + (1 : Int32)).toInt) ∧ ((x2_1 + (1 : Int32)).toInt ≤ 40) := by have := bd_129_32 hI; have := ti_add2 (Eq.refl x2_1.toInt) (by decide : ((1 : Int32)).toInt = 1) (by omega) (by omega); exact ⟨by omega, by omega⟩
          exact ih _ w hI  o10172.1 o10172.2 (by have := bd_129_32 hI; have := ti_add2 (Eq.refl x2_1.toInt) (by decide : ((1 : Int32)).toInt = 1) (by omega) (by omega); omega) (fun w9 hI9 hF9 => hE w9 hI9 ((FR.refl _ w).tr hF9 rfl) ) (fun w9 hI9 hF9 q0 => q0.elim)
        · have o10173 : 0 ≤ x2_1.toInt ∧ x2_1.toInt < 40 := by have := bd_129_32 hI; omega
          refine ⟨o10173, ?_⟩
          have o10174 : 0 ≤ x2_1.toInt ∧ x2_1.toInt < 40 := by have := bd_129_32 hI; omega
          refine ⟨o10174, ?_⟩
          have o10175 : (0 ≤ (w.1 201 x2_1.toInt.toNat).toInt) ∧ ((w.1 201 x2_1.toInt.toNat).toInt ≤ 4) := by have := bd_201 hI x2_1.toInt.toNat; have := (by decide : (((-1) : Int32)).toInt = (-1)); have := (by decide : ((5 : Int32)).toInt = 5); exact ⟨by omega, by omega⟩
          refine h_Mo_sensed hI  o10175.1 o10175.2 (fun r10179 w10176 hI10177 hL10178  => ?_)
          have hF10180 : FR l_Mo_senseAll_2 w w10176 := (FR.refl _ w).tr hL10178 rfl
          have o10181 : 0 ≤ x2_1.toInt ∧ x2_1.toInt < 40 := by have := bd_129_32 hI; omega
          refine ⟨o10181, ?_⟩
          have o10182 : (0 ≤ (x2_1 + (1 : Int32)).toInt) ∧ ((x2_1 + (1 : Int32)).toInt ≤ 40) := by have := bd_129_32 hI; have := ti_add2 (Eq.refl x2_1.toInt) (by decide : ((1 : Int32)).toInt = 1) (by omega) (by omega); exact ⟨by omega, by omega⟩
          exact ih _ (sJ w10176 206 x2_1.toInt.toNat r10179) (bnd_J hI10177 (k := 206) (j := x2_1.toInt.toNat) (v := r10179))  o10182.1 o10182.2 (by have := bd_129_32 hI; have := ti_add2 (Eq.refl x2_1.toInt) (by decide : ((1 : Int32)).toInt = 1) (by omega) (by omega); omega) (fun w9 hI9 hF9 => hE w9 hI9 ((FR.J hF10180 (k := 206) (j := x2_1.toInt.toNat) (v := r10179) rfl).tr hF9 rfl) ) (fun w9 hI9 hF9 q0 => q0.elim)
set_option maxRecDepth 20000 in
set_option maxHeartbeats 2000000 in
theorem hq_Mo_senseAll_63 {E : MW → Prop} {Q : MW → Prop} (n : Nat) : ∀ (x63_1 : Int32) (w : MW), BND w → 0 ≤ x63_1.toInt → x63_1.toInt ≤ 16 → (16 - x63_1.toInt).toNat < n → (∀ (w' : MW), BND w' → FR l_Mo_senseAll_63 w w' → E w') → (∀ (w' : MW), BND w' → FR l_Mo_senseAll_63 w w' → False → Q w') → q_Mo_senseAll_63 E Q n x63_1 w := by
  induction n with
  | zero => intros; omega
  | succ n ih =>
    intro x63_1 w hI  hp0 hp1 hm hE hQ
    rw [q_Mo_senseAll_63.eq_2]
    refine ⟨fun h10183 => ?_, fun h10183 => ?_⟩
    · exact hE _ hI (FR.refl _ w)
    · have o10184 : 0 ≤ x63_1.toInt ∧ x63_1.toInt < 16 := by have := (by decide : ((16 : Int32)).toInt = 16); omega
      refine ⟨o10184, ?_⟩
      refine ⟨fun h10185 => ?_, fun h10185 => ?_⟩
      · have o10186 : (0 ≤ (x63_1 + (1 : Int32)).toInt) ∧ ((x63_1 + (1 : Int32)).toInt ≤ 16) := by have := (by decide : ((16 : Int32)).toInt = 16); have := ti_add2 (Eq.refl x63_1.toInt) (by decide : ((1 : Int32)).toInt = 1) (by omega) (by omega); exact ⟨by omega, by omega⟩
        exact ih _ w hI  o10186.1 o10186.2 (by have := (by decide : ((16 : Int32)).toInt = 16); have := ti_add2 (Eq.refl x63_1.toInt) (by decide : ((1 : Int32)).toInt = 1) (by omega) (by omega); omega) (fun w9 hI9 hF9 => hE w9 hI9 ((FR.refl _ w).tr hF9 rfl) ) (fun w9 hI9 hF9 q0 => q0.elim)
      · have o10187 : 0 ≤ x63_1.toInt ∧ x63_1.toInt < 16 := by have := (by decide : ((16 : Int32)).toInt = 16); omega
        refine ⟨o10187, ?_⟩
        refine ⟨fun h10188 => ?_, fun h10188 => ?_⟩
        · refine Eq.mpr (q_Mo_senseAll_109.eq_1 _ _ _ _ _ _) ?_
          have o10189 : 0 ≤ x63_1.toInt ∧ x63_1.toInt < 16 := by have := (by decide : ((16 : Int32)).toInt = 16); omega
          refine ⟨o10189, ?_⟩
          refine ⟨fun _ => ?_, fun h => absurd h10188 h⟩
          refine Eq.mpr (q_Mo_senseAll_146.eq_1 _ _ _ _ _ _) ?_
          refine ⟨fun _ => ?_, fun h => absurd (by decide) h⟩
          have hI10190 : BND (sI w 147 24 ((w.1 147 24) &&& (((1 : Int32) <<< (x63_1 &&& 31)) ^^^ ((-1) : Int32)))) := wbd_147_24 hI
          have o10191 : (0 ≤ (x63_1 + (1 : Int32)).toInt) ∧ ((x63_1 + (1 : Int32)).toInt ≤ 16) := by have := (by decide : ((16 : Int32)).toInt = 16); have := ti_add2 (Eq.refl x63_1.toInt) (by decide : ((1 : Int32)).toInt = 1) (by omega) (by omega); exact ⟨by omega, by omega⟩
          exact ih _ (sI w 147 24 ((w.1 147 24) &&& (((1 : Int32) <<< (x63_1 &&& 31)) ^^^ ((-1) : Int32)))) hI10190  o10191.1 o10191.2 (by have := (by decide : ((16 : Int32)).toInt = 16); have := ti_add2 (Eq.refl x63_1.toInt) (by decide : ((1 : Int32)).toInt = 1) (by omega) (by omega); omega) (fun w9 hI9 hF9 => hE w9 hI9 ((FR.I (FR.refl _ w) (k := 147) (j := 24) (v := ((w.1 147 24) &&& (((1 : Int32) <<< (x63_1 &&& 31)) ^^^ ((-1) : Int32)))) rfl).tr hF9 rfl) ) (fun w9 hI9 hF9 q0 => q0.elim)
        · have o10192 : 0 ≤ x63_1.toInt ∧ x63_1.toInt < 16 := by have := (by decide : ((16 : Int32)).toInt = 16); omega
          refine ⟨o10192, ?_⟩
          have o10193 : 0 ≤ x63_1.toInt ∧ x63_1.toInt < 16 := by have := (by decide : ((16 : Int32)).toInt = 16); omega
          refine ⟨o10193, ?_⟩
          have o10194 : (0 ≤ (w.1 203 x63_1.toInt.toNat).toInt) ∧ ((w.1 203 x63_1.toInt.toNat).toInt ≤ 4) := by have := bd_203 hI x63_1.toInt.toNat; have := (by decide : (((-1) : Int32)).toInt = (-1)); have := (by decide : ((5 : Int32)).toInt = 5); exact ⟨by omega, by omega⟩
          refine h_Mo_sensed hI  o10194.1 o10194.2 (fun r10198 w10195 hI10196 hL10197  => ?_)
          have hF10199 : FR l_Mo_senseAll_63 w w10195 := (FR.refl _ w).tr hL10197 rfl
          refine Eq.mpr (q_Mo_senseAll_109.eq_1 _ _ _ _ _ _) ?_
          have o10200 : 0 ≤ x63_1.toInt ∧ x63_1.toInt < 16 := by have := (by decide : ((16 : Int32)).toInt = 16); omega
          refine ⟨o10200, ?_⟩
          refine ⟨fun h10201 => ?_, fun h10201 => ?_⟩
          · refine Eq.mpr (q_Mo_senseAll_146.eq_1 _ _ _ _ _ _) ?_
            refine ⟨fun _ => ?_, fun h => absurd (by decide) h⟩
            have hI10202 : BND (sI w10195 147 24 ((w10195.1 147 24) &&& (((1 : Int32) <<< (x63_1 &&& 31)) ^^^ ((-1) : Int32)))) := wbd_147_24 hI10196
            have o10203 : (0 ≤ (x63_1 + (1 : Int32)).toInt) ∧ ((x63_1 + (1 : Int32)).toInt ≤ 16) := by have := (by decide : ((16 : Int32)).toInt = 16); have := ti_add2 (Eq.refl x63_1.toInt) (by decide : ((1 : Int32)).toInt = 1) (by omega) (by omega); exact ⟨by omega, by omega⟩
            exact ih _ (sI w10195 147 24 ((w10195.1 147 24) &&& (((1 : Int32) <<< (x63_1 &&& 31)) ^^^ ((-1) : Int32)))) hI10202  o10203.1 o10203.2 (by have := (by decide : ((16 : Int32)).toInt = 16); have := ti_add2 (Eq.refl x63_1.toInt) (by decide : ((1 : Int32)).toInt = 1) (by omega) (by omega); omega) (fun w9 hI9 hF9 => hE w9 hI9 ((FR.I hF10199 (k := 147) (j := 24) (v := ((w10195.1 147 24) &&& (((1 : Int32) <<< (x63_1 &&& 31)) ^^^ ((-1) : Int32)))) rfl).tr hF9 rfl) ) (fun w9 hI9 hF9 q0 => q0.elim)
          · refine ⟨fun h10204 => ?_, fun h10204 => ?_⟩
            · refine Eq.mpr (q_Mo_senseAll_146.eq_1 _ _ _ _ _ _) ?_
              refine ⟨fun _ => ?_, fun h => absurd (by decide) h⟩
              have hI10205 : BND (sI w10195 147 24 ((w10195.1 147 24) &&& (((1 : Int32) <<< (x63_1 &&& 31)) ^^^ ((-1) : Int32)))) := wbd_147_24 hI10196
              have o10206 : (0 ≤ (x63_1 + (1 : Int32)).toInt) ∧ ((x63_1 + (1 : Int32)).toInt ≤ 16) := by have := (by decide : ((16 : Int32)).toInt = 16); have := ti_add2 (Eq.refl x63_1.toInt) (by decide : ((1 : Int32)).toInt = 1) (by omega) (by omega); exact ⟨by omega, by omega⟩
              exact ih _ (sI w10195 147 24 ((w10195.1 147 24) &&& (((1 : Int32) <<< (x63_1 &&& 31)) ^^^ ((-1) : Int32)))) hI10205  o10206.1 o10206.2 (by have := (by decide : ((16 : Int32)).toInt = 16); have := ti_add2 (Eq.refl x63_1.toInt) (by decide : ((1 : Int32)).toInt = 1) (by omega) (by omega); omega) (fun w9 hI9 hF9 => hE w9 hI9 ((FR.I hF10199 (k := 147) (j := 24) (v := ((w10195.1 147 24) &&& (((1 : Int32) <<< (x63_1 &&& 31)) ^^^ ((-1) : Int32)))) rfl).tr hF9 rfl) ) (fun w9 hI9 hF9 q0 => q0.elim)
            · have o10207 : 0 ≤ x63_1.toInt ∧ x63_1.toInt < 16 := by have := (by decide : ((16 : Int32)).toInt = 16); omega
              refine ⟨o10207, ?_⟩
              refine ⟨fun h10208 => ?_, fun h10208 => ?_⟩
              · refine Eq.mpr (q_Mo_senseAll_146.eq_1 _ _ _ _ _ _) ?_
                refine ⟨fun _ => ?_, fun h => absurd (by decide) h⟩
                have hI10209 : BND (sI w10195 147 24 ((w10195.1 147 24) &&& (((1 : Int32) <<< (x63_1 &&& 31)) ^^^ ((-1) : Int32)))) := wbd_147_24 hI10196
                have o10210 : (0 ≤ (x63_1 + (1 : Int32)).toInt) ∧ ((x63_1 + (1 : Int32)).toInt ≤ 16) := by have := (by decide : ((16 : Int32)).toInt = 16); have := ti_add2 (Eq.refl x63_1.toInt) (by decide : ((1 : Int32)).toInt = 1) (by omega) (by omega); exact ⟨by omega, by omega⟩
                exact ih _ (sI w10195 147 24 ((w10195.1 147 24) &&& (((1 : Int32) <<< (x63_1 &&& 31)) ^^^ ((-1) : Int32)))) hI10209  o10210.1 o10210.2 (by have := (by decide : ((16 : Int32)).toInt = 16); have := ti_add2 (Eq.refl x63_1.toInt) (by decide : ((1 : Int32)).toInt = 1) (by omega) (by omega); omega) (fun w9 hI9 hF9 => hE w9 hI9 ((FR.I hF10199 (k := 147) (j := 24) (v := ((w10195.1 147 24) &&& (((1 : Int32) <<< (x63_1 &&& 31)) ^^^ ((-1) : Int32)))) rfl).tr hF9 rfl) ) (fun w9 hI9 hF9 q0 => q0.elim)
              · refine Eq.mpr (q_Mo_senseAll_146.eq_1 _ _ _ _ _ _) ?_
                refine ⟨fun h => absurd h (by decide), fun _ => ?_⟩
                have hI10211 : BND (sI w10195 147 24 ((w10195.1 147 24) ||| ((1 : Int32) <<< (x63_1 &&& 31)))) := wbd_147_24 hI10196
                have o10212 : (0 ≤ (x63_1 + (1 : Int32)).toInt) ∧ ((x63_1 + (1 : Int32)).toInt ≤ 16) := by have := (by decide : ((16 : Int32)).toInt = 16); have := ti_add2 (Eq.refl x63_1.toInt) (by decide : ((1 : Int32)).toInt = 1) (by omega) (by omega); exact ⟨by omega, by omega⟩
                exact ih _ (sI w10195 147 24 ((w10195.1 147 24) ||| ((1 : Int32) <<< (x63_1 &&& 31)))) hI10211  o10212.1 o10212.2 (by have := (by decide : ((16 : Int32)).toInt = 16); have := ti_add2 (Eq.refl x63_1.toInt) (by decide : ((1 : Int32)).toInt = 1) (by omega) (by omega); omega) (fun w9 hI9 hF9 => hE w9 hI9 ((FR.I hF10199 (k := 147) (j := 24) (v := ((w10195.1 147 24) ||| ((1 : Int32) <<< (x63_1 &&& 31)))) rfl).tr hF9 rfl) ) (fun w9 hI9 hF9 q0 => q0.elim)
set_option maxRecDepth 20000 in
set_option maxHeartbeats 2000000 in
theorem h_Mo_senseAll {w : MW} {Q : MW → Prop} (hI : BND w)  (hQ : ∀ (w' : MW), BND w' → FR l_Mo_senseAll w w' → Q w') : p_Mo_senseAll w Q := by
  refine Eq.mpr (p_Mo_senseAll.eq_1 _ _) ?_
  have o10213 : (0 ≤ (0 : Int32).toInt) ∧ ((0 : Int32).toInt ≤ 40) := by have := (by decide : ((0 : Int32)).toInt = 0); exact ⟨by omega, by omega⟩
  refine hq_Mo_senseAll_2 FU _ w hI  o10213.1 o10213.2 (fu_lt (by have := (by decide : ((0 : Int32)).toInt = 0); omega)) (fun w10214 hI10215 hL10216  => ?_) (fun w9 hI9 hF9 q0 => q0.elim)
  have hF10217 : FR l_Mo_senseAll w w10214 := (FR.refl _ w).tr hL10216 rfl
  have o10218 : (0 ≤ (0 : Int32).toInt) ∧ ((0 : Int32).toInt ≤ 16) := by have := (by decide : ((0 : Int32)).toInt = 0); exact ⟨by omega, by omega⟩
  refine hq_Mo_senseAll_63 FU _ w10214 hI10215  o10218.1 o10218.2 (fu_lt (by have := (by decide : ((0 : Int32)).toInt = 0); omega)) (fun w10219 hI10220 hL10221  => ?_) (fun w9 hI9 hF9 q0 => q0.elim)
  have hF10222 : FR l_Mo_senseAll w w10219 := hF10217.tr hL10221 rfl
  exact hQ _ hI10220 hF10222 
def l_Mo_hold_24 : Pl := [(127, some 26), (127, some 59), (167, none), (181, none), (182, none), (183, none), (184, none), (185, none), (186, none), (187, none)]
def l_Mo_hold : Pl := [(127, some 26), (127, some 59), (167, none), (181, none), (182, none), (183, none), (184, none), (185, none), (186, none), (187, none)]
set_option maxRecDepth 20000 in
set_option maxHeartbeats 2000000 in
theorem h_Mo_hold {w : MW} {a0 : Int32} {Q : Int32 → MW → Prop} (hI : BND w)  (hQ : ∀ (r : Int32) (w' : MW), BND w' → FR l_Mo_hold w w' → 0 ≤ r.toInt → r.toInt ≤ 1 → Q r w') : p_Mo_hold w a0 Q := by
  refine Eq.mpr (p_Mo_hold.eq_1 _ _ _) ?_
  refine ⟨fun h10223 => ?_, fun h10223 => ?_⟩
  · refine ⟨fun h10224 => ?_, fun h10224 => ?_⟩
    · refine Eq.mpr (q_Mo_hold_24.eq_1 _ _ _) ?_
      refine ⟨fun _ => ?_, fun h => absurd h10223 h⟩
      have hI10225 : BND (sI w 127 59 0) := wbd_127_59 hI (by decide) (by decide)
      have o10226 : (0 ≤ (1 : Int32).toInt) ∧ ((1 : Int32).toInt ≤ 1) := by have := (by decide : ((1 : Int32)).toInt = 1); exact ⟨by omega, by omega⟩
      exact hQ _ _ hI10225 (FR.I (FR.refl _ w) (k := 127) (j := 59) (v := 0) rfl)  o10226.1 o10226.2
    · have o10227 : (0 ≤ (0 : Int32).toInt) ∧ ((0 : Int32).toInt ≤ 1) := by have := (by decide : ((0 : Int32)).toInt = 0); exact ⟨by omega, by omega⟩
      exact hQ _ _ hI (FR.refl _ w)  o10227.1 o10227.2
  · refine ⟨fun h10228 => ?_, fun h10228 => ?_⟩
    · refine Eq.mpr (q_Mo_hold_24.eq_1 _ _ _) ?_
      refine ⟨fun h => absurd h h10223, fun _ => ?_⟩
      have hI10229 : BND (sI w 127 59 2) := wbd_127_59 hI (by decide) (by decide)
      refine h_Mo_closeAll hI10229   (fun w10230 hI10231 hL10232  => ?_)
      have hF10234 : FR l_Mo_hold w w10230 := (FR.I (FR.refl _ w) (k := 127) (j := 59) (v := 2) rfl).tr hL10232 rfl
      have o10235 : (0 ≤ (1 : Int32).toInt) ∧ ((1 : Int32).toInt ≤ 1) := by have := (by decide : ((1 : Int32)).toInt = 1); exact ⟨by omega, by omega⟩
      exact hQ _ _ hI10231 hF10234  o10235.1 o10235.2
    · have o10236 : (0 ≤ (0 : Int32).toInt) ∧ ((0 : Int32).toInt ≤ 1) := by have := (by decide : ((0 : Int32)).toInt = 0); exact ⟨by omega, by omega⟩
      exact hQ _ _ hI (FR.refl _ w)  o10236.1 o10236.2
