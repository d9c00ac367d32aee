def l_Bh_bars : Pl := []
set_option maxRecDepth 20000 in
set_option maxHeartbeats 2000000 in
theorem h_Bh_bars {w : MW} {a0 : Int32} {Q : Int32 → MW → Prop} (hI : BND w) (hr_47_3 : w.2.2 47 3 = some 48)  (hQ : ∀ (r : Int32) (w' : MW), BND w' → FR l_Bh_bars w w' → (-1) ≤ r.toInt → r.toInt ≤ 40 → Q r w') : p_Bh_bars w a0 Q := by
  refine Eq.mpr (p_Bh_bars.eq_1 _ _ _) ?_
  refine Eq.mpr (p_Ac_isAct.eq_1 _ _ _) ?_
  refine ⟨fun h3885 => ?_, fun h3885 => ?_⟩
  · refine ⟨fun _ => ?_, fun h => absurd (by decide) h⟩
    have o3886 : ((-1) ≤ ((-1) : Int32).toInt) ∧ (((-1) : Int32).toInt ≤ 40) := by have := (by decide : (((-1) : Int32)).toInt = (-1)); exact ⟨by omega, by omega⟩
    exact hQ _ _ hI (FR.refl _ w)  o3886.1 o3886.2
  · refine ⟨fun h3887 => ?_, fun h3887 => ?_⟩
    · refine ⟨fun _ => ?_, fun h => absurd (by decide) h⟩
      have o3888 : ((-1) ≤ ((-1) : Int32).toInt) ∧ (((-1) : Int32).toInt ≤ 40) := by have := (by decide : (((-1) : Int32)).toInt = (-1)); exact ⟨by omega, by omega⟩
      exact hQ _ _ hI (FR.refl _ w)  o3888.1 o3888.2
    · refine ⟨fun h => absurd h (by decide), fun _ => ?_⟩
      refine ⟨hr_47_3, ?_⟩
      have o3889 : (0 ≤ a0.toInt) ∧ (a0.toInt ≤ 31) := by have := (by decide : ((0 : Int32)).toInt = 0); have := (by decide : ((32 : Int32)).toInt = 32); exact ⟨by omega, by omega⟩
      refine h_Ro_barring hI  o3889.1 o3889.2 (fun r3893 w3890 hI3891 hL3892 p3894 p3895 => ?_)
      have hF3896 : FR l_Bh_bars w w3890 := (FR.refl _ w).tr hL3892 rfl
      have o3897 : ((-1) ≤ r3893.toInt) ∧ (r3893.toInt ≤ 40) := by exact ⟨by omega, by omega⟩
      exact hQ _ _ hI3891 hF3896  o3897.1 o3897.2
def l_Wa_get_79 : Pl := []
def l_Wa_get : Pl := []
set_option maxRecDepth 20000 in
set_option maxHeartbeats 2000000 in
theorem hq_Wa_get_79 {x79_2 : Int32} {E : Int32 → MW → Prop} {Q : Int32 → MW → Prop} (n : Nat) : ∀ (x79_3 : Int32) (x79_4 : Int32) (w : MW), BND w → 3 ≤ x79_2.toInt → x79_2.toInt ≤ 26 → (-1) ≤ x79_3.toInt → x79_3.toInt ≤ 23 → 3 ≤ x79_4.toInt → x79_4.toInt ≤ 26 → (26 - x79_4.toInt).toNat < n → (∀ (e79_3 : Int32) (w' : MW), BND w' → FR l_Wa_get_79 w w' → (-1) ≤ e79_3.toInt → e79_3.toInt ≤ 23 → E e79_3 w') → (∀ (r : Int32) (w' : MW), BND w' → FR l_Wa_get_79 w w' → False → Q r w') → q_Wa_get_79 x79_2 E Q n x79_3 x79_4 w := by
  induction n with
  | zero => intros; omega
  | succ n ih =>
    intro x79_3 x79_4 w hI  hp0 hp1 hp2 hp3 hp4 hp5 hm hE hQ
    rw [q_Wa_get_79.eq_2]
    refine ⟨fun h3898 => ?_, fun h3898 => ?_⟩
    · have o3899 : ((-1) ≤ x79_3.toInt) ∧ (x79_3.toInt ≤ 23) := by exact ⟨by omega, by omega⟩
      exact hE _ _ hI (FR.refl _ w) o3899.1 o3899.2
    · refine ⟨fun h3900 => ?_, fun h3900 => ?_⟩
      · have o3901 : ((-1) ≤ x79_3.toInt) ∧ (x79_3.toInt ≤ 23) := by have := (by decide : ((0 : Int32)).toInt = 0); exact ⟨by omega, by omega⟩
        exact hE _ _ hI (FR.refl _ w) o3901.1 o3901.2
      · have o3902 : 0 ≤ x79_3.toInt ∧ x79_3.toInt < 24 := by have := (by decide : ((0 : Int32)).toInt = 0); omega
        refine ⟨o3902, ?_⟩
        have o3903 : (3 ≤ x79_2.toInt) ∧ (x79_2.toInt ≤ 26) ∧ ((-1) ≤ (w.1 35 x79_3.toInt.toNat).toInt) ∧ ((w.1 35 x79_3.toInt.toNat).toInt ≤ 23) ∧ (3 ≤ (x79_4 + (1 : Int32)).toInt) ∧ ((x79_4 + (1 : Int32)).toInt ≤ 26) := by have := bd_35 hI x79_3.toInt.toNat; have := ti_add2 (Eq.refl x79_4.toInt) (by decide : ((1 : Int32)).toInt = 1) (by omega) (by omega); exact ⟨by omega, by omega, by omega, by omega, by omega, by omega⟩
        exact ih _ _ w hI  o3903.1 o3903.2.1 o3903.2.2.1 o3903.2.2.2.1 o3903.2.2.2.2.1 o3903.2.2.2.2.2 (by have := bd_35 hI x79_3.toInt.toNat; have := ti_add2 (Eq.refl x79_4.toInt) (by decide : ((1 : Int32)).toInt = 1) (by omega) (by omega); omega) (fun e0 w9 hI9 hF9 p0 p1 => hE e0 w9 hI9 ((FR.refl _ w).tr hF9 rfl) p0 p1 ) (fun r w9 hI9 hF9 q0 => q0.elim)
set_option maxRecDepth 20000 in
set_option maxHeartbeats 2000000 in
theorem h_Wa_get {w : MW} {a0 : Int32} {b0 : Int32} {Q : Int32 → MW → Prop} (hI : BND w)  (hQ : ∀ (r : Int32) (w' : MW), BND w' → FR l_Wa_get w w' → (-1) ≤ r.toInt → r.toInt ≤ 24 → Q r w') : p_Wa_get w a0 b0 Q := by
  refine Eq.mpr (p_Wa_get.eq_1 _ _ _ _) ?_
  refine ⟨fun h3904 => ?_, fun h3904 => ?_⟩
  · have o3905 : ((-1) ≤ ((-1) : Int32).toInt) ∧ (((-1) : Int32).toInt ≤ 24) := by have := (by decide : (((-1) : Int32)).toInt = (-1)); exact ⟨by omega, by omega⟩
    exact hQ _ _ hI (FR.refl _ w)  o3905.1 o3905.2
  · refine ⟨fun h3906 => ?_, fun h3906 => ?_⟩
    · have o3907 : ((-1) ≤ ((-1) : Int32).toInt) ∧ (((-1) : Int32).toInt ≤ 24) := by have := (by decide : (((-1) : Int32)).toInt = (-1)); exact ⟨by omega, by omega⟩
      exact hQ _ _ hI (FR.refl _ w)  o3907.1 o3907.2
    · refine ⟨fun h3908 => ?_, fun h3908 => ?_⟩
      · have o3909 : ((-1) ≤ ((-1) : Int32).toInt) ∧ (((-1) : Int32).toInt ≤ 24) := by have := (by decide : (((-1) : Int32)).toInt = (-1)); exact ⟨by omega, by omega⟩
        exact hQ _ _ hI (FR.refl _ w)  o3909.1 o3909.2
      · have o3910 : 0 ≤ a0.toInt ∧ a0.toInt < 24 := by have := (by decide : ((0 : Int32)).toInt = 0); have := bd_26_1 hI; omega
        refine ⟨o3910, ?_⟩
        refine ⟨fun h3911 => ?_, fun h3911 => ?_⟩
        · refine ⟨fun h3912 => ?_, fun h3912 => ?_⟩
          · have o3913 : 0 ≤ a0.toInt ∧ a0.toInt < 24 := by have := (by decide : ((0 : Int32)).toInt = 0); have := bd_26_1 hI; omega
            refine ⟨o3913, ?_⟩
            have o3914 : (3 ≤ b0.toInt) ∧ (b0.toInt ≤ 26) ∧ ((-1) ≤ (w.1 32 a0.toInt.toNat).toInt) ∧ ((w.1 32 a0.toInt.toNat).toInt ≤ 23) ∧ (3 ≤ (3 : Int32).toInt) ∧ ((3 : Int32).toInt ≤ 26) := by have := bd_32 hI a0.toInt.toNat; have := (by decide : ((3 : Int32)).toInt = 3); have := (by decide : ((0 : Int32)).toInt = 0); have := bd_31 hI a0.toInt.toNat; have := ti_add2 (by decide : ((3 : Int32)).toInt = 3) (Eq.refl (w.1 31 a0.toInt.toNat).toInt) (by omega) (by omega); exact ⟨by omega, by omega, by omega, by omega, by omega, by omega⟩
            refine hq_Wa_get_79 FU _ _ w hI  o3914.1 o3914.2.1 o3914.2.2.1 o3914.2.2.2.1 o3914.2.2.2.2.1 o3914.2.2.2.2.2 (fu_lt (by have := bd_32 hI a0.toInt.toNat; have := (by decide : ((3 : Int32)).toInt = 3); have := (by decide : ((0 : Int32)).toInt = 0); have := bd_31 hI a0.toInt.toNat; have := ti_add2 (by decide : ((3 : Int32)).toInt = 3) (Eq.refl (w.1 31 a0.toInt.toNat).toInt) (by omega) (by omega); omega)) (fun e3918 w3915 hI3916 hL3917 p3919 p3920 => ?_) (fun r w9 hI9 hF9 q0 => q0.elim)
            have hF3921 : FR l_Wa_get w w3915 := (FR.refl _ w).tr hL3917 rfl
            have o3922 : ((-1) ≤ e3918.toInt) ∧ (e3918.toInt ≤ 24) := by exact ⟨by omega, by omega⟩
            exact hQ _ _ hI3916 hF3921  o3922.1 o3922.2
          · refine ⟨fun h3923 => ?_, fun h3923 => ?_⟩
            · refine ⟨fun h3924 => ?_, fun h3924 => ?_⟩
              · have o3925 : 0 ≤ a0.toInt ∧ a0.toInt < 24 := by have := (by decide : ((0 : Int32)).toInt = 0); have := bd_26_1 hI; omega
                refine ⟨o3925, ?_⟩
                have o3926 : ((-1) ≤ (w.1 31 a0.toInt.toNat).toInt) ∧ ((w.1 31 a0.toInt.toNat).toInt ≤ 24) := by have := bd_31 hI a0.toInt.toNat; have := ti_add2 (by decide : ((3 : Int32)).toInt = 3) (Eq.refl (w.1 31 a0.toInt.toNat).toInt) (by omega) (by omega); have := (by decide : ((3 : Int32)).toInt = 3); have := (by decide : ((0 : Int32)).toInt = 0); have := (by decide : ((1 : Int32)).toInt = 1); exact ⟨by omega, by omega⟩
                exact hQ _ _ hI (FR.refl _ w)  o3926.1 o3926.2
              · have o3927 : 0 ≤ a0.toInt ∧ a0.toInt < 24 := by have := (by decide : ((0 : Int32)).toInt = 0); have := bd_26_1 hI; omega
                refine ⟨o3927, ?_⟩
                have o3928 : ((-1) ≤ (w.1 28 a0.toInt.toNat).toInt) ∧ ((w.1 28 a0.toInt.toNat).toInt ≤ 24) := by have := bd_28 hI a0.toInt.toNat; exact ⟨by omega, by omega⟩
                exact hQ _ _ hI (FR.refl _ w)  o3928.1 o3928.2
            · have o3929 : 0 ≤ a0.toInt ∧ a0.toInt < 24 := by have := (by decide : ((0 : Int32)).toInt = 0); have := bd_26_1 hI; omega
              refine ⟨o3929, ?_⟩
              have o3930 : ((-1) ≤ (w.1 27 a0.toInt.toNat).toInt) ∧ ((w.1 27 a0.toInt.toNat).toInt ≤ 24) := by have := bd_27 hI a0.toInt.toNat; exact ⟨by omega, by omega⟩
              exact hQ _ _ hI (FR.refl _ w)  o3930.1 o3930.2
        · have o3931 : ((-1) ≤ ((-1) : Int32).toInt) ∧ (((-1) : Int32).toInt ≤ 24) := by have := (by decide : (((-1) : Int32)).toInt = (-1)); exact ⟨by omega, by omega⟩
          exact hQ _ _ hI (FR.refl _ w)  o3931.1 o3931.2
def l_Mo_feed_72 : Pl := [(127, some 1), (128, none)]
def l_Mo_feed_19 : Pl := [(127, some 1), (128, none)]
def l_Mo_feed : Pl := [(127, some 1), (128, none)]
set_option maxRecDepth 20000 in
set_option maxHeartbeats 2000000 in
theorem hq_Mo_feed_19 {x19_1 : Int32} {x19_2 : Int32} {x19_3 : Int32} {x19_4 : Int32} {x19_5 : Int32} {E : MW → Prop} {Q : Int32 → MW → Prop} (n : Nat) : ∀ (x19_6 : Int32) (w : MW), BND w → 0 ≤ x19_6.toInt → x19_6.toInt ≤ 20 → (w.1 127 1).toInt + 20 - x19_6.toInt ≤ 4020 → (20 - x19_6.toInt).toNat < n → (∀ (w' : MW), BND w' → FR l_Mo_feed_19 w w' → E w') → (∀ (r : Int32) (w' : MW), BND w' → FR l_Mo_feed_19 w w' → False → Q r w') → q_Mo_feed_19 x19_1 x19_2 x19_3 x19_4 x19_5 E Q n x19_6 w := by
  induction n with
  | zero => intros; omega
  | succ n ih =>
    intro x19_6 w hI  hp0 hp1 hp2 hm hE hQ
    rw [q_Mo_feed_19.eq_2]
    refine ⟨fun h3932 => ?_, fun h3932 => ?_⟩
    · exact hE _ hI (FR.refl _ w)
    · refine ⟨fun h3933 => ?_, fun h3933 => ?_⟩
      · refine ⟨fun h3934 => ?_, fun h3934 => ?_⟩
        · refine ⟨fun h3935 => ?_, fun h3935 => ?_⟩
          · refine ⟨fun h3936 => ?_, fun h3936 => ?_⟩
            · refine Eq.mpr (q_Mo_feed_72.eq_1 _ _ _ _ _ _ _ _ _ _ _) ?_
              have o3937 : 0 ≤ (w.1 127 1).toInt ∧ (w.1 127 1).toInt < 4020 := by have := bd_127_1 hI; have := (by decide : ((20 : Int32)).toInt = 20); have := (by decide : ((4 : Int32)).toInt = 4); have := (by decide : ((8 : Int32)).toInt = 8); have := (by decide : ((12 : Int32)).toInt = 12); have := (by decide : ((16 : Int32)).toInt = 16); omega
              refine ⟨o3937, ?_⟩
              have o3939 : (-128) ≤ (vp_nar .byte ((Int32.toInt8 ((x19_5.toUInt32 >>> (((24 : Int32) - ((8 : Int32) * (x19_6 - x19_6 / (4 : Int32) * (4 : Int32)))).toUInt32 &&& Int32.toUInt32 31)).toInt32)).toInt32)).toInt ∧ (vp_nar .byte ((Int32.toInt8 ((x19_5.toUInt32 >>> (((24 : Int32) - ((8 : Int32) * (x19_6 - x19_6 / (4 : Int32) * (4 : Int32)))).toUInt32 &&& Int32.toUInt32 31)).toInt32)).toInt32)).toInt ≤ 127 := by have := ti_lo ((x19_5.toUInt32 >>> (((24 : Int32) - ((8 : Int32) * (x19_6 - x19_6 / (4 : Int32) * (4 : Int32)))).toUInt32 &&& Int32.toUInt32 31)).toInt32); have := ti_hi ((x19_5.toUInt32 >>> (((24 : Int32) - ((8 : Int32) * (x19_6 - x19_6 / (4 : Int32) * (4 : Int32)))).toUInt32 &&& Int32.toUInt32 31)).toInt32); have := ti_lo x19_5; have := ti_hi x19_5; have := nb_rem (x := x19_6) (by omega) (by decide : ((4 : Int32)).toInt = 4) (by decide); have := ti_mul2 (by decide : ((8 : Int32)).toInt = 8) (Eq.refl (x19_6 - x19_6 / (4 : Int32) * (4 : Int32)).toInt) (by omega) (by omega); have := ti_sub2 (by decide : ((24 : Int32)).toInt = 24) (Eq.refl ((8 : Int32) * (x19_6 - x19_6 / (4 : Int32) * (4 : Int32))).toInt) (by omega) (by omega); have := nb_i2b ((x19_5.toUInt32 >>> (((24 : Int32) - ((8 : Int32) * (x19_6 - x19_6 / (4 : Int32) * (4 : Int32)))).toUInt32 &&& Int32.toUInt32 31)).toInt32); have := nb_byteq (x := ((Int32.toInt8 ((x19_5.toUInt32 >>> (((24 : Int32) - ((8 : Int32) * (x19_6 - x19_6 / (4 : Int32) * (4 : Int32)))).toUInt32 &&& Int32.toUInt32 31)).toInt32)).toInt32)) (by omega) (by omega); have := bd_127_1 hI; have := (by decide : ((20 : Int32)).toInt = 20); have := (by decide : ((4 : Int32)).toInt = 4); have := (by decide : ((8 : Int32)).toInt = 8); have := (by decide : ((12 : Int32)).toInt = 12); have := (by decide : ((16 : Int32)).toInt = 16); omega
              have hI3938 : BND (sI w 128 ((w.1 127 1).toInt.toNat) (vp_nar .byte ((Int32.toInt8 ((x19_5.toUInt32 >>> (((24 : Int32) - ((8 : Int32) * (x19_6 - x19_6 / (4 : Int32) * (4 : Int32)))).toUInt32 &&& Int32.toUInt32 31)).toInt32)).toInt32))) := wbd_128 hI ((w.1 127 1).toInt.toNat) o3939.1 o3939.2
              have o3941 : 0 ≤ ((w.1 127 1) + (1 : Int32)).toInt ∧ ((w.1 127 1) + (1 : Int32)).toInt ≤ 4020 := by have := bd_127_1 hI; have := ti_add2 (Eq.refl (w.1 127 1).toInt) (by decide : ((1 : Int32)).toInt = 1) (by omega) (by omega); have := (by decide : ((20 : Int32)).toInt = 20); have := (by decide : ((4 : Int32)).toInt = 4); have := (by decide : ((8 : Int32)).toInt = 8); have := (by decide : ((12 : Int32)).toInt = 12); have := (by decide : ((16 : Int32)).toInt = 16); omega
              have hI3940 : BND (sI (sI w 128 ((w.1 127 1).toInt.toNat) (vp_nar .byte ((Int32.toInt8 ((x19_5.toUInt32 >>> (((24 : Int32) - ((8 : Int32) * (x19_6 - x19_6 / (4 : Int32) * (4 : Int32)))).toUInt32 &&& Int32.toUInt32 31)).toInt32)).toInt32))) 127 1 ((w.1 127 1) + (1 : Int32))) := wbd_127_1 hI3938 o3941.1 o3941.2
              have o3942 : (0 ≤ (x19_6 + (1 : Int32)).toInt) ∧ ((x19_6 + (1 : Int32)).toInt ≤ 20) ∧ (((sI (sI w 128 ((w.1 127 1).toInt.toNat) (vp_nar .byte ((Int32.toInt8 ((x19_5.toUInt32 >>> (((24 : Int32) - ((8 : Int32) * (x19_6 - x19_6 / (4 : Int32) * (4 : Int32)))).toUInt32 &&& Int32.toUInt32 31)).toInt32)).toInt32))) 127 1 ((w.1 127 1) + (1 : Int32))).1 127 1).toInt + 20 - (x19_6 + (1 : Int32)).toInt ≤ 4020) := by have := ti_add2 (Eq.refl x19_6.toInt) (by decide : ((1 : Int32)).toInt = 1) (by omega) (by omega); have := bd_127_1 hI; have := ti_add2 (Eq.refl (w.1 127 1).toInt) (by decide : ((1 : Int32)).toInt = 1) (by omega) (by omega); have : ((sI (sI w 128 ((w.1 127 1).toInt.toNat) (vp_nar .byte ((Int32.toInt8 ((x19_5.toUInt32 >>> (((24 : Int32) - ((8 : Int32) * (x19_6 - x19_6 / (4 : Int32) * (4 : Int32)))).toUInt32 &&& Int32.toUInt32 31)).toInt32)).toInt32))) 127 1 ((w.1 127 1) + (1 : Int32))).1 127 1).toInt = ((w.1 127 1) + (1 : Int32)).toInt := rfl; have := (by decide : ((20 : Int32)).toInt = 20); have := (by decide : ((4 : Int32)).toInt = 4); have := (by decide : ((8 : Int32)).toInt = 8); have := (by decide : ((12 : Int32)).toInt = 12); have := (by decide : ((16 : Int32)).toInt = 16); exact ⟨by omega, by omega, by omega⟩
              exact ih _ (sI (sI w 128 ((w.1 127 1).toInt.toNat) (vp_nar .byte ((Int32.toInt8 ((x19_5.toUInt32 >>> (((24 : Int32) - ((8 : Int32) * (x19_6 - x19_6 / (4 : Int32) * (4 : Int32)))).toUInt32 &&& Int32.toUInt32 31)).toInt32)).toInt32))) 127 1 ((w.1 127 1) + (1 : Int32))) hI3940  o3942.1 o3942.2.1 o3942.2.2 (by have := ti_add2 (Eq.refl x19_6.toInt) (by decide : ((1 : Int32)).toInt = 1) (by omega) (by omega); have := bd_127_1 hI; have := (by decide : ((20 : Int32)).toInt = 20); have := (by decide : ((4 : Int32)).toInt = 4); have := (by decide : ((8 : Int32)).toInt = 8); have := (by decide : ((12 : Int32)).toInt = 12); have := (by decide : ((16 : Int32)).toInt = 16); omega) (fun w9 hI9 hF9 => hE w9 hI9 ((FR.I (FR.I (FR.refl _ w) (k := 128) (j := (w.1 127 1).toInt.toNat) (v := (vp_nar .byte ((Int32.toInt8 ((x19_5.toUInt32 >>> (((24 : Int32) - ((8 : Int32) * (x19_6 - x19_6 / (4 : Int32) * (4 : Int32)))).toUInt32 &&& Int32.toUInt32 31)).toInt32)).toInt32))) rfl) (k := 127) (j := 1) (v := ((w.1 127 1) + (1 : Int32))) rfl).tr hF9 rfl) ) (fun r w9 hI9 hF9 q0 => q0.elim)
            · refine Eq.mpr (q_Mo_feed_72.eq_1 _ _ _ _ _ _ _ _ _ _ _) ?_
              have o3943 : 0 ≤ (w.1 127 1).toInt ∧ (w.1 127 1).toInt < 4020 := by have := bd_127_1 hI; have := (by decide : ((20 : Int32)).toInt = 20); have := (by decide : ((4 : Int32)).toInt = 4); have := (by decide : ((8 : Int32)).toInt = 8); have := (by decide : ((12 : Int32)).toInt = 12); have := (by decide : ((16 : Int32)).toInt = 16); omega
              refine ⟨o3943, ?_⟩
              have o3945 : (-128) ≤ (vp_nar .byte ((Int32.toInt8 ((x19_4.toUInt32 >>> (((24 : Int32) - ((8 : Int32) * (x19_6 - x19_6 / (4 : Int32) * (4 : Int32)))).toUInt32 &&& Int32.toUInt32 31)).toInt32)).toInt32)).toInt ∧ (vp_nar .byte ((Int32.toInt8 ((x19_4.toUInt32 >>> (((24 : Int32) - ((8 : Int32) * (x19_6 - x19_6 / (4 : Int32) * (4 : Int32)))).toUInt32 &&& Int32.toUInt32 31)).toInt32)).toInt32)).toInt ≤ 127 := by have := ti_lo ((x19_4.toUInt32 >>> (((24 : Int32) - ((8 : Int32) * (x19_6 - x19_6 / (4 : Int32) * (4 : Int32)))).toUInt32 &&& Int32.toUInt32 31)).toInt32); have := ti_hi ((x19_4.toUInt32 >>> (((24 : Int32) - ((8 : Int32) * (x19_6 - x19_6 / (4 : Int32) * (4 : Int32)))).toUInt32 &&& Int32.toUInt32 31)).toInt32); have := ti_lo x19_4; have := ti_hi x19_4; have := nb_rem (x := x19_6) (by omega) (by decide : ((4 : Int32)).toInt = 4) (by decide); have := ti_mul2 (by decide : ((8 : Int32)).toInt = 8) (Eq.refl (x19_6 - x19_6 / (4 : Int32) * (4 : Int32)).toInt) (by omega) (by omega); have := ti_sub2 (by decide : ((24 : Int32)).toInt = 24) (Eq.refl ((8 : Int32) * (x19_6 - x19_6 / (4 : Int32) * (4 : Int32))).toInt) (by omega) (by omega); have := nb_i2b ((x19_4.toUInt32 >>> (((24 : Int32) - ((8 : Int32) * (x19_6 - x19_6 / (4 : Int32) * (4 : Int32)))).toUInt32 &&& Int32.toUInt32 31)).toInt32); have := nb_byteq (x := ((Int32.toInt8 ((x19_4.toUInt32 >>> (((24 : Int32) - ((8 : Int32) * (x19_6 - x19_6 / (4 : Int32) * (4 : Int32)))).toUInt32 &&& Int32.toUInt32 31)).toInt32)).toInt32)) (by omega) (by omega); have := bd_127_1 hI; have := (by decide : ((20 : Int32)).toInt = 20); have := (by decide : ((4 : Int32)).toInt = 4); have := (by decide : ((8 : Int32)).toInt = 8); have := (by decide : ((12 : Int32)).toInt = 12); have := (by decide : ((16 : Int32)).toInt = 16); omega
              have hI3944 : BND (sI w 128 ((w.1 127 1).toInt.toNat) (vp_nar .byte ((Int32.toInt8 ((x19_4.toUInt32 >>> (((24 : Int32) - ((8 : Int32) * (x19_6 - x19_6 / (4 : Int32) * (4 : Int32)))).toUInt32 &&& Int32.toUInt32 31)).toInt32)).toInt32))) := wbd_128 hI ((w.1 127 1).toInt.toNat) o3945.1 o3945.2
              have o3947 : 0 ≤ ((w.1 127 1) + (1 : Int32)).toInt ∧ ((w.1 127 1) + (1 : Int32)).toInt ≤ 4020 := by have := bd_127_1 hI; have := ti_add2 (Eq.refl (w.1 127 1).toInt) (by decide : ((1 : Int32)).toInt = 1) (by omega) (by omega); have := (by decide : ((20 : Int32)).toInt = 20); have := (by decide : ((4 : Int32)).toInt = 4); have := (by decide : ((8 : Int32)).toInt = 8); have := (by decide : ((12 : Int32)).toInt = 12); have := (by decide : ((16 : Int32)).toInt = 16); omega
              have hI3946 : BND (sI (sI w 128 ((w.1 127 1).toInt.toNat) (vp_nar .byte ((Int32.toInt8 ((x19_4.toUInt32 >>> (((24 : Int32) - ((8 : Int32) * (x19_6 - x19_6 / (4 : Int32) * (4 : Int32)))).toUInt32 &&& Int32.toUInt32 31)).toInt32)).toInt32))) 127 1 ((w.1 127 1) + (1 : Int32))) := wbd_127_1 hI3944 o3947.1 o3947.2
              have o3948 : (0 ≤ (x19_6 + (1 : Int32)).toInt) ∧ ((x19_6 + (1 : Int32)).toInt ≤ 20) ∧ (((sI (sI w 128 ((w.1 127 1).toInt.toNat) (vp_nar .byte ((Int32.toInt8 ((x19_4.toUInt32 >>> (((24 : Int32) - ((8 : Int32) * (x19_6 - x19_6 / (4 : Int32) * (4 : Int32)))).toUInt32 &&& Int32.toUInt32 31)).toInt32)).toInt32))) 127 1 ((w.1 127 1) + (1 : Int32))).1 127 1).toInt + 20 - (x19_6 + (1 : Int32)).toInt ≤ 4020) := by have := ti_add2 (Eq.refl x19_6.toInt) (by decide : ((1 : Int32)).toInt = 1) (by omega) (by omega); have := bd_127_1 hI; have := ti_add2 (Eq.refl (w.1 127 1).toInt) (by decide : ((1 : Int32)).toInt = 1) (by omega) (by omega); have : ((sI (sI w 128 ((w.1 127 1).toInt.toNat) (vp_nar .byte ((Int32.toInt8 ((x19_4.toUInt32 >>> (((24 : Int32) - ((8 : Int32) * (x19_6 - x19_6 / (4 : Int32) * (4 : Int32)))).toUInt32 &&& Int32.toUInt32 31)).toInt32)).toInt32))) 127 1 ((w.1 127 1) + (1 : Int32))).1 127 1).toInt = ((w.1 127 1) + (1 : Int32)).toInt := rfl; have := (by decide : ((20 : Int32)).toInt = 20); have := (by decide : ((4 : Int32)).toInt = 4); have := (by decide : ((8 : Int32)).toInt = 8); have := (by decide : ((12 : Int32)).toInt = 12); have := (by decide : ((16 : Int32)).toInt = 16); exact ⟨by omega, by omega, by omega⟩
              exact ih _ (sI (sI w 128 ((w.1 127 1).toInt.toNat) (vp_nar .byte ((Int32.toInt8 ((x19_4.toUInt32 >>> (((24 : Int32) - ((8 : Int32) * (x19_6 - x19_6 / (4 : Int32) * (4 : Int32)))).toUInt32 &&& Int32.toUInt32 31)).toInt32)).toInt32))) 127 1 ((w.1 127 1) + (1 : Int32))) hI3946  o3948.1 o3948.2.1 o3948.2.2 (by have := ti_add2 (Eq.refl x19_6.toInt) (by decide : ((1 : Int32)).toInt = 1) (by omega) (by omega); have := bd_127_1 hI; have := (by decide : ((20 : Int32)).toInt = 20); have := (by decide : ((4 : Int32)).toInt = 4); have := (by decide : ((8 : Int32)).toInt = 8); have := (by decide : ((12 : Int32)).toInt = 12); have := (by decide : ((16 : Int32)).toInt = 16); omega) (fun w9 hI9 hF9 => hE w9 hI9 ((FR.I (FR.I (FR.refl _ w) (k := 128) (j := (w.1 127 1).toInt.toNat) (v := (vp_nar .byte ((Int32.toInt8 ((x19_4.toUInt32 >>> (((24 : Int32) - ((8 : Int32) * (x19_6 - x19_6 / (4 : Int32) * (4 : Int32)))).toUInt32 &&& Int32.toUInt32 31)).toInt32)).toInt32))) rfl) (k := 127) (j := 1) (v := ((w.1 127 1) + (1 : Int32))) rfl).tr hF9 rfl) ) (fun r w9 hI9 hF9 q0 => q0.elim)
          · refine Eq.mpr (q_Mo_feed_72.eq_1 _ _ _ _ _ _ _ _ _ _ _) ?_
            have o3949 : 0 ≤ (w.1 127 1).toInt ∧ (w.1 127 1).toInt < 4020 := by have := bd_127_1 hI; have := (by decide : ((20 : Int32)).toInt = 20); have := (by decide : ((4 : Int32)).toInt = 4); have := (by decide : ((8 : Int32)).toInt = 8); have := (by decide : ((12 : Int32)).toInt = 12); omega
            refine ⟨o3949, ?_⟩
            have o3951 : (-128) ≤ (vp_nar .byte ((Int32.toInt8 ((x19_3.toUInt32 >>> (((24 : Int32) - ((8 : Int32) * (x19_6 - x19_6 / (4 : Int32) * (4 : Int32)))).toUInt32 &&& Int32.toUInt32 31)).toInt32)).toInt32)).toInt ∧ (vp_nar .byte ((Int32.toInt8 ((x19_3.toUInt32 >>> (((24 : Int32) - ((8 : Int32) * (x19_6 - x19_6 / (4 : Int32) * (4 : Int32)))).toUInt32 &&& Int32.toUInt32 31)).toInt32)).toInt32)).toInt ≤ 127 := by have := ti_lo ((x19_3.toUInt32 >>> (((24 : Int32) - ((8 : Int32) * (x19_6 - x19_6 / (4 : Int32) * (4 : Int32)))).toUInt32 &&& Int32.toUInt32 31)).toInt32); have := ti_hi ((x19_3.toUInt32 >>> (((24 : Int32) - ((8 : Int32) * (x19_6 - x19_6 / (4 : Int32) * (4 : Int32)))).toUInt32 &&& Int32.toUInt32 31)).toInt32); have := ti_lo x19_3; have := ti_hi x19_3; have := nb_rem (x := x19_6) (by omega) (by decide : ((4 : Int32)).toInt = 4) (by decide); have := ti_mul2 (by decide : ((8 : Int32)).toInt = 8) (Eq.refl (x19_6 - x19_6 / (4 : Int32) * (4 : Int32)).toInt) (by omega) (by omega); have := ti_sub2 (by decide : ((24 : Int32)).toInt = 24) (Eq.refl ((8 : Int32) * (x19_6 - x19_6 / (4 : Int32) * (4 : Int32))).toInt) (by omega) (by omega); have := nb_i2b ((x19_3.toUInt32 >>> (((24 : Int32) - ((8 : Int32) * (x19_6 - x19_6 / (4 : Int32) * (4 : Int32)))).toUInt32 &&& Int32.toUInt32 31)).toInt32); have := nb_byteq (x := ((Int32.toInt8 ((x19_3.toUInt32 >>> (((24 : Int32) - ((8 : Int32) * (x19_6 - x19_6 / (4 : Int32) * (4 : Int32)))).toUInt32 &&& Int32.toUInt32 31)).toInt32)).toInt32)) (by omega) (by omega); have := bd_127_1 hI; have := (by decide : ((20 : Int32)).toInt = 20); have := (by decide : ((4 : Int32)).toInt = 4); have := (by decide : ((8 : Int32)).toInt = 8); have := (by decide : ((12 : Int32)).toInt = 12); omega
            have hI3950 : BND (sI w 128 ((w.1 127 1).toInt.toNat) (vp_nar .byte ((Int32.toInt8 ((x19_3.toUInt32 >>> (((24 : Int32) - ((8 : Int32) * (x19_6 - x19_6 / (4 : Int32) * (4 : Int32)))).toUInt32 &&& Int32.toUInt32 31)).toInt32)).toInt32))) := wbd_128 hI ((w.1 127 1).toInt.toNat) o3951.1 o3951.2
            have o3953 : 0 ≤ ((w.1 127 1) + (1 : Int32)).toInt ∧ ((w.1 127 1) + (1 : Int32)).toInt ≤ 4020 := by have := bd_127_1 hI; have := ti_add2 (Eq.refl (w.1 127 1).toInt) (by decide : ((1 : Int32)).toInt = 1) (by omega) (by omega); have := (by decide : ((20 : Int32)).toInt = 20); have := (by decide : ((4 : Int32)).toInt = 4); have := (by decide : ((8 : Int32)).toInt = 8); have := (by decide : ((12 : Int32)).toInt = 12); omega
            have hI3952 : BND (sI (sI w 128 ((w.1 127 1).toInt.toNat) (vp_nar .byte ((Int32.toInt8 ((x19_3.toUInt32 >>> (((24 : Int32) - ((8 : Int32) * (x19_6 - x19_6 / (4 : Int32) * (4 : Int32)))).toUInt32 &&& Int32.toUInt32 31)).toInt32)).toInt32))) 127 1 ((w.1 127 1) + (1 : Int32))) := wbd_127_1 hI3950 o3953.1 o3953.2
            have o3954 : (0 ≤ (x19_6 + (1 : Int32)).toInt) ∧ ((x19_6 + (1 : Int32)).toInt ≤ 20) ∧ (((sI (sI w 128 ((w.1 127 1).toInt.toNat) (vp_nar .byte ((Int32.toInt8 ((x19_3.toUInt32 >>> (((24 : Int32) - ((8 : Int32) * (x19_6 - x19_6 / (4 : Int32) * (4 : Int32)))).toUInt32 &&& Int32.toUInt32 31)).toInt32)).toInt32))) 127 1 ((w.1 127 1) + (1 : Int32))).1 127 1).toInt + 20 - (x19_6 + (1 : Int32)).toInt ≤ 4020) := by have := ti_add2 (Eq.refl x19_6.toInt) (by decide : ((1 : Int32)).toInt = 1) (by omega) (by omega); have := bd_127_1 hI; have := ti_add2 (Eq.refl (w.1 127 1).toInt) (by decide : ((1 : Int32)).toInt = 1) (by omega) (by omega); have : ((sI (sI w 128 ((w.1 127 1).toInt.toNat) (vp_nar .byte ((Int32.toInt8 ((x19_3.toUInt32 >>> (((24 : Int32) - ((8 : Int32) * (x19_6 - x19_6 / (4 : Int32) * (4 : Int32)))).toUInt32 &&& Int32.toUInt32 31)).toInt32)).toInt32))) 127 1 ((w.1 127 1) + (1 : Int32))).1 127 1).toInt = ((w.1 127 1) + (1 : Int32)).toInt := rfl; have := (by decide : ((20 : Int32)).toInt = 20); have := (by decide : ((4 : Int32)).toInt = 4); have := (by decide : ((8 : Int32)).toInt = 8); have := (by decide : ((12 : Int32)).toInt = 12); exact ⟨by omega, by omega, by omega⟩
            exact ih _ (sI (sI w 128 ((w.1 127 1).toInt.toNat) (vp_nar .byte ((Int32.toInt8 ((x19_3.toUInt32 >>> (((24 : Int32) - ((8 : Int32) * (x19_6 - x19_6 / (4 : Int32) * (4 : Int32)))).toUInt32 &&& Int32.toUInt32 31)).toInt32)).toInt32))) 127 1 ((w.1 127 1) + (1 : Int32))) hI3952  o3954.1 o3954.2.1 o3954.2.2 (by have := ti_add2 (Eq.refl x19_6.toInt) (by decide : ((1 : Int32)).toInt = 1) (by omega) (by omega); have := bd_127_1 hI; have := (by decide : ((20 : Int32)).toInt = 20); have := (by decide : ((4 : Int32)).toInt = 4); have := (by decide : ((8 : Int32)).toInt = 8); have := (by decide : ((12 : Int32)).toInt = 12); omega) (fun w9 hI9 hF9 => hE w9 hI9 ((FR.I (FR.I (FR.refl _ w) (k := 128) (j := (w.1 127 1).toInt.toNat) (v := (vp_nar .byte ((Int32.toInt8 ((x19_3.toUInt32 >>> (((24 : Int32) - ((8 : Int32) * (x19_6 - x19_6 / (4 : Int32) * (4 : Int32)))).toUInt32 &&& Int32.toUInt32 31)).toInt32)).toInt32))) rfl) (k := 127) (j := 1) (v := ((w.1 127 1) + (1 : Int32))) rfl).tr hF9 rfl) ) (fun r w9 hI9 hF9 q0 => q0.elim)
        · refine Eq.mpr (q_Mo_feed_72.eq_1 _ _ _ _ _ _ _ _ _ _ _) ?_
          have o3955 : 0 ≤ (w.1 127 1).toInt ∧ (w.1 127 1).toInt < 4020 := by have := bd_127_1 hI; have := (by decide : ((20 : Int32)).toInt = 20); have := (by decide : ((4 : Int32)).toInt = 4); have := (by decide : ((8 : Int32)).toInt = 8); omega
          refine ⟨o3955, ?_⟩
          have o3957 : (-128) ≤ (vp_nar .byte ((Int32.toInt8 ((x19_2.toUInt32 >>> (((24 : Int32) - ((8 : Int32) * (x19_6 - x19_6 / (4 : Int32) * (4 : Int32)))).toUInt32 &&& Int32.toUInt32 31)).toInt32)).toInt32)).toInt ∧ (vp_nar .byte ((Int32.toInt8 ((x19_2.toUInt32 >>> (((24 : Int32) - ((8 : Int32) * (x19_6 - x19_6 / (4 : Int32) * (4 : Int32)))).toUInt32 &&& Int32.toUInt32 31)).toInt32)).toInt32)).toInt ≤ 127 := by have := ti_lo ((x19_2.toUInt32 >>> (((24 : Int32) - ((8 : Int32) * (x19_6 - x19_6 / (4 : Int32) * (4 : Int32)))).toUInt32 &&& Int32.toUInt32 31)).toInt32); have := ti_hi ((x19_2.toUInt32 >>> (((24 : Int32) - ((8 : Int32) * (x19_6 - x19_6 / (4 : Int32) * (4 : Int32)))).toUInt32 &&& Int32.toUInt32 31)).toInt32); have := ti_lo x19_2; have := ti_hi x19_2; have := nb_rem (x := x19_6) (by omega) (by decide : ((4 : Int32)).toInt = 4) (by decide); have := ti_mul2 (by decide : ((8 : Int32)).toInt = 8) (Eq.refl (x19_6 - x19_6 / (4 : Int32) * (4 : Int32)).toInt) (by omega) (by omega); have := ti_sub2 (by decide : ((24 : Int32)).toInt = 24) (Eq.refl ((8 : Int32) * (x19_6 - x19_6 / (4 : Int32) * (4 : Int32))).toInt) (by omega) (by omega); have := nb_i2b ((x19_2.toUInt32 >>> (((24 : Int32) - ((8 : Int32) * (x19_6 - x19_6 / (4 : Int32) * (4 : Int32)))).toUInt32 &&& Int32.toUInt32 31)).toInt32); have := nb_byteq (x := ((Int32.toInt8 ((x19_2.toUInt32 >>> (((24 : Int32) - ((8 : Int32) * (x19_6 - x19_6 / (4 : Int32) * (4 : Int32)))).toUInt32 &&& Int32.toUInt32 31)).toInt32)).toInt32)) (by omega) (by omega); have := bd_127_1 hI; have := (by decide : ((20 : Int32)).toInt = 20); have := (by decide : ((4 : Int32)).toInt = 4); have := (by decide : ((8 : Int32)).toInt = 8); omega
          have hI3956 : BND (sI w 128 ((w.1 127 1).toInt.toNat) (vp_nar .byte ((Int32.toInt8 ((x19_2.toUInt32 >>> (((24 : Int32) - ((8 : Int32) * (x19_6 - x19_6 / (4 : Int32) * (4 : Int32)))).toUInt32 &&& Int32.toUInt32 31)).toInt32)).toInt32))) := wbd_128 hI ((w.1 127 1).toInt.toNat) o3957.1 o3957.2
          have o3959 : 0 ≤ ((w.1 127 1) + (1 : Int32)).toInt ∧ ((w.1 127 1) + (1 : Int32)).toInt ≤ 4020 := by have := bd_127_1 hI; have := ti_add2 (Eq.refl (w.1 127 1).toInt) (by decide : ((1 : Int32)).toInt = 1) (by omega) (by omega); have := (by decide : ((20 : Int32)).toInt = 20); have := (by decide : ((4 : Int32)).toInt = 4); have := (by decide : ((8 : Int32)).toInt = 8); omega
          have hI3958 : BND (sI (sI w 128 ((w.1 127 1).toInt.toNat) (vp_nar .byte ((Int32.toInt8 ((x19_2.toUInt32 >>> (((24 : Int32) - ((8 : Int32) * (x19_6 - x19_6 / (4 : Int32) * (4 : Int32)))).toUInt32 &&& Int32.toUInt32 31)).toInt32)).toInt32))) 127 1 ((w.1 127 1) + (1 : Int32))) := wbd_127_1 hI3956 o3959.1 o3959.2
          have o3960 : (0 ≤ (x19_6 + (1 : Int32)).toInt) ∧ ((x19_6 + (1 : Int32)).toInt ≤ 20) ∧ (((sI (sI w 128 ((w.1 127 1).toInt.toNat) (vp_nar .byte ((Int32.toInt8 ((x19_2.toUInt32 >>> (((24 : Int32) - ((8 : Int32) * (x19_6 - x19_6 / (4 : Int32) * (4 : Int32)))).toUInt32 &&& Int32.toUInt32 31)).toInt32)).toInt32))) 127 1 ((w.1 127 1) + (1 : Int32))).1 127 1).toInt + 20 - (x19_6 + (1 : Int32)).toInt ≤ 4020) := by have := ti_add2 (Eq.refl x19_6.toInt) (by decide : ((1 : Int32)).toInt = 1) (by omega) (by omega); have := bd_127_1 hI; have := ti_add2 (Eq.refl (w.1 127 1).toInt) (by decide : ((1 : Int32)).toInt = 1) (by omega) (by omega); have : ((sI (sI w 128 ((w.1 127 1).toInt.toNat) (vp_nar .byte ((Int32.toInt8 ((x19_2.toUInt32 >>> (((24 : Int32) - ((8 : Int32) * (x19_6 - x19_6 / (4 : Int32) * (4 : Int32)))).toUInt32 &&& Int32.toUInt32 31)).toInt32)).toInt32))) 127 1 ((w.1 127 1) + (1 : Int32))).1 127 1).toInt = ((w.1 127 1) + (1 : Int32)).toInt := rfl; have := (by decide : ((20 : Int32)).toInt = 20); have := (by decide : ((4 : Int32)).toInt = 4); have := (by decide : ((8 : Int32)).toInt = 8); exact ⟨by omega, by omega, by omega⟩
          exact ih _ (sI (sI w 128 ((w.1 127 1).toInt.toNat) (vp_nar .byte ((Int32.toInt8 ((x19_2.toUInt32 >>> (((24 : Int32) - ((8 : Int32) * (x19_6 - x19_6 / (4 : Int32) * (4 : Int32)))).toUInt32 &&& Int32.toUInt32 31)).toInt32)).toInt32))) 127 1 ((w.1 127 1) + (1 : Int32))) hI3958  o3960.1 o3960.2.1 o3960.2.2 (by have := ti_add2 (Eq.refl x19_6.toInt) (by decide : ((1 : Int32)).toInt = 1) (by omega) (by omega); have := bd_127_1 hI; have := (by decide : ((20 : Int32)).toInt = 20); have := (by decide : ((4 : Int32)).toInt = 4); have := (by decide : ((8 : Int32)).toInt = 8); omega) (fun w9 hI9 hF9 => hE w9 hI9 ((FR.I (FR.I (FR.refl _ w) (k := 128) (j := (w.1 127 1).toInt.toNat) (v := (vp_nar .byte ((Int32.toInt8 ((x19_2.toUInt32 >>> (((24 : Int32) - ((8 : Int32) * (x19_6 - x19_6 / (4 : Int32) * (4 : Int32)))).toUInt32 &&& Int32.toUInt32 31)).toInt32)).toInt32))) rfl) (k := 127) (j := 1) (v := ((w.1 127 1) + (1 : Int32))) rfl).tr hF9 rfl) ) (fun r w9 hI9 hF9 q0 => q0.elim)
      · refine Eq.mpr (q_Mo_feed_72.eq_1 _ _ _ _ _ _ _ _ _ _ _) ?_
        have o3961 : 0 ≤ (w.1 127 1).toInt ∧ (w.1 127 1).toInt < 4020 := by have := bd_127_1 hI; have := (by decide : ((20 : Int32)).toInt = 20); have := (by decide : ((4 : Int32)).toInt = 4); omega
        refine ⟨o3961, ?_⟩
        have o3963 : (-128) ≤ (vp_nar .byte ((Int32.toInt8 ((x19_1.toUInt32 >>> (((24 : Int32) - ((8 : Int32) * (x19_6 - x19_6 / (4 : Int32) * (4 : Int32)))).toUInt32 &&& Int32.toUInt32 31)).toInt32)).toInt32)).toInt ∧ (vp_nar .byte ((Int32.toInt8 ((x19_1.toUInt32 >>> (((24 : Int32) - ((8 : Int32) * (x19_6 - x19_6 / (4 : Int32) * (4 : Int32)))).toUInt32 &&& Int32.toUInt32 31)).toInt32)).toInt32)).toInt ≤ 127 := by have := ti_lo ((x19_1.toUInt32 >>> (((24 : Int32) - ((8 : Int32) * (x19_6 - x19_6 / (4 : Int32) * (4 : Int32)))).toUInt32 &&& Int32.toUInt32 31)).toInt32); have := ti_hi ((x19_1.toUInt32 >>> (((24 : Int32) - ((8 : Int32) * (x19_6 - x19_6 / (4 : Int32) * (4 : Int32)))).toUInt32 &&& Int32.toUInt32 31)).toInt32); have := ti_lo x19_1; have := ti_hi x19_1; have := nb_rem (x := x19_6) (by omega) (by decide : ((4 : Int32)).toInt = 4) (by decide); have := ti_mul2 (by decide : ((8 : Int32)).toInt = 8) (Eq.refl (x19_6 - x19_6 / (4 : Int32) * (4 : Int32)).toInt) (by omega) (by omega); have := ti_sub2 (by decide : ((24 : Int32)).toInt = 24) (Eq.refl ((8 : Int32) * (x19_6 - x19_6 / (4 : Int32) * (4 : Int32))).toInt) (by omega) (by omega); have := nb_i2b ((x19_1.toUInt32 >>> (((24 : Int32) - ((8 : Int32) * (x19_6 - x19_6 / (4 : Int32) * (4 : Int32)))).toUInt32 &&& Int32.toUInt32 31)).toInt32); have := nb_byteq (x := ((Int32.toInt8 ((x19_1.toUInt32 >>> (((24 : Int32) - ((8 : Int32) * (x19_6 - x19_6 / (4 : Int32) * (4 : Int32)))).toUInt32 &&& Int32.toUInt32 31)).toInt32)).toInt32)) (by omega) (by omega); have := bd_127_1 hI; have := (by decide : ((20 : Int32)).toInt = 20); have := (by decide : ((4 : Int32)).toInt = 4); omega
        have hI3962 : BND (sI w 128 ((w.1 127 1).toInt.toNat) (vp_nar .byte ((Int32.toInt8 ((x19_1.toUInt32 >>> (((24 : Int32) - ((8 : Int32) * (x19_6 - x19_6 / (4 : Int32) * (4 : Int32)))).toUInt32 &&& Int32.toUInt32 31)).toInt32)).toInt32))) := wbd_128 hI ((w.1 127 1).toInt.toNat) o3963.1 o3963.2
        have o3965 : 0 ≤ ((w.1 127 1) + (1 : Int32)).toInt ∧ ((w.1 127 1) + (1 : Int32)).toInt ≤ 4020 := by have := bd_127_1 hI; have := ti_add2 (Eq.refl (w.1 127 1).toInt) (by decide : ((1 : Int32)).toInt = 1) (by omega) (by omega); have := (by decide : ((20 : Int32)).toInt = 20); have := (by decide : ((4 : Int32)).toInt = 4); omega
        have hI3964 : BND (sI (sI w 128 ((w.1 127 1).toInt.toNat) (vp_nar .byte ((Int32.toInt8 ((x19_1.toUInt32 >>> (((24 : Int32) - ((8 : Int32) * (x19_6 - x19_6 / (4 : Int32) * (4 : Int32)))).toUInt32 &&& Int32.toUInt32 31)).toInt32)).toInt32))) 127 1 ((w.1 127 1) + (1 : Int32))) := wbd_127_1 hI3962 o3965.1 o3965.2
        have o3966 : (0 ≤ (x19_6 + (1 : Int32)).toInt) ∧ ((x19_6 + (1 : Int32)).toInt ≤ 20) ∧ (((sI (sI w 128 ((w.1 127 1).toInt.toNat) (vp_nar .byte ((Int32.toInt8 ((x19_1.toUInt32 >>> (((24 : Int32) - ((8 : Int32) * (x19_6 - x19_6 / (4 : Int32) * (4 : Int32)))).toUInt32 &&& Int32.toUInt32 31)).toInt32)).toInt32))) 127 1 ((w.1 127 1) + (1 : Int32))).1 127 1).toInt + 20 - (x19_6 + (1 : Int32)).toInt ≤ 4020) := by have := ti_add2 (Eq.refl x19_6.toInt) (by decide : ((1 : Int32)).toInt = 1) (by omega) (by omega); have := bd_127_1 hI; have := ti_add2 (Eq.refl (w.1 127 1).toInt) (by decide : ((1 : Int32)).toInt = 1) (by omega) (by omega); have : ((sI (sI w 128 ((w.1 127 1).toInt.toNat) (vp_nar .byte ((Int32.toInt8 ((x19_1.toUInt32 >>> (((24 : Int32) - ((8 : Int32) * (x19_6 - x19_6 / (4 : Int32) * (4 : Int32)))).toUInt32 &&& Int32.toUInt32 31)).toInt32)).toInt32))) 127 1 ((w.1 127 1) + (1 : Int32))).1 127 1).toInt = ((w.1 127 1) + (1 : Int32)).toInt := rfl; have := (by decide : ((20 : Int32)).toInt = 20); have := (by decide : ((4 : Int32)).toInt = 4); exact ⟨by omega, by omega, by omega⟩
        exact ih _ (sI (sI w 128 ((w.1 127 1).toInt.toNat) (vp_nar .byte ((Int32.toInt8 ((x19_1.toUInt32 >>> (((24 : Int32) - ((8 : Int32) * (x19_6 - x19_6 / (4 : Int32) * (4 : Int32)))).toUInt32 &&& Int32.toUInt32 31)).toInt32)).toInt32))) 127 1 ((w.1 127 1) + (1 : Int32))) hI3964  o3966.1 o3966.2.1 o3966.2.2 (by have := ti_add2 (Eq.refl x19_6.toInt) (by decide : ((1 : Int32)).toInt = 1) (by omega) (by omega); have := bd_127_1 hI; have := (by decide : ((20 : Int32)).toInt = 20); have := (by decide : ((4 : Int32)).toInt = 4); omega) (fun w9 hI9 hF9 => hE w9 hI9 ((FR.I (FR.I (FR.refl _ w) (k := 128) (j := (w.1 127 1).toInt.toNat) (v := (vp_nar .byte ((Int32.toInt8 ((x19_1.toUInt32 >>> (((24 : Int32) - ((8 : Int32) * (x19_6 - x19_6 / (4 : Int32) * (4 : Int32)))).toUInt32 &&& Int32.toUInt32 31)).toInt32)).toInt32))) rfl) (k := 127) (j := 1) (v := ((w.1 127 1) + (1 : Int32))) rfl).tr hF9 rfl) ) (fun r w9 hI9 hF9 q0 => q0.elim)
set_option maxRecDepth 20000 in
set_option maxHeartbeats 2000000 in
theorem h_Mo_feed {w : MW} {a0 : Int32} {b0 : Int32} {c0 : Int32} {e0 : Int32} {f0 : Int32} {Q : Int32 → MW → Prop} (hI : BND w)  (hQ : ∀ (r : Int32) (w' : MW), BND w' → FR l_Mo_feed w w' → (-2) ≤ r.toInt → r.toInt ≤ 4020 → Q r w') : p_Mo_feed w a0 b0 c0 e0 f0 Q := by
  refine Eq.mpr (p_Mo_feed.eq_1 _ _ _ _ _ _ _) ?_
  refine ⟨fun h3967 => ?_, fun h3967 => ?_⟩
  · have o3968 : (0 ≤ (0 : Int32).toInt) ∧ ((0 : Int32).toInt ≤ 20) ∧ ((w.1 127 1).toInt + 20 - (0 : Int32).toInt ≤ 4020) := by have := ti_lo a0; have := ti_hi a0; have := ti_lo b0; have := ti_hi b0; have := ti_lo c0; have := ti_hi c0; have := ti_lo e0; have := ti_hi e0; have := ti_lo f0; have := ti_hi f0; have := (by decide : ((0 : Int32)).toInt = 0); have := bd_127_1 hI; have := ti_add2 (Eq.refl (w.1 127 1).toInt) (by decide : ((20 : Int32)).toInt = 20) (by omega) (by omega); have := (by decide : ((4020 : Int32)).toInt = 4020); exact ⟨by omega, by omega, by omega⟩
    refine hq_Mo_feed_19 FU _ w hI  o3968.1 o3968.2.1 o3968.2.2 (fu_lt (by have := ti_lo a0; have := ti_hi a0; have := ti_lo b0; have := ti_hi b0; have := ti_lo c0; have := ti_hi c0; have := ti_lo e0; have := ti_hi e0; have := ti_lo f0; have := ti_hi f0; have := (by decide : ((0 : Int32)).toInt = 0); omega)) (fun w3969 hI3970 hL3971  => ?_) (fun r w9 hI9 hF9 q0 => q0.elim)
    have hF3972 : FR l_Mo_feed w w3969 := (FR.refl _ w).tr hL3971 rfl
    have o3973 : ((-2) ≤ (w3969.1 127 1).toInt) ∧ ((w3969.1 127 1).toInt ≤ 4020) := by have := bd_127_1 hI3970; have := bd_127_1 hI; have := ti_add2 (Eq.refl (w.1 127 1).toInt) (by decide : ((20 : Int32)).toInt = 20) (by omega) (by omega); have := (by decide : ((4020 : Int32)).toInt = 4020); exact ⟨by omega, by omega⟩
    exact hQ _ _ hI3970 hF3972  o3973.1 o3973.2
  · have o3974 : ((-2) ≤ ((-2) : Int32).toInt) ∧ (((-2) : Int32).toInt ≤ 4020) := by have := (by decide : (((-2) : Int32)).toInt = (-2)); exact ⟨by omega, by omega⟩
    exact hQ _ _ hI (FR.refl _ w)  o3974.1 o3974.2
def l_Mo_held_2 : Pl := []
def l_Mo_held : Pl := []
set_option maxRecDepth 20000 in
set_option maxHeartbeats 2000000 in
theorem hq_Mo_held_2 {x2_1 : Int32} {E : MW → Prop} {Q : Int32 → MW → Prop} (n : Nat) : ∀ (x2_2 : Int32) (w : MW), BND w → 0 ≤ x2_1.toInt → x2_1.toInt ≤ 19 → 0 ≤ x2_2.toInt → x2_2.toInt ≤ 24 → (24 - x2_2.toInt).toNat < n → (∀ (w' : MW), BND w' → FR l_Mo_held_2 w w' → E w') → (∀ (r : Int32) (w' : MW), BND w' → FR l_Mo_held_2 w w' → 0 ≤ r.toInt → r.toInt ≤ 9 → Q r w') → q_Mo_held_2 x2_1 E Q n x2_2 w := by
  induction n with
  | zero => intros; omega
  | succ n ih =>
    intro x2_2 w hI  hp0 hp1 hp2 hp3 hm hE hQ
    rw [q_Mo_held_2.eq_2]
    refine ⟨fun h3975 => ?_, fun h3975 => ?_⟩
    · exact hE _ hI (FR.refl _ w)
    · have o3976 : 0 ≤ (((20 : Int32) * x2_2) + x2_1).toInt ∧ (((20 : Int32) * x2_2) + x2_1).toInt < 480 := by have := ti_mul2 (by decide : ((20 : Int32)).toInt = 20) (Eq.refl x2_2.toInt) (by omega) (by omega); have := ti_add2 (Eq.refl ((20 : Int32) * x2_2).toInt) (Eq.refl x2_1.toInt) (by omega) (by omega); have := bd_127_26 hI; omega
      refine ⟨o3976, ?_⟩
      refine ⟨fun h3977 => ?_, fun h3977 => ?_⟩
      · have o3978 : (0 ≤ x2_1.toInt) ∧ (x2_1.toInt ≤ 19) ∧ (0 ≤ (x2_2 + (1 : Int32)).toInt) ∧ ((x2_2 + (1 : Int32)).toInt ≤ 24) := by have := ti_add2 (Eq.refl x2_2.toInt) (by decide : ((1 : Int32)).toInt = 1) (by omega) (by omega); have := bd_127_26 hI; exact ⟨by omega, by omega, by omega, by omega⟩
        exact ih _ w hI  o3978.1 o3978.2.1 o3978.2.2.1 o3978.2.2.2 (by have := ti_add2 (Eq.refl x2_2.toInt) (by decide : ((1 : Int32)).toInt = 1) (by omega) (by omega); have := bd_127_26 hI; omega) (fun w9 hI9 hF9 => hE w9 hI9 ((FR.refl _ w).tr hF9 rfl) ) (fun r w9 hI9 hF9 q0 q1 => hQ r w9 hI9 ((FR.refl _ w).tr hF9 rfl) (by have := ti_add2 (Eq.refl x2_2.toInt) (by decide : ((1 : Int32)).toInt = 1) (by omega) (by omega); have := bd_127_26 hI; omega) (by have := ti_add2 (Eq.refl x2_2.toInt) (by decide : ((1 : Int32)).toInt = 1) (by omega) (by omega); have := bd_127_26 hI; omega))
      · have o3979 : 0 ≤ (((20 : Int32) * x2_2) + x2_1).toInt ∧ (((20 : Int32) * x2_2) + x2_1).toInt < 480 := by have := ti_mul2 (by decide : ((20 : Int32)).toInt = 20) (Eq.refl x2_2.toInt) (by omega) (by omega); have := ti_add2 (Eq.refl ((20 : Int32) * x2_2).toInt) (Eq.refl x2_1.toInt) (by omega) (by omega); have := bd_127_26 hI; omega
        refine ⟨o3979, ?_⟩
        have o3980 : (0 ≤ (w.1 187 ((((20 : Int32) * x2_2) + x2_1).toInt.toNat)).toInt) ∧ ((w.1 187 ((((20 : Int32) * x2_2) + x2_1).toInt.toNat)).toInt ≤ 9) := by have := bd_187 hI ((((20 : Int32) * x2_2) + x2_1).toInt.toNat); have := (by decide : (((-1) : Int32)).toInt = (-1)); exact ⟨by omega, by omega⟩
        exact hQ _ _ hI (FR.refl _ w)  o3980.1 o3980.2
set_option maxRecDepth 20000 in
set_option maxHeartbeats 2000000 in
theorem h_Mo_held {w : MW} {a0 : Int32} {Q : Int32 → MW → Prop} (hI : BND w) (hp0 : 0 ≤ a0.toInt) (hp1 : a0.toInt ≤ 19) (hQ : ∀ (r : Int32) (w' : MW), BND w' → FR l_Mo_held w w' → (-1) ≤ r.toInt → r.toInt ≤ 9 → Q r w') : p_Mo_held w a0 Q := by
  refine Eq.mpr (p_Mo_held.eq_1 _ _ _) ?_
  have o3981 : (0 ≤ a0.toInt) ∧ (a0.toInt ≤ 19) ∧ (0 ≤ (0 : Int32).toInt) ∧ ((0 : Int32).toInt ≤ 24) := by have := (by decide : ((0 : Int32)).toInt = 0); exact ⟨by omega, by omega, by omega, by omega⟩
  refine hq_Mo_held_2 FU _ w hI  o3981.1 o3981.2.1 o3981.2.2.1 o3981.2.2.2 (fu_lt (by have := (by decide : ((0 : Int32)).toInt = 0); omega)) (fun w3982 hI3983 hL3984  => ?_) (fun r w9 hI9 hF9 q0 q1 => hQ r w9 hI9 (((FR.refl _ w)).tr hF9 rfl) (by have := (by decide : ((0 : Int32)).toInt = 0); omega) (by have := (by decide : ((0 : Int32)).toInt = 0); omega))
  have hF3985 : FR l_Mo_held w w3982 := (FR.refl _ w).tr hL3984 rfl
  have o3986 : ((-1) ≤ ((-1) : Int32).toInt) ∧ (((-1) : Int32).toInt ≤ 9) := by have := (by decide : (((-1) : Int32)).toInt = (-1)); exact ⟨by omega, by omega⟩
  exact hQ _ _ hI3983 hF3985  o3986.1 o3986.2
def l_Mo_close_40 : Pl := [(167, none), (187, none)]
def l_Mo_close_2 : Pl := [(167, none), (187, none)]
def l_Mo_close_177 : Pl := [(186, none)]
def l_Mo_close_215 : Pl := [(187, none)]
def l_Mo_close_95 : Pl := [(181, none), (182, none), (183, none), (184, none), (185, none), (186, none), (187, none)]
def l_Mo_close : Pl := [(127, some 26), (167, none), (181, none), (182, none), (183, none), (184, none), (185, none), (186, none), (187, none)]
set_option maxRecDepth 20000 in
set_option maxHeartbeats 2000000 in
theorem hq_Mo_close_2 {x2_1 : Int32} {E : MW → Prop} {Q : MW → Prop} (n : Nat) : ∀ (x2_2 : Int32) (w : MW), BND w → 0 ≤ x2_1.toInt → x2_1.toInt ≤ 23 → 0 ≤ x2_2.toInt → x2_2.toInt ≤ 20 → (20 - x2_2.toInt).toNat < n → (∀ (w' : MW), BND w' → FR l_Mo_close_2 w w' → E w') → (∀ (w' : MW), BND w' → FR l_Mo_close_2 w w' → False → Q w') → q_Mo_close_2 x2_1 E Q n x2_2 w := by
  induction n with
  | zero => intros; omega
  | succ n ih =>
    intro x2_2 w hI  hp0 hp1 hp2 hp3 hm hE hQ
    rw [q_Mo_close_2.eq_2]
    refine ⟨fun h3987 => ?_, fun h3987 => ?_⟩
    · exact hE _ hI (FR.refl _ w)
    · have o3988 : 0 ≤ (((20 : Int32) * x2_1) + x2_2).toInt ∧ (((20 : Int32) * x2_1) + x2_2).toInt < 480 := by have := ti_mul2 (by decide : ((20 : Int32)).toInt = 20) (Eq.refl x2_1.toInt) (by omega) (by omega); have := ti_add2 (Eq.refl ((20 : Int32) * x2_1).toInt) (Eq.refl x2_2.toInt) (by omega) (by omega); have := bd_127_4 hI; omega
      refine ⟨o3988, ?_⟩
      refine ⟨fun h3989 => ?_, fun h3989 => ?_⟩
      · refine Eq.mpr (q_Mo_close_40.eq_1 _ _ _ _ _ _ _) ?_
        have o3990 : 0 ≤ (((20 : Int32) * x2_1) + x2_2).toInt ∧ (((20 : Int32) * x2_1) + x2_2).toInt < 480 := by have := ti_mul2 (by decide : ((20 : Int32)).toInt = 20) (Eq.refl x2_1.toInt) (by omega) (by omega); have := ti_add2 (Eq.refl ((20 : Int32) * x2_1).toInt) (Eq.refl x2_2.toInt) (by omega) (by omega); have := bd_127_4 hI; omega
        refine ⟨o3990, ?_⟩
        refine ⟨fun _ => ?_, fun h => absurd (by decide) h⟩
        have hI3991 : BND (sI w 187 ((((20 : Int32) * x2_1) + x2_2).toInt.toNat) (-1)) := wbd_187 hI ((((20 : Int32) * x2_1) + x2_2).toInt.toNat) (by decide) (by decide)
        have o3992 : (0 ≤ x2_1.toInt) ∧ (x2_1.toInt ≤ 23) ∧ (0 ≤ (x2_2 + (1 : Int32)).toInt) ∧ ((x2_2 + (1 : Int32)).toInt ≤ 20) := by have := ti_add2 (Eq.refl x2_2.toInt) (by decide : ((1 : Int32)).toInt = 1) (by omega) (by omega); have := bd_127_4 hI; exact ⟨by omega, by omega, by omega, by omega⟩
        exact ih _ (sI w 187 ((((20 : Int32) * x2_1) + x2_2).toInt.toNat) (-1)) hI3991  o3992.1 o3992.2.1 o3992.2.2.1 o3992.2.2.2 (by have := ti_add2 (Eq.refl x2_2.toInt) (by decide : ((1 : Int32)).toInt = 1) (by omega) (by omega); have := bd_127_4 hI; omega) (fun w9 hI9 hF9 => hE w9 hI9 ((FR.I (FR.refl _ w) (k := 187) (j := (((20 : Int32) * x2_1) + x2_2).toInt.toNat) (v := (-1)) rfl).tr hF9 rfl) ) (fun w9 hI9 hF9 q0 => q0.elim)
      · have o3993 : 0 ≤ x2_2.toInt ∧ x2_2.toInt < 20 := by have := bd_127_4 hI; omega
        refine ⟨o3993, ?_⟩
        refine ⟨fun h3994 => ?_, fun h3994 => ?_⟩
        · refine Eq.mpr (q_Mo_close_40.eq_1 _ _ _ _ _ _ _) ?_
          have o3995 : 0 ≤ (((20 : Int32) * x2_1) + x2_2).toInt ∧ (((20 : Int32) * x2_1) + x2_2).toInt < 480 := by have := ti_mul2 (by decide : ((20 : Int32)).toInt = 20) (Eq.refl x2_1.toInt) (by omega) (by omega); have := ti_add2 (Eq.refl ((20 : Int32) * x2_1).toInt) (Eq.refl x2_2.toInt) (by omega) (by omega); have := bd_127_4 hI; omega
          refine ⟨o3995, ?_⟩
          refine ⟨fun _ => ?_, fun h => absurd (by decide) h⟩
          have hI3996 : BND (sI w 187 ((((20 : Int32) * x2_1) + x2_2).toInt.toNat) (-1)) := wbd_187 hI ((((20 : Int32) * x2_1) + x2_2).toInt.toNat) (by decide) (by decide)
          have o3997 : (0 ≤ x2_1.toInt) ∧ (x2_1.toInt ≤ 23) ∧ (0 ≤ (x2_2 + (1 : Int32)).toInt) ∧ ((x2_2 + (1 : Int32)).toInt ≤ 20) := by have := ti_add2 (Eq.refl x2_2.toInt) (by decide : ((1 : Int32)).toInt = 1) (by omega) (by omega); have := bd_127_4 hI; exact ⟨by omega, by omega, by omega, by omega⟩
          exact ih _ (sI w 187 ((((20 : Int32) * x2_1) + x2_2).toInt.toNat) (-1)) hI3996  o3997.1 o3997.2.1 o3997.2.2.1 o3997.2.2.2 (by have := ti_add2 (Eq.refl x2_2.toInt) (by decide : ((1 : Int32)).toInt = 1) (by omega) (by omega); have := bd_127_4 hI; omega) (fun w9 hI9 hF9 => hE w9 hI9 ((FR.I (FR.refl _ w) (k := 187) (j := (((20 : Int32) * x2_1) + x2_2).toInt.toNat) (v := (-1)) rfl).tr hF9 rfl) ) (fun w9 hI9 hF9 q0 => q0.elim)
        · refine Eq.mpr (q_Mo_close_40.eq_1 _ _ _ _ _ _ _) ?_
          have o3998 : 0 ≤ (((20 : Int32) * x2_1) + x2_2).toInt ∧ (((20 : Int32) * x2_1) + x2_2).toInt < 480 := by have := ti_mul2 (by decide : ((20 : Int32)).toInt = 20) (Eq.refl x2_1.toInt) (by omega) (by omega); have := ti_add2 (Eq.refl ((20 : Int32) * x2_1).toInt) (Eq.refl x2_2.toInt) (by omega) (by omega); have := bd_127_4 hI; omega
          refine ⟨o3998, ?_⟩
          refine ⟨fun h => absurd h (by decide), fun _ => ?_⟩
          have hI3999 : BND (sI w 187 ((((20 : Int32) * x2_1) + x2_2).toInt.toNat) (-1)) := wbd_187 hI ((((20 : Int32) * x2_1) + x2_2).toInt.toNat) (by decide) (by decide)
          have o4000 : (0 ≤ x2_2.toInt) ∧ (x2_2.toInt ≤ 19) := by have := bd_127_4 hI; exact ⟨by omega, by omega⟩
          refine h_Mo_held hI3999  o4000.1 o4000.2 (fun r4004 w4001 hI4002 hL4003 p4005 p4006 => ?_)
          have hF4007 : FR l_Mo_close_2 w w4001 := (FR.I (FR.refl _ w) (k := 187) (j := (((20 : Int32) * x2_1) + x2_2).toInt.toNat) (v := (-1)) rfl).tr hL4003 rfl
          refine ⟨fun h4008 => ?_, fun h4008 => ?_⟩
          · have o4009 : (0 ≤ x2_1.toInt) ∧ (x2_1.toInt ≤ 23) ∧ (0 ≤ (x2_2 + (1 : Int32)).toInt) ∧ ((x2_2 + (1 : Int32)).toInt ≤ 20) := by have := ti_add2 (Eq.refl x2_2.toInt) (by decide : ((1 : Int32)).toInt = 1) (by omega) (by omega); have := bd_127_4 hI; exact ⟨by omega, by omega, by omega, by omega⟩
            exact ih _ w4001 hI4002  o4009.1 o4009.2.1 o4009.2.2.1 o4009.2.2.2 (by have := ti_add2 (Eq.refl x2_2.toInt) (by decide : ((1 : Int32)).toInt = 1) (by omega) (by omega); have := bd_127_4 hI; omega) (fun w9 hI9 hF9 => hE w9 hI9 (hF4007.tr hF9 rfl) ) (fun w9 hI9 hF9 q0 => q0.elim)
          · have o4010 : 0 ≤ x2_2.toInt ∧ x2_2.toInt < 20 := by have := bd_127_4 hI; omega
            refine ⟨o4010, ?_⟩
            refine ⟨fun h4011 => ?_, fun h4011 => ?_⟩
            · have o4012 : 0 ≤ x2_2.toInt ∧ x2_2.toInt < 20 := by have := bd_127_4 hI; omega
              refine ⟨o4012, ?_⟩
              have hI4013 : BND (sI w4001 167 x2_2.toInt.toNat 0) := wbd_167 hI4002 x2_2.toInt.toNat (by decide) (by decide)
              have o4014 : (0 ≤ x2_1.toInt) ∧ (x2_1.toInt ≤ 23) ∧ (0 ≤ (x2_2 + (1 : Int32)).toInt) ∧ ((x2_2 + (1 : Int32)).toInt ≤ 20) := by have := ti_add2 (Eq.refl x2_2.toInt) (by decide : ((1 : Int32)).toInt = 1) (by omega) (by omega); have := bd_127_4 hI; exact ⟨by omega, by omega, by omega, by omega⟩
              exact ih _ (sI w4001 167 x2_2.toInt.toNat 0) hI4013  o4014.1 o4014.2.1 o4014.2.2.1 o4014.2.2.2 (by have := ti_add2 (Eq.refl x2_2.toInt) (by decide : ((1 : Int32)).toInt = 1) (by omega) (by omega); have := bd_127_4 hI; omega) (fun w9 hI9 hF9 => hE w9 hI9 ((FR.I hF4007 (k := 167) (j := x2_2.toInt.toNat) (v := 0) rfl).tr hF9 rfl) ) (fun w9 hI9 hF9 q0 => q0.elim)
            · have o4015 : 0 ≤ x2_2.toInt ∧ x2_2.toInt < 20 := by have := bd_127_4 hI; omega
              refine ⟨o4015, ?_⟩
              have hI4016 : BND (sI w4001 167 x2_2.toInt.toNat 2) := wbd_167 hI4002 x2_2.toInt.toNat (by decide) (by decide)
              have o4017 : (0 ≤ x2_1.toInt) ∧ (x2_1.toInt ≤ 23) ∧ (0 ≤ (x2_2 + (1 : Int32)).toInt) ∧ ((x2_2 + (1 : Int32)).toInt ≤ 20) := by have := ti_add2 (Eq.refl x2_2.toInt) (by decide : ((1 : Int32)).toInt = 1) (by omega) (by omega); have := bd_127_4 hI; exact ⟨by omega, by omega, by omega, by omega⟩
              exact ih _ (sI w4001 167 x2_2.toInt.toNat 2) hI4016  o4017.1 o4017.2.1 o4017.2.2.1 o4017.2.2.2 (by have := ti_add2 (Eq.refl x2_2.toInt) (by decide : ((1 : Int32)).toInt = 1) (by omega) (by omega); have := bd_127_4 hI; omega) (fun w9 hI9 hF9 => hE w9 hI9 ((FR.I hF4007 (k := 167) (j := x2_2.toInt.toNat) (v := 2) rfl).tr hF9 rfl) ) (fun w9 hI9 hF9 q0 => q0.elim)
set_option maxRecDepth 20000 in
set_option maxHeartbeats 2000000 in
theorem hq_Mo_close_177 {x177_2 : Int32} {E : MW → Prop} {Q : MW → Prop} (n : Nat) : ∀ (x177_3 : Int32) (w : MW), BND w → 0 ≤ x177_2.toInt → x177_2.toInt ≤ 22 → 0 ≤ x177_3.toInt → x177_3.toInt ≤ 24 → (24 - x177_3.toInt).toNat < n → (∀ (w' : MW), BND w' → FR l_Mo_close_177 w w' → E w') → (∀ (w' : MW), BND w' → FR l_Mo_close_177 w w' → False → Q w') → q_Mo_close_177 x177_2 E Q n x177_3 w := by
  induction n with
  | zero => intros; omega
  | succ n ih =>
    intro x177_3 w hI  hp0 hp1 hp2 hp3 hm hE hQ
    rw [q_Mo_close_177.eq_2]
    refine ⟨fun h4018 => ?_, fun h4018 => ?_⟩
    · exact hE _ hI (FR.refl _ w)
    · have o4019 : 0 ≤ (((24 : Int32) * (x177_2 + (1 : Int32))) + x177_3).toInt ∧ (((24 : Int32) * (x177_2 + (1 : Int32))) + x177_3).toInt < 576 := by have := ti_add2 (Eq.refl x177_2.toInt) (by decide : ((1 : Int32)).toInt = 1) (by omega) (by omega); have := ti_mul2 (by decide : ((24 : Int32)).toInt = 24) (Eq.refl (x177_2 + (1 : Int32)).toInt) (by omega) (by omega); have := ti_add2 (Eq.refl ((24 : Int32) * (x177_2 + (1 : Int32))).toInt) (Eq.refl x177_3.toInt) (by omega) (by omega); have := (by decide : ((24 : Int32)).toInt = 24); omega
      refine ⟨o4019, ?_⟩
      have o4020 : 0 ≤ (((24 : Int32) * x177_2) + x177_3).toInt ∧ (((24 : Int32) * x177_2) + x177_3).toInt < 576 := by have := ti_mul2 (by decide : ((24 : Int32)).toInt = 24) (Eq.refl x177_2.toInt) (by omega) (by omega); have := ti_add2 (Eq.refl ((24 : Int32) * x177_2).toInt) (Eq.refl x177_3.toInt) (by omega) (by omega); have := (by decide : ((24 : Int32)).toInt = 24); omega
      refine ⟨o4020, ?_⟩
      have o4022 : 0 ≤ (w.1 186 ((((24 : Int32) * (x177_2 + (1 : Int32))) + x177_3).toInt.toNat)).toInt ∧ (w.1 186 ((((24 : Int32) * (x177_2 + (1 : Int32))) + x177_3).toInt.toNat)).toInt ≤ 47 := by have := bd_186 hI ((((24 : Int32) * (x177_2 + (1 : Int32))) + x177_3).toInt.toNat); omega
      have hI4021 : BND (sI w 186 ((((24 : Int32) * x177_2) + x177_3).toInt.toNat) (w.1 186 ((((24 : Int32) * (x177_2 + (1 : Int32))) + x177_3).toInt.toNat))) := wbd_186 hI ((((24 : Int32) * x177_2) + x177_3).toInt.toNat) o4022.1 o4022.2
      have o4023 : (0 ≤ x177_2.toInt) ∧ (x177_2.toInt ≤ 22) ∧ (0 ≤ (x177_3 + (1 : Int32)).toInt) ∧ ((x177_3 + (1 : Int32)).toInt ≤ 24) := by have := ti_add2 (Eq.refl x177_3.toInt) (by decide : ((1 : Int32)).toInt = 1) (by omega) (by omega); have := (by decide : ((24 : Int32)).toInt = 24); exact ⟨by omega, by omega, by omega, by omega⟩
      exact ih _ (sI w 186 ((((24 : Int32) * x177_2) + x177_3).toInt.toNat) (w.1 186 ((((24 : Int32) * (x177_2 + (1 : Int32))) + x177_3).toInt.toNat))) hI4021  o4023.1 o4023.2.1 o4023.2.2.1 o4023.2.2.2 (by have := ti_add2 (Eq.refl x177_3.toInt) (by decide : ((1 : Int32)).toInt = 1) (by omega) (by omega); have := (by decide : ((24 : Int32)).toInt = 24); omega) (fun w9 hI9 hF9 => hE w9 hI9 ((FR.I (FR.refl _ w) (k := 186) (j := (((24 : Int32) * x177_2) + x177_3).toInt.toNat) (v := (w.1 186 ((((24 : Int32) * (x177_2 + (1 : Int32))) + x177_3).toInt.toNat))) rfl).tr hF9 rfl) ) (fun w9 hI9 hF9 q0 => q0.elim)
set_option maxRecDepth 20000 in
set_option maxHeartbeats 2000000 in
theorem hq_Mo_close_215 {x215_2 : Int32} {E : MW → Prop} {Q : MW → Prop} (n : Nat) : ∀ (x215_3 : Int32) (w : MW), BND w → 0 ≤ x215_2.toInt → x215_2.toInt ≤ 22 → 0 ≤ x215_3.toInt → x215_3.toInt ≤ 20 → (20 - x215_3.toInt).toNat < n → (∀ (w' : MW), BND w' → FR l_Mo_close_215 w w' → E w') → (∀ (w' : MW), BND w' → FR l_Mo_close_215 w w' → False → Q w') → q_Mo_close_215 x215_2 E Q n x215_3 w := by
  induction n with
  | zero => intros; omega
  | succ n ih =>
    intro x215_3 w hI  hp0 hp1 hp2 hp3 hm hE hQ
    rw [q_Mo_close_215.eq_2]
    refine ⟨fun h4024 => ?_, fun h4024 => ?_⟩
    · exact hE _ hI (FR.refl _ w)
    · have o4025 : 0 ≤ (((20 : Int32) * (x215_2 + (1 : Int32))) + x215_3).toInt ∧ (((20 : Int32) * (x215_2 + (1 : Int32))) + x215_3).toInt < 480 := by have := ti_add2 (Eq.refl x215_2.toInt) (by decide : ((1 : Int32)).toInt = 1) (by omega) (by omega); have := ti_mul2 (by decide : ((20 : Int32)).toInt = 20) (Eq.refl (x215_2 + (1 : Int32)).toInt) (by omega) (by omega); have := ti_add2 (Eq.refl ((20 : Int32) * (x215_2 + (1 : Int32))).toInt) (Eq.refl x215_3.toInt) (by omega) (by omega); have := (by decide : ((20 : Int32)).toInt = 20); omega
      refine ⟨o4025, ?_⟩
      have o4026 : 0 ≤ (((20 : Int32) * x215_2) + x215_3).toInt ∧ (((20 : Int32) * x215_2) + x215_3).toInt < 480 := by have := ti_mul2 (by decide : ((20 : Int32)).toInt = 20) (Eq.refl x215_2.toInt) (by omega) (by omega); have := ti_add2 (Eq.refl ((20 : Int32) * x215_2).toInt) (Eq.refl x215_3.toInt) (by omega) (by omega); have := (by decide : ((20 : Int32)).toInt = 20); omega
      refine ⟨o4026, ?_⟩
      have o4028 : (-1) ≤ (w.1 187 ((((20 : Int32) * (x215_2 + (1 : Int32))) + x215_3).toInt.toNat)).toInt ∧ (w.1 187 ((((20 : Int32) * (x215_2 + (1 : Int32))) + x215_3).toInt.toNat)).toInt ≤ 9 := by have := bd_187 hI ((((20 : Int32) * (x215_2 + (1 : Int32))) + x215_3).toInt.toNat); omega
      have hI4027 : BND (sI w 187 ((((20 : Int32) * x215_2) + x215_3).toInt.toNat) (w.1 187 ((((20 : Int32) * (x215_2 + (1 : Int32))) + x215_3).toInt.toNat))) := wbd_187 hI ((((20 : Int32) * x215_2) + x215_3).toInt.toNat) o4028.1 o4028.2
      have o4029 : (0 ≤ x215_2.toInt) ∧ (x215_2.toInt ≤ 22) ∧ (0 ≤ (x215_3 + (1 : Int32)).toInt) ∧ ((x215_3 + (1 : Int32)).toInt ≤ 20) := by have := ti_add2 (Eq.refl x215_3.toInt) (by decide : ((1 : Int32)).toInt = 1) (by omega) (by omega); have := (by decide : ((20 : Int32)).toInt = 20); exact ⟨by omega, by omega, by omega, by omega⟩
      exact ih _ (sI w 187 ((((20 : Int32) * x215_2) + x215_3).toInt.toNat) (w.1 187 ((((20 : Int32) * (x215_2 + (1 : Int32))) + x215_3).toInt.toNat))) hI4027  o4029.1 o4029.2.1 o4029.2.2.1 o4029.2.2.2 (by have := ti_add2 (Eq.refl x215_3.toInt) (by decide : ((1 : Int32)).toInt = 1) (by omega) (by omega); have := (by decide : ((20 : Int32)).toInt = 20); omega) (fun w9 hI9 hF9 => hE w9 hI9 ((FR.I (FR.refl _ w) (k := 187) (j := (((20 : Int32) * x215_2) + x215_3).toInt.toNat) (v := (w.1 187 ((((20 : Int32) * (x215_2 + (1 : Int32))) + x215_3).toInt.toNat))) rfl).tr hF9 rfl) ) (fun w9 hI9 hF9 q0 => q0.elim)
set_option maxRecDepth 20000 in
set_option maxHeartbeats 2000000 in
theorem hq_Mo_close_95 {E : MW → Prop} {Q : MW → Prop} (n : Nat) : ∀ (x95_2 : Int32) (w : MW), BND w → 0 ≤ x95_2.toInt → x95_2.toInt ≤ 23 → (23 - x95_2.toInt).toNat < n → (∀ (w' : MW), BND w' → FR l_Mo_close_95 w w' → E w') → (∀ (w' : MW), BND w' → FR l_Mo_close_95 w w' → False → Q w') → q_Mo_close_95 E Q n x95_2 w := by
  induction n with
  | zero => intros; omega
  | succ n ih =>
    intro x95_2 w hI  hp0 hp1 hm hE hQ
    rw [q_Mo_close_95.eq_2]
    refine ⟨fun h4030 => ?_, fun h4030 => ?_⟩
    · exact hE _ hI (FR.refl _ w)
    · have o4031 : 0 ≤ (x95_2 + (1 : Int32)).toInt ∧ (x95_2 + (1 : Int32)).toInt < 24 := by have := ti_add2 (Eq.refl x95_2.toInt) (by decide : ((1 : Int32)).toInt = 1) (by omega) (by omega); have := bd_127_26 hI; omega
      refine ⟨o4031, ?_⟩
      have o4032 : 0 ≤ x95_2.toInt ∧ x95_2.toInt < 24 := by have := ti_add2 (Eq.refl x95_2.toInt) (by decide : ((1 : Int32)).toInt = 1) (by omega) (by omega); have := bd_127_26 hI; omega
      refine ⟨o4032, ?_⟩
      have o4033 : 0 ≤ (x95_2 + (1 : Int32)).toInt ∧ (x95_2 + (1 : Int32)).toInt < 24 := by have := ti_add2 (Eq.refl x95_2.toInt) (by decide : ((1 : Int32)).toInt = 1) (by omega) (by omega); have := bd_127_26 hI; omega
      refine ⟨o4033, ?_⟩
      have o4034 : 0 ≤ x95_2.toInt ∧ x95_2.toInt < 24 := by have := ti_add2 (Eq.refl x95_2.toInt) (by decide : ((1 : Int32)).toInt = 1) (by omega) (by omega); have := bd_127_26 hI; omega
      refine ⟨o4034, ?_⟩
      have o4035 : 0 ≤ (x95_2 + (1 : Int32)).toInt ∧ (x95_2 + (1 : Int32)).toInt < 24 := by have := ti_add2 (Eq.refl x95_2.toInt) (by decide : ((1 : Int32)).toInt = 1) (by omega) (by omega); have := bd_127_26 hI; omega
      refine ⟨o4035, ?_⟩
      have o4036 : 0 ≤ x95_2.toInt ∧ x95_2.toInt < 24 := by have := ti_add2 (Eq.refl x95_2.toInt) (by decide : ((1 : Int32)).toInt = 1) (by omega) (by omega); have := bd_127_26 hI; omega
      refine ⟨o4036, ?_⟩
      have o4037 : 0 ≤ (x95_2 + (1 : Int32)).toInt ∧ (x95_2 + (1 : Int32)).toInt < 24 := by have := ti_add2 (Eq.refl x95_2.toInt) (by decide : ((1 : Int32)).toInt = 1) (by omega) (by omega); have := bd_127_26 hI; omega
      refine ⟨o4037, ?_⟩
      have o4038 : 0 ≤ x95_2.toInt ∧ x95_2.toInt < 24 := by have := ti_add2 (Eq.refl x95_2.toInt) (by decide : ((1 : Int32)).toInt = 1) (by omega) (by omega); have := bd_127_26 hI; omega
      refine ⟨o4038, ?_⟩
      have o4039 : 0 ≤ (x95_2 + (1 : Int32)).toInt ∧ (x95_2 + (1 : Int32)).toInt < 24 := by have := ti_add2 (Eq.refl x95_2.toInt) (by decide : ((1 : Int32)).toInt = 1) (by omega) (by omega); have := bd_127_26 hI; omega
      refine ⟨o4039, ?_⟩
      have o4040 : 0 ≤ x95_2.toInt ∧ x95_2.toInt < 24 := by have := ti_add2 (Eq.refl x95_2.toInt) (by decide : ((1 : Int32)).toInt = 1) (by omega) (by omega); have := bd_127_26 hI; omega
      refine ⟨o4040, ?_⟩
      have o4042 : 0 ≤ (w.1 181 ((x95_2 + (1 : Int32)).toInt.toNat)).toInt ∧ (w.1 181 ((x95_2 + (1 : Int32)).toInt.toNat)).toInt ≤ 19 := by have := bd_181 hI ((x95_2 + (1 : Int32)).toInt.toNat); omega
      have hI4041 : BND (sI w 181 x95_2.toInt.toNat (w.1 181 ((x95_2 + (1 : Int32)).toInt.toNat))) := wbd_181 hI x95_2.toInt.toNat o4042.1 o4042.2
      have o4044 : 0 ≤ (w.1 182 ((x95_2 + (1 : Int32)).toInt.toNat)).toInt ∧ (w.1 182 ((x95_2 + (1 : Int32)).toInt.toNat)).toInt ≤ 19 := by have := bd_182 hI ((x95_2 + (1 : Int32)).toInt.toNat); omega
      have hI4043 : BND (sI (sI w 181 x95_2.toInt.toNat (w.1 181 ((x95_2 + (1 : Int32)).toInt.toNat))) 182 x95_2.toInt.toNat (w.1 182 ((x95_2 + (1 : Int32)).toInt.toNat))) := wbd_182 hI4041 x95_2.toInt.toNat o4044.1 o4044.2
      have o4046 : 0 ≤ (w.1 183 ((x95_2 + (1 : Int32)).toInt.toNat)).toInt ∧ (w.1 183 ((x95_2 + (1 : Int32)).toInt.toNat)).toInt ≤ 15 := by have := bd_183 hI ((x95_2 + (1 : Int32)).toInt.toNat); omega
      have hI4045 : BND (sI (sI (sI w 181 x95_2.toInt.toNat (w.1 181 ((x95_2 + (1 : Int32)).toInt.toNat))) 182 x95_2.toInt.toNat (w.1 182 ((x95_2 + (1 : Int32)).toInt.toNat))) 183 x95_2.toInt.toNat (w.1 183 ((x95_2 + (1 : Int32)).toInt.toNat))) := wbd_183 hI4043 x95_2.toInt.toNat o4046.1 o4046.2
      have o4048 : 0 ≤ (w.1 184 ((x95_2 + (1 : Int32)).toInt.toNat)).toInt ∧ (w.1 184 ((x95_2 + (1 : Int32)).toInt.toNat)).toInt ≤ 100 := by have := bd_184 hI ((x95_2 + (1 : Int32)).toInt.toNat); omega
      have hI4047 : BND (sI (sI (sI (sI w 181 x95_2.toInt.toNat (w.1 181 ((x95_2 + (1 : Int32)).toInt.toNat))) 182 x95_2.toInt.toNat (w.1 182 ((x95_2 + (1 : Int32)).toInt.toNat))) 183 x95_2.toInt.toNat (w.1 183 ((x95_2 + (1 : Int32)).toInt.toNat))) 184 x95_2.toInt.toNat (w.1 184 ((x95_2 + (1 : Int32)).toInt.toNat))) := wbd_184 hI4045 x95_2.toInt.toNat o4048.1 o4048.2
      have o4050 : 0 ≤ (w.1 185 ((x95_2 + (1 : Int32)).toInt.toNat)).toInt ∧ (w.1 185 ((x95_2 + (1 : Int32)).toInt.toNat)).toInt ≤ 24 := by have := bd_185 hI ((x95_2 + (1 : Int32)).toInt.toNat); omega
      have hI4049 : BND (sI (sI (sI (sI (sI w 181 x95_2.toInt.toNat (w.1 181 ((x95_2 + (1 : Int32)).toInt.toNat))) 182 x95_2.toInt.toNat (w.1 182 ((x95_2 + (1 : Int32)).toInt.toNat))) 183 x95_2.toInt.toNat (w.1 183 ((x95_2 + (1 : Int32)).toInt.toNat))) 184 x95_2.toInt.toNat (w.1 184 ((x95_2 + (1 : Int32)).toInt.toNat))) 185 x95_2.toInt.toNat (w.1 185 ((x95_2 + (1 : Int32)).toInt.toNat))) := wbd_185 hI4047 x95_2.toInt.toNat o4050.1 o4050.2
      have o4051 : (0 ≤ x95_2.toInt) ∧ (x95_2.toInt ≤ 22) ∧ (0 ≤ (0 : Int32).toInt) ∧ ((0 : Int32).toInt ≤ 24) := by have := (by decide : ((0 : Int32)).toInt = 0); have := ti_add2 (Eq.refl x95_2.toInt) (by decide : ((1 : Int32)).toInt = 1) (by omega) (by omega); have := bd_127_26 hI; exact ⟨by omega, by omega, by omega, by omega⟩
      refine hq_Mo_close_177 FU _ (sI (sI (sI (sI (sI w 181 x95_2.toInt.toNat (w.1 181 ((x95_2 + (1 : Int32)).toInt.toNat))) 182 x95_2.toInt.toNat (w.1 182 ((x95_2 + (1 : Int32)).toInt.toNat))) 183 x95_2.toInt.toNat (w.1 183 ((x95_2 + (1 : Int32)).toInt.toNat))) 184 x95_2.toInt.toNat (w.1 184 ((x95_2 + (1 : Int32)).toInt.toNat))) 185 x95_2.toInt.toNat (w.1 185 ((x95_2 + (1 : Int32)).toInt.toNat))) hI4049  o4051.1 o4051.2.1 o4051.2.2.1 o4051.2.2.2 (fu_lt (by have := (by decide : ((0 : Int32)).toInt = 0); have := ti_add2 (Eq.refl x95_2.toInt) (by decide : ((1 : Int32)).toInt = 1) (by omega) (by omega); have := bd_127_26 hI; omega)) (fun w4052 hI4053 hL4054  => ?_) (fun w9 hI9 hF9 q0 => q0.elim)
      have hF4055 : FR l_Mo_close_95 w w4052 := (FR.I (FR.I (FR.I (FR.I (FR.I (FR.refl _ w) (k := 181) (j := x95_2.toInt.toNat) (v := (w.1 181 ((x95_2 + (1 : Int32)).toInt.toNat))) rfl) (k := 182) (j := x95_2.toInt.toNat) (v := (w.1 182 ((x95_2 + (1 : Int32)).toInt.toNat))) rfl) (k := 183) (j := x95_2.toInt.toNat) (v := (w.1 183 ((x95_2 + (1 : Int32)).toInt.toNat))) rfl) (k := 184) (j := x95_2.toInt.toNat) (v := (w.1 184 ((x95_2 + (1 : Int32)).toInt.toNat))) rfl) (k := 185) (j := x95_2.toInt.toNat) (v := (w.1 185 ((x95_2 + (1 : Int32)).toInt.toNat))) rfl).tr hL4054 rfl
      have o4056 : (0 ≤ x95_2.toInt) ∧ (x95_2.toInt ≤ 22) ∧ (0 ≤ (0 : Int32).toInt) ∧ ((0 : Int32).toInt ≤ 20) := by have := (by decide : ((0 : Int32)).toInt = 0); have := ti_add2 (Eq.refl x95_2.toInt) (by decide : ((1 : Int32)).toInt = 1) (by omega) (by omega); have := bd_127_26 hI; exact ⟨by omega, by omega, by omega, by omega⟩
      refine hq_Mo_close_215 FU _ w4052 hI4053  o4056.1 o4056.2.1 o4056.2.2.1 o4056.2.2.2 (fu_lt (by have := (by decide : ((0 : Int32)).toInt = 0); have := ti_add2 (Eq.refl x95_2.toInt) (by decide : ((1 : Int32)).toInt = 1) (by omega) (by omega); have := bd_127_26 hI; omega)) (fun w4057 hI4058 hL4059  => ?_) (fun w9 hI9 hF9 q0 => q0.elim)
      have hF4060 : FR l_Mo_close_95 w w4057 := hF4055.tr hL4059 rfl
      have o4061 : (0 ≤ (x95_2 + (1 : Int32)).toInt) ∧ ((x95_2 + (1 : Int32)).toInt ≤ 23) := by have := ti_add2 (Eq.refl x95_2.toInt) (by decide : ((1 : Int32)).toInt = 1) (by omega) (by omega); have := bd_127_26 hI; exact ⟨by omega, by omega⟩
      exact ih _ w4057 hI4058  o4061.1 o4061.2 (by have := ti_add2 (Eq.refl x95_2.toInt) (by decide : ((1 : Int32)).toInt = 1) (by omega) (by omega); have := bd_127_26 hI; omega) (fun w9 hI9 hF9 => hE w9 hI9 (hF4060.tr hF9 rfl) ) (fun w9 hI9 hF9 q0 => q0.elim)
set_option maxRecDepth 20000 in
set_option maxHeartbeats 2000000 in
theorem h_Mo_close {w : MW} {a0 : Int32} {Q : MW → Prop} (hI : BND w) (hp0 : 0 ≤ a0.toInt) (hp1 : a0.toInt ≤ 23) (hp2 : a0.toInt < (w.1 127 26).toInt) (hQ : ∀ (w' : MW), BND w' → FR l_Mo_close w w' → (w'.1 127 26).toInt = (w.1 127 26).toInt - 1 → Q w') : p_Mo_close w a0 Q := by
  refine Eq.mpr (p_Mo_close.eq_1 _ _ _) ?_
  have o4062 : (0 ≤ a0.toInt) ∧ (a0.toInt ≤ 23) ∧ (0 ≤ (0 : Int32).toInt) ∧ ((0 : Int32).toInt ≤ 20) := by have := (by decide : ((0 : Int32)).toInt = 0); have := bd_127_26 hI; exact ⟨by omega, by omega, by omega, by omega⟩
  refine hq_Mo_close_2 FU _ w hI  o4062.1 o4062.2.1 o4062.2.2.1 o4062.2.2.2 (fu_lt (by have := (by decide : ((0 : Int32)).toInt = 0); have := bd_127_26 hI; omega)) (fun w4063 hI4064 hL4065  => ?_) (fun w9 hI9 hF9 q0 => q0.elim)
  have hF4066 : FR l_Mo_close w w4063 := (FR.refl _ w).tr hL4065 rfl
  have o4067 : (0 ≤ a0.toInt) ∧ (a0.toInt ≤ 23) := by have := bd_127_26 hI; exact ⟨by omega, by omega⟩
  refine hq_Mo_close_95 FU _ w4063 hI4064  o4067.1 o4067.2 (fu_lt (by have := bd_127_26 hI; omega)) (fun w4068 hI4069 hL4070  => ?_) (fun w9 hI9 hF9 q0 => q0.elim)
  have hF4071 : FR l_Mo_close w w4068 := hF4066.tr hL4070 rfl
  have o4073 : 0 ≤ ((w4068.1 127 26) - (1 : Int32)).toInt ∧ ((w4068.1 127 26) - (1 : Int32)).toInt ≤ 24 := by have := bd_127_26 hI4069; have := bd_127_26 hI4064; have := bd_127_26 hI; have := (congrArg Int32.toInt (hL4065 127 26 rfl).1); have := (congrArg Int32.toInt (hL4070 127 26 rfl).1); have := ti_sub2 (Eq.refl (w4068.1 127 26).toInt) (by decide : ((1 : Int32)).toInt = 1) (by omega) (by omega); omega
  have hI4072 : BND (sI w4068 127 26 ((w4068.1 127 26) - (1 : Int32))) := wbd_127_26 hI4069 o4073.1 o4073.2
  exact hQ _ hI4072 (FR.I hF4071 (k := 127) (j := 26) (v := ((w4068.1 127 26) - (1 : Int32))) rfl)  (by have := bd_127_26 hI4069; have := bd_127_26 hI4064; have := bd_127_26 hI; have := (congrArg Int32.toInt (hL4065 127 26 rfl).1); have := (congrArg Int32.toInt (hL4070 127 26 rfl).1); have := ti_sub2 (Eq.refl (w4068.1 127 26).toInt) (by decide : ((1 : Int32)).toInt = 1) (by omega) (by omega); have : ((sI w4068 127 26 ((w4068.1 127 26) - (1 : Int32))).1 127 26).toInt = ((w4068.1 127 26) - (1 : Int32)).toInt := rfl; omega)
