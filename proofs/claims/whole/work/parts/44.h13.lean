def l_Sf_meet_49 : Pl := [(45, none)]
def l_Sf_meet_173 : Pl := [(42, some 7), (42, some 8), (42, some 9)]
def l_Sf_meet_116 : Pl := [(42, some 7), (42, some 8), (42, some 9)]
def l_Sf_meet_8 : Pl := [(42, some 7), (42, some 8), (42, some 9), (45, none)]
def l_Sf_meet : Pl := [(42, some 7), (42, some 8), (42, some 9), (45, none)]
set_option maxRecDepth 20000 in
set_option maxHeartbeats 2000000 in
theorem hq_Sf_meet_49 {x49_1 : Int32} {E : MW → Prop} {Q : Int32 → MW → Prop} (n : Nat) : ∀ (x49_2 : Int64) (x49_4 : Int32) (w : MW), BND w → 1 ≤ x49_1.toInt → x49_1.toInt ≤ 14 → 0 ≤ x49_4.toInt → x49_4.toInt ≤ 44 → (44 - x49_4.toInt).toNat < n → (∀ (w' : MW), BND w' → FR l_Sf_meet_49 w w' → E w') → (∀ (r : Int32) (w' : MW), BND w' → FR l_Sf_meet_49 w w' → False → Q r w') → q_Sf_meet_49 x49_1 E Q n x49_2 x49_4 w := by
  induction n with
  | zero => intros; omega
  | succ n ih =>
    intro x49_2 x49_4 w hI  hp0 hp1 hp2 hp3 hm hE hQ
    rw [q_Sf_meet_49.eq_2]
    refine ⟨fun h2990 => ?_, fun h2990 => ?_⟩
    · exact hE _ hI (FR.refl _ w)
    · refine ⟨fun h2991 => ?_, fun h2991 => ?_⟩
      · exact hE _ hI (FR.refl _ w)
      · refine Eq.mpr (p_Lo_numberOfTrailingZeros.eq_1 _ _ _) ?_
        refine ⟨fun h2992 => ?_, fun h2992 => ?_⟩
        · refine h_In_numberOfTrailingZeros hI   (fun r2996 w2993 hI2994 hL2995 p2997 p2998 => ?_)
          have hF2999 : FR l_Sf_meet_49 w w2993 := (FR.refl _ w).tr hL2995 rfl
          have o3000 : 0 ≤ (r2996 - r2996 / (44 : Int32) * (44 : Int32)).toInt ∧ (r2996 - r2996 / (44 : Int32) * (44 : Int32)).toInt < 44 := by have := nb_rem (x := r2996) (by omega) (by decide : ((44 : Int32)).toInt = 44) (by decide); omega
          refine ⟨o3000, ?_⟩
          have o3001 : 0 ≤ x49_1.toInt ∧ x49_1.toInt < 15 := by omega
          refine ⟨o3001, ?_⟩
          have o3002 : 0 ≤ x49_1.toInt ∧ x49_1.toInt < 15 := by omega
          refine ⟨o3002, ?_⟩
          have o3003 : 0 ≤ x49_1.toInt ∧ x49_1.toInt < 15 := by omega
          refine ⟨o3003, ?_⟩
          have o3004 : (1 ≤ x49_1.toInt) ∧ (x49_1.toInt ≤ 14) ∧ (0 ≤ (x49_4 + (1 : Int32)).toInt) ∧ ((x49_4 + (1 : Int32)).toInt ≤ 44) := by have := ti_add2 (Eq.refl x49_4.toInt) (by decide : ((1 : Int32)).toInt = 1) (by omega) (by omega); have := (by decide : ((44 : Int32)).toInt = 44); have := nb_cmp x49_2 (0 : Int64); have := (by decide : ((0 : Int32)).toInt = 0); have := ti_lo (Int64.toInt32 x49_2); have := ti_hi (Int64.toInt32 x49_2); exact ⟨by omega, by omega, by omega, by omega⟩
          exact ih _ _ (sJ w2993 45 x49_1.toInt.toNat ((w2993.2.1 45 x49_1.toInt.toNat) ||| ((w2993.2.1 46 ((r2996 - r2996 / (44 : Int32) * (44 : Int32)).toInt.toNat)) &&& ((w2993.2.1 45 x49_1.toInt.toNat) ^^^ ((-1) : Int64))))) (bnd_J hI2994 (k := 45) (j := x49_1.toInt.toNat) (v := ((w2993.2.1 45 x49_1.toInt.toNat) ||| ((w2993.2.1 46 ((r2996 - r2996 / (44 : Int32) * (44 : Int32)).toInt.toNat)) &&& ((w2993.2.1 45 x49_1.toInt.toNat) ^^^ ((-1) : Int64))))))  o3004.1 o3004.2.1 o3004.2.2.1 o3004.2.2.2 (by have := ti_add2 (Eq.refl x49_4.toInt) (by decide : ((1 : Int32)).toInt = 1) (by omega) (by omega); have := (by decide : ((44 : Int32)).toInt = 44); have := nb_cmp x49_2 (0 : Int64); have := (by decide : ((0 : Int32)).toInt = 0); have := ti_lo (Int64.toInt32 x49_2); have := ti_hi (Int64.toInt32 x49_2); omega) (fun w9 hI9 hF9 => hE w9 hI9 ((FR.J hF2999 (k := 45) (j := x49_1.toInt.toNat) (v := ((w2993.2.1 45 x49_1.toInt.toNat) ||| ((w2993.2.1 46 ((r2996 - r2996 / (44 : Int32) * (44 : Int32)).toInt.toNat)) &&& ((w2993.2.1 45 x49_1.toInt.toNat) ^^^ ((-1) : Int64))))) rfl).tr hF9 rfl) ) (fun r w9 hI9 hF9 q0 => q0.elim)
        · refine h_In_numberOfTrailingZeros hI   (fun r3008 w3005 hI3006 hL3007 p3009 p3010 => ?_)
          have hF3011 : FR l_Sf_meet_49 w w3005 := (FR.refl _ w).tr hL3007 rfl
          have o3012 : 0 ≤ (((32 : Int32) + r3008) - ((32 : Int32) + r3008) / (44 : Int32) * (44 : Int32)).toInt ∧ (((32 : Int32) + r3008) - ((32 : Int32) + r3008) / (44 : Int32) * (44 : Int32)).toInt < 44 := by have := ti_add2 (by decide : ((32 : Int32)).toInt = 32) (Eq.refl r3008.toInt) (by omega) (by omega); have := nb_rem (x := ((32 : Int32) + r3008)) (by omega) (by decide : ((44 : Int32)).toInt = 44) (by decide); omega
          refine ⟨o3012, ?_⟩
          have o3013 : 0 ≤ x49_1.toInt ∧ x49_1.toInt < 15 := by omega
          refine ⟨o3013, ?_⟩
          have o3014 : 0 ≤ x49_1.toInt ∧ x49_1.toInt < 15 := by omega
          refine ⟨o3014, ?_⟩
          have o3015 : 0 ≤ x49_1.toInt ∧ x49_1.toInt < 15 := by omega
          refine ⟨o3015, ?_⟩
          have o3016 : (1 ≤ x49_1.toInt) ∧ (x49_1.toInt ≤ 14) ∧ (0 ≤ (x49_4 + (1 : Int32)).toInt) ∧ ((x49_4 + (1 : Int32)).toInt ≤ 44) := by have := ti_add2 (Eq.refl x49_4.toInt) (by decide : ((1 : Int32)).toInt = 1) (by omega) (by omega); have := (by decide : ((44 : Int32)).toInt = 44); have := nb_cmp x49_2 (0 : Int64); have := (by decide : ((0 : Int32)).toInt = 0); have := ti_lo (Int64.toInt32 x49_2); have := ti_hi (Int64.toInt32 x49_2); exact ⟨by omega, by omega, by omega, by omega⟩
          exact ih _ _ (sJ w3005 45 x49_1.toInt.toNat ((w3005.2.1 45 x49_1.toInt.toNat) ||| ((w3005.2.1 46 ((((32 : Int32) + r3008) - ((32 : Int32) + r3008) / (44 : Int32) * (44 : Int32)).toInt.toNat)) &&& ((w3005.2.1 45 x49_1.toInt.toNat) ^^^ ((-1) : Int64))))) (bnd_J hI3006 (k := 45) (j := x49_1.toInt.toNat) (v := ((w3005.2.1 45 x49_1.toInt.toNat) ||| ((w3005.2.1 46 ((((32 : Int32) + r3008) - ((32 : Int32) + r3008) / (44 : Int32) * (44 : Int32)).toInt.toNat)) &&& ((w3005.2.1 45 x49_1.toInt.toNat) ^^^ ((-1) : Int64))))))  o3016.1 o3016.2.1 o3016.2.2.1 o3016.2.2.2 (by have := ti_add2 (Eq.refl x49_4.toInt) (by decide : ((1 : Int32)).toInt = 1) (by omega) (by omega); have := (by decide : ((44 : Int32)).toInt = 44); have := nb_cmp x49_2 (0 : Int64); have := (by decide : ((0 : Int32)).toInt = 0); have := ti_lo (Int64.toInt32 x49_2); have := ti_hi (Int64.toInt32 x49_2); omega) (fun w9 hI9 hF9 => hE w9 hI9 ((FR.J hF3011 (k := 45) (j := x49_1.toInt.toNat) (v := ((w3005.2.1 45 x49_1.toInt.toNat) ||| ((w3005.2.1 46 ((((32 : Int32) + r3008) - ((32 : Int32) + r3008) / (44 : Int32) * (44 : Int32)).toInt.toNat)) &&& ((w3005.2.1 45 x49_1.toInt.toNat) ^^^ ((-1) : Int64))))) rfl).tr hF9 rfl) ) (fun r w9 hI9 hF9 q0 => q0.elim)
set_option maxRecDepth 20000 in
set_option maxHeartbeats 2000000 in
theorem hq_Sf_meet_116 {x116_1 : Int32} {E : MW → Prop} {Q : Int32 → MW → Prop} (n : Nat) : ∀ (x116_4 : Int32) (w : MW), BND w → 1 ≤ x116_1.toInt → x116_1.toInt ≤ 14 → 1 ≤ x116_4.toInt → x116_4.toInt ≤ 14 → (14 - x116_4.toInt).toNat < n → (∀ (w' : MW), BND w' → FR l_Sf_meet_116 w w' → E w') → (∀ (r : Int32) (w' : MW), BND w' → FR l_Sf_meet_116 w w' → False → Q r w') → q_Sf_meet_116 x116_1 E Q n x116_4 w := by
  induction n with
  | zero => intros; omega
  | succ n ih =>
    intro x116_4 w hI  hp0 hp1 hp2 hp3 hm hE hQ
    rw [q_Sf_meet_116.eq_2]
    refine ⟨fun h3017 => ?_, fun h3017 => ?_⟩
    · exact hE _ hI (FR.refl _ w)
    · have o3018 : 0 ≤ x116_1.toInt ∧ x116_1.toInt < 15 := by omega
      refine ⟨o3018, ?_⟩
      refine ⟨fun h3019 => ?_, fun h3019 => ?_⟩
      · refine Eq.mpr (q_Sf_meet_173.eq_1 _ _ _ _ _ _ _) ?_
        refine ⟨fun h3020 => ?_, fun h3020 => ?_⟩
        · replace h3020 : 44 < (w.1 42 7).toInt := h3020
          have hI3021 : BND (sI w 42 7 44) := wbd_42_7 hI
          have hI3022 : BND (sI (sI w 42 7 44) 42 8 x116_4) := wbd_42_8 hI3021
          have hI3023 : BND (sI (sI (sI w 42 7 44) 42 8 x116_4) 42 9 x116_1) := wbd_42_9 hI3022
          have o3024 : (1 ≤ x116_1.toInt) ∧ (x116_1.toInt ≤ 14) ∧ (1 ≤ (x116_4 + (1 : Int32)).toInt) ∧ ((x116_4 + (1 : Int32)).toInt ≤ 14) := by have := ti_add2 (Eq.refl x116_4.toInt) (by decide : ((1 : Int32)).toInt = 1) (by omega) (by omega); have := ti_lo (((w.1 44 x116_1.toInt.toNat) >>> (x116_4 &&& 31)) &&& (1 : Int32)); have := ti_hi (((w.1 44 x116_1.toInt.toNat) >>> (x116_4 &&& 31)) &&& (1 : Int32)); have := nb_and ((w.1 44 x116_1.toInt.toNat) >>> (x116_4 &&& 31)) (1 : Int32) 1 rfl (by decide); have := (by decide : ((0 : Int32)).toInt = 0); exact ⟨by omega, by omega, by omega, by omega⟩
          exact ih _ (sI (sI (sI w 42 7 44) 42 8 x116_4) 42 9 x116_1) hI3023  o3024.1 o3024.2.1 o3024.2.2.1 o3024.2.2.2 (by have := ti_add2 (Eq.refl x116_4.toInt) (by decide : ((1 : Int32)).toInt = 1) (by omega) (by omega); have := ti_lo (((w.1 44 x116_1.toInt.toNat) >>> (x116_4 &&& 31)) &&& (1 : Int32)); have := ti_hi (((w.1 44 x116_1.toInt.toNat) >>> (x116_4 &&& 31)) &&& (1 : Int32)); have := nb_and ((w.1 44 x116_1.toInt.toNat) >>> (x116_4 &&& 31)) (1 : Int32) 1 rfl (by decide); have := (by decide : ((0 : Int32)).toInt = 0); omega) (fun w9 hI9 hF9 => hE w9 hI9 ((FR.I (FR.I (FR.I (FR.refl _ w) (k := 42) (j := 7) (v := 44) rfl) (k := 42) (j := 8) (v := x116_4) rfl) (k := 42) (j := 9) (v := x116_1) rfl).tr hF9 rfl) ) (fun r w9 hI9 hF9 q0 => q0.elim)
        · replace h3020 : ¬ (44 < (w.1 42 7).toInt) := h3020
          refine ⟨fun h3025 => ?_, fun h3025 => ?_⟩
          · replace h3025 : ¬ 44 = (w.1 42 7).toInt := h3025
            have o3026 : (1 ≤ x116_1.toInt) ∧ (x116_1.toInt ≤ 14) ∧ (1 ≤ (x116_4 + (1 : Int32)).toInt) ∧ ((x116_4 + (1 : Int32)).toInt ≤ 14) := by have := ti_add2 (Eq.refl x116_4.toInt) (by decide : ((1 : Int32)).toInt = 1) (by omega) (by omega); have := ti_lo (((w.1 44 x116_1.toInt.toNat) >>> (x116_4 &&& 31)) &&& (1 : Int32)); have := ti_hi (((w.1 44 x116_1.toInt.toNat) >>> (x116_4 &&& 31)) &&& (1 : Int32)); have := nb_and ((w.1 44 x116_1.toInt.toNat) >>> (x116_4 &&& 31)) (1 : Int32) 1 rfl (by decide); have := (by decide : ((0 : Int32)).toInt = 0); exact ⟨by omega, by omega, by omega, by omega⟩
            exact ih _ w hI  o3026.1 o3026.2.1 o3026.2.2.1 o3026.2.2.2 (by have := ti_add2 (Eq.refl x116_4.toInt) (by decide : ((1 : Int32)).toInt = 1) (by omega) (by omega); have := ti_lo (((w.1 44 x116_1.toInt.toNat) >>> (x116_4 &&& 31)) &&& (1 : Int32)); have := ti_hi (((w.1 44 x116_1.toInt.toNat) >>> (x116_4 &&& 31)) &&& (1 : Int32)); have := nb_and ((w.1 44 x116_1.toInt.toNat) >>> (x116_4 &&& 31)) (1 : Int32) 1 rfl (by decide); have := (by decide : ((0 : Int32)).toInt = 0); omega) (fun w9 hI9 hF9 => hE w9 hI9 ((FR.refl _ w).tr hF9 rfl) ) (fun r w9 hI9 hF9 q0 => q0.elim)
          · replace h3025 : ¬ (¬ 44 = (w.1 42 7).toInt) := h3025
            refine ⟨fun _ => ?_, fun h => absurd (by decide) h⟩
            have o3027 : (1 ≤ x116_1.toInt) ∧ (x116_1.toInt ≤ 14) ∧ (1 ≤ (x116_4 + (1 : Int32)).toInt) ∧ ((x116_4 + (1 : Int32)).toInt ≤ 14) := by have := ti_add2 (Eq.refl x116_4.toInt) (by decide : ((1 : Int32)).toInt = 1) (by omega) (by omega); have := ti_lo (((w.1 44 x116_1.toInt.toNat) >>> (x116_4 &&& 31)) &&& (1 : Int32)); have := ti_hi (((w.1 44 x116_1.toInt.toNat) >>> (x116_4 &&& 31)) &&& (1 : Int32)); have := nb_and ((w.1 44 x116_1.toInt.toNat) >>> (x116_4 &&& 31)) (1 : Int32) 1 rfl (by decide); have := (by decide : ((0 : Int32)).toInt = 0); exact ⟨by omega, by omega, by omega, by omega⟩
            exact ih _ w hI  o3027.1 o3027.2.1 o3027.2.2.1 o3027.2.2.2 (by have := ti_add2 (Eq.refl x116_4.toInt) (by decide : ((1 : Int32)).toInt = 1) (by omega) (by omega); have := ti_lo (((w.1 44 x116_1.toInt.toNat) >>> (x116_4 &&& 31)) &&& (1 : Int32)); have := ti_hi (((w.1 44 x116_1.toInt.toNat) >>> (x116_4 &&& 31)) &&& (1 : Int32)); have := nb_and ((w.1 44 x116_1.toInt.toNat) >>> (x116_4 &&& 31)) (1 : Int32) 1 rfl (by decide); have := (by decide : ((0 : Int32)).toInt = 0); omega) (fun w9 hI9 hF9 => hE w9 hI9 ((FR.refl _ w).tr hF9 rfl) ) (fun r w9 hI9 hF9 q0 => q0.elim)
      · have o3028 : 0 ≤ x116_1.toInt ∧ x116_1.toInt < 15 := by have := ti_lo (((w.1 44 x116_1.toInt.toNat) >>> (x116_4 &&& 31)) &&& (1 : Int32)); have := ti_hi (((w.1 44 x116_1.toInt.toNat) >>> (x116_4 &&& 31)) &&& (1 : Int32)); have := nb_and ((w.1 44 x116_1.toInt.toNat) >>> (x116_4 &&& 31)) (1 : Int32) 1 rfl (by decide); have := (by decide : ((0 : Int32)).toInt = 0); omega
        refine ⟨o3028, ?_⟩
        have o3029 : 0 ≤ x116_4.toInt ∧ x116_4.toInt < 15 := by have := ti_lo (((w.1 44 x116_1.toInt.toNat) >>> (x116_4 &&& 31)) &&& (1 : Int32)); have := ti_hi (((w.1 44 x116_1.toInt.toNat) >>> (x116_4 &&& 31)) &&& (1 : Int32)); have := nb_and ((w.1 44 x116_1.toInt.toNat) >>> (x116_4 &&& 31)) (1 : Int32) 1 rfl (by decide); have := (by decide : ((0 : Int32)).toInt = 0); omega
        refine ⟨o3029, ?_⟩
        refine ⟨fun h3030 => ?_, fun h3030 => ?_⟩
        · refine Eq.mpr (p_Lo_numberOfTrailingZeros.eq_1 _ _ _) ?_
          refine ⟨fun h3031 => ?_, fun h3031 => ?_⟩
          · refine h_In_numberOfTrailingZeros hI   (fun r3035 w3032 hI3033 hL3034 p3036 p3037 => ?_)
            have hF3038 : FR l_Sf_meet_116 w w3032 := (FR.refl _ w).tr hL3034 rfl
            refine Eq.mpr (q_Sf_meet_173.eq_1 _ _ _ _ _ _ _) ?_
            refine ⟨fun h3039 => ?_, fun h3039 => ?_⟩
            · have hI3040 : BND (sI w3032 42 7 r3035) := wbd_42_7 hI3033
              have hI3041 : BND (sI (sI w3032 42 7 r3035) 42 8 x116_4) := wbd_42_8 hI3040
              have hI3042 : BND (sI (sI (sI w3032 42 7 r3035) 42 8 x116_4) 42 9 x116_1) := wbd_42_9 hI3041
              have o3043 : (1 ≤ x116_1.toInt) ∧ (x116_1.toInt ≤ 14) ∧ (1 ≤ (x116_4 + (1 : Int32)).toInt) ∧ ((x116_4 + (1 : Int32)).toInt ≤ 14) := by have := ti_add2 (Eq.refl x116_4.toInt) (by decide : ((1 : Int32)).toInt = 1) (by omega) (by omega); have := ti_lo (((w.1 44 x116_1.toInt.toNat) >>> (x116_4 &&& 31)) &&& (1 : Int32)); have := ti_hi (((w.1 44 x116_1.toInt.toNat) >>> (x116_4 &&& 31)) &&& (1 : Int32)); have := nb_and ((w.1 44 x116_1.toInt.toNat) >>> (x116_4 &&& 31)) (1 : Int32) 1 rfl (by decide); have := (by decide : ((0 : Int32)).toInt = 0); exact ⟨by omega, by omega, by omega, by omega⟩
              exact ih _ (sI (sI (sI w3032 42 7 r3035) 42 8 x116_4) 42 9 x116_1) hI3042  o3043.1 o3043.2.1 o3043.2.2.1 o3043.2.2.2 (by have := ti_add2 (Eq.refl x116_4.toInt) (by decide : ((1 : Int32)).toInt = 1) (by omega) (by omega); have := ti_lo (((w.1 44 x116_1.toInt.toNat) >>> (x116_4 &&& 31)) &&& (1 : Int32)); have := ti_hi (((w.1 44 x116_1.toInt.toNat) >>> (x116_4 &&& 31)) &&& (1 : Int32)); have := nb_and ((w.1 44 x116_1.toInt.toNat) >>> (x116_4 &&& 31)) (1 : Int32) 1 rfl (by decide); have := (by decide : ((0 : Int32)).toInt = 0); omega) (fun w9 hI9 hF9 => hE w9 hI9 ((FR.I (FR.I (FR.I hF3038 (k := 42) (j := 7) (v := r3035) rfl) (k := 42) (j := 8) (v := x116_4) rfl) (k := 42) (j := 9) (v := x116_1) rfl).tr hF9 rfl) ) (fun r w9 hI9 hF9 q0 => q0.elim)
            · refine ⟨fun h3044 => ?_, fun h3044 => ?_⟩
              · have o3045 : (1 ≤ x116_1.toInt) ∧ (x116_1.toInt ≤ 14) ∧ (1 ≤ (x116_4 + (1 : Int32)).toInt) ∧ ((x116_4 + (1 : Int32)).toInt ≤ 14) := by have := ti_add2 (Eq.refl x116_4.toInt) (by decide : ((1 : Int32)).toInt = 1) (by omega) (by omega); have := ti_lo (((w.1 44 x116_1.toInt.toNat) >>> (x116_4 &&& 31)) &&& (1 : Int32)); have := ti_hi (((w.1 44 x116_1.toInt.toNat) >>> (x116_4 &&& 31)) &&& (1 : Int32)); have := nb_and ((w.1 44 x116_1.toInt.toNat) >>> (x116_4 &&& 31)) (1 : Int32) 1 rfl (by decide); have := (by decide : ((0 : Int32)).toInt = 0); exact ⟨by omega, by omega, by omega, by omega⟩
                exact ih _ w3032 hI3033  o3045.1 o3045.2.1 o3045.2.2.1 o3045.2.2.2 (by have := ti_add2 (Eq.refl x116_4.toInt) (by decide : ((1 : Int32)).toInt = 1) (by omega) (by omega); have := ti_lo (((w.1 44 x116_1.toInt.toNat) >>> (x116_4 &&& 31)) &&& (1 : Int32)); have := ti_hi (((w.1 44 x116_1.toInt.toNat) >>> (x116_4 &&& 31)) &&& (1 : Int32)); have := nb_and ((w.1 44 x116_1.toInt.toNat) >>> (x116_4 &&& 31)) (1 : Int32) 1 rfl (by decide); have := (by decide : ((0 : Int32)).toInt = 0); omega) (fun w9 hI9 hF9 => hE w9 hI9 (hF3038.tr hF9 rfl) ) (fun r w9 hI9 hF9 q0 => q0.elim)
              · refine ⟨fun h3046 => ?_, fun h3046 => ?_⟩
                · exfalso; have := ti_lo (((w.1 44 x116_1.toInt.toNat) >>> (x116_4 &&& 31)) &&& (1 : Int32)); have := ti_hi (((w.1 44 x116_1.toInt.toNat) >>> (x116_4 &&& 31)) &&& (1 : Int32)); have := nb_and ((w.1 44 x116_1.toInt.toNat) >>> (x116_4 &&& 31)) (1 : Int32) 1 rfl (by decide); have := (by decide : ((0 : Int32)).toInt = 0); have := nb_cmp ((w.2.1 45 x116_1.toInt.toNat) &&& (w.2.1 45 x116_4.toInt.toNat)) (0 : Int64); have := ti_lo (Int64.toInt32 ((w.2.1 45 x116_1.toInt.toNat) &&& (w.2.1 45 x116_4.toInt.toNat))); have := ti_hi (Int64.toInt32 ((w.2.1 45 x116_1.toInt.toNat) &&& (w.2.1 45 x116_4.toInt.toNat))); have := (congrArg Int32.toInt (hL3034 42 7 rfl).1); have := (by decide : ((44 : Int32)).toInt = 44); omega
                · refine ⟨fun h3047 => ?_, fun h3047 => ?_⟩
                  · have o3048 : (1 ≤ x116_1.toInt) ∧ (x116_1.toInt ≤ 14) ∧ (1 ≤ (x116_4 + (1 : Int32)).toInt) ∧ ((x116_4 + (1 : Int32)).toInt ≤ 14) := by have := ti_add2 (Eq.refl x116_4.toInt) (by decide : ((1 : Int32)).toInt = 1) (by omega) (by omega); have := ti_lo (((w.1 44 x116_1.toInt.toNat) >>> (x116_4 &&& 31)) &&& (1 : Int32)); have := ti_hi (((w.1 44 x116_1.toInt.toNat) >>> (x116_4 &&& 31)) &&& (1 : Int32)); have := nb_and ((w.1 44 x116_1.toInt.toNat) >>> (x116_4 &&& 31)) (1 : Int32) 1 rfl (by decide); have := (by decide : ((0 : Int32)).toInt = 0); have := (congrArg Int32.toInt (hL3034 42 8 rfl).1); exact ⟨by omega, by omega, by omega, by omega⟩
                    exact ih _ w3032 hI3033  o3048.1 o3048.2.1 o3048.2.2.1 o3048.2.2.2 (by have := ti_add2 (Eq.refl x116_4.toInt) (by decide : ((1 : Int32)).toInt = 1) (by omega) (by omega); have := ti_lo (((w.1 44 x116_1.toInt.toNat) >>> (x116_4 &&& 31)) &&& (1 : Int32)); have := ti_hi (((w.1 44 x116_1.toInt.toNat) >>> (x116_4 &&& 31)) &&& (1 : Int32)); have := nb_and ((w.1 44 x116_1.toInt.toNat) >>> (x116_4 &&& 31)) (1 : Int32) 1 rfl (by decide); have := (by decide : ((0 : Int32)).toInt = 0); have := (congrArg Int32.toInt (hL3034 42 8 rfl).1); omega) (fun w9 hI9 hF9 => hE w9 hI9 (hF3038.tr hF9 rfl) ) (fun r w9 hI9 hF9 q0 => q0.elim)
                  · have hI3049 : BND (sI w3032 42 7 r3035) := wbd_42_7 hI3033
                    have hI3050 : BND (sI (sI w3032 42 7 r3035) 42 8 x116_4) := wbd_42_8 hI3049
                    have hI3051 : BND (sI (sI (sI w3032 42 7 r3035) 42 8 x116_4) 42 9 x116_1) := wbd_42_9 hI3050
                    have o3052 : (1 ≤ x116_1.toInt) ∧ (x116_1.toInt ≤ 14) ∧ (1 ≤ (x116_4 + (1 : Int32)).toInt) ∧ ((x116_4 + (1 : Int32)).toInt ≤ 14) := by have := ti_add2 (Eq.refl x116_4.toInt) (by decide : ((1 : Int32)).toInt = 1) (by omega) (by omega); have := ti_lo (((w.1 44 x116_1.toInt.toNat) >>> (x116_4 &&& 31)) &&& (1 : Int32)); have := ti_hi (((w.1 44 x116_1.toInt.toNat) >>> (x116_4 &&& 31)) &&& (1 : Int32)); have := nb_and ((w.1 44 x116_1.toInt.toNat) >>> (x116_4 &&& 31)) (1 : Int32) 1 rfl (by decide); have := (by decide : ((0 : Int32)).toInt = 0); have := (congrArg Int32.toInt (hL3034 42 8 rfl).1); exact ⟨by omega, by omega, by omega, by omega⟩
                    exact ih _ (sI (sI (sI w3032 42 7 r3035) 42 8 x116_4) 42 9 x116_1) hI3051  o3052.1 o3052.2.1 o3052.2.2.1 o3052.2.2.2 (by have := ti_add2 (Eq.refl x116_4.toInt) (by decide : ((1 : Int32)).toInt = 1) (by omega) (by omega); have := ti_lo (((w.1 44 x116_1.toInt.toNat) >>> (x116_4 &&& 31)) &&& (1 : Int32)); have := ti_hi (((w.1 44 x116_1.toInt.toNat) >>> (x116_4 &&& 31)) &&& (1 : Int32)); have := nb_and ((w.1 44 x116_1.toInt.toNat) >>> (x116_4 &&& 31)) (1 : Int32) 1 rfl (by decide); have := (by decide : ((0 : Int32)).toInt = 0); have := (congrArg Int32.toInt (hL3034 42 8 rfl).1); omega) (fun w9 hI9 hF9 => hE w9 hI9 ((FR.I (FR.I (FR.I hF3038 (k := 42) (j := 7) (v := r3035) rfl) (k := 42) (j := 8) (v := x116_4) rfl) (k := 42) (j := 9) (v := x116_1) rfl).tr hF9 rfl) ) (fun r w9 hI9 hF9 q0 => q0.elim)
          · refine h_In_numberOfTrailingZeros hI   (fun r3056 w3053 hI3054 hL3055 p3057 p3058 => ?_)
            have hF3059 : FR l_Sf_meet_116 w w3053 := (FR.refl _ w).tr hL3055 rfl
            refine Eq.mpr (q_Sf_meet_173.eq_1 _ _ _ _ _ _ _) ?_
            refine ⟨fun h3060 => ?_, fun h3060 => ?_⟩
            · have hI3061 : BND (sI w3053 42 7 ((32 : Int32) + r3056)) := wbd_42_7 hI3054
              have hI3062 : BND (sI (sI w3053 42 7 ((32 : Int32) + r3056)) 42 8 x116_4) := wbd_42_8 hI3061
              have hI3063 : BND (sI (sI (sI w3053 42 7 ((32 : Int32) + r3056)) 42 8 x116_4) 42 9 x116_1) := wbd_42_9 hI3062
              have o3064 : (1 ≤ x116_1.toInt) ∧ (x116_1.toInt ≤ 14) ∧ (1 ≤ (x116_4 + (1 : Int32)).toInt) ∧ ((x116_4 + (1 : Int32)).toInt ≤ 14) := by have := ti_add2 (Eq.refl x116_4.toInt) (by decide : ((1 : Int32)).toInt = 1) (by omega) (by omega); have := ti_lo (((w.1 44 x116_1.toInt.toNat) >>> (x116_4 &&& 31)) &&& (1 : Int32)); have := ti_hi (((w.1 44 x116_1.toInt.toNat) >>> (x116_4 &&& 31)) &&& (1 : Int32)); have := nb_and ((w.1 44 x116_1.toInt.toNat) >>> (x116_4 &&& 31)) (1 : Int32) 1 rfl (by decide); have := (by decide : ((0 : Int32)).toInt = 0); exact ⟨by omega, by omega, by omega, by omega⟩
              exact ih _ (sI (sI (sI w3053 42 7 ((32 : Int32) + r3056)) 42 8 x116_4) 42 9 x116_1) hI3063  o3064.1 o3064.2.1 o3064.2.2.1 o3064.2.2.2 (by have := ti_add2 (Eq.refl x116_4.toInt) (by decide : ((1 : Int32)).toInt = 1) (by omega) (by omega); have := ti_lo (((w.1 44 x116_1.toInt.toNat) >>> (x116_4 &&& 31)) &&& (1 : Int32)); have := ti_hi (((w.1 44 x116_1.toInt.toNat) >>> (x116_4 &&& 31)) &&& (1 : Int32)); have := nb_and ((w.1 44 x116_1.toInt.toNat) >>> (x116_4 &&& 31)) (1 : Int32) 1 rfl (by decide); have := (by decide : ((0 : Int32)).toInt = 0); omega) (fun w9 hI9 hF9 => hE w9 hI9 ((FR.I (FR.I (FR.I hF3059 (k := 42) (j := 7) (v := ((32 : Int32) + r3056)) rfl) (k := 42) (j := 8) (v := x116_4) rfl) (k := 42) (j := 9) (v := x116_1) rfl).tr hF9 rfl) ) (fun r w9 hI9 hF9 q0 => q0.elim)
            · refine ⟨fun h3065 => ?_, fun h3065 => ?_⟩
              · have o3066 : (1 ≤ x116_1.toInt) ∧ (x116_1.toInt ≤ 14) ∧ (1 ≤ (x116_4 + (1 : Int32)).toInt) ∧ ((x116_4 + (1 : Int32)).toInt ≤ 14) := by have := ti_add2 (Eq.refl x116_4.toInt) (by decide : ((1 : Int32)).toInt = 1) (by omega) (by omega); have := ti_lo (((w.1 44 x116_1.toInt.toNat) >>> (x116_4 &&& 31)) &&& (1 : Int32)); have := ti_hi (((w.1 44 x116_1.toInt.toNat) >>> (x116_4 &&& 31)) &&& (1 : Int32)); have := nb_and ((w.1 44 x116_1.toInt.toNat) >>> (x116_4 &&& 31)) (1 : Int32) 1 rfl (by decide); have := (by decide : ((0 : Int32)).toInt = 0); exact ⟨by omega, by omega, by omega, by omega⟩
                exact ih _ w3053 hI3054  o3066.1 o3066.2.1 o3066.2.2.1 o3066.2.2.2 (by have := ti_add2 (Eq.refl x116_4.toInt) (by decide : ((1 : Int32)).toInt = 1) (by omega) (by omega); have := ti_lo (((w.1 44 x116_1.toInt.toNat) >>> (x116_4 &&& 31)) &&& (1 : Int32)); have := ti_hi (((w.1 44 x116_1.toInt.toNat) >>> (x116_4 &&& 31)) &&& (1 : Int32)); have := nb_and ((w.1 44 x116_1.toInt.toNat) >>> (x116_4 &&& 31)) (1 : Int32) 1 rfl (by decide); have := (by decide : ((0 : Int32)).toInt = 0); omega) (fun w9 hI9 hF9 => hE w9 hI9 (hF3059.tr hF9 rfl) ) (fun r w9 hI9 hF9 q0 => q0.elim)
              · refine ⟨fun h3067 => ?_, fun h3067 => ?_⟩
                · have o3068 : (1 ≤ x116_1.toInt) ∧ (x116_1.toInt ≤ 14) ∧ (1 ≤ (x116_4 + (1 : Int32)).toInt) ∧ ((x116_4 + (1 : Int32)).toInt ≤ 14) := by have := ti_add2 (Eq.refl x116_4.toInt) (by decide : ((1 : Int32)).toInt = 1) (by omega) (by omega); have := ti_lo (((w.1 44 x116_1.toInt.toNat) >>> (x116_4 &&& 31)) &&& (1 : Int32)); have := ti_hi (((w.1 44 x116_1.toInt.toNat) >>> (x116_4 &&& 31)) &&& (1 : Int32)); have := nb_and ((w.1 44 x116_1.toInt.toNat) >>> (x116_4 &&& 31)) (1 : Int32) 1 rfl (by decide); have := (by decide : ((0 : Int32)).toInt = 0); exact ⟨by omega, by omega, by omega, by omega⟩
                  exact ih _ w3053 hI3054  o3068.1 o3068.2.1 o3068.2.2.1 o3068.2.2.2 (by have := ti_add2 (Eq.refl x116_4.toInt) (by decide : ((1 : Int32)).toInt = 1) (by omega) (by omega); have := ti_lo (((w.1 44 x116_1.toInt.toNat) >>> (x116_4 &&& 31)) &&& (1 : Int32)); have := ti_hi (((w.1 44 x116_1.toInt.toNat) >>> (x116_4 &&& 31)) &&& (1 : Int32)); have := nb_and ((w.1 44 x116_1.toInt.toNat) >>> (x116_4 &&& 31)) (1 : Int32) 1 rfl (by decide); have := (by decide : ((0 : Int32)).toInt = 0); omega) (fun w9 hI9 hF9 => hE w9 hI9 (hF3059.tr hF9 rfl) ) (fun r w9 hI9 hF9 q0 => q0.elim)
                · refine ⟨fun h3069 => ?_, fun h3069 => ?_⟩
                  · have o3070 : (1 ≤ x116_1.toInt) ∧ (x116_1.toInt ≤ 14) ∧ (1 ≤ (x116_4 + (1 : Int32)).toInt) ∧ ((x116_4 + (1 : Int32)).toInt ≤ 14) := by have := ti_add2 (Eq.refl x116_4.toInt) (by decide : ((1 : Int32)).toInt = 1) (by omega) (by omega); have := ti_lo (((w.1 44 x116_1.toInt.toNat) >>> (x116_4 &&& 31)) &&& (1 : Int32)); have := ti_hi (((w.1 44 x116_1.toInt.toNat) >>> (x116_4 &&& 31)) &&& (1 : Int32)); have := nb_and ((w.1 44 x116_1.toInt.toNat) >>> (x116_4 &&& 31)) (1 : Int32) 1 rfl (by decide); have := (by decide : ((0 : Int32)).toInt = 0); have := (congrArg Int32.toInt (hL3055 42 8 rfl).1); exact ⟨by omega, by omega, by omega, by omega⟩
                    exact ih _ w3053 hI3054  o3070.1 o3070.2.1 o3070.2.2.1 o3070.2.2.2 (by have := ti_add2 (Eq.refl x116_4.toInt) (by decide : ((1 : Int32)).toInt = 1) (by omega) (by omega); have := ti_lo (((w.1 44 x116_1.toInt.toNat) >>> (x116_4 &&& 31)) &&& (1 : Int32)); have := ti_hi (((w.1 44 x116_1.toInt.toNat) >>> (x116_4 &&& 31)) &&& (1 : Int32)); have := nb_and ((w.1 44 x116_1.toInt.toNat) >>> (x116_4 &&& 31)) (1 : Int32) 1 rfl (by decide); have := (by decide : ((0 : Int32)).toInt = 0); have := (congrArg Int32.toInt (hL3055 42 8 rfl).1); omega) (fun w9 hI9 hF9 => hE w9 hI9 (hF3059.tr hF9 rfl) ) (fun r w9 hI9 hF9 q0 => q0.elim)
                  · have hI3071 : BND (sI w3053 42 7 ((32 : Int32) + r3056)) := wbd_42_7 hI3054
                    have hI3072 : BND (sI (sI w3053 42 7 ((32 : Int32) + r3056)) 42 8 x116_4) := wbd_42_8 hI3071
                    have hI3073 : BND (sI (sI (sI w3053 42 7 ((32 : Int32) + r3056)) 42 8 x116_4) 42 9 x116_1) := wbd_42_9 hI3072
                    have o3074 : (1 ≤ x116_1.toInt) ∧ (x116_1.toInt ≤ 14) ∧ (1 ≤ (x116_4 + (1 : Int32)).toInt) ∧ ((x116_4 + (1 : Int32)).toInt ≤ 14) := by have := ti_add2 (Eq.refl x116_4.toInt) (by decide : ((1 : Int32)).toInt = 1) (by omega) (by omega); have := ti_lo (((w.1 44 x116_1.toInt.toNat) >>> (x116_4 &&& 31)) &&& (1 : Int32)); have := ti_hi (((w.1 44 x116_1.toInt.toNat) >>> (x116_4 &&& 31)) &&& (1 : Int32)); have := nb_and ((w.1 44 x116_1.toInt.toNat) >>> (x116_4 &&& 31)) (1 : Int32) 1 rfl (by decide); have := (by decide : ((0 : Int32)).toInt = 0); have := (congrArg Int32.toInt (hL3055 42 8 rfl).1); exact ⟨by omega, by omega, by omega, by omega⟩
                    exact ih _ (sI (sI (sI w3053 42 7 ((32 : Int32) + r3056)) 42 8 x116_4) 42 9 x116_1) hI3073  o3074.1 o3074.2.1 o3074.2.2.1 o3074.2.2.2 (by have := ti_add2 (Eq.refl x116_4.toInt) (by decide : ((1 : Int32)).toInt = 1) (by omega) (by omega); have := ti_lo (((w.1 44 x116_1.toInt.toNat) >>> (x116_4 &&& 31)) &&& (1 : Int32)); have := ti_hi (((w.1 44 x116_1.toInt.toNat) >>> (x116_4 &&& 31)) &&& (1 : Int32)); have := nb_and ((w.1 44 x116_1.toInt.toNat) >>> (x116_4 &&& 31)) (1 : Int32) 1 rfl (by decide); have := (by decide : ((0 : Int32)).toInt = 0); have := (congrArg Int32.toInt (hL3055 42 8 rfl).1); omega) (fun w9 hI9 hF9 => hE w9 hI9 ((FR.I (FR.I (FR.I hF3059 (k := 42) (j := 7) (v := ((32 : Int32) + r3056)) rfl) (k := 42) (j := 8) (v := x116_4) rfl) (k := 42) (j := 9) (v := x116_1) rfl).tr hF9 rfl) ) (fun r w9 hI9 hF9 q0 => q0.elim)
        · refine Eq.mpr (q_Sf_meet_173.eq_1 _ _ _ _ _ _ _) ?_
          refine ⟨fun h3075 => ?_, fun h3075 => ?_⟩
          · replace h3075 : 44 < (w.1 42 7).toInt := h3075
            have hI3076 : BND (sI w 42 7 44) := wbd_42_7 hI
            have hI3077 : BND (sI (sI w 42 7 44) 42 8 x116_4) := wbd_42_8 hI3076
            have hI3078 : BND (sI (sI (sI w 42 7 44) 42 8 x116_4) 42 9 x116_1) := wbd_42_9 hI3077
            have o3079 : (1 ≤ x116_1.toInt) ∧ (x116_1.toInt ≤ 14) ∧ (1 ≤ (x116_4 + (1 : Int32)).toInt) ∧ ((x116_4 + (1 : Int32)).toInt ≤ 14) := by have := ti_add2 (Eq.refl x116_4.toInt) (by decide : ((1 : Int32)).toInt = 1) (by omega) (by omega); have := ti_lo (((w.1 44 x116_1.toInt.toNat) >>> (x116_4 &&& 31)) &&& (1 : Int32)); have := ti_hi (((w.1 44 x116_1.toInt.toNat) >>> (x116_4 &&& 31)) &&& (1 : Int32)); have := nb_and ((w.1 44 x116_1.toInt.toNat) >>> (x116_4 &&& 31)) (1 : Int32) 1 rfl (by decide); have := (by decide : ((0 : Int32)).toInt = 0); exact ⟨by omega, by omega, by omega, by omega⟩
            exact ih _ (sI (sI (sI w 42 7 44) 42 8 x116_4) 42 9 x116_1) hI3078  o3079.1 o3079.2.1 o3079.2.2.1 o3079.2.2.2 (by have := ti_add2 (Eq.refl x116_4.toInt) (by decide : ((1 : Int32)).toInt = 1) (by omega) (by omega); have := ti_lo (((w.1 44 x116_1.toInt.toNat) >>> (x116_4 &&& 31)) &&& (1 : Int32)); have := ti_hi (((w.1 44 x116_1.toInt.toNat) >>> (x116_4 &&& 31)) &&& (1 : Int32)); have := nb_and ((w.1 44 x116_1.toInt.toNat) >>> (x116_4 &&& 31)) (1 : Int32) 1 rfl (by decide); have := (by decide : ((0 : Int32)).toInt = 0); omega) (fun w9 hI9 hF9 => hE w9 hI9 ((FR.I (FR.I (FR.I (FR.refl _ w) (k := 42) (j := 7) (v := 44) rfl) (k := 42) (j := 8) (v := x116_4) rfl) (k := 42) (j := 9) (v := x116_1) rfl).tr hF9 rfl) ) (fun r w9 hI9 hF9 q0 => q0.elim)
          · replace h3075 : ¬ (44 < (w.1 42 7).toInt) := h3075
            refine ⟨fun h3080 => ?_, fun h3080 => ?_⟩
            · replace h3080 : ¬ 44 = (w.1 42 7).toInt := h3080
              have o3081 : (1 ≤ x116_1.toInt) ∧ (x116_1.toInt ≤ 14) ∧ (1 ≤ (x116_4 + (1 : Int32)).toInt) ∧ ((x116_4 + (1 : Int32)).toInt ≤ 14) := by have := ti_add2 (Eq.refl x116_4.toInt) (by decide : ((1 : Int32)).toInt = 1) (by omega) (by omega); have := ti_lo (((w.1 44 x116_1.toInt.toNat) >>> (x116_4 &&& 31)) &&& (1 : Int32)); have := ti_hi (((w.1 44 x116_1.toInt.toNat) >>> (x116_4 &&& 31)) &&& (1 : Int32)); have := nb_and ((w.1 44 x116_1.toInt.toNat) >>> (x116_4 &&& 31)) (1 : Int32) 1 rfl (by decide); have := (by decide : ((0 : Int32)).toInt = 0); exact ⟨by omega, by omega, by omega, by omega⟩
              exact ih _ w hI  o3081.1 o3081.2.1 o3081.2.2.1 o3081.2.2.2 (by have := ti_add2 (Eq.refl x116_4.toInt) (by decide : ((1 : Int32)).toInt = 1) (by omega) (by omega); have := ti_lo (((w.1 44 x116_1.toInt.toNat) >>> (x116_4 &&& 31)) &&& (1 : Int32)); have := ti_hi (((w.1 44 x116_1.toInt.toNat) >>> (x116_4 &&& 31)) &&& (1 : Int32)); have := nb_and ((w.1 44 x116_1.toInt.toNat) >>> (x116_4 &&& 31)) (1 : Int32) 1 rfl (by decide); have := (by decide : ((0 : Int32)).toInt = 0); omega) (fun w9 hI9 hF9 => hE w9 hI9 ((FR.refl _ w).tr hF9 rfl) ) (fun r w9 hI9 hF9 q0 => q0.elim)
            · replace h3080 : ¬ (¬ 44 = (w.1 42 7).toInt) := h3080
              refine ⟨fun _ => ?_, fun h => absurd (by decide) h⟩
              have o3082 : (1 ≤ x116_1.toInt) ∧ (x116_1.toInt ≤ 14) ∧ (1 ≤ (x116_4 + (1 : Int32)).toInt) ∧ ((x116_4 + (1 : Int32)).toInt ≤ 14) := by have := ti_add2 (Eq.refl x116_4.toInt) (by decide : ((1 : Int32)).toInt = 1) (by omega) (by omega); have := ti_lo (((w.1 44 x116_1.toInt.toNat) >>> (x116_4 &&& 31)) &&& (1 : Int32)); have := ti_hi (((w.1 44 x116_1.toInt.toNat) >>> (x116_4 &&& 31)) &&& (1 : Int32)); have := nb_and ((w.1 44 x116_1.toInt.toNat) >>> (x116_4 &&& 31)) (1 : Int32) 1 rfl (by decide); have := (by decide : ((0 : Int32)).toInt = 0); exact ⟨by omega, by omega, by omega, by omega⟩
              exact ih _ w hI  o3082.1 o3082.2.1 o3082.2.2.1 o3082.2.2.2 (by have := ti_add2 (Eq.refl x116_4.toInt) (by decide : ((1 : Int32)).toInt = 1) (by omega) (by omega); have := ti_lo (((w.1 44 x116_1.toInt.toNat) >>> (x116_4 &&& 31)) &&& (1 : Int32)); have := ti_hi (((w.1 44 x116_1.toInt.toNat) >>> (x116_4 &&& 31)) &&& (1 : Int32)); have := nb_and ((w.1 44 x116_1.toInt.toNat) >>> (x116_4 &&& 31)) (1 : Int32) 1 rfl (by decide); have := (by decide : ((0 : Int32)).toInt = 0); omega) (fun w9 hI9 hF9 => hE w9 hI9 ((FR.refl _ w).tr hF9 rfl) ) (fun r w9 hI9 hF9 q0 => q0.elim)
set_option maxRecDepth 20000 in
set_option maxHeartbeats 2000000 in
theorem hq_Sf_meet_8 {E : MW → Prop} {Q : Int32 → MW → Prop} (n : Nat) : ∀ (x8_1 : Int32) (w : MW), BND w → 1 ≤ x8_1.toInt → x8_1.toInt ≤ 15 → (15 - x8_1.toInt).toNat < n → (∀ (w' : MW), BND w' → FR l_Sf_meet_8 w w' → E w') → (∀ (r : Int32) (w' : MW), BND w' → FR l_Sf_meet_8 w w' → False → Q r w') → q_Sf_meet_8 E Q n x8_1 w := by
  induction n with
  | zero => intros; omega
  | succ n ih =>
    intro x8_1 w hI  hp0 hp1 hm hE hQ
    rw [q_Sf_meet_8.eq_2]
    refine ⟨fun h3083 => ?_, fun h3083 => ?_⟩
    · exact hE _ hI (FR.refl _ w)
    · have o3084 : 0 ≤ x8_1.toInt ∧ x8_1.toInt < 15 := by have := (by decide : ((14 : Int32)).toInt = 14); omega
      refine ⟨o3084, ?_⟩
      have o3085 : 0 ≤ x8_1.toInt ∧ x8_1.toInt < 15 := by have := (by decide : ((14 : Int32)).toInt = 14); omega
      refine ⟨o3085, ?_⟩
      have o3086 : 0 ≤ x8_1.toInt ∧ x8_1.toInt < 15 := by have := (by decide : ((14 : Int32)).toInt = 14); omega
      refine ⟨o3086, ?_⟩
      refine ⟨fun h3087 => ?_, fun h3087 => ?_⟩
      · have o3088 : 0 ≤ x8_1.toInt ∧ x8_1.toInt < 15 := by have := (by decide : ((14 : Int32)).toInt = 14); omega
        refine ⟨o3088, ?_⟩
        have o3089 : (1 ≤ x8_1.toInt) ∧ (x8_1.toInt ≤ 14) ∧ (0 ≤ (0 : Int32).toInt) ∧ ((0 : Int32).toInt ≤ 44) := by have := (by decide : ((0 : Int32)).toInt = 0); have := (by decide : ((14 : Int32)).toInt = 14); exact ⟨by omega, by omega, by omega, by omega⟩
        refine hq_Sf_meet_49 FU _ _ (sJ w 45 x8_1.toInt.toNat (w.2.1 43 x8_1.toInt.toNat)) (bnd_J hI (k := 45) (j := x8_1.toInt.toNat) (v := (w.2.1 43 x8_1.toInt.toNat)))  o3089.1 o3089.2.1 o3089.2.2.1 o3089.2.2.2 (fu_lt (by have := (by decide : ((0 : Int32)).toInt = 0); have := (by decide : ((14 : Int32)).toInt = 14); omega)) (fun w3090 hI3091 hL3092  => ?_) (fun r w9 hI9 hF9 q0 => q0.elim)
        have hF3093 : FR l_Sf_meet_8 w w3090 := (FR.J (FR.refl _ w) (k := 45) (j := x8_1.toInt.toNat) (v := (w.2.1 43 x8_1.toInt.toNat)) rfl).tr hL3092 rfl
        have o3094 : (1 ≤ x8_1.toInt) ∧ (x8_1.toInt ≤ 14) ∧ (1 ≤ (1 : Int32).toInt) ∧ ((1 : Int32).toInt ≤ 14) := by have := (by decide : ((1 : Int32)).toInt = 1); have := (by decide : ((14 : Int32)).toInt = 14); exact ⟨by omega, by omega, by omega, by omega⟩
        refine hq_Sf_meet_116 FU _ w3090 hI3091  o3094.1 o3094.2.1 o3094.2.2.1 o3094.2.2.2 (fu_lt (by have := (by decide : ((1 : Int32)).toInt = 1); have := (by decide : ((14 : Int32)).toInt = 14); omega)) (fun w3095 hI3096 hL3097  => ?_) (fun r w9 hI9 hF9 q0 => q0.elim)
        have hF3098 : FR l_Sf_meet_8 w w3095 := hF3093.tr hL3097 rfl
        have o3099 : (1 ≤ (x8_1 + (1 : Int32)).toInt) ∧ ((x8_1 + (1 : Int32)).toInt ≤ 15) := by have := ti_add2 (Eq.refl x8_1.toInt) (by decide : ((1 : Int32)).toInt = 1) (by omega) (by omega); have := (by decide : ((14 : Int32)).toInt = 14); exact ⟨by omega, by omega⟩
        exact ih _ w3095 hI3096  o3099.1 o3099.2 (by have := ti_add2 (Eq.refl x8_1.toInt) (by decide : ((1 : Int32)).toInt = 1) (by omega) (by omega); have := (by decide : ((14 : Int32)).toInt = 14); omega) (fun w9 hI9 hF9 => hE w9 hI9 (hF3098.tr hF9 rfl) ) (fun r w9 hI9 hF9 q0 => q0.elim)
      · have o3100 : (1 ≤ x8_1.toInt) ∧ (x8_1.toInt ≤ 14) ∧ (0 ≤ (0 : Int32).toInt) ∧ ((0 : Int32).toInt ≤ 44) := by have := (by decide : ((0 : Int64)).toInt = 0); have := (by decide : ((0 : Int32)).toInt = 0); have := (by decide : ((14 : Int32)).toInt = 14); exact ⟨by omega, by omega, by omega, by omega⟩
        refine hq_Sf_meet_49 FU _ _ (sJ w 45 x8_1.toInt.toNat (w.2.1 43 x8_1.toInt.toNat)) (bnd_J hI (k := 45) (j := x8_1.toInt.toNat) (v := (w.2.1 43 x8_1.toInt.toNat)))  o3100.1 o3100.2.1 o3100.2.2.1 o3100.2.2.2 (fu_lt (by have := (by decide : ((0 : Int64)).toInt = 0); have := (by decide : ((0 : Int32)).toInt = 0); have := (by decide : ((14 : Int32)).toInt = 14); omega)) (fun w3101 hI3102 hL3103  => ?_) (fun r w9 hI9 hF9 q0 => q0.elim)
        have hF3104 : FR l_Sf_meet_8 w w3101 := (FR.J (FR.refl _ w) (k := 45) (j := x8_1.toInt.toNat) (v := (w.2.1 43 x8_1.toInt.toNat)) rfl).tr hL3103 rfl
        have o3105 : (1 ≤ x8_1.toInt) ∧ (x8_1.toInt ≤ 14) ∧ (1 ≤ (1 : Int32).toInt) ∧ ((1 : Int32).toInt ≤ 14) := by have := (by decide : ((1 : Int32)).toInt = 1); have := (by decide : ((14 : Int32)).toInt = 14); exact ⟨by omega, by omega, by omega, by omega⟩
        refine hq_Sf_meet_116 FU _ w3101 hI3102  o3105.1 o3105.2.1 o3105.2.2.1 o3105.2.2.2 (fu_lt (by have := (by decide : ((1 : Int32)).toInt = 1); have := (by decide : ((14 : Int32)).toInt = 14); omega)) (fun w3106 hI3107 hL3108  => ?_) (fun r w9 hI9 hF9 q0 => q0.elim)
        have hF3109 : FR l_Sf_meet_8 w w3106 := hF3104.tr hL3108 rfl
        have o3110 : (1 ≤ (x8_1 + (1 : Int32)).toInt) ∧ ((x8_1 + (1 : Int32)).toInt ≤ 15) := by have := ti_add2 (Eq.refl x8_1.toInt) (by decide : ((1 : Int32)).toInt = 1) (by omega) (by omega); have := (by decide : ((14 : Int32)).toInt = 14); exact ⟨by omega, by omega⟩
        exact ih _ w3106 hI3107  o3110.1 o3110.2 (by have := ti_add2 (Eq.refl x8_1.toInt) (by decide : ((1 : Int32)).toInt = 1) (by omega) (by omega); have := (by decide : ((14 : Int32)).toInt = 14); omega) (fun w9 hI9 hF9 => hE w9 hI9 (hF3109.tr hF9 rfl) ) (fun r w9 hI9 hF9 q0 => q0.elim)
set_option maxRecDepth 20000 in
set_option maxHeartbeats 2000000 in
theorem h_Sf_meet {w : MW} {Q : Int32 → MW → Prop} (hI : BND w)  (hQ : ∀ (r : Int32) (w' : MW), BND w' → FR l_Sf_meet w w' → 0 ≤ r.toInt → r.toInt ≤ 1 → Q r w') : p_Sf_meet w Q := by
  refine Eq.mpr (p_Sf_meet.eq_1 _ _) ?_
  have hI3111 : BND (sI w 42 7 44) := wbd_42_7 hI
  have o3112 : (1 ≤ (1 : Int32).toInt) ∧ ((1 : Int32).toInt ≤ 15) := by have := (by decide : ((1 : Int32)).toInt = 1); exact ⟨by omega, by omega⟩
  refine hq_Sf_meet_8 FU _ (sI w 42 7 44) hI3111  o3112.1 o3112.2 (fu_lt (by have := (by decide : ((1 : Int32)).toInt = 1); omega)) (fun w3113 hI3114 hL3115  => ?_) (fun r w9 hI9 hF9 q0 => q0.elim)
  have hF3116 : FR l_Sf_meet w w3113 := (FR.I (FR.refl _ w) (k := 42) (j := 7) (v := 44) rfl).tr hL3115 rfl
  refine ⟨fun h3117 => ?_, fun h3117 => ?_⟩
  · have o3118 : (0 ≤ (0 : Int32).toInt) ∧ ((0 : Int32).toInt ≤ 1) := by have := (by decide : ((0 : Int32)).toInt = 0); exact ⟨by omega, by omega⟩
    exact hQ _ _ hI3114 hF3116  o3118.1 o3118.2
  · have o3119 : (0 ≤ (1 : Int32).toInt) ∧ ((1 : Int32).toInt ≤ 1) := by have := (by decide : ((1 : Int32)).toInt = 1); exact ⟨by omega, by omega⟩
    exact hQ _ _ hI3114 hF3116  o3119.1 o3119.2
def l_Wa_addSources_43_42 : Pl := []
def l_Wa_addSources_43_13 : Pl := [(43, none)]
def l_Wa_addSources_43 : Pl := [(43, none)]
set_option maxRecDepth 20000 in
set_option maxHeartbeats 2000000 in
theorem hq_Wa_addSources_43_42 {x42_2 : Int32} {x42_3 : Int32} {E : Int64 → MW → Prop} {Q : MW → Prop} (n : Nat) : ∀ (x42_4 : Int64) (x42_6 : Int32) (x42_7 : Int32) (w : MW), BND w → 0 ≤ x42_2.toInt → x42_2.toInt ≤ 20 → 0 ≤ x42_3.toInt → x42_3.toInt ≤ 23 → (-1) ≤ x42_6.toInt → x42_6.toInt ≤ 23 → 0 ≤ x42_7.toInt → x42_7.toInt ≤ 24 → (24 - x42_7.toInt).toNat < n → (∀ (e42_4 : Int64) (w' : MW), BND w' → FR l_Wa_addSources_43_42 w w' → E e42_4 w') → (∀ (w' : MW), BND w' → FR l_Wa_addSources_43_42 w w' → False → Q w') → q_Wa_addSources_43_42 x42_2 x42_3 E Q n x42_4 x42_6 x42_7 w := by
  induction n with
  | zero => intros; omega
  | succ n ih =>
    intro x42_4 x42_6 x42_7 w hI  hp0 hp1 hp2 hp3 hp4 hp5 hp6 hp7 hm hE hQ
    rw [q_Wa_addSources_43_42.eq_2]
    have o3120 : 0 ≤ x42_3.toInt ∧ x42_3.toInt < 24 := by omega
    refine ⟨o3120, ?_⟩
    refine ⟨fun h3121 => ?_, fun h3121 => ?_⟩
    · exact hE _ _ hI (FR.refl _ w)
    · refine ⟨fun h3122 => ?_, fun h3122 => ?_⟩
      · exact hE _ _ hI (FR.refl _ w)
      · have o3123 : 0 ≤ x42_6.toInt ∧ x42_6.toInt < 24 := by have := (by decide : ((0 : Int32)).toInt = 0); omega
        refine ⟨o3123, ?_⟩
        have o3124 : (0 ≤ x42_2.toInt) ∧ (x42_2.toInt ≤ 20) ∧ (0 ≤ x42_3.toInt) ∧ (x42_3.toInt ≤ 23) ∧ ((-1) ≤ (w.1 35 x42_6.toInt.toNat).toInt) ∧ ((w.1 35 x42_6.toInt.toNat).toInt ≤ 23) ∧ (0 ≤ (x42_7 + (1 : Int32)).toInt) ∧ ((x42_7 + (1 : Int32)).toInt ≤ 24) := by have := bd_35 hI x42_6.toInt.toNat; have := ti_add2 (Eq.refl x42_7.toInt) (by decide : ((1 : Int32)).toInt = 1) (by omega) (by omega); have := bd_31 hI x42_3.toInt.toNat; have := (by decide : ((0 : Int32)).toInt = 0); exact ⟨by omega, by omega, by omega, by omega, by omega, by omega, by omega, by omega⟩
        exact ih _ _ _ w hI  o3124.1 o3124.2.1 o3124.2.2.1 o3124.2.2.2.1 o3124.2.2.2.2.1 o3124.2.2.2.2.2.1 o3124.2.2.2.2.2.2.1 o3124.2.2.2.2.2.2.2 (by have := bd_35 hI x42_6.toInt.toNat; have := ti_add2 (Eq.refl x42_7.toInt) (by decide : ((1 : Int32)).toInt = 1) (by omega) (by omega); have := bd_31 hI x42_3.toInt.toNat; have := (by decide : ((0 : Int32)).toInt = 0); omega) (fun e0 w9 hI9 hF9 => hE e0 w9 hI9 ((FR.refl _ w).tr hF9 rfl) ) (fun w9 hI9 hF9 q0 => q0.elim)
set_option maxRecDepth 20000 in
set_option maxHeartbeats 2000000 in
theorem hq_Wa_addSources_43_13 {x13_2 : Int32} {E : MW → Prop} {Q : MW → Prop} (n : Nat) : ∀ (x13_3 : Int32) (w : MW), BND w → 0 ≤ x13_2.toInt → x13_2.toInt ≤ 20 → 0 ≤ x13_3.toInt → x13_3.toInt ≤ 24 → (24 - x13_3.toInt).toNat < n → (∀ (w' : MW), BND w' → FR l_Wa_addSources_43_13 w w' → E w') → (∀ (w' : MW), BND w' → FR l_Wa_addSources_43_13 w w' → False → Q w') → q_Wa_addSources_43_13 x13_2 E Q n x13_3 w := by
  induction n with
  | zero => intros; omega
  | succ n ih =>
    intro x13_3 w hI  hp0 hp1 hp2 hp3 hm hE hQ
    rw [q_Wa_addSources_43_13.eq_2]
    refine ⟨fun h3125 => ?_, fun h3125 => ?_⟩
    · exact hE _ hI (FR.refl _ w)
    · have o3126 : 0 ≤ x13_3.toInt ∧ x13_3.toInt < 24 := by have := bd_26_1 hI; omega
      refine ⟨o3126, ?_⟩
      have o3127 : 0 ≤ x13_3.toInt ∧ x13_3.toInt < 24 := by have := bd_26_1 hI; omega
      refine ⟨o3127, ?_⟩
      have o3128 : (0 ≤ x13_2.toInt) ∧ (x13_2.toInt ≤ 20) ∧ (0 ≤ x13_3.toInt) ∧ (x13_3.toInt ≤ 23) ∧ ((-1) ≤ (w.1 32 x13_3.toInt.toNat).toInt) ∧ ((w.1 32 x13_3.toInt.toNat).toInt ≤ 23) ∧ (0 ≤ (0 : Int32).toInt) ∧ ((0 : Int32).toInt ≤ 24) := by have := bd_32 hI x13_3.toInt.toNat; have := (by decide : ((0 : Int32)).toInt = 0); have := bd_26_1 hI; exact ⟨by omega, by omega, by omega, by omega, by omega, by omega, by omega, by omega⟩
      refine hq_Wa_addSources_43_42 FU _ _ _ w hI  o3128.1 o3128.2.1 o3128.2.2.1 o3128.2.2.2.1 o3128.2.2.2.2.1 o3128.2.2.2.2.2.1 o3128.2.2.2.2.2.2.1 o3128.2.2.2.2.2.2.2 (fu_lt (by have := bd_32 hI x13_3.toInt.toNat; have := (by decide : ((0 : Int32)).toInt = 0); have := bd_26_1 hI; omega)) (fun e3132 w3129 hI3130 hL3131  => ?_) (fun w9 hI9 hF9 q0 => q0.elim)
      have hF3133 : FR l_Wa_addSources_43_13 w w3129 := (FR.refl _ w).tr hL3131 rfl
      have o3134 : 0 ≤ x13_3.toInt ∧ x13_3.toInt < 24 := by have := bd_26_1 hI; omega
      refine ⟨o3134, ?_⟩
      have o3135 : 0 ≤ (w3129.1 30 x13_3.toInt.toNat).toInt ∧ (w3129.1 30 x13_3.toInt.toNat).toInt < 15 := by have := bd_30 hI3130 x13_3.toInt.toNat; have := bd_30 hI x13_3.toInt.toNat; have := (congrArg Int32.toInt (hL3131 30 x13_3.toInt.toNat rfl).1); omega
      refine ⟨o3135, ?_⟩
      have o3136 : 0 ≤ (w3129.1 30 x13_3.toInt.toNat).toInt ∧ (w3129.1 30 x13_3.toInt.toNat).toInt < 15 := by have := bd_30 hI3130 x13_3.toInt.toNat; have := bd_30 hI x13_3.toInt.toNat; have := (congrArg Int32.toInt (hL3131 30 x13_3.toInt.toNat rfl).1); omega
      refine ⟨o3136, ?_⟩
      have o3137 : (0 ≤ x13_2.toInt) ∧ (x13_2.toInt ≤ 20) ∧ (0 ≤ (x13_3 + (1 : Int32)).toInt) ∧ ((x13_3 + (1 : Int32)).toInt ≤ 24) := by have := ti_add2 (Eq.refl x13_3.toInt) (by decide : ((1 : Int32)).toInt = 1) (by omega) (by omega); have := bd_26_1 hI; exact ⟨by omega, by omega, by omega, by omega⟩
      exact ih _ (sJ w3129 43 ((w3129.1 30 x13_3.toInt.toNat).toInt.toNat) ((w3129.2.1 43 ((w3129.1 30 x13_3.toInt.toNat).toInt.toNat)) ||| e3132)) (bnd_J hI3130 (k := 43) (j := (w3129.1 30 x13_3.toInt.toNat).toInt.toNat) (v := ((w3129.2.1 43 ((w3129.1 30 x13_3.toInt.toNat).toInt.toNat)) ||| e3132)))  o3137.1 o3137.2.1 o3137.2.2.1 o3137.2.2.2 (by have := ti_add2 (Eq.refl x13_3.toInt) (by decide : ((1 : Int32)).toInt = 1) (by omega) (by omega); have := bd_26_1 hI; omega) (fun w9 hI9 hF9 => hE w9 hI9 ((FR.J hF3133 (k := 43) (j := (w3129.1 30 x13_3.toInt.toNat).toInt.toNat) (v := ((w3129.2.1 43 ((w3129.1 30 x13_3.toInt.toNat).toInt.toNat)) ||| e3132)) rfl).tr hF9 rfl) ) (fun w9 hI9 hF9 q0 => q0.elim)
set_option maxRecDepth 20000 in
set_option maxHeartbeats 2000000 in
theorem h_Wa_addSources_43 {w : MW} {Q : MW → Prop} (hI : BND w) (hr_7_0 : w.2.2 7 0 = some 8)  (hQ : ∀ (w' : MW), BND w' → FR l_Wa_addSources_43 w w' → Q w') : p_Wa_addSources_43 w Q := by
  refine Eq.mpr (p_Wa_addSources_43.eq_1 _ _) ?_
  refine ⟨hr_7_0, ?_⟩
  have o3138 : (0 ≤ (w.1 8 0).toInt) ∧ ((w.1 8 0).toInt ≤ 20) ∧ (0 ≤ (0 : Int32).toInt) ∧ ((0 : Int32).toInt ≤ 24) := by have := bd_8_0 hI; have := (by decide : ((0 : Int32)).toInt = 0); exact ⟨by omega, by omega, by omega, by omega⟩
  refine hq_Wa_addSources_43_13 FU _ w hI  o3138.1 o3138.2.1 o3138.2.2.1 o3138.2.2.2 (fu_lt (by have := bd_8_0 hI; have := (by decide : ((0 : Int32)).toInt = 0); omega)) (fun w3139 hI3140 hL3141  => ?_) (fun w9 hI9 hF9 q0 => q0.elim)
  have hF3142 : FR l_Wa_addSources_43 w w3139 := (FR.refl _ w).tr hL3141 rfl
  exact hQ _ hI3140 hF3142 
def l_St_forgetCleanings_2 : Pl := [(23, none)]
def l_St_forgetCleanings : Pl := [(23, none)]
set_option maxRecDepth 20000 in
set_option maxHeartbeats 2000000 in
theorem hq_St_forgetCleanings_2 {x2_1 : Int32} {E : MW → Prop} {Q : MW → Prop} (n : Nat) : ∀ (x2_2 : Int32) (w : MW), BND w → 0 ≤ x2_1.toInt → x2_1.toInt ≤ 43 → 1 ≤ x2_2.toInt → x2_2.toInt ≤ 6 → (6 - x2_2.toInt).toNat < n → (∀ (w' : MW), BND w' → FR l_St_forgetCleanings_2 w w' → E w') → (∀ (w' : MW), BND w' → FR l_St_forgetCleanings_2 w w' → False → Q w') → q_St_forgetCleanings_2 x2_1 E Q n x2_2 w := by
  induction n with
  | zero => intros; omega
  | succ n ih =>
    intro x2_2 w hI  hp0 hp1 hp2 hp3 hm hE hQ
    rw [q_St_forgetCleanings_2.eq_2]
    refine ⟨fun h3143 => ?_, fun h3143 => ?_⟩
    · exact hE _ hI (FR.refl _ w)
    · have o3144 : 0 ≤ ((x2_1 * (6 : Int32)) + x2_2).toInt ∧ ((x2_1 * (6 : Int32)) + x2_2).toInt < 264 := by have := ti_mul2 (Eq.refl x2_1.toInt) (by decide : ((6 : Int32)).toInt = 6) (by omega) (by omega); have := ti_add2 (Eq.refl (x2_1 * (6 : Int32)).toInt) (Eq.refl x2_2.toInt) (by omega) (by omega); have := (by decide : ((5 : Int32)).toInt = 5); omega
      refine ⟨o3144, ?_⟩
      have hI3145 : BND (sI w 23 (((x2_1 * (6 : Int32)) + x2_2).toInt.toNat) (-1)) := wbd_23 hI (((x2_1 * (6 : Int32)) + x2_2).toInt.toNat)
      have o3146 : (0 ≤ x2_1.toInt) ∧ (x2_1.toInt ≤ 43) ∧ (1 ≤ (x2_2 + (1 : Int32)).toInt) ∧ ((x2_2 + (1 : Int32)).toInt ≤ 6) := by have := ti_add2 (Eq.refl x2_2.toInt) (by decide : ((1 : Int32)).toInt = 1) (by omega) (by omega); have := (by decide : ((5 : Int32)).toInt = 5); exact ⟨by omega, by omega, by omega, by omega⟩
      exact ih _ (sI w 23 (((x2_1 * (6 : Int32)) + x2_2).toInt.toNat) (-1)) hI3145  o3146.1 o3146.2.1 o3146.2.2.1 o3146.2.2.2 (by have := ti_add2 (Eq.refl x2_2.toInt) (by decide : ((1 : Int32)).toInt = 1) (by omega) (by omega); have := (by decide : ((5 : Int32)).toInt = 5); omega) (fun w9 hI9 hF9 => hE w9 hI9 ((FR.I (FR.refl _ w) (k := 23) (j := ((x2_1 * (6 : Int32)) + x2_2).toInt.toNat) (v := (-1)) rfl).tr hF9 rfl) ) (fun w9 hI9 hF9 q0 => q0.elim)
set_option maxRecDepth 20000 in
set_option maxHeartbeats 2000000 in
theorem h_St_forgetCleanings {w : MW} {a0 : Int32} {Q : MW → Prop} (hI : BND w) (hp0 : 0 ≤ a0.toInt) (hp1 : a0.toInt ≤ 43) (hQ : ∀ (w' : MW), BND w' → FR l_St_forgetCleanings w w' → Q w') : p_St_forgetCleanings w a0 Q := by
  refine Eq.mpr (p_St_forgetCleanings.eq_1 _ _ _) ?_
  have o3147 : (0 ≤ a0.toInt) ∧ (a0.toInt ≤ 43) ∧ (1 ≤ (1 : Int32).toInt) ∧ ((1 : Int32).toInt ≤ 6) := by have := (by decide : ((1 : Int32)).toInt = 1); exact ⟨by omega, by omega, by omega, by omega⟩
  refine hq_St_forgetCleanings_2 FU _ w hI  o3147.1 o3147.2.1 o3147.2.2.1 o3147.2.2.2 (fu_lt (by have := (by decide : ((1 : Int32)).toInt = 1); omega)) (fun w3148 hI3149 hL3150  => ?_) (fun w9 hI9 hF9 q0 => q0.elim)
  have hF3151 : FR l_St_forgetCleanings w w3148 := (FR.refl _ w).tr hL3150 rfl
  exact hQ _ hI3149 hF3151 
def l_St_arrive_14 : Pl := [(17, none), (18, none)]
def l_St_arrive : Pl := [(17, none), (18, none), (23, none)]
set_option maxRecDepth 20000 in
set_option maxHeartbeats 2000000 in
theorem h_St_arrive {w : MW} {a0 : Int32} {b0 : Int32} {c0 : Int32} {Q : MW → Prop} (hI : BND w) (hp0 : 0 ≤ a0.toInt) (hp1 : a0.toInt ≤ 43) (hp2 : 0 ≤ b0.toInt) (hp3 : b0.toInt ≤ 14) (hp4 : 1 ≤ c0.toInt) (hp5 : c0.toInt ≤ 100000) (hQ : ∀ (w' : MW), BND w' → FR l_St_arrive w w' → Q w') : p_St_arrive w a0 b0 c0 Q := by
  refine Eq.mpr (p_St_arrive.eq_1 _ _ _ _ _) ?_
  have o3152 : 0 ≤ a0.toInt ∧ a0.toInt < 44 := by omega
  refine ⟨o3152, ?_⟩
  refine ⟨fun h3153 => ?_, fun h3153 => ?_⟩
  · refine Eq.mpr (q_St_arrive_14.eq_1 _ _ _ _ _) ?_
    have o3154 : 0 ≤ a0.toInt ∧ a0.toInt < 44 := by omega
    refine ⟨o3154, ?_⟩
    have o3155 : 0 ≤ a0.toInt ∧ a0.toInt < 44 := by omega
    refine ⟨o3155, ?_⟩
    have o3156 : 0 ≤ a0.toInt ∧ a0.toInt < 44 := by omega
    refine ⟨o3156, ?_⟩
    have o3158 : 0 ≤ b0.toInt ∧ b0.toInt ≤ 14 := by omega
    have hI3157 : BND (sI w 17 a0.toInt.toNat b0) := wbd_17 hI a0.toInt.toNat o3158.1 o3158.2
    have hI3159 : BND (sI (sI w 17 a0.toInt.toNat b0) 18 a0.toInt.toNat ((w.1 18 a0.toInt.toNat) + c0)) := wbd_18 hI3157 a0.toInt.toNat
    exact hQ _ hI3159 (FR.I (FR.I (FR.refl _ w) (k := 17) (j := a0.toInt.toNat) (v := b0) rfl) (k := 18) (j := a0.toInt.toNat) (v := ((w.1 18 a0.toInt.toNat) + c0)) rfl) 
  · have o3160 : (0 ≤ a0.toInt) ∧ (a0.toInt ≤ 43) := by exact ⟨by omega, by omega⟩
    refine h_St_forgetCleanings hI  o3160.1 o3160.2 (fun w3161 hI3162 hL3163  => ?_)
    have hF3165 : FR l_St_arrive w w3161 := (FR.refl _ w).tr hL3163 rfl
    refine Eq.mpr (q_St_arrive_14.eq_1 _ _ _ _ _) ?_
    have o3166 : 0 ≤ a0.toInt ∧ a0.toInt < 44 := by omega
    refine ⟨o3166, ?_⟩
    have o3167 : 0 ≤ a0.toInt ∧ a0.toInt < 44 := by omega
    refine ⟨o3167, ?_⟩
    have o3168 : 0 ≤ a0.toInt ∧ a0.toInt < 44 := by omega
    refine ⟨o3168, ?_⟩
    have o3170 : 0 ≤ b0.toInt ∧ b0.toInt ≤ 14 := by omega
    have hI3169 : BND (sI w3161 17 a0.toInt.toNat b0) := wbd_17 hI3162 a0.toInt.toNat o3170.1 o3170.2
    have hI3171 : BND (sI (sI w3161 17 a0.toInt.toNat b0) 18 a0.toInt.toNat ((w3161.1 18 a0.toInt.toNat) + c0)) := wbd_18 hI3169 a0.toInt.toNat
    exact hQ _ hI3171 (FR.I (FR.I hF3165 (k := 17) (j := a0.toInt.toNat) (v := b0) rfl) (k := 18) (j := a0.toInt.toNat) (v := ((w3161.1 18 a0.toInt.toNat) + c0)) rfl) 
def l_Bh_may : Pl := [(22, none)]
set_option maxRecDepth 20000 in
set_option maxHeartbeats 2000000 in
theorem h_Bh_may {w : MW} {a0 : Int32} {b0 : Int32} {Q : Int32 → MW → Prop} (hI : BND w)  (hQ : ∀ (r : Int32) (w' : MW), BND w' → FR l_Bh_may w w' → 0 ≤ r.toInt → r.toInt ≤ 1 → Q r w') : p_Bh_may w a0 b0 Q := by
  refine Eq.mpr (p_Bh_may.eq_1 _ _ _ _) ?_
  refine Eq.mpr (p_Bh_isLiquid.eq_1 _ _ _) ?_
  refine ⟨fun h3172 => ?_, fun h3172 => ?_⟩
  · refine ⟨fun _ => ?_, fun h => absurd (by decide) h⟩
    have o3173 : (0 ≤ (0 : Int32).toInt) ∧ ((0 : Int32).toInt ≤ 1) := by have := (by decide : ((0 : Int32)).toInt = 0); exact ⟨by omega, by omega⟩
    exact hQ _ _ hI (FR.refl _ w)  o3173.1 o3173.2
  · refine ⟨fun h3174 => ?_, fun h3174 => ?_⟩
    · refine ⟨fun _ => ?_, fun h => absurd (by decide) h⟩
      have o3175 : (0 ≤ (0 : Int32).toInt) ∧ ((0 : Int32).toInt ≤ 1) := by have := (by decide : ((0 : Int32)).toInt = 0); exact ⟨by omega, by omega⟩
      exact hQ _ _ hI (FR.refl _ w)  o3175.1 o3175.2
    · refine ⟨fun h => absurd h (by decide), fun _ => ?_⟩
      refine Eq.mpr (p_Bh_isLiquid.eq_1 _ _ _) ?_
      refine ⟨fun h3176 => ?_, fun h3176 => ?_⟩
      · refine ⟨fun _ => ?_, fun h => absurd (by decide) h⟩
        have o3177 : (0 ≤ (0 : Int32).toInt) ∧ ((0 : Int32).toInt ≤ 1) := by have := (by decide : ((0 : Int32)).toInt = 0); exact ⟨by omega, by omega⟩
        exact hQ _ _ hI (FR.refl _ w)  o3177.1 o3177.2
      · refine ⟨fun h3178 => ?_, fun h3178 => ?_⟩
        · refine ⟨fun _ => ?_, fun h => absurd (by decide) h⟩
          have o3179 : (0 ≤ (0 : Int32).toInt) ∧ ((0 : Int32).toInt ≤ 1) := by have := (by decide : ((0 : Int32)).toInt = 0); exact ⟨by omega, by omega⟩
          exact hQ _ _ hI (FR.refl _ w)  o3179.1 o3179.2
        · refine ⟨fun h => absurd h (by decide), fun _ => ?_⟩
          refine ⟨fun h3180 => ?_, fun h3180 => ?_⟩
          · have o3181 : (0 ≤ (0 : Int32).toInt) ∧ ((0 : Int32).toInt ≤ 1) := by have := (by decide : ((0 : Int32)).toInt = 0); exact ⟨by omega, by omega⟩
            exact hQ _ _ hI (FR.refl _ w)  o3181.1 o3181.2
          · refine Eq.mpr (p_St_mayMeet.eq_1 _ _ _ _) ?_
            have o3182 : 0 ≤ a0.toInt ∧ a0.toInt < 15 := by have := (by decide : ((1 : Int32)).toInt = 1); have := (by decide : ((14 : Int32)).toInt = 14); omega
            refine ⟨o3182, ?_⟩
            refine ⟨fun h3183 => ?_, fun h3183 => ?_⟩
            · refine ⟨fun _ => ?_, fun h => absurd (by decide) h⟩
              have o3184 : 0 ≤ a0.toInt ∧ a0.toInt < 15 := by have := (by decide : ((1 : Int32)).toInt = 1); have := (by decide : ((14 : Int32)).toInt = 14); have := ti_lo (((w.1 22 a0.toInt.toNat) >>> (b0 &&& 31)) &&& (1 : Int32)); have := ti_hi (((w.1 22 a0.toInt.toNat) >>> (b0 &&& 31)) &&& (1 : Int32)); have := nb_and ((w.1 22 a0.toInt.toNat) >>> (b0 &&& 31)) (1 : Int32) 1 rfl (by decide); have := (by decide : ((0 : Int32)).toInt = 0); omega
              refine ⟨o3184, ?_⟩
              have o3185 : 0 ≤ a0.toInt ∧ a0.toInt < 15 := by have := (by decide : ((1 : Int32)).toInt = 1); have := (by decide : ((14 : Int32)).toInt = 14); have := ti_lo (((w.1 22 a0.toInt.toNat) >>> (b0 &&& 31)) &&& (1 : Int32)); have := ti_hi (((w.1 22 a0.toInt.toNat) >>> (b0 &&& 31)) &&& (1 : Int32)); have := nb_and ((w.1 22 a0.toInt.toNat) >>> (b0 &&& 31)) (1 : Int32) 1 rfl (by decide); have := (by decide : ((0 : Int32)).toInt = 0); omega
              refine ⟨o3185, ?_⟩
              have o3186 : 0 ≤ b0.toInt ∧ b0.toInt < 15 := by have := (by decide : ((1 : Int32)).toInt = 1); have := (by decide : ((14 : Int32)).toInt = 14); have := ti_lo (((w.1 22 a0.toInt.toNat) >>> (b0 &&& 31)) &&& (1 : Int32)); have := ti_hi (((w.1 22 a0.toInt.toNat) >>> (b0 &&& 31)) &&& (1 : Int32)); have := nb_and ((w.1 22 a0.toInt.toNat) >>> (b0 &&& 31)) (1 : Int32) 1 rfl (by decide); have := (by decide : ((0 : Int32)).toInt = 0); omega
              refine ⟨o3186, ?_⟩
              have o3187 : 0 ≤ b0.toInt ∧ b0.toInt < 15 := by have := (by decide : ((1 : Int32)).toInt = 1); have := (by decide : ((14 : Int32)).toInt = 14); have := ti_lo (((w.1 22 a0.toInt.toNat) >>> (b0 &&& 31)) &&& (1 : Int32)); have := ti_hi (((w.1 22 a0.toInt.toNat) >>> (b0 &&& 31)) &&& (1 : Int32)); have := nb_and ((w.1 22 a0.toInt.toNat) >>> (b0 &&& 31)) (1 : Int32) 1 rfl (by decide); have := (by decide : ((0 : Int32)).toInt = 0); omega
              refine ⟨o3187, ?_⟩
              have hI3188 : BND (sI w 22 a0.toInt.toNat ((w.1 22 a0.toInt.toNat) ||| ((1 : Int32) <<< (b0 &&& 31)))) := wbd_22 hI a0.toInt.toNat
              have hI3189 : BND (sI (sI w 22 a0.toInt.toNat ((w.1 22 a0.toInt.toNat) ||| ((1 : Int32) <<< (b0 &&& 31)))) 22 b0.toInt.toNat (((sI w 22 a0.toInt.toNat ((w.1 22 a0.toInt.toNat) ||| ((1 : Int32) <<< (b0 &&& 31)))).1 22 b0.toInt.toNat) ||| ((1 : Int32) <<< (a0 &&& 31)))) := wbd_22 hI3188 b0.toInt.toNat
              have o3190 : (0 ≤ (1 : Int32).toInt) ∧ ((1 : Int32).toInt ≤ 1) := by have := (by decide : ((1 : Int32)).toInt = 1); exact ⟨by omega, by omega⟩
              exact hQ _ _ hI3189 (FR.I (FR.I (FR.refl _ w) (k := 22) (j := a0.toInt.toNat) (v := ((w.1 22 a0.toInt.toNat) ||| ((1 : Int32) <<< (b0 &&& 31)))) rfl) (k := 22) (j := b0.toInt.toNat) (v := (((sI w 22 a0.toInt.toNat ((w.1 22 a0.toInt.toNat) ||| ((1 : Int32) <<< (b0 &&& 31)))).1 22 b0.toInt.toNat) ||| ((1 : Int32) <<< (a0 &&& 31)))) rfl)  o3190.1 o3190.2
            · refine ⟨fun h => absurd h (by decide), fun _ => ?_⟩
              have o3191 : (0 ≤ (0 : Int32).toInt) ∧ ((0 : Int32).toInt ≤ 1) := by have := (by decide : ((0 : Int32)).toInt = 0); exact ⟨by omega, by omega⟩
              exact hQ _ _ hI (FR.refl _ w)  o3191.1 o3191.2
def l_Bh_need : Pl := [(24, none)]
set_option maxRecDepth 20000 in
set_option maxHeartbeats 2000000 in
theorem h_Bh_need {w : MW} {a0 : Int32} {b0 : Int32} {c0 : Int32} {Q : Int32 → MW → Prop} (hI : BND w)  (hQ : ∀ (r : Int32) (w' : MW), BND w' → FR l_Bh_need w w' → 0 ≤ r.toInt → r.toInt ≤ 1 → Q r w') : p_Bh_need w a0 b0 c0 Q := by
  refine Eq.mpr (p_Bh_need.eq_1 _ _ _ _ _) ?_
  refine Eq.mpr (p_Bh_isLiquid.eq_1 _ _ _) ?_
  refine ⟨fun h3192 => ?_, fun h3192 => ?_⟩
  · refine ⟨fun _ => ?_, fun h => absurd (by decide) h⟩
    have o3193 : (0 ≤ (0 : Int32).toInt) ∧ ((0 : Int32).toInt ≤ 1) := by have := (by decide : ((0 : Int32)).toInt = 0); exact ⟨by omega, by omega⟩
    exact hQ _ _ hI (FR.refl _ w)  o3193.1 o3193.2
  · refine ⟨fun h3194 => ?_, fun h3194 => ?_⟩
    · refine ⟨fun _ => ?_, fun h => absurd (by decide) h⟩
      have o3195 : (0 ≤ (0 : Int32).toInt) ∧ ((0 : Int32).toInt ≤ 1) := by have := (by decide : ((0 : Int32)).toInt = 0); exact ⟨by omega, by omega⟩
      exact hQ _ _ hI (FR.refl _ w)  o3195.1 o3195.2
    · refine ⟨fun h => absurd h (by decide), fun _ => ?_⟩
      refine Eq.mpr (p_Bh_isLiquid.eq_1 _ _ _) ?_
      refine ⟨fun h3196 => ?_, fun h3196 => ?_⟩
      · refine ⟨fun _ => ?_, fun h => absurd (by decide) h⟩
        have o3197 : (0 ≤ (0 : Int32).toInt) ∧ ((0 : Int32).toInt ≤ 1) := by have := (by decide : ((0 : Int32)).toInt = 0); exact ⟨by omega, by omega⟩
        exact hQ _ _ hI (FR.refl _ w)  o3197.1 o3197.2
      · refine ⟨fun h3198 => ?_, fun h3198 => ?_⟩
        · refine ⟨fun _ => ?_, fun h => absurd (by decide) h⟩
          have o3199 : (0 ≤ (0 : Int32).toInt) ∧ ((0 : Int32).toInt ≤ 1) := by have := (by decide : ((0 : Int32)).toInt = 0); exact ⟨by omega, by omega⟩
          exact hQ _ _ hI (FR.refl _ w)  o3199.1 o3199.2
        · refine ⟨fun h => absurd h (by decide), fun _ => ?_⟩
          refine ⟨fun h3200 => ?_, fun h3200 => ?_⟩
          · have o3201 : (0 ≤ (0 : Int32).toInt) ∧ ((0 : Int32).toInt ≤ 1) := by have := (by decide : ((0 : Int32)).toInt = 0); exact ⟨by omega, by omega⟩
            exact hQ _ _ hI (FR.refl _ w)  o3201.1 o3201.2
          · refine ⟨fun h3202 => ?_, fun h3202 => ?_⟩
            · have o3203 : 0 ≤ ((a0 * (15 : Int32)) + b0).toInt ∧ ((a0 * (15 : Int32)) + b0).toInt < 225 := by have := ti_mul2 (Eq.refl a0.toInt) (by decide : ((15 : Int32)).toInt = 15) (by omega) (by omega); have := ti_add2 (Eq.refl (a0 * (15 : Int32)).toInt) (Eq.refl b0.toInt) (by omega) (by omega); have := (by decide : ((1 : Int32)).toInt = 1); have := (by decide : ((14 : Int32)).toInt = 14); omega
              refine ⟨o3203, ?_⟩
              have o3205 : 0 ≤ c0.toInt ∧ c0.toInt ≤ 5 := by have := (by decide : ((0 : Int32)).toInt = 0); have := (by decide : ((5 : Int32)).toInt = 5); omega
              have hI3204 : BND (sI w 24 (((a0 * (15 : Int32)) + b0).toInt.toNat) c0) := wbd_24 hI (((a0 * (15 : Int32)) + b0).toInt.toNat) o3205.1 o3205.2
              have o3206 : (0 ≤ (1 : Int32).toInt) ∧ ((1 : Int32).toInt ≤ 1) := by have := (by decide : ((1 : Int32)).toInt = 1); exact ⟨by omega, by omega⟩
              exact hQ _ _ hI3204 (FR.I (FR.refl _ w) (k := 24) (j := ((a0 * (15 : Int32)) + b0).toInt.toNat) (v := c0) rfl)  o3206.1 o3206.2
            · have o3207 : (0 ≤ (0 : Int32).toInt) ∧ ((0 : Int32).toInt ≤ 1) := by have := (by decide : ((0 : Int32)).toInt = 0); exact ⟨by omega, by omega⟩
              exact hQ _ _ hI (FR.refl _ w)  o3207.1 o3207.2
def l_Bh_lasts : Pl := [(25, none)]
set_option maxRecDepth 20000 in
set_option maxHeartbeats 2000000 in
theorem h_Bh_lasts {w : MW} {a0 : Int32} {b0 : Int32} {Q : Int32 → MW → Prop} (hI : BND w)  (hQ : ∀ (r : Int32) (w' : MW), BND w' → FR l_Bh_lasts w w' → 0 ≤ r.toInt → r.toInt ≤ 1 → Q r w') : p_Bh_lasts w a0 b0 Q := by
  refine Eq.mpr (p_Bh_lasts.eq_1 _ _ _ _) ?_
  refine ⟨fun h3208 => ?_, fun h3208 => ?_⟩
  · have o3209 : (0 ≤ (0 : Int32).toInt) ∧ ((0 : Int32).toInt ≤ 1) := by have := (by decide : ((0 : Int32)).toInt = 0); exact ⟨by omega, by omega⟩
    exact hQ _ _ hI (FR.refl _ w)  o3209.1 o3209.2
  · refine ⟨fun h3210 => ?_, fun h3210 => ?_⟩
    · have o3211 : (0 ≤ (0 : Int32).toInt) ∧ ((0 : Int32).toInt ≤ 1) := by have := (by decide : ((0 : Int32)).toInt = 0); exact ⟨by omega, by omega⟩
      exact hQ _ _ hI (FR.refl _ w)  o3211.1 o3211.2
    · refine ⟨fun h3212 => ?_, fun h3212 => ?_⟩
      · have o3213 : (0 ≤ (0 : Int32).toInt) ∧ ((0 : Int32).toInt ≤ 1) := by have := (by decide : ((0 : Int32)).toInt = 0); exact ⟨by omega, by omega⟩
        exact hQ _ _ hI (FR.refl _ w)  o3213.1 o3213.2
      · refine ⟨fun h3214 => ?_, fun h3214 => ?_⟩
        · have o3215 : 0 ≤ a0.toInt ∧ a0.toInt < 6 := by have := (by decide : ((1 : Int32)).toInt = 1); have := (by decide : ((5 : Int32)).toInt = 5); omega
          refine ⟨o3215, ?_⟩
          have o3217 : 0 ≤ b0.toInt ∧ b0.toInt ≤ 1000000 := by have := (by decide : ((0 : Int32)).toInt = 0); have := (by decide : ((1000000 : Int32)).toInt = 1000000); omega
          have hI3216 : BND (sI w 25 a0.toInt.toNat b0) := wbd_25 hI a0.toInt.toNat o3217.1 o3217.2
          have o3218 : (0 ≤ (1 : Int32).toInt) ∧ ((1 : Int32).toInt ≤ 1) := by have := (by decide : ((1 : Int32)).toInt = 1); exact ⟨by omega, by omega⟩
          exact hQ _ _ hI3216 (FR.I (FR.refl _ w) (k := 25) (j := a0.toInt.toNat) (v := b0) rfl)  o3218.1 o3218.2
        · have o3219 : (0 ≤ (0 : Int32).toInt) ∧ ((0 : Int32).toInt ≤ 1) := by have := (by decide : ((0 : Int32)).toInt = 0); exact ⟨by omega, by omega⟩
          exact hQ _ _ hI (FR.refl _ w)  o3219.1 o3219.2
