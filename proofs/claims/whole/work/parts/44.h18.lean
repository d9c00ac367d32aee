def l_Sf_meet_49 : Pl := [(45, none)]
def l_Sf_meet_173 : Pl := [(42, some 7), (42, some 8), (42, some 9)]
def l_Sf_meet_116 : Pl := [(42, some 7), (42, some 8), (42, some 9)]
def l_Sf_meet_8 : Pl := [(42, some 7), (42, some 8), (42, some 9), (45, none)]
def l_Sf_meet : Pl := [(42, some 7), (42, some 8), (42, some 9), (45, none)]
set_option maxRecDepth 20000 in
set_option maxHeartbeats 2000000 in
theorem hq_Sf_meet_49 {x49_1 : Int32} {E : MW → Prop} {Q : Int32 → MW → Prop} (n : Nat) : ∀ (x49_2 : Int64) (x49_4 : Int32) (w : MW), BND w → 1 ≤ x49_1.toInt → x49_1.toInt ≤ 14 → 0 ≤ x49_4.toInt → x49_4.toInt ≤ 44 → (44 - x49_4.toInt).toNat < n → (∀ (w' : MW), BND w' → FR l_Sf_meet_49 w w' → E w') → (∀ (r : Int32) (w' : MW), BND w' → FR l_Sf_meet_49 w w' → False → Q r w') → q_Sf_meet_49 x49_1 E Q n x49_2 x49_4 w := by
  induction n with
  | zero => intros; omega
  | succ n ih =>
    intro x49_2 x49_4 w hI  hp0 hp1 hp2 hp3 hm hE hQ
    rw [q_Sf_meet_49.eq_2]
    refine ⟨fun h4290 => ?_, fun h4290 => ?_⟩
    · exact hE _ hI (FR.refl _ w)
    · refine ⟨fun h4291 => ?_, fun h4291 => ?_⟩
      · exact hE _ hI (FR.refl _ w)
      · refine Eq.mpr (p_Lo_numberOfTrailingZeros.eq_1 _ _ _) ?_
        refine ⟨fun h4292 => ?_, fun h4292 => ?_⟩
        · refine h_In_numberOfTrailingZeros hI   (fun r4296 w4293 hI4294 hL4295 p4297 p4298 => ?_)
          have hF4299 : FR l_Sf_meet_49 w w4293 := (FR.refl _ w).tr hL4295 rfl
          have o4300 : 0 ≤ (r4296 - r4296 / (44 : Int32) * (44 : Int32)).toInt ∧ (r4296 - r4296 / (44 : Int32) * (44 : Int32)).toInt < 44 := by have := nb_rem (x := r4296) (by omega) (by decide : ((44 : Int32)).toInt = 44) (by decide); omega
          refine ⟨o4300, ?_⟩
          have o4301 : 0 ≤ x49_1.toInt ∧ x49_1.toInt < 15 := by omega
          refine ⟨o4301, ?_⟩
          have o4302 : 0 ≤ x49_1.toInt ∧ x49_1.toInt < 15 := by omega
          refine ⟨o4302, ?_⟩
          have o4303 : 0 ≤ x49_1.toInt ∧ x49_1.toInt < 15 := by omega
          refine ⟨o4303, ?_⟩
          have o4304 : (1 ≤ x49_1.toInt) ∧ (x49_1.toInt ≤ 14) ∧ (0 ≤ (x49_4 + (1 : Int32)).toInt) ∧ ((x49_4 + (1 : Int32)).toInt ≤ 44) := by have := (by decide : ((44 : Int32)).toInt = 44); have := nb_cmp x49_2 (0 : Int64); have := (by decide : ((0 : Int64)).toInt = 0); have := (by decide : ((0 : Int32)).toInt = 0); have := ti_lo (Int64.toInt32 x49_2); have := ti_hi (Int64.toInt32 x49_2); have := ti_add2 (Eq.refl x49_4.toInt) (by decide : ((1 : Int32)).toInt = 1) (by omega) (by omega); exact ⟨by omega, by omega, by omega, by omega⟩
          exact ih _ _ (sJ w4293 45 x49_1.toInt.toNat ((w4293.2.1 45 x49_1.toInt.toNat) ||| ((w4293.2.1 46 ((r4296 - r4296 / (44 : Int32) * (44 : Int32)).toInt.toNat)) &&& ((w4293.2.1 45 x49_1.toInt.toNat) ^^^ ((-1) : Int64))))) (bnd_J hI4294 (k := 45) (j := x49_1.toInt.toNat) (v := ((w4293.2.1 45 x49_1.toInt.toNat) ||| ((w4293.2.1 46 ((r4296 - r4296 / (44 : Int32) * (44 : Int32)).toInt.toNat)) &&& ((w4293.2.1 45 x49_1.toInt.toNat) ^^^ ((-1) : Int64))))))  o4304.1 o4304.2.1 o4304.2.2.1 o4304.2.2.2 (by have := (by decide : ((44 : Int32)).toInt = 44); have := nb_cmp x49_2 (0 : Int64); have := (by decide : ((0 : Int64)).toInt = 0); have := (by decide : ((0 : Int32)).toInt = 0); have := ti_lo (Int64.toInt32 x49_2); have := ti_hi (Int64.toInt32 x49_2); have := ti_add2 (Eq.refl x49_4.toInt) (by decide : ((1 : Int32)).toInt = 1) (by omega) (by omega); omega) (fun w9 hI9 hF9 => hE w9 hI9 ((FR.J hF4299 (k := 45) (j := x49_1.toInt.toNat) (v := ((w4293.2.1 45 x49_1.toInt.toNat) ||| ((w4293.2.1 46 ((r4296 - r4296 / (44 : Int32) * (44 : Int32)).toInt.toNat)) &&& ((w4293.2.1 45 x49_1.toInt.toNat) ^^^ ((-1) : Int64))))) rfl).tr hF9 rfl) ) (fun r w9 hI9 hF9 q0 => q0.elim)
        · refine h_In_numberOfTrailingZeros hI   (fun r4308 w4305 hI4306 hL4307 p4309 p4310 => ?_)
          have hF4311 : FR l_Sf_meet_49 w w4305 := (FR.refl _ w).tr hL4307 rfl
          have o4312 : 0 ≤ (((32 : Int32) + r4308) - ((32 : Int32) + r4308) / (44 : Int32) * (44 : Int32)).toInt ∧ (((32 : Int32) + r4308) - ((32 : Int32) + r4308) / (44 : Int32) * (44 : Int32)).toInt < 44 := by have := ti_add2 (by decide : ((32 : Int32)).toInt = 32) (Eq.refl r4308.toInt) (by omega) (by omega); have := nb_rem (x := ((32 : Int32) + r4308)) (by omega) (by decide : ((44 : Int32)).toInt = 44) (by decide); omega
          refine ⟨o4312, ?_⟩
          have o4313 : 0 ≤ x49_1.toInt ∧ x49_1.toInt < 15 := by omega
          refine ⟨o4313, ?_⟩
          have o4314 : 0 ≤ x49_1.toInt ∧ x49_1.toInt < 15 := by omega
          refine ⟨o4314, ?_⟩
          have o4315 : 0 ≤ x49_1.toInt ∧ x49_1.toInt < 15 := by omega
          refine ⟨o4315, ?_⟩
          have o4316 : (1 ≤ x49_1.toInt) ∧ (x49_1.toInt ≤ 14) ∧ (0 ≤ (x49_4 + (1 : Int32)).toInt) ∧ ((x49_4 + (1 : Int32)).toInt ≤ 44) := by have := (by decide : ((44 : Int32)).toInt = 44); have := nb_cmp x49_2 (0 : Int64); have := (by decide : ((0 : Int64)).toInt = 0); have := (by decide : ((0 : Int32)).toInt = 0); have := ti_lo (Int64.toInt32 x49_2); have := ti_hi (Int64.toInt32 x49_2); have := ti_add2 (Eq.refl x49_4.toInt) (by decide : ((1 : Int32)).toInt = 1) (by omega) (by omega); exact ⟨by omega, by omega, by omega, by omega⟩
          exact ih _ _ (sJ w4305 45 x49_1.toInt.toNat ((w4305.2.1 45 x49_1.toInt.toNat) ||| ((w4305.2.1 46 ((((32 : Int32) + r4308) - ((32 : Int32) + r4308) / (44 : Int32) * (44 : Int32)).toInt.toNat)) &&& ((w4305.2.1 45 x49_1.toInt.toNat) ^^^ ((-1) : Int64))))) (bnd_J hI4306 (k := 45) (j := x49_1.toInt.toNat) (v := ((w4305.2.1 45 x49_1.toInt.toNat) ||| ((w4305.2.1 46 ((((32 : Int32) + r4308) - ((32 : Int32) + r4308) / (44 : Int32) * (44 : Int32)).toInt.toNat)) &&& ((w4305.2.1 45 x49_1.toInt.toNat) ^^^ ((-1) : Int64))))))  o4316.1 o4316.2.1 o4316.2.2.1 o4316.2.2.2 (by have := (by decide : ((44 : Int32)).toInt = 44); have := nb_cmp x49_2 (0 : Int64); have := (by decide : ((0 : Int64)).toInt = 0); have := (by decide : ((0 : Int32)).toInt = 0); have := ti_lo (Int64.toInt32 x49_2); have := ti_hi (Int64.toInt32 x49_2); have := ti_add2 (Eq.refl x49_4.toInt) (by decide : ((1 : Int32)).toInt = 1) (by omega) (by omega); omega) (fun w9 hI9 hF9 => hE w9 hI9 ((FR.J hF4311 (k := 45) (j := x49_1.toInt.toNat) (v := ((w4305.2.1 45 x49_1.toInt.toNat) ||| ((w4305.2.1 46 ((((32 : Int32) + r4308) - ((32 : Int32) + r4308) / (44 : Int32) * (44 : Int32)).toInt.toNat)) &&& ((w4305.2.1 45 x49_1.toInt.toNat) ^^^ ((-1) : Int64))))) rfl).tr hF9 rfl) ) (fun r w9 hI9 hF9 q0 => q0.elim)
set_option maxRecDepth 20000 in
set_option maxHeartbeats 2000000 in
theorem hq_Sf_meet_116 {x116_1 : Int32} {E : MW → Prop} {Q : Int32 → MW → Prop} (n : Nat) : ∀ (x116_4 : Int32) (w : MW), BND w → 1 ≤ x116_1.toInt → x116_1.toInt ≤ 14 → 1 ≤ x116_4.toInt → x116_4.toInt ≤ 14 → (14 - x116_4.toInt).toNat < n → (∀ (w' : MW), BND w' → FR l_Sf_meet_116 w w' → E w') → (∀ (r : Int32) (w' : MW), BND w' → FR l_Sf_meet_116 w w' → False → Q r w') → q_Sf_meet_116 x116_1 E Q n x116_4 w := by
  induction n with
  | zero => intros; omega
  | succ n ih =>
    intro x116_4 w hI  hp0 hp1 hp2 hp3 hm hE hQ
    rw [q_Sf_meet_116.eq_2]
    refine ⟨fun h4317 => ?_, fun h4317 => ?_⟩
    · exact hE _ hI (FR.refl _ w)
    · have o4318 : 0 ≤ x116_1.toInt ∧ x116_1.toInt < 15 := by omega
      refine ⟨o4318, ?_⟩
      refine ⟨fun h4319 => ?_, fun h4319 => ?_⟩
      · refine Eq.mpr (q_Sf_meet_173.eq_1 _ _ _ _ _ _ _) ?_
        refine ⟨fun h4320 => ?_, fun h4320 => ?_⟩
        · replace h4320 : 44 < (w.1 42 7).toInt := h4320
          have hI4321 : BND (sI w 42 7 44) := wbd_42_7 hI
          have hI4322 : BND (sI (sI w 42 7 44) 42 8 x116_4) := wbd_42_8 hI4321
          have hI4323 : BND (sI (sI (sI w 42 7 44) 42 8 x116_4) 42 9 x116_1) := wbd_42_9 hI4322
          have o4324 : (1 ≤ x116_1.toInt) ∧ (x116_1.toInt ≤ 14) ∧ (1 ≤ (x116_4 + (1 : Int32)).toInt) ∧ ((x116_4 + (1 : Int32)).toInt ≤ 14) := by have := ti_lo (((w.1 44 x116_1.toInt.toNat) >>> (x116_4 &&& 31)) &&& (1 : Int32)); have := ti_hi (((w.1 44 x116_1.toInt.toNat) >>> (x116_4 &&& 31)) &&& (1 : Int32)); have := nb_and ((w.1 44 x116_1.toInt.toNat) >>> (x116_4 &&& 31)) (1 : Int32) 1 rfl (by decide); have := (by decide : ((0 : Int32)).toInt = 0); have := ti_add2 (Eq.refl x116_4.toInt) (by decide : ((1 : Int32)).toInt = 1) (by omega) (by omega); exact ⟨by omega, by omega, by omega, by omega⟩
          exact ih _ (sI (sI (sI w 42 7 44) 42 8 x116_4) 42 9 x116_1) hI4323  o4324.1 o4324.2.1 o4324.2.2.1 o4324.2.2.2 (by have := ti_lo (((w.1 44 x116_1.toInt.toNat) >>> (x116_4 &&& 31)) &&& (1 : Int32)); have := ti_hi (((w.1 44 x116_1.toInt.toNat) >>> (x116_4 &&& 31)) &&& (1 : Int32)); have := nb_and ((w.1 44 x116_1.toInt.toNat) >>> (x116_4 &&& 31)) (1 : Int32) 1 rfl (by decide); have := (by decide : ((0 : Int32)).toInt = 0); have := ti_add2 (Eq.refl x116_4.toInt) (by decide : ((1 : Int32)).toInt = 1) (by omega) (by omega); omega) (fun w9 hI9 hF9 => hE w9 hI9 ((FR.I (FR.I (FR.I (FR.refl _ w) (k := 42) (j := 7) (v := 44) rfl) (k := 42) (j := 8) (v := x116_4) rfl) (k := 42) (j := 9) (v := x116_1) rfl).tr hF9 rfl) ) (fun r w9 hI9 hF9 q0 => q0.elim)
        · replace h4320 : ¬ (44 < (w.1 42 7).toInt) := h4320
          refine ⟨fun h4325 => ?_, fun h4325 => ?_⟩
          · replace h4325 : ¬ 44 = (w.1 42 7).toInt := h4325
            have o4326 : (1 ≤ x116_1.toInt) ∧ (x116_1.toInt ≤ 14) ∧ (1 ≤ (x116_4 + (1 : Int32)).toInt) ∧ ((x116_4 + (1 : Int32)).toInt ≤ 14) := by have := ti_lo (((w.1 44 x116_1.toInt.toNat) >>> (x116_4 &&& 31)) &&& (1 : Int32)); have := ti_hi (((w.1 44 x116_1.toInt.toNat) >>> (x116_4 &&& 31)) &&& (1 : Int32)); have := nb_and ((w.1 44 x116_1.toInt.toNat) >>> (x116_4 &&& 31)) (1 : Int32) 1 rfl (by decide); have := (by decide : ((0 : Int32)).toInt = 0); have := ti_add2 (Eq.refl x116_4.toInt) (by decide : ((1 : Int32)).toInt = 1) (by omega) (by omega); exact ⟨by omega, by omega, by omega, by omega⟩
            exact ih _ w hI  o4326.1 o4326.2.1 o4326.2.2.1 o4326.2.2.2 (by have := ti_lo (((w.1 44 x116_1.toInt.toNat) >>> (x116_4 &&& 31)) &&& (1 : Int32)); have := ti_hi (((w.1 44 x116_1.toInt.toNat) >>> (x116_4 &&& 31)) &&& (1 : Int32)); have := nb_and ((w.1 44 x116_1.toInt.toNat) >>> (x116_4 &&& 31)) (1 : Int32) 1 rfl (by decide); have := (by decide : ((0 : Int32)).toInt = 0); have := ti_add2 (Eq.refl x116_4.toInt) (by decide : ((1 : Int32)).toInt = 1) (by omega) (by omega); omega) (fun w9 hI9 hF9 => hE w9 hI9 ((FR.refl _ w).tr hF9 rfl) ) (fun r w9 hI9 hF9 q0 => q0.elim)
          · replace h4325 : ¬ (¬ 44 = (w.1 42 7).toInt) := h4325
            refine ⟨fun _ => ?_, fun h => absurd (by decide) h⟩
            have o4327 : (1 ≤ x116_1.toInt) ∧ (x116_1.toInt ≤ 14) ∧ (1 ≤ (x116_4 + (1 : Int32)).toInt) ∧ ((x116_4 + (1 : Int32)).toInt ≤ 14) := by have := ti_lo (((w.1 44 x116_1.toInt.toNat) >>> (x116_4 &&& 31)) &&& (1 : Int32)); have := ti_hi (((w.1 44 x116_1.toInt.toNat) >>> (x116_4 &&& 31)) &&& (1 : Int32)); have := nb_and ((w.1 44 x116_1.toInt.toNat) >>> (x116_4 &&& 31)) (1 : Int32) 1 rfl (by decide); have := (by decide : ((0 : Int32)).toInt = 0); have := ti_add2 (Eq.refl x116_4.toInt) (by decide : ((1 : Int32)).toInt = 1) (by omega) (by omega); exact ⟨by omega, by omega, by omega, by omega⟩
            exact ih _ w hI  o4327.1 o4327.2.1 o4327.2.2.1 o4327.2.2.2 (by have := ti_lo (((w.1 44 x116_1.toInt.toNat) >>> (x116_4 &&& 31)) &&& (1 : Int32)); have := ti_hi (((w.1 44 x116_1.toInt.toNat) >>> (x116_4 &&& 31)) &&& (1 : Int32)); have := nb_and ((w.1 44 x116_1.toInt.toNat) >>> (x116_4 &&& 31)) (1 : Int32) 1 rfl (by decide); have := (by decide : ((0 : Int32)).toInt = 0); have := ti_add2 (Eq.refl x116_4.toInt) (by decide : ((1 : Int32)).toInt = 1) (by omega) (by omega); omega) (fun w9 hI9 hF9 => hE w9 hI9 ((FR.refl _ w).tr hF9 rfl) ) (fun r w9 hI9 hF9 q0 => q0.elim)
      · have o4328 : 0 ≤ x116_1.toInt ∧ x116_1.toInt < 15 := by have := ti_lo (((w.1 44 x116_1.toInt.toNat) >>> (x116_4 &&& 31)) &&& (1 : Int32)); have := ti_hi (((w.1 44 x116_1.toInt.toNat) >>> (x116_4 &&& 31)) &&& (1 : Int32)); have := nb_and ((w.1 44 x116_1.toInt.toNat) >>> (x116_4 &&& 31)) (1 : Int32) 1 rfl (by decide); have := (by decide : ((0 : Int32)).toInt = 0); omega
        refine ⟨o4328, ?_⟩
        have o4329 : 0 ≤ x116_4.toInt ∧ x116_4.toInt < 15 := by have := ti_lo (((w.1 44 x116_1.toInt.toNat) >>> (x116_4 &&& 31)) &&& (1 : Int32)); have := ti_hi (((w.1 44 x116_1.toInt.toNat) >>> (x116_4 &&& 31)) &&& (1 : Int32)); have := nb_and ((w.1 44 x116_1.toInt.toNat) >>> (x116_4 &&& 31)) (1 : Int32) 1 rfl (by decide); have := (by decide : ((0 : Int32)).toInt = 0); omega
        refine ⟨o4329, ?_⟩
        refine ⟨fun h4330 => ?_, fun h4330 => ?_⟩
        · refine Eq.mpr (p_Lo_numberOfTrailingZeros.eq_1 _ _ _) ?_
          refine ⟨fun h4331 => ?_, fun h4331 => ?_⟩
          · refine h_In_numberOfTrailingZeros hI   (fun r4335 w4332 hI4333 hL4334 p4336 p4337 => ?_)
            have hF4338 : FR l_Sf_meet_116 w w4332 := (FR.refl _ w).tr hL4334 rfl
            refine Eq.mpr (q_Sf_meet_173.eq_1 _ _ _ _ _ _ _) ?_
            refine ⟨fun h4339 => ?_, fun h4339 => ?_⟩
            · have hI4340 : BND (sI w4332 42 7 r4335) := wbd_42_7 hI4333
              have hI4341 : BND (sI (sI w4332 42 7 r4335) 42 8 x116_4) := wbd_42_8 hI4340
              have hI4342 : BND (sI (sI (sI w4332 42 7 r4335) 42 8 x116_4) 42 9 x116_1) := wbd_42_9 hI4341
              have o4343 : (1 ≤ x116_1.toInt) ∧ (x116_1.toInt ≤ 14) ∧ (1 ≤ (x116_4 + (1 : Int32)).toInt) ∧ ((x116_4 + (1 : Int32)).toInt ≤ 14) := by have := ti_lo (((w.1 44 x116_1.toInt.toNat) >>> (x116_4 &&& 31)) &&& (1 : Int32)); have := ti_hi (((w.1 44 x116_1.toInt.toNat) >>> (x116_4 &&& 31)) &&& (1 : Int32)); have := nb_and ((w.1 44 x116_1.toInt.toNat) >>> (x116_4 &&& 31)) (1 : Int32) 1 rfl (by decide); have := (by decide : ((0 : Int32)).toInt = 0); have := ti_add2 (Eq.refl x116_4.toInt) (by decide : ((1 : Int32)).toInt = 1) (by omega) (by omega); exact ⟨by omega, by omega, by omega, by omega⟩
              exact ih _ (sI (sI (sI w4332 42 7 r4335) 42 8 x116_4) 42 9 x116_1) hI4342  o4343.1 o4343.2.1 o4343.2.2.1 o4343.2.2.2 (by have := ti_lo (((w.1 44 x116_1.toInt.toNat) >>> (x116_4 &&& 31)) &&& (1 : Int32)); have := ti_hi (((w.1 44 x116_1.toInt.toNat) >>> (x116_4 &&& 31)) &&& (1 : Int32)); have := nb_and ((w.1 44 x116_1.toInt.toNat) >>> (x116_4 &&& 31)) (1 : Int32) 1 rfl (by decide); have := (by decide : ((0 : Int32)).toInt = 0); have := ti_add2 (Eq.refl x116_4.toInt) (by decide : ((1 : Int32)).toInt = 1) (by omega) (by omega); omega) (fun w9 hI9 hF9 => hE w9 hI9 ((FR.I (FR.I (FR.I hF4338 (k := 42) (j := 7) (v := r4335) rfl) (k := 42) (j := 8) (v := x116_4) rfl) (k := 42) (j := 9) (v := x116_1) rfl).tr hF9 rfl) ) (fun r w9 hI9 hF9 q0 => q0.elim)
            · refine ⟨fun h4344 => ?_, fun h4344 => ?_⟩
              · have o4345 : (1 ≤ x116_1.toInt) ∧ (x116_1.toInt ≤ 14) ∧ (1 ≤ (x116_4 + (1 : Int32)).toInt) ∧ ((x116_4 + (1 : Int32)).toInt ≤ 14) := by have := ti_lo (((w.1 44 x116_1.toInt.toNat) >>> (x116_4 &&& 31)) &&& (1 : Int32)); have := ti_hi (((w.1 44 x116_1.toInt.toNat) >>> (x116_4 &&& 31)) &&& (1 : Int32)); have := nb_and ((w.1 44 x116_1.toInt.toNat) >>> (x116_4 &&& 31)) (1 : Int32) 1 rfl (by decide); have := (by decide : ((0 : Int32)).toInt = 0); have := ti_add2 (Eq.refl x116_4.toInt) (by decide : ((1 : Int32)).toInt = 1) (by omega) (by omega); exact ⟨by omega, by omega, by omega, by omega⟩
                exact ih _ w4332 hI4333  o4345.1 o4345.2.1 o4345.2.2.1 o4345.2.2.2 (by have := ti_lo (((w.1 44 x116_1.toInt.toNat) >>> (x116_4 &&& 31)) &&& (1 : Int32)); have := ti_hi (((w.1 44 x116_1.toInt.toNat) >>> (x116_4 &&& 31)) &&& (1 : Int32)); have := nb_and ((w.1 44 x116_1.toInt.toNat) >>> (x116_4 &&& 31)) (1 : Int32) 1 rfl (by decide); have := (by decide : ((0 : Int32)).toInt = 0); have := ti_add2 (Eq.refl x116_4.toInt) (by decide : ((1 : Int32)).toInt = 1) (by omega) (by omega); omega) (fun w9 hI9 hF9 => hE w9 hI9 (hF4338.tr hF9 rfl) ) (fun r w9 hI9 hF9 q0 => q0.elim)
              · refine ⟨fun h4346 => ?_, fun h4346 => ?_⟩
                · exfalso; have := ti_lo (((w.1 44 x116_1.toInt.toNat) >>> (x116_4 &&& 31)) &&& (1 : Int32)); have := ti_hi (((w.1 44 x116_1.toInt.toNat) >>> (x116_4 &&& 31)) &&& (1 : Int32)); have := nb_and ((w.1 44 x116_1.toInt.toNat) >>> (x116_4 &&& 31)) (1 : Int32) 1 rfl (by decide); have := (by decide : ((0 : Int32)).toInt = 0); have := nb_cmp ((w.2.1 45 x116_1.toInt.toNat) &&& (w.2.1 45 x116_4.toInt.toNat)) (0 : Int64); have := (by decide : ((0 : Int64)).toInt = 0); have := ti_lo (Int64.toInt32 ((w.2.1 45 x116_1.toInt.toNat) &&& (w.2.1 45 x116_4.toInt.toNat))); have := ti_hi (Int64.toInt32 ((w.2.1 45 x116_1.toInt.toNat) &&& (w.2.1 45 x116_4.toInt.toNat))); have := (congrArg Int32.toInt (hL4334 42 7 rfl).1); have := (by decide : ((44 : Int32)).toInt = 44); omega
                · refine ⟨fun h4347 => ?_, fun h4347 => ?_⟩
                  · have o4348 : (1 ≤ x116_1.toInt) ∧ (x116_1.toInt ≤ 14) ∧ (1 ≤ (x116_4 + (1 : Int32)).toInt) ∧ ((x116_4 + (1 : Int32)).toInt ≤ 14) := by have := ti_lo (((w.1 44 x116_1.toInt.toNat) >>> (x116_4 &&& 31)) &&& (1 : Int32)); have := ti_hi (((w.1 44 x116_1.toInt.toNat) >>> (x116_4 &&& 31)) &&& (1 : Int32)); have := nb_and ((w.1 44 x116_1.toInt.toNat) >>> (x116_4 &&& 31)) (1 : Int32) 1 rfl (by decide); have := (by decide : ((0 : Int32)).toInt = 0); have := (congrArg Int32.toInt (hL4334 42 8 rfl).1); have := ti_add2 (Eq.refl x116_4.toInt) (by decide : ((1 : Int32)).toInt = 1) (by omega) (by omega); exact ⟨by omega, by omega, by omega, by omega⟩
                    exact ih _ w4332 hI4333  o4348.1 o4348.2.1 o4348.2.2.1 o4348.2.2.2 (by have := ti_lo (((w.1 44 x116_1.toInt.toNat) >>> (x116_4 &&& 31)) &&& (1 : Int32)); have := ti_hi (((w.1 44 x116_1.toInt.toNat) >>> (x116_4 &&& 31)) &&& (1 : Int32)); have := nb_and ((w.1 44 x116_1.toInt.toNat) >>> (x116_4 &&& 31)) (1 : Int32) 1 rfl (by decide); have := (by decide : ((0 : Int32)).toInt = 0); have := (congrArg Int32.toInt (hL4334 42 8 rfl).1); have := ti_add2 (Eq.refl x116_4.toInt) (by decide : ((1 : Int32)).toInt = 1) (by omega) (by omega); omega) (fun w9 hI9 hF9 => hE w9 hI9 (hF4338.tr hF9 rfl) ) (fun r w9 hI9 hF9 q0 => q0.elim)
                  · have hI4349 : BND (sI w4332 42 7 r4335) := wbd_42_7 hI4333
                    have hI4350 : BND (sI (sI w4332 42 7 r4335) 42 8 x116_4) := wbd_42_8 hI4349
                    have hI4351 : BND (sI (sI (sI w4332 42 7 r4335) 42 8 x116_4) 42 9 x116_1) := wbd_42_9 hI4350
                    have o4352 : (1 ≤ x116_1.toInt) ∧ (x116_1.toInt ≤ 14) ∧ (1 ≤ (x116_4 + (1 : Int32)).toInt) ∧ ((x116_4 + (1 : Int32)).toInt ≤ 14) := by have := ti_lo (((w.1 44 x116_1.toInt.toNat) >>> (x116_4 &&& 31)) &&& (1 : Int32)); have := ti_hi (((w.1 44 x116_1.toInt.toNat) >>> (x116_4 &&& 31)) &&& (1 : Int32)); have := nb_and ((w.1 44 x116_1.toInt.toNat) >>> (x116_4 &&& 31)) (1 : Int32) 1 rfl (by decide); have := (by decide : ((0 : Int32)).toInt = 0); have := (congrArg Int32.toInt (hL4334 42 8 rfl).1); have := ti_add2 (Eq.refl x116_4.toInt) (by decide : ((1 : Int32)).toInt = 1) (by omega) (by omega); exact ⟨by omega, by omega, by omega, by omega⟩
                    exact ih _ (sI (sI (sI w4332 42 7 r4335) 42 8 x116_4) 42 9 x116_1) hI4351  o4352.1 o4352.2.1 o4352.2.2.1 o4352.2.2.2 (by have := ti_lo (((w.1 44 x116_1.toInt.toNat) >>> (x116_4 &&& 31)) &&& (1 : Int32)); have := ti_hi (((w.1 44 x116_1.toInt.toNat) >>> (x116_4 &&& 31)) &&& (1 : Int32)); have := nb_and ((w.1 44 x116_1.toInt.toNat) >>> (x116_4 &&& 31)) (1 : Int32) 1 rfl (by decide); have := (by decide : ((0 : Int32)).toInt = 0); have := (congrArg Int32.toInt (hL4334 42 8 rfl).1); have := ti_add2 (Eq.refl x116_4.toInt) (by decide : ((1 : Int32)).toInt = 1) (by omega) (by omega); omega) (fun w9 hI9 hF9 => hE w9 hI9 ((FR.I (FR.I (FR.I hF4338 (k := 42) (j := 7) (v := r4335) rfl) (k := 42) (j := 8) (v := x116_4) rfl) (k := 42) (j := 9) (v := x116_1) rfl).tr hF9 rfl) ) (fun r w9 hI9 hF9 q0 => q0.elim)
          · refine h_In_numberOfTrailingZeros hI   (fun r4356 w4353 hI4354 hL4355 p4357 p4358 => ?_)
            have hF4359 : FR l_Sf_meet_116 w w4353 := (FR.refl _ w).tr hL4355 rfl
            refine Eq.mpr (q_Sf_meet_173.eq_1 _ _ _ _ _ _ _) ?_
            refine ⟨fun h4360 => ?_, fun h4360 => ?_⟩
            · have hI4361 : BND (sI w4353 42 7 ((32 : Int32) + r4356)) := wbd_42_7 hI4354
              have hI4362 : BND (sI (sI w4353 42 7 ((32 : Int32) + r4356)) 42 8 x116_4) := wbd_42_8 hI4361
              have hI4363 : BND (sI (sI (sI w4353 42 7 ((32 : Int32) + r4356)) 42 8 x116_4) 42 9 x116_1) := wbd_42_9 hI4362
              have o4364 : (1 ≤ x116_1.toInt) ∧ (x116_1.toInt ≤ 14) ∧ (1 ≤ (x116_4 + (1 : Int32)).toInt) ∧ ((x116_4 + (1 : Int32)).toInt ≤ 14) := by have := ti_lo (((w.1 44 x116_1.toInt.toNat) >>> (x116_4 &&& 31)) &&& (1 : Int32)); have := ti_hi (((w.1 44 x116_1.toInt.toNat) >>> (x116_4 &&& 31)) &&& (1 : Int32)); have := nb_and ((w.1 44 x116_1.toInt.toNat) >>> (x116_4 &&& 31)) (1 : Int32) 1 rfl (by decide); have := (by decide : ((0 : Int32)).toInt = 0); have := ti_add2 (Eq.refl x116_4.toInt) (by decide : ((1 : Int32)).toInt = 1) (by omega) (by omega); exact ⟨by omega, by omega, by omega, by omega⟩
              exact ih _ (sI (sI (sI w4353 42 7 ((32 : Int32) + r4356)) 42 8 x116_4) 42 9 x116_1) hI4363  o4364.1 o4364.2.1 o4364.2.2.1 o4364.2.2.2 (by have := ti_lo (((w.1 44 x116_1.toInt.toNat) >>> (x116_4 &&& 31)) &&& (1 : Int32)); have := ti_hi (((w.1 44 x116_1.toInt.toNat) >>> (x116_4 &&& 31)) &&& (1 : Int32)); have := nb_and ((w.1 44 x116_1.toInt.toNat) >>> (x116_4 &&& 31)) (1 : Int32) 1 rfl (by decide); have := (by decide : ((0 : Int32)).toInt = 0); have := ti_add2 (Eq.refl x116_4.toInt) (by decide : ((1 : Int32)).toInt = 1) (by omega) (by omega); omega) (fun w9 hI9 hF9 => hE w9 hI9 ((FR.I (FR.I (FR.I hF4359 (k := 42) (j := 7) (v := ((32 : Int32) + r4356)) rfl) (k := 42) (j := 8) (v := x116_4) rfl) (k := 42) (j := 9) (v := x116_1) rfl).tr hF9 rfl) ) (fun r w9 hI9 hF9 q0 => q0.elim)
            · refine ⟨fun h4365 => ?_, fun h4365 => ?_⟩
              · have o4366 : (1 ≤ x116_1.toInt) ∧ (x116_1.toInt ≤ 14) ∧ (1 ≤ (x116_4 + (1 : Int32)).toInt) ∧ ((x116_4 + (1 : Int32)).toInt ≤ 14) := by have := ti_lo (((w.1 44 x116_1.toInt.toNat) >>> (x116_4 &&& 31)) &&& (1 : Int32)); have := ti_hi (((w.1 44 x116_1.toInt.toNat) >>> (x116_4 &&& 31)) &&& (1 : Int32)); have := nb_and ((w.1 44 x116_1.toInt.toNat) >>> (x116_4 &&& 31)) (1 : Int32) 1 rfl (by decide); have := (by decide : ((0 : Int32)).toInt = 0); have := ti_add2 (Eq.refl x116_4.toInt) (by decide : ((1 : Int32)).toInt = 1) (by omega) (by omega); exact ⟨by omega, by omega, by omega, by omega⟩
                exact ih _ w4353 hI4354  o4366.1 o4366.2.1 o4366.2.2.1 o4366.2.2.2 (by have := ti_lo (((w.1 44 x116_1.toInt.toNat) >>> (x116_4 &&& 31)) &&& (1 : Int32)); have := ti_hi (((w.1 44 x116_1.toInt.toNat) >>> (x116_4 &&& 31)) &&& (1 : Int32)); have := nb_and ((w.1 44 x116_1.toInt.toNat) >>> (x116_4 &&& 31)) (1 : Int32) 1 rfl (by decide); have := (by decide : ((0 : Int32)).toInt = 0); have := ti_add2 (Eq.refl x116_4.toInt) (by decide : ((1 : Int32)).toInt = 1) (by omega) (by omega); omega) (fun w9 hI9 hF9 => hE w9 hI9 (hF4359.tr hF9 rfl) ) (fun r w9 hI9 hF9 q0 => q0.elim)
              · refine ⟨fun h4367 => ?_, fun h4367 => ?_⟩
                · have o4368 : (1 ≤ x116_1.toInt) ∧ (x116_1.toInt ≤ 14) ∧ (1 ≤ (x116_4 + (1 : Int32)).toInt) ∧ ((x116_4 + (1 : Int32)).toInt ≤ 14) := by have := ti_lo (((w.1 44 x116_1.toInt.toNat) >>> (x116_4 &&& 31)) &&& (1 : Int32)); have := ti_hi (((w.1 44 x116_1.toInt.toNat) >>> (x116_4 &&& 31)) &&& (1 : Int32)); have := nb_and ((w.1 44 x116_1.toInt.toNat) >>> (x116_4 &&& 31)) (1 : Int32) 1 rfl (by decide); have := (by decide : ((0 : Int32)).toInt = 0); have := ti_add2 (Eq.refl x116_4.toInt) (by decide : ((1 : Int32)).toInt = 1) (by omega) (by omega); exact ⟨by omega, by omega, by omega, by omega⟩
                  exact ih _ w4353 hI4354  o4368.1 o4368.2.1 o4368.2.2.1 o4368.2.2.2 (by have := ti_lo (((w.1 44 x116_1.toInt.toNat) >>> (x116_4 &&& 31)) &&& (1 : Int32)); have := ti_hi (((w.1 44 x116_1.toInt.toNat) >>> (x116_4 &&& 31)) &&& (1 : Int32)); have := nb_and ((w.1 44 x116_1.toInt.toNat) >>> (x116_4 &&& 31)) (1 : Int32) 1 rfl (by decide); have := (by decide : ((0 : Int32)).toInt = 0); have := ti_add2 (Eq.refl x116_4.toInt) (by decide : ((1 : Int32)).toInt = 1) (by omega) (by omega); omega) (fun w9 hI9 hF9 => hE w9 hI9 (hF4359.tr hF9 rfl) ) (fun r w9 hI9 hF9 q0 => q0.elim)
                · refine ⟨fun h4369 => ?_, fun h4369 => ?_⟩
                  · have o4370 : (1 ≤ x116_1.toInt) ∧ (x116_1.toInt ≤ 14) ∧ (1 ≤ (x116_4 + (1 : Int32)).toInt) ∧ ((x116_4 + (1 : Int32)).toInt ≤ 14) := by have := ti_lo (((w.1 44 x116_1.toInt.toNat) >>> (x116_4 &&& 31)) &&& (1 : Int32)); have := ti_hi (((w.1 44 x116_1.toInt.toNat) >>> (x116_4 &&& 31)) &&& (1 : Int32)); have := nb_and ((w.1 44 x116_1.toInt.toNat) >>> (x116_4 &&& 31)) (1 : Int32) 1 rfl (by decide); have := (by decide : ((0 : Int32)).toInt = 0); have := (congrArg Int32.toInt (hL4355 42 8 rfl).1); have := ti_add2 (Eq.refl x116_4.toInt) (by decide : ((1 : Int32)).toInt = 1) (by omega) (by omega); exact ⟨by omega, by omega, by omega, by omega⟩
                    exact ih _ w4353 hI4354  o4370.1 o4370.2.1 o4370.2.2.1 o4370.2.2.2 (by have := ti_lo (((w.1 44 x116_1.toInt.toNat) >>> (x116_4 &&& 31)) &&& (1 : Int32)); have := ti_hi (((w.1 44 x116_1.toInt.toNat) >>> (x116_4 &&& 31)) &&& (1 : Int32)); have := nb_and ((w.1 44 x116_1.toInt.toNat) >>> (x116_4 &&& 31)) (1 : Int32) 1 rfl (by decide); have := (by decide : ((0 : Int32)).toInt = 0); have := (congrArg Int32.toInt (hL4355 42 8 rfl).1); have := ti_add2 (Eq.refl x116_4.toInt) (by decide : ((1 : Int32)).toInt = 1) (by omega) (by omega); omega) (fun w9 hI9 hF9 => hE w9 hI9 (hF4359.tr hF9 rfl) ) (fun r w9 hI9 hF9 q0 => q0.elim)
                  · have hI4371 : BND (sI w4353 42 7 ((32 : Int32) + r4356)) := wbd_42_7 hI4354
                    have hI4372 : BND (sI (sI w4353 42 7 ((32 : Int32) + r4356)) 42 8 x116_4) := wbd_42_8 hI4371
                    have hI4373 : BND (sI (sI (sI w4353 42 7 ((32 : Int32) + r4356)) 42 8 x116_4) 42 9 x116_1) := wbd_42_9 hI4372
                    have o4374 : (1 ≤ x116_1.toInt) ∧ (x116_1.toInt ≤ 14) ∧ (1 ≤ (x116_4 + (1 : Int32)).toInt) ∧ ((x116_4 + (1 : Int32)).toInt ≤ 14) := by have := ti_lo (((w.1 44 x116_1.toInt.toNat) >>> (x116_4 &&& 31)) &&& (1 : Int32)); have := ti_hi (((w.1 44 x116_1.toInt.toNat) >>> (x116_4 &&& 31)) &&& (1 : Int32)); have := nb_and ((w.1 44 x116_1.toInt.toNat) >>> (x116_4 &&& 31)) (1 : Int32) 1 rfl (by decide); have := (by decide : ((0 : Int32)).toInt = 0); have := (congrArg Int32.toInt (hL4355 42 8 rfl).1); have := ti_add2 (Eq.refl x116_4.toInt) (by decide : ((1 : Int32)).toInt = 1) (by omega) (by omega); exact ⟨by omega, by omega, by omega, by omega⟩
                    exact ih _ (sI (sI (sI w4353 42 7 ((32 : Int32) + r4356)) 42 8 x116_4) 42 9 x116_1) hI4373  o4374.1 o4374.2.1 o4374.2.2.1 o4374.2.2.2 (by have := ti_lo (((w.1 44 x116_1.toInt.toNat) >>> (x116_4 &&& 31)) &&& (1 : Int32)); have := ti_hi (((w.1 44 x116_1.toInt.toNat) >>> (x116_4 &&& 31)) &&& (1 : Int32)); have := nb_and ((w.1 44 x116_1.toInt.toNat) >>> (x116_4 &&& 31)) (1 : Int32) 1 rfl (by decide); have := (by decide : ((0 : Int32)).toInt = 0); have := (congrArg Int32.toInt (hL4355 42 8 rfl).1); have := ti_add2 (Eq.refl x116_4.toInt) (by decide : ((1 : Int32)).toInt = 1) (by omega) (by omega); omega) (fun w9 hI9 hF9 => hE w9 hI9 ((FR.I (FR.I (FR.I hF4359 (k := 42) (j := 7) (v := ((32 : Int32) + r4356)) rfl) (k := 42) (j := 8) (v := x116_4) rfl) (k := 42) (j := 9) (v := x116_1) rfl).tr hF9 rfl) ) (fun r w9 hI9 hF9 q0 => q0.elim)
        · refine Eq.mpr (q_Sf_meet_173.eq_1 _ _ _ _ _ _ _) ?_
          refine ⟨fun h4375 => ?_, fun h4375 => ?_⟩
          · replace h4375 : 44 < (w.1 42 7).toInt := h4375
            have hI4376 : BND (sI w 42 7 44) := wbd_42_7 hI
            have hI4377 : BND (sI (sI w 42 7 44) 42 8 x116_4) := wbd_42_8 hI4376
            have hI4378 : BND (sI (sI (sI w 42 7 44) 42 8 x116_4) 42 9 x116_1) := wbd_42_9 hI4377
            have o4379 : (1 ≤ x116_1.toInt) ∧ (x116_1.toInt ≤ 14) ∧ (1 ≤ (x116_4 + (1 : Int32)).toInt) ∧ ((x116_4 + (1 : Int32)).toInt ≤ 14) := by have := ti_lo (((w.1 44 x116_1.toInt.toNat) >>> (x116_4 &&& 31)) &&& (1 : Int32)); have := ti_hi (((w.1 44 x116_1.toInt.toNat) >>> (x116_4 &&& 31)) &&& (1 : Int32)); have := nb_and ((w.1 44 x116_1.toInt.toNat) >>> (x116_4 &&& 31)) (1 : Int32) 1 rfl (by decide); have := (by decide : ((0 : Int32)).toInt = 0); have := ti_add2 (Eq.refl x116_4.toInt) (by decide : ((1 : Int32)).toInt = 1) (by omega) (by omega); exact ⟨by omega, by omega, by omega, by omega⟩
            exact ih _ (sI (sI (sI w 42 7 44) 42 8 x116_4) 42 9 x116_1) hI4378  o4379.1 o4379.2.1 o4379.2.2.1 o4379.2.2.2 (by have := ti_lo (((w.1 44 x116_1.toInt.toNat) >>> (x116_4 &&& 31)) &&& (1 : Int32)); have := ti_hi (((w.1 44 x116_1.toInt.toNat) >>> (x116_4 &&& 31)) &&& (1 : Int32)); have := nb_and ((w.1 44 x116_1.toInt.toNat) >>> (x116_4 &&& 31)) (1 : Int32) 1 rfl (by decide); have := (by decide : ((0 : Int32)).toInt = 0); have := ti_add2 (Eq.refl x116_4.toInt) (by decide : ((1 : Int32)).toInt = 1) (by omega) (by omega); omega) (fun w9 hI9 hF9 => hE w9 hI9 ((FR.I (FR.I (FR.I (FR.refl _ w) (k := 42) (j := 7) (v := 44) rfl) (k := 42) (j := 8) (v := x116_4) rfl) (k := 42) (j := 9) (v := x116_1) rfl).tr hF9 rfl) ) (fun r w9 hI9 hF9 q0 => q0.elim)
          · replace h4375 : ¬ (44 < (w.1 42 7).toInt) := h4375
            refine ⟨fun h4380 => ?_, fun h4380 => ?_⟩
            · replace h4380 : ¬ 44 = (w.1 42 7).toInt := h4380
              have o4381 : (1 ≤ x116_1.toInt) ∧ (x116_1.toInt ≤ 14) ∧ (1 ≤ (x116_4 + (1 : Int32)).toInt) ∧ ((x116_4 + (1 : Int32)).toInt ≤ 14) := by have := ti_lo (((w.1 44 x116_1.toInt.toNat) >>> (x116_4 &&& 31)) &&& (1 : Int32)); have := ti_hi (((w.1 44 x116_1.toInt.toNat) >>> (x116_4 &&& 31)) &&& (1 : Int32)); have := nb_and ((w.1 44 x116_1.toInt.toNat) >>> (x116_4 &&& 31)) (1 : Int32) 1 rfl (by decide); have := (by decide : ((0 : Int32)).toInt = 0); have := ti_add2 (Eq.refl x116_4.toInt) (by decide : ((1 : Int32)).toInt = 1) (by omega) (by omega); exact ⟨by omega, by omega, by omega, by omega⟩
              exact ih _ w hI  o4381.1 o4381.2.1 o4381.2.2.1 o4381.2.2.2 (by have := ti_lo (((w.1 44 x116_1.toInt.toNat) >>> (x116_4 &&& 31)) &&& (1 : Int32)); have := ti_hi (((w.1 44 x116_1.toInt.toNat) >>> (x116_4 &&& 31)) &&& (1 : Int32)); have := nb_and ((w.1 44 x116_1.toInt.toNat) >>> (x116_4 &&& 31)) (1 : Int32) 1 rfl (by decide); have := (by decide : ((0 : Int32)).toInt = 0); have := ti_add2 (Eq.refl x116_4.toInt) (by decide : ((1 : Int32)).toInt = 1) (by omega) (by omega); omega) (fun w9 hI9 hF9 => hE w9 hI9 ((FR.refl _ w).tr hF9 rfl) ) (fun r w9 hI9 hF9 q0 => q0.elim)
            · replace h4380 : ¬ (¬ 44 = (w.1 42 7).toInt) := h4380
              refine ⟨fun _ => ?_, fun h => absurd (by decide) h⟩
              have o4382 : (1 ≤ x116_1.toInt) ∧ (x116_1.toInt ≤ 14) ∧ (1 ≤ (x116_4 + (1 : Int32)).toInt) ∧ ((x116_4 + (1 : Int32)).toInt ≤ 14) := by have := ti_lo (((w.1 44 x116_1.toInt.toNat) >>> (x116_4 &&& 31)) &&& (1 : Int32)); have := ti_hi (((w.1 44 x116_1.toInt.toNat) >>> (x116_4 &&& 31)) &&& (1 : Int32)); have := nb_and ((w.1 44 x116_1.toInt.toNat) >>> (x116_4 &&& 31)) (1 : Int32) 1 rfl (by decide); have := (by decide : ((0 : Int32)).toInt = 0); have := ti_add2 (Eq.refl x116_4.toInt) (by decide : ((1 : Int32)).toInt = 1) (by omega) (by omega); exact ⟨by omega, by omega, by omega, by omega⟩
              exact ih _ w hI  o4382.1 o4382.2.1 o4382.2.2.1 o4382.2.2.2 (by have := ti_lo (((w.1 44 x116_1.toInt.toNat) >>> (x116_4 &&& 31)) &&& (1 : Int32)); have := ti_hi (((w.1 44 x116_1.toInt.toNat) >>> (x116_4 &&& 31)) &&& (1 : Int32)); have := nb_and ((w.1 44 x116_1.toInt.toNat) >>> (x116_4 &&& 31)) (1 : Int32) 1 rfl (by decide); have := (by decide : ((0 : Int32)).toInt = 0); have := ti_add2 (Eq.refl x116_4.toInt) (by decide : ((1 : Int32)).toInt = 1) (by omega) (by omega); omega) (fun w9 hI9 hF9 => hE w9 hI9 ((FR.refl _ w).tr hF9 rfl) ) (fun r w9 hI9 hF9 q0 => q0.elim)
set_option maxRecDepth 20000 in
set_option maxHeartbeats 2000000 in
theorem hq_Sf_meet_8 {E : MW → Prop} {Q : Int32 → MW → Prop} (n : Nat) : ∀ (x8_1 : Int32) (w : MW), BND w → 1 ≤ x8_1.toInt → x8_1.toInt ≤ 15 → (15 - x8_1.toInt).toNat < n → (∀ (w' : MW), BND w' → FR l_Sf_meet_8 w w' → E w') → (∀ (r : Int32) (w' : MW), BND w' → FR l_Sf_meet_8 w w' → False → Q r w') → q_Sf_meet_8 E Q n x8_1 w := by
  induction n with
  | zero => intros; omega
  | succ n ih =>
    intro x8_1 w hI  hp0 hp1 hm hE hQ
    rw [q_Sf_meet_8.eq_2]
    refine ⟨fun h4383 => ?_, fun h4383 => ?_⟩
    · exact hE _ hI (FR.refl _ w)
    · have o4384 : 0 ≤ x8_1.toInt ∧ x8_1.toInt < 15 := by have := (by decide : ((14 : Int32)).toInt = 14); omega
      refine ⟨o4384, ?_⟩
      have o4385 : 0 ≤ x8_1.toInt ∧ x8_1.toInt < 15 := by have := (by decide : ((14 : Int32)).toInt = 14); omega
      refine ⟨o4385, ?_⟩
      have o4386 : 0 ≤ x8_1.toInt ∧ x8_1.toInt < 15 := by have := (by decide : ((14 : Int32)).toInt = 14); omega
      refine ⟨o4386, ?_⟩
      refine ⟨fun h4387 => ?_, fun h4387 => ?_⟩
      · have o4388 : 0 ≤ x8_1.toInt ∧ x8_1.toInt < 15 := by have := (by decide : ((14 : Int32)).toInt = 14); omega
        refine ⟨o4388, ?_⟩
        have o4389 : (1 ≤ x8_1.toInt) ∧ (x8_1.toInt ≤ 14) ∧ (0 ≤ (0 : Int32).toInt) ∧ ((0 : Int32).toInt ≤ 44) := by have := (by decide : ((0 : Int32)).toInt = 0); have := (by decide : ((14 : Int32)).toInt = 14); exact ⟨by omega, by omega, by omega, by omega⟩
        refine hq_Sf_meet_49 FU _ _ (sJ w 45 x8_1.toInt.toNat (w.2.1 43 x8_1.toInt.toNat)) (bnd_J hI (k := 45) (j := x8_1.toInt.toNat) (v := (w.2.1 43 x8_1.toInt.toNat)))  o4389.1 o4389.2.1 o4389.2.2.1 o4389.2.2.2 (fu_lt (by have := (by decide : ((0 : Int32)).toInt = 0); have := (by decide : ((14 : Int32)).toInt = 14); omega)) (fun w4390 hI4391 hL4392  => ?_) (fun r w9 hI9 hF9 q0 => q0.elim)
        have hF4393 : FR l_Sf_meet_8 w w4390 := (FR.J (FR.refl _ w) (k := 45) (j := x8_1.toInt.toNat) (v := (w.2.1 43 x8_1.toInt.toNat)) rfl).tr hL4392 rfl
        have o4394 : (1 ≤ x8_1.toInt) ∧ (x8_1.toInt ≤ 14) ∧ (1 ≤ (1 : Int32).toInt) ∧ ((1 : Int32).toInt ≤ 14) := by have := (by decide : ((1 : Int32)).toInt = 1); have := (by decide : ((14 : Int32)).toInt = 14); exact ⟨by omega, by omega, by omega, by omega⟩
        refine hq_Sf_meet_116 FU _ w4390 hI4391  o4394.1 o4394.2.1 o4394.2.2.1 o4394.2.2.2 (fu_lt (by have := (by decide : ((1 : Int32)).toInt = 1); have := (by decide : ((14 : Int32)).toInt = 14); omega)) (fun w4395 hI4396 hL4397  => ?_) (fun r w9 hI9 hF9 q0 => q0.elim)
        have hF4398 : FR l_Sf_meet_8 w w4395 := hF4393.tr hL4397 rfl
        have o4399 : (1 ≤ (x8_1 + (1 : Int32)).toInt) ∧ ((x8_1 + (1 : Int32)).toInt ≤ 15) := by have := (by decide : ((14 : Int32)).toInt = 14); have := ti_add2 (Eq.refl x8_1.toInt) (by decide : ((1 : Int32)).toInt = 1) (by omega) (by omega); exact ⟨by omega, by omega⟩
        exact ih _ w4395 hI4396  o4399.1 o4399.2 (by have := (by decide : ((14 : Int32)).toInt = 14); have := ti_add2 (Eq.refl x8_1.toInt) (by decide : ((1 : Int32)).toInt = 1) (by omega) (by omega); omega) (fun w9 hI9 hF9 => hE w9 hI9 (hF4398.tr hF9 rfl) ) (fun r w9 hI9 hF9 q0 => q0.elim)
      · have o4400 : (1 ≤ x8_1.toInt) ∧ (x8_1.toInt ≤ 14) ∧ (0 ≤ (0 : Int32).toInt) ∧ ((0 : Int32).toInt ≤ 44) := by have := (by decide : ((0 : Int64)).toInt = 0); have := (by decide : ((0 : Int32)).toInt = 0); have := (by decide : ((14 : Int32)).toInt = 14); exact ⟨by omega, by omega, by omega, by omega⟩
        refine hq_Sf_meet_49 FU _ _ (sJ w 45 x8_1.toInt.toNat (w.2.1 43 x8_1.toInt.toNat)) (bnd_J hI (k := 45) (j := x8_1.toInt.toNat) (v := (w.2.1 43 x8_1.toInt.toNat)))  o4400.1 o4400.2.1 o4400.2.2.1 o4400.2.2.2 (fu_lt (by have := (by decide : ((0 : Int64)).toInt = 0); have := (by decide : ((0 : Int32)).toInt = 0); have := (by decide : ((14 : Int32)).toInt = 14); omega)) (fun w4401 hI4402 hL4403  => ?_) (fun r w9 hI9 hF9 q0 => q0.elim)
        have hF4404 : FR l_Sf_meet_8 w w4401 := (FR.J (FR.refl _ w) (k := 45) (j := x8_1.toInt.toNat) (v := (w.2.1 43 x8_1.toInt.toNat)) rfl).tr hL4403 rfl
        have o4405 : (1 ≤ x8_1.toInt) ∧ (x8_1.toInt ≤ 14) ∧ (1 ≤ (1 : Int32).toInt) ∧ ((1 : Int32).toInt ≤ 14) := by have := (by decide : ((1 : Int32)).toInt = 1); have := (by decide : ((14 : Int32)).toInt = 14); exact ⟨by omega, by omega, by omega, by omega⟩
        refine hq_Sf_meet_116 FU _ w4401 hI4402  o4405.1 o4405.2.1 o4405.2.2.1 o4405.2.2.2 (fu_lt (by have := (by decide : ((1 : Int32)).toInt = 1); have := (by decide : ((14 : Int32)).toInt = 14); omega)) (fun w4406 hI4407 hL4408  => ?_) (fun r w9 hI9 hF9 q0 => q0.elim)
        have hF4409 : FR l_Sf_meet_8 w w4406 := hF4404.tr hL4408 rfl
        have o4410 : (1 ≤ (x8_1 + (1 : Int32)).toInt) ∧ ((x8_1 + (1 : Int32)).toInt ≤ 15) := by have := (by decide : ((14 : Int32)).toInt = 14); have := ti_add2 (Eq.refl x8_1.toInt) (by decide : ((1 : Int32)).toInt = 1) (by omega) (by omega); exact ⟨by omega, by omega⟩
        exact ih _ w4406 hI4407  o4410.1 o4410.2 (by have := (by decide : ((14 : Int32)).toInt = 14); have := ti_add2 (Eq.refl x8_1.toInt) (by decide : ((1 : Int32)).toInt = 1) (by omega) (by omega); omega) (fun w9 hI9 hF9 => hE w9 hI9 (hF4409.tr hF9 rfl) ) (fun r w9 hI9 hF9 q0 => q0.elim)
set_option maxRecDepth 20000 in
set_option maxHeartbeats 2000000 in
theorem h_Sf_meet {w : MW} {Q : Int32 → MW → Prop} (hI : BND w)  (hQ : ∀ (r : Int32) (w' : MW), BND w' → FR l_Sf_meet w w' → 0 ≤ r.toInt → r.toInt ≤ 1 → Q r w') : p_Sf_meet w Q := by
  refine Eq.mpr (p_Sf_meet.eq_1 _ _) ?_
  have hI4411 : BND (sI w 42 7 44) := wbd_42_7 hI
  have o4412 : (1 ≤ (1 : Int32).toInt) ∧ ((1 : Int32).toInt ≤ 15) := by have := (by decide : ((1 : Int32)).toInt = 1); exact ⟨by omega, by omega⟩
  refine hq_Sf_meet_8 FU _ (sI w 42 7 44) hI4411  o4412.1 o4412.2 (fu_lt (by have := (by decide : ((1 : Int32)).toInt = 1); omega)) (fun w4413 hI4414 hL4415  => ?_) (fun r w9 hI9 hF9 q0 => q0.elim)
  have hF4416 : FR l_Sf_meet w w4413 := (FR.I (FR.refl _ w) (k := 42) (j := 7) (v := 44) rfl).tr hL4415 rfl
  refine ⟨fun h4417 => ?_, fun h4417 => ?_⟩
  · have o4418 : (0 ≤ (0 : Int32).toInt) ∧ ((0 : Int32).toInt ≤ 1) := by have := (by decide : ((0 : Int32)).toInt = 0); exact ⟨by omega, by omega⟩
    exact hQ _ _ hI4414 hF4416  o4418.1 o4418.2
  · have o4419 : (0 ≤ (1 : Int32).toInt) ∧ ((1 : Int32).toInt ≤ 1) := by have := (by decide : ((1 : Int32)).toInt = 1); exact ⟨by omega, by omega⟩
    exact hQ _ _ hI4414 hF4416  o4419.1 o4419.2
def l_Sf_otherPasses_31 : Pl := []
def l_Sf_otherPasses : Pl := []
set_option maxRecDepth 20000 in
set_option maxHeartbeats 2000000 in
theorem h_Sf_otherPasses {w : MW} {a0 : Int32} {b0 : Int32} {Q : Int32 → MW → Prop} (hI : BND w) (hr_7_0 : w.2.2 7 0 = some 8) (hp0 : 0 ≤ a0.toInt) (hp1 : a0.toInt ≤ 19) (hp2 : 0 ≤ b0.toInt) (hp3 : b0.toInt ≤ 9) (hQ : ∀ (r : Int32) (w' : MW), BND w' → FR l_Sf_otherPasses w w' → 0 ≤ r.toInt → r.toInt ≤ 31710 → Q r w') : p_Sf_otherPasses w a0 b0 Q := by
  refine Eq.mpr (p_Sf_otherPasses.eq_1 _ _ _ _) ?_
  refine ⟨hr_7_0, ?_⟩
  have o4420 : 0 ≤ a0.toInt ∧ a0.toInt < 20 := by omega
  refine ⟨o4420, ?_⟩
  refine ⟨fun h4421 => ?_, fun h4421 => ?_⟩
  · have o4422 : (0 ≤ (0 : Int32).toInt) ∧ ((0 : Int32).toInt ≤ 31710) := by have := (by decide : ((0 : Int32)).toInt = 0); exact ⟨by omega, by omega⟩
    exact hQ _ _ hI (FR.refl _ w)  o4422.1 o4422.2
  · refine ⟨fun h4423 => ?_, fun h4423 => ?_⟩
    · refine Eq.mpr (q_Sf_otherPasses_31.eq_1 _ _ _ _ _) ?_
      have o4424 : 0 ≤ a0.toInt ∧ a0.toInt < 20 := by omega
      refine ⟨o4424, ?_⟩
      have o4425 : 0 ≤ (((w.1 9 a0.toInt.toNat) * (10 : Int32)) + (w.1 16 a0.toInt.toNat)).toInt ∧ (((w.1 9 a0.toInt.toNat) * (10 : Int32)) + (w.1 16 a0.toInt.toNat)).toInt < 100 := by have := bd_9 hI a0.toInt.toNat; have := bd_16 hI a0.toInt.toNat; have := (by decide : ((8 : Int32)).toInt = 8); have := (by decide : ((4 : Int32)).toInt = 4); have := ti_mul2 (Eq.refl (w.1 9 a0.toInt.toNat).toInt) (by decide : ((10 : Int32)).toInt = 10) (by omega) (by omega); have := ti_add2 (Eq.refl ((w.1 9 a0.toInt.toNat) * (10 : Int32)).toInt) (Eq.refl (w.1 16 a0.toInt.toNat).toInt) (by omega) (by omega); omega
      refine ⟨o4425, ?_⟩
      have o4426 : 0 ≤ (((w.1 9 a0.toInt.toNat) * (10 : Int32)) + b0).toInt ∧ (((w.1 9 a0.toInt.toNat) * (10 : Int32)) + b0).toInt < 100 := by have := bd_9 hI a0.toInt.toNat; have := (by decide : ((8 : Int32)).toInt = 8); have := (by decide : ((4 : Int32)).toInt = 4); have := ti_mul2 (Eq.refl (w.1 9 a0.toInt.toNat).toInt) (by decide : ((10 : Int32)).toInt = 10) (by omega) (by omega); have := ti_add2 (Eq.refl ((w.1 9 a0.toInt.toNat) * (10 : Int32)).toInt) (Eq.refl b0.toInt) (by omega) (by omega); omega
      refine ⟨o4426, ?_⟩
      refine ⟨hr_7_0, ?_⟩
      have o4427 : 0 ≤ a0.toInt ∧ a0.toInt < 20 := by omega
      refine ⟨o4427, ?_⟩
      refine Eq.mpr (p_Ma_min.eq_1 _ _ _ _) ?_
      refine ⟨fun h4428 => ?_, fun h4428 => ?_⟩
      · replace h4428 : 4 < (w.1 11 a0.toInt.toNat).toInt := h4428
        refine ⟨by decide, ?_⟩
        refine ⟨fun h4429 => ?_, fun h4429 => ?_⟩
        · have o4430 : (0 ≤ (0 : Int32).toInt) ∧ ((0 : Int32).toInt ≤ 31710) := by have := (by decide : ((0 : Int32)).toInt = 0); exact ⟨by omega, by omega⟩
          exact hQ _ _ hI (FR.refl _ w)  o4430.1 o4430.2
        · have o4431 : (0 ≤ ((stT 1001).getD ((((w.1 9 a0.toInt.toNat) * (10 : Int32)) + b0).toInt.toNat) 0).toInt) ∧ (((stT 1001).getD ((((w.1 9 a0.toInt.toNat) * (10 : Int32)) + b0).toInt.toNat) 0).toInt ≤ 31710) := by have := bd_9 hI a0.toInt.toNat; have := (by decide : ((8 : Int32)).toInt = 8); have := (by decide : ((4 : Int32)).toInt = 4); have := ti_lo ((((stT 1001).getD ((((w.1 9 a0.toInt.toNat) * (10 : Int32)) + b0).toInt.toNat) 0) &&& (((stT 1001).getD ((((w.1 9 a0.toInt.toNat) * (10 : Int32)) + (w.1 16 a0.toInt.toNat)).toInt.toNat) 0) ^^^ ((-1) : Int32))) &&& ((stT 1002).getD ((4 : Int32).toInt.toNat) 0)); have := ti_hi ((((stT 1001).getD ((((w.1 9 a0.toInt.toNat) * (10 : Int32)) + b0).toInt.toNat) 0) &&& (((stT 1001).getD ((((w.1 9 a0.toInt.toNat) * (10 : Int32)) + (w.1 16 a0.toInt.toNat)).toInt.toNat) 0) ^^^ ((-1) : Int32))) &&& ((stT 1002).getD ((4 : Int32).toInt.toNat) 0)); have := ti_lo (((stT 1001).getD ((((w.1 9 a0.toInt.toNat) * (10 : Int32)) + b0).toInt.toNat) 0) &&& (((stT 1001).getD ((((w.1 9 a0.toInt.toNat) * (10 : Int32)) + (w.1 16 a0.toInt.toNat)).toInt.toNat) 0) ^^^ ((-1) : Int32))); have := ti_hi (((stT 1001).getD ((((w.1 9 a0.toInt.toNat) * (10 : Int32)) + b0).toInt.toNat) 0) &&& (((stT 1001).getD ((((w.1 9 a0.toInt.toNat) * (10 : Int32)) + (w.1 16 a0.toInt.toNat)).toInt.toNat) 0) ^^^ ((-1) : Int32))); have := ti_lo (((stT 1001).getD ((((w.1 9 a0.toInt.toNat) * (10 : Int32)) + (w.1 16 a0.toInt.toNat)).toInt.toNat) 0) ^^^ ((-1) : Int32)); have := ti_hi (((stT 1001).getD ((((w.1 9 a0.toInt.toNat) * (10 : Int32)) + (w.1 16 a0.toInt.toNat)).toInt.toNat) 0) ^^^ ((-1) : Int32)); have := bd_16 hI a0.toInt.toNat; have := (by decide : ((0 : Int32)).toInt = 0); have := ti_mul2 (Eq.refl (w.1 9 a0.toInt.toNat).toInt) (by decide : ((10 : Int32)).toInt = 10) (by omega) (by omega); have := ti_add2 (Eq.refl ((w.1 9 a0.toInt.toNat) * (10 : Int32)).toInt) (Eq.refl b0.toInt) (by omega) (by omega); have := st_1001 (((w.1 9 a0.toInt.toNat) * (10 : Int32)) + b0) (by omega); have := ti_add2 (Eq.refl ((w.1 9 a0.toInt.toNat) * (10 : Int32)).toInt) (Eq.refl (w.1 16 a0.toInt.toNat).toInt) (by omega) (by omega); have := st_1001 (((w.1 9 a0.toInt.toNat) * (10 : Int32)) + (w.1 16 a0.toInt.toNat)) (by omega); have := st_1002 (4 : Int32) (by omega); exact ⟨by omega, by omega⟩
          exact hQ _ _ hI (FR.refl _ w)  o4431.1 o4431.2
      · replace h4428 : ¬ (4 < (w.1 11 a0.toInt.toNat).toInt) := h4428
        have o4432 : 0 ≤ (w.1 11 a0.toInt.toNat).toInt ∧ (w.1 11 a0.toInt.toNat).toInt < 5 := by have := bd_11 hI a0.toInt.toNat; have := (by decide : ((4 : Int32)).toInt = 4); omega
        refine ⟨o4432, ?_⟩
        refine ⟨fun h4433 => ?_, fun h4433 => ?_⟩
        · have o4434 : (0 ≤ (0 : Int32).toInt) ∧ ((0 : Int32).toInt ≤ 31710) := by have := (by decide : ((0 : Int32)).toInt = 0); exact ⟨by omega, by omega⟩
          exact hQ _ _ hI (FR.refl _ w)  o4434.1 o4434.2
        · have o4435 : (0 ≤ ((stT 1001).getD ((((w.1 9 a0.toInt.toNat) * (10 : Int32)) + b0).toInt.toNat) 0).toInt) ∧ (((stT 1001).getD ((((w.1 9 a0.toInt.toNat) * (10 : Int32)) + b0).toInt.toNat) 0).toInt ≤ 31710) := by have := bd_9 hI a0.toInt.toNat; have := (by decide : ((8 : Int32)).toInt = 8); have := (by decide : ((4 : Int32)).toInt = 4); have := ti_lo ((((stT 1001).getD ((((w.1 9 a0.toInt.toNat) * (10 : Int32)) + b0).toInt.toNat) 0) &&& (((stT 1001).getD ((((w.1 9 a0.toInt.toNat) * (10 : Int32)) + (w.1 16 a0.toInt.toNat)).toInt.toNat) 0) ^^^ ((-1) : Int32))) &&& ((stT 1002).getD ((w.1 11 a0.toInt.toNat).toInt.toNat) 0)); have := ti_hi ((((stT 1001).getD ((((w.1 9 a0.toInt.toNat) * (10 : Int32)) + b0).toInt.toNat) 0) &&& (((stT 1001).getD ((((w.1 9 a0.toInt.toNat) * (10 : Int32)) + (w.1 16 a0.toInt.toNat)).toInt.toNat) 0) ^^^ ((-1) : Int32))) &&& ((stT 1002).getD ((w.1 11 a0.toInt.toNat).toInt.toNat) 0)); have := ti_lo (((stT 1001).getD ((((w.1 9 a0.toInt.toNat) * (10 : Int32)) + b0).toInt.toNat) 0) &&& (((stT 1001).getD ((((w.1 9 a0.toInt.toNat) * (10 : Int32)) + (w.1 16 a0.toInt.toNat)).toInt.toNat) 0) ^^^ ((-1) : Int32))); have := ti_hi (((stT 1001).getD ((((w.1 9 a0.toInt.toNat) * (10 : Int32)) + b0).toInt.toNat) 0) &&& (((stT 1001).getD ((((w.1 9 a0.toInt.toNat) * (10 : Int32)) + (w.1 16 a0.toInt.toNat)).toInt.toNat) 0) ^^^ ((-1) : Int32))); have := ti_lo (((stT 1001).getD ((((w.1 9 a0.toInt.toNat) * (10 : Int32)) + (w.1 16 a0.toInt.toNat)).toInt.toNat) 0) ^^^ ((-1) : Int32)); have := ti_hi (((stT 1001).getD ((((w.1 9 a0.toInt.toNat) * (10 : Int32)) + (w.1 16 a0.toInt.toNat)).toInt.toNat) 0) ^^^ ((-1) : Int32)); have := bd_16 hI a0.toInt.toNat; have := bd_11 hI a0.toInt.toNat; have := (by decide : ((0 : Int32)).toInt = 0); have := ti_mul2 (Eq.refl (w.1 9 a0.toInt.toNat).toInt) (by decide : ((10 : Int32)).toInt = 10) (by omega) (by omega); have := ti_add2 (Eq.refl ((w.1 9 a0.toInt.toNat) * (10 : Int32)).toInt) (Eq.refl b0.toInt) (by omega) (by omega); have := st_1001 (((w.1 9 a0.toInt.toNat) * (10 : Int32)) + b0) (by omega); have := ti_add2 (Eq.refl ((w.1 9 a0.toInt.toNat) * (10 : Int32)).toInt) (Eq.refl (w.1 16 a0.toInt.toNat).toInt) (by omega) (by omega); have := st_1001 (((w.1 9 a0.toInt.toNat) * (10 : Int32)) + (w.1 16 a0.toInt.toNat)) (by omega); have := st_1002 (w.1 11 a0.toInt.toNat) (by omega); exact ⟨by omega, by omega⟩
          exact hQ _ _ hI (FR.refl _ w)  o4435.1 o4435.2
    · refine ⟨fun h4436 => ?_, fun h4436 => ?_⟩
      · refine Eq.mpr (q_Sf_otherPasses_31.eq_1 _ _ _ _ _) ?_
        have o4437 : 0 ≤ a0.toInt ∧ a0.toInt < 20 := by omega
        refine ⟨o4437, ?_⟩
        have o4438 : 0 ≤ (((w.1 9 a0.toInt.toNat) * (10 : Int32)) + (w.1 16 a0.toInt.toNat)).toInt ∧ (((w.1 9 a0.toInt.toNat) * (10 : Int32)) + (w.1 16 a0.toInt.toNat)).toInt < 100 := by have := bd_9 hI a0.toInt.toNat; have := bd_16 hI a0.toInt.toNat; have := (by decide : ((8 : Int32)).toInt = 8); have := (by decide : ((4 : Int32)).toInt = 4); have := ti_mul2 (Eq.refl (w.1 9 a0.toInt.toNat).toInt) (by decide : ((10 : Int32)).toInt = 10) (by omega) (by omega); have := ti_add2 (Eq.refl ((w.1 9 a0.toInt.toNat) * (10 : Int32)).toInt) (Eq.refl (w.1 16 a0.toInt.toNat).toInt) (by omega) (by omega); omega
        refine ⟨o4438, ?_⟩
        have o4439 : 0 ≤ (((w.1 9 a0.toInt.toNat) * (10 : Int32)) + b0).toInt ∧ (((w.1 9 a0.toInt.toNat) * (10 : Int32)) + b0).toInt < 100 := by have := bd_9 hI a0.toInt.toNat; have := (by decide : ((8 : Int32)).toInt = 8); have := (by decide : ((4 : Int32)).toInt = 4); have := (by decide : ((1 : Int32)).toInt = 1); have := ti_mul2 (Eq.refl (w.1 9 a0.toInt.toNat).toInt) (by decide : ((10 : Int32)).toInt = 10) (by omega) (by omega); have := ti_add2 (Eq.refl ((w.1 9 a0.toInt.toNat) * (10 : Int32)).toInt) (Eq.refl b0.toInt) (by omega) (by omega); omega
        refine ⟨o4439, ?_⟩
        refine ⟨hr_7_0, ?_⟩
        have o4440 : 0 ≤ a0.toInt ∧ a0.toInt < 20 := by omega
        refine ⟨o4440, ?_⟩
        refine Eq.mpr (p_Ma_min.eq_1 _ _ _ _) ?_
        refine ⟨fun h4441 => ?_, fun h4441 => ?_⟩
        · replace h4441 : 4 < (w.1 11 a0.toInt.toNat).toInt := h4441
          refine ⟨by decide, ?_⟩
          refine ⟨fun h4442 => ?_, fun h4442 => ?_⟩
          · have o4443 : (0 ≤ (0 : Int32).toInt) ∧ ((0 : Int32).toInt ≤ 31710) := by have := (by decide : ((0 : Int32)).toInt = 0); exact ⟨by omega, by omega⟩
            exact hQ _ _ hI (FR.refl _ w)  o4443.1 o4443.2
          · have o4444 : (0 ≤ ((stT 1001).getD ((((w.1 9 a0.toInt.toNat) * (10 : Int32)) + b0).toInt.toNat) 0).toInt) ∧ (((stT 1001).getD ((((w.1 9 a0.toInt.toNat) * (10 : Int32)) + b0).toInt.toNat) 0).toInt ≤ 31710) := by have := bd_9 hI a0.toInt.toNat; have := (by decide : ((8 : Int32)).toInt = 8); have := (by decide : ((4 : Int32)).toInt = 4); have := (by decide : ((1 : Int32)).toInt = 1); have := ti_lo ((((stT 1001).getD ((((w.1 9 a0.toInt.toNat) * (10 : Int32)) + b0).toInt.toNat) 0) &&& (((stT 1001).getD ((((w.1 9 a0.toInt.toNat) * (10 : Int32)) + (w.1 16 a0.toInt.toNat)).toInt.toNat) 0) ^^^ ((-1) : Int32))) &&& ((stT 1002).getD ((4 : Int32).toInt.toNat) 0)); have := ti_hi ((((stT 1001).getD ((((w.1 9 a0.toInt.toNat) * (10 : Int32)) + b0).toInt.toNat) 0) &&& (((stT 1001).getD ((((w.1 9 a0.toInt.toNat) * (10 : Int32)) + (w.1 16 a0.toInt.toNat)).toInt.toNat) 0) ^^^ ((-1) : Int32))) &&& ((stT 1002).getD ((4 : Int32).toInt.toNat) 0)); have := ti_lo (((stT 1001).getD ((((w.1 9 a0.toInt.toNat) * (10 : Int32)) + b0).toInt.toNat) 0) &&& (((stT 1001).getD ((((w.1 9 a0.toInt.toNat) * (10 : Int32)) + (w.1 16 a0.toInt.toNat)).toInt.toNat) 0) ^^^ ((-1) : Int32))); have := ti_hi (((stT 1001).getD ((((w.1 9 a0.toInt.toNat) * (10 : Int32)) + b0).toInt.toNat) 0) &&& (((stT 1001).getD ((((w.1 9 a0.toInt.toNat) * (10 : Int32)) + (w.1 16 a0.toInt.toNat)).toInt.toNat) 0) ^^^ ((-1) : Int32))); have := ti_lo (((stT 1001).getD ((((w.1 9 a0.toInt.toNat) * (10 : Int32)) + (w.1 16 a0.toInt.toNat)).toInt.toNat) 0) ^^^ ((-1) : Int32)); have := ti_hi (((stT 1001).getD ((((w.1 9 a0.toInt.toNat) * (10 : Int32)) + (w.1 16 a0.toInt.toNat)).toInt.toNat) 0) ^^^ ((-1) : Int32)); have := bd_16 hI a0.toInt.toNat; have := (by decide : ((0 : Int32)).toInt = 0); have := ti_mul2 (Eq.refl (w.1 9 a0.toInt.toNat).toInt) (by decide : ((10 : Int32)).toInt = 10) (by omega) (by omega); have := ti_add2 (Eq.refl ((w.1 9 a0.toInt.toNat) * (10 : Int32)).toInt) (Eq.refl b0.toInt) (by omega) (by omega); have := st_1001 (((w.1 9 a0.toInt.toNat) * (10 : Int32)) + b0) (by omega); have := ti_add2 (Eq.refl ((w.1 9 a0.toInt.toNat) * (10 : Int32)).toInt) (Eq.refl (w.1 16 a0.toInt.toNat).toInt) (by omega) (by omega); have := st_1001 (((w.1 9 a0.toInt.toNat) * (10 : Int32)) + (w.1 16 a0.toInt.toNat)) (by omega); have := st_1002 (4 : Int32) (by omega); exact ⟨by omega, by omega⟩
            exact hQ _ _ hI (FR.refl _ w)  o4444.1 o4444.2
        · replace h4441 : ¬ (4 < (w.1 11 a0.toInt.toNat).toInt) := h4441
          have o4445 : 0 ≤ (w.1 11 a0.toInt.toNat).toInt ∧ (w.1 11 a0.toInt.toNat).toInt < 5 := by have := bd_11 hI a0.toInt.toNat; have := (by decide : ((4 : Int32)).toInt = 4); omega
          refine ⟨o4445, ?_⟩
          refine ⟨fun h4446 => ?_, fun h4446 => ?_⟩
          · have o4447 : (0 ≤ (0 : Int32).toInt) ∧ ((0 : Int32).toInt ≤ 31710) := by have := (by decide : ((0 : Int32)).toInt = 0); exact ⟨by omega, by omega⟩
            exact hQ _ _ hI (FR.refl _ w)  o4447.1 o4447.2
          · have o4448 : (0 ≤ ((stT 1001).getD ((((w.1 9 a0.toInt.toNat) * (10 : Int32)) + b0).toInt.toNat) 0).toInt) ∧ (((stT 1001).getD ((((w.1 9 a0.toInt.toNat) * (10 : Int32)) + b0).toInt.toNat) 0).toInt ≤ 31710) := by have := bd_9 hI a0.toInt.toNat; have := (by decide : ((8 : Int32)).toInt = 8); have := (by decide : ((4 : Int32)).toInt = 4); have := (by decide : ((1 : Int32)).toInt = 1); have := ti_lo ((((stT 1001).getD ((((w.1 9 a0.toInt.toNat) * (10 : Int32)) + b0).toInt.toNat) 0) &&& (((stT 1001).getD ((((w.1 9 a0.toInt.toNat) * (10 : Int32)) + (w.1 16 a0.toInt.toNat)).toInt.toNat) 0) ^^^ ((-1) : Int32))) &&& ((stT 1002).getD ((w.1 11 a0.toInt.toNat).toInt.toNat) 0)); have := ti_hi ((((stT 1001).getD ((((w.1 9 a0.toInt.toNat) * (10 : Int32)) + b0).toInt.toNat) 0) &&& (((stT 1001).getD ((((w.1 9 a0.toInt.toNat) * (10 : Int32)) + (w.1 16 a0.toInt.toNat)).toInt.toNat) 0) ^^^ ((-1) : Int32))) &&& ((stT 1002).getD ((w.1 11 a0.toInt.toNat).toInt.toNat) 0)); have := ti_lo (((stT 1001).getD ((((w.1 9 a0.toInt.toNat) * (10 : Int32)) + b0).toInt.toNat) 0) &&& (((stT 1001).getD ((((w.1 9 a0.toInt.toNat) * (10 : Int32)) + (w.1 16 a0.toInt.toNat)).toInt.toNat) 0) ^^^ ((-1) : Int32))); have := ti_hi (((stT 1001).getD ((((w.1 9 a0.toInt.toNat) * (10 : Int32)) + b0).toInt.toNat) 0) &&& (((stT 1001).getD ((((w.1 9 a0.toInt.toNat) * (10 : Int32)) + (w.1 16 a0.toInt.toNat)).toInt.toNat) 0) ^^^ ((-1) : Int32))); have := ti_lo (((stT 1001).getD ((((w.1 9 a0.toInt.toNat) * (10 : Int32)) + (w.1 16 a0.toInt.toNat)).toInt.toNat) 0) ^^^ ((-1) : Int32)); have := ti_hi (((stT 1001).getD ((((w.1 9 a0.toInt.toNat) * (10 : Int32)) + (w.1 16 a0.toInt.toNat)).toInt.toNat) 0) ^^^ ((-1) : Int32)); have := bd_16 hI a0.toInt.toNat; have := bd_11 hI a0.toInt.toNat; have := (by decide : ((0 : Int32)).toInt = 0); have := ti_mul2 (Eq.refl (w.1 9 a0.toInt.toNat).toInt) (by decide : ((10 : Int32)).toInt = 10) (by omega) (by omega); have := ti_add2 (Eq.refl ((w.1 9 a0.toInt.toNat) * (10 : Int32)).toInt) (Eq.refl b0.toInt) (by omega) (by omega); have := st_1001 (((w.1 9 a0.toInt.toNat) * (10 : Int32)) + b0) (by omega); have := ti_add2 (Eq.refl ((w.1 9 a0.toInt.toNat) * (10 : Int32)).toInt) (Eq.refl (w.1 16 a0.toInt.toNat).toInt) (by omega) (by omega); have := st_1001 (((w.1 9 a0.toInt.toNat) * (10 : Int32)) + (w.1 16 a0.toInt.toNat)) (by omega); have := st_1002 (w.1 11 a0.toInt.toNat) (by omega); exact ⟨by omega, by omega⟩
            exact hQ _ _ hI (FR.refl _ w)  o4448.1 o4448.2
      · have o4449 : (0 ≤ (0 : Int32).toInt) ∧ ((0 : Int32).toInt ≤ 31710) := by have := (by decide : ((0 : Int32)).toInt = 0); exact ⟨by omega, by omega⟩
        exact hQ _ _ hI (FR.refl _ w)  o4449.1 o4449.2
def l_Wa_addSources_43_42 : Pl := []
def l_Wa_addSources_43_13 : Pl := [(43, none)]
def l_Wa_addSources_43 : Pl := [(43, none)]
set_option maxRecDepth 20000 in
set_option maxHeartbeats 2000000 in
theorem hq_Wa_addSources_43_42 {x42_2 : Int32} {x42_3 : Int32} {E : Int64 → MW → Prop} {Q : MW → Prop} (n : Nat) : ∀ (x42_4 : Int64) (x42_6 : Int32) (x42_7 : Int32) (w : MW), BND w → 0 ≤ x42_2.toInt → x42_2.toInt ≤ 20 → 0 ≤ x42_3.toInt → x42_3.toInt ≤ 23 → (-1) ≤ x42_6.toInt → x42_6.toInt ≤ 23 → 0 ≤ x42_7.toInt → x42_7.toInt ≤ 24 → (24 - x42_7.toInt).toNat < n → (∀ (e42_4 : Int64) (w' : MW), BND w' → FR l_Wa_addSources_43_42 w w' → E e42_4 w') → (∀ (w' : MW), BND w' → FR l_Wa_addSources_43_42 w w' → False → Q w') → q_Wa_addSources_43_42 x42_2 x42_3 E Q n x42_4 x42_6 x42_7 w := by
  induction n with
  | zero => intros; omega
  | succ n ih =>
    intro x42_4 x42_6 x42_7 w hI  hp0 hp1 hp2 hp3 hp4 hp5 hp6 hp7 hm hE hQ
    rw [q_Wa_addSources_43_42.eq_2]
    have o4450 : 0 ≤ x42_3.toInt ∧ x42_3.toInt < 24 := by omega
    refine ⟨o4450, ?_⟩
    refine ⟨fun h4451 => ?_, fun h4451 => ?_⟩
    · exact hE _ _ hI (FR.refl _ w)
    · refine ⟨fun h4452 => ?_, fun h4452 => ?_⟩
      · exact hE _ _ hI (FR.refl _ w)
      · have o4453 : 0 ≤ x42_6.toInt ∧ x42_6.toInt < 24 := by have := (by decide : ((0 : Int32)).toInt = 0); omega
        refine ⟨o4453, ?_⟩
        have o4454 : (0 ≤ x42_2.toInt) ∧ (x42_2.toInt ≤ 20) ∧ (0 ≤ x42_3.toInt) ∧ (x42_3.toInt ≤ 23) ∧ ((-1) ≤ (w.1 35 x42_6.toInt.toNat).toInt) ∧ ((w.1 35 x42_6.toInt.toNat).toInt ≤ 23) ∧ (0 ≤ (x42_7 + (1 : Int32)).toInt) ∧ ((x42_7 + (1 : Int32)).toInt ≤ 24) := by have := bd_35 hI x42_6.toInt.toNat; have := bd_31 hI x42_3.toInt.toNat; have := (by decide : ((0 : Int32)).toInt = 0); have := ti_add2 (Eq.refl x42_7.toInt) (by decide : ((1 : Int32)).toInt = 1) (by omega) (by omega); exact ⟨by omega, by omega, by omega, by omega, by omega, by omega, by omega, by omega⟩
        exact ih _ _ _ w hI  o4454.1 o4454.2.1 o4454.2.2.1 o4454.2.2.2.1 o4454.2.2.2.2.1 o4454.2.2.2.2.2.1 o4454.2.2.2.2.2.2.1 o4454.2.2.2.2.2.2.2 (by have := bd_35 hI x42_6.toInt.toNat; have := bd_31 hI x42_3.toInt.toNat; have := (by decide : ((0 : Int32)).toInt = 0); have := ti_add2 (Eq.refl x42_7.toInt) (by decide : ((1 : Int32)).toInt = 1) (by omega) (by omega); omega) (fun e0 w9 hI9 hF9 => hE e0 w9 hI9 ((FR.refl _ w).tr hF9 rfl) ) (fun w9 hI9 hF9 q0 => q0.elim)
set_option maxRecDepth 20000 in
set_option maxHeartbeats 2000000 in
theorem hq_Wa_addSources_43_13 {x13_2 : Int32} {E : MW → Prop} {Q : MW → Prop} (n : Nat) : ∀ (x13_3 : Int32) (w : MW), BND w → 0 ≤ x13_2.toInt → x13_2.toInt ≤ 20 → 0 ≤ x13_3.toInt → x13_3.toInt ≤ 24 → (24 - x13_3.toInt).toNat < n → (∀ (w' : MW), BND w' → FR l_Wa_addSources_43_13 w w' → E w') → (∀ (w' : MW), BND w' → FR l_Wa_addSources_43_13 w w' → False → Q w') → q_Wa_addSources_43_13 x13_2 E Q n x13_3 w := by
  induction n with
  | zero => intros; omega
  | succ n ih =>
    intro x13_3 w hI  hp0 hp1 hp2 hp3 hm hE hQ
    rw [q_Wa_addSources_43_13.eq_2]
    refine ⟨fun h4455 => ?_, fun h4455 => ?_⟩
    · exact hE _ hI (FR.refl _ w)
    · have o4456 : 0 ≤ x13_3.toInt ∧ x13_3.toInt < 24 := by have := bd_26_1 hI; omega
      refine ⟨o4456, ?_⟩
      have o4457 : 0 ≤ x13_3.toInt ∧ x13_3.toInt < 24 := by have := bd_26_1 hI; omega
      refine ⟨o4457, ?_⟩
      have o4458 : (0 ≤ x13_2.toInt) ∧ (x13_2.toInt ≤ 20) ∧ (0 ≤ x13_3.toInt) ∧ (x13_3.toInt ≤ 23) ∧ ((-1) ≤ (w.1 32 x13_3.toInt.toNat).toInt) ∧ ((w.1 32 x13_3.toInt.toNat).toInt ≤ 23) ∧ (0 ≤ (0 : Int32).toInt) ∧ ((0 : Int32).toInt ≤ 24) := by have := bd_32 hI x13_3.toInt.toNat; have := (by decide : ((0 : Int32)).toInt = 0); have := bd_26_1 hI; exact ⟨by omega, by omega, by omega, by omega, by omega, by omega, by omega, by omega⟩
      refine hq_Wa_addSources_43_42 FU _ _ _ w hI  o4458.1 o4458.2.1 o4458.2.2.1 o4458.2.2.2.1 o4458.2.2.2.2.1 o4458.2.2.2.2.2.1 o4458.2.2.2.2.2.2.1 o4458.2.2.2.2.2.2.2 (fu_lt (by have := bd_32 hI x13_3.toInt.toNat; have := (by decide : ((0 : Int32)).toInt = 0); have := bd_26_1 hI; omega)) (fun e4462 w4459 hI4460 hL4461  => ?_) (fun w9 hI9 hF9 q0 => q0.elim)
      have hF4463 : FR l_Wa_addSources_43_13 w w4459 := (FR.refl _ w).tr hL4461 rfl
      have o4464 : 0 ≤ x13_3.toInt ∧ x13_3.toInt < 24 := by have := bd_26_1 hI; omega
      refine ⟨o4464, ?_⟩
      have o4465 : 0 ≤ (w4459.1 30 x13_3.toInt.toNat).toInt ∧ (w4459.1 30 x13_3.toInt.toNat).toInt < 15 := by have := bd_30 hI4460 x13_3.toInt.toNat; have := bd_30 hI x13_3.toInt.toNat; have := (congrArg Int32.toInt (hL4461 30 x13_3.toInt.toNat rfl).1); omega
      refine ⟨o4465, ?_⟩
      have o4466 : 0 ≤ (w4459.1 30 x13_3.toInt.toNat).toInt ∧ (w4459.1 30 x13_3.toInt.toNat).toInt < 15 := by have := bd_30 hI4460 x13_3.toInt.toNat; have := bd_30 hI x13_3.toInt.toNat; have := (congrArg Int32.toInt (hL4461 30 x13_3.toInt.toNat rfl).1); omega
      refine ⟨o4466, ?_⟩
      have o4467 : (0 ≤ x13_2.toInt) ∧ (x13_2.toInt ≤ 20) ∧ (0 ≤ (x13_3 + (1 : Int32)).toInt) ∧ ((x13_3 + (1 : Int32)).toInt ≤ 24) := by have := bd_26_1 hI; have := ti_add2 (Eq.refl x13_3.toInt) (by decide : ((1 : Int32)).toInt = 1) (by omega) (by omega); exact ⟨by omega, by omega, by omega, by omega⟩
      exact ih _ (sJ w4459 43 ((w4459.1 30 x13_3.toInt.toNat).toInt.toNat) ((w4459.2.1 43 ((w4459.1 30 x13_3.toInt.toNat).toInt.toNat)) ||| e4462)) (bnd_J hI4460 (k := 43) (j := (w4459.1 30 x13_3.toInt.toNat).toInt.toNat) (v := ((w4459.2.1 43 ((w4459.1 30 x13_3.toInt.toNat).toInt.toNat)) ||| e4462)))  o4467.1 o4467.2.1 o4467.2.2.1 o4467.2.2.2 (by have := bd_26_1 hI; have := ti_add2 (Eq.refl x13_3.toInt) (by decide : ((1 : Int32)).toInt = 1) (by omega) (by omega); omega) (fun w9 hI9 hF9 => hE w9 hI9 ((FR.J hF4463 (k := 43) (j := (w4459.1 30 x13_3.toInt.toNat).toInt.toNat) (v := ((w4459.2.1 43 ((w4459.1 30 x13_3.toInt.toNat).toInt.toNat)) ||| e4462)) rfl).tr hF9 rfl) ) (fun w9 hI9 hF9 q0 => q0.elim)
set_option maxRecDepth 20000 in
set_option maxHeartbeats 2000000 in
theorem h_Wa_addSources_43 {w : MW} {Q : MW → Prop} (hI : BND w) (hr_7_0 : w.2.2 7 0 = some 8)  (hQ : ∀ (w' : MW), BND w' → FR l_Wa_addSources_43 w w' → Q w') : p_Wa_addSources_43 w Q := by
  refine Eq.mpr (p_Wa_addSources_43.eq_1 _ _) ?_
  refine ⟨hr_7_0, ?_⟩
  have o4468 : (0 ≤ (w.1 8 0).toInt) ∧ ((w.1 8 0).toInt ≤ 20) ∧ (0 ≤ (0 : Int32).toInt) ∧ ((0 : Int32).toInt ≤ 24) := by have := bd_8_0 hI; have := (by decide : ((0 : Int32)).toInt = 0); exact ⟨by omega, by omega, by omega, by omega⟩
  refine hq_Wa_addSources_43_13 FU _ w hI  o4468.1 o4468.2.1 o4468.2.2.1 o4468.2.2.2 (fu_lt (by have := bd_8_0 hI; have := (by decide : ((0 : Int32)).toInt = 0); omega)) (fun w4469 hI4470 hL4471  => ?_) (fun w9 hI9 hF9 q0 => q0.elim)
  have hF4472 : FR l_Wa_addSources_43 w w4469 := (FR.refl _ w).tr hL4471 rfl
  exact hQ _ hI4470 hF4472 
