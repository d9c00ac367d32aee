def l_Sf_meet_49 : Pl := [(45, none)]
def l_Sf_meet_173 : Pl := [(42, some 7), (42, some 8), (42, some 9)]
def l_Sf_meet_116 : Pl := [(42, some 7), (42, some 8), (42, some 9)]
def l_Sf_meet_8 : Pl := [(42, some 7), (42, some 8), (42, some 9), (45, none)]
def l_Sf_meet : Pl := [(42, some 7), (42, some 8), (42, some 9), (45, none)]
set_option maxRecDepth 20000 in
set_option maxHeartbeats 2000000 in
theorem hq_Sf_meet_49 {x49_1 : Int32} {E : MW → Prop} {Q : Int32 → MW → Prop} (n : Nat) : ∀ (x49_2 : Int64) (x49_4 : Int32) (w : MW), BND w → 1 ≤ x49_1.toInt → x49_1.toInt ≤ 14 → 0 ≤ x49_4.toInt → x49_4.toInt ≤ 44 → (44 - x49_4.toInt).toNat < n → (∀ (w' : MW), BND w' → FR l_Sf_meet_49 w w' → E w') → (∀ (r : Int32) (w' : MW), BND w' → FR l_Sf_meet_49 w w' → False → Q r w') → q_Sf_meet_49 x49_1 E Q n x49_2 x49_4 w := by
  induction n with
  | zero => intros; omega
  | succ n ih =>
    intro x49_2 x49_4 w hI  hp0 hp1 hp2 hp3 hm hE hQ
    rw [q_Sf_meet_49.eq_2]
    refine ⟨fun h5273 => ?_, fun h5273 => ?_⟩
    · exact hE _ hI (FR.refl _ w)
    · refine ⟨fun h5274 => ?_, fun h5274 => ?_⟩
      · exact hE _ hI (FR.refl _ w)
      · refine Eq.mpr (p_Lo_numberOfTrailingZeros.eq_1 _ _ _) ?_
        refine ⟨fun h5275 => ?_, fun h5275 => ?_⟩
        · refine h_In_numberOfTrailingZeros hI   (fun r5279 w5276 hI5277 hL5278 p5280 p5281 => ?_)
          have hF5282 : FR l_Sf_meet_49 w w5276 := (FR.refl _ w).tr hL5278 rfl
          have o5283 : 0 ≤ (r5279 - r5279 / (44 : Int32) * (44 : Int32)).toInt ∧ (r5279 - r5279 / (44 : Int32) * (44 : Int32)).toInt < 44 := by have := nb_rem (x := r5279) (by omega) (by decide : ((44 : Int32)).toInt = 44) (by decide); omega
          refine ⟨o5283, ?_⟩
          have o5284 : 0 ≤ x49_1.toInt ∧ x49_1.toInt < 15 := by omega
          refine ⟨o5284, ?_⟩
          have o5285 : 0 ≤ x49_1.toInt ∧ x49_1.toInt < 15 := by omega
          refine ⟨o5285, ?_⟩
          have o5286 : 0 ≤ x49_1.toInt ∧ x49_1.toInt < 15 := by omega
          refine ⟨o5286, ?_⟩
          have o5287 : (1 ≤ x49_1.toInt) ∧ (x49_1.toInt ≤ 14) ∧ (0 ≤ (x49_4 + (1 : Int32)).toInt) ∧ ((x49_4 + (1 : Int32)).toInt ≤ 44) := by have := (by decide : ((44 : Int32)).toInt = 44); have := nb_cmp x49_2 (0 : Int64); have := (by decide : ((0 : Int64)).toInt = 0); have := (by decide : ((0 : Int32)).toInt = 0); have := ti_lo (Int64.toInt32 x49_2); have := ti_hi (Int64.toInt32 x49_2); have := ti_add2 (Eq.refl x49_4.toInt) (by decide : ((1 : Int32)).toInt = 1) (by omega) (by omega); (try have := nb_l2i (x := x49_2) (by omega) (by omega)); exact ⟨by omega, by omega, by omega, by omega⟩
          exact ih _ _ (sJ w5276 45 x49_1.toInt.toNat ((w5276.2.1 45 x49_1.toInt.toNat) ||| ((w5276.2.1 46 ((r5279 - r5279 / (44 : Int32) * (44 : Int32)).toInt.toNat)) &&& ((w5276.2.1 45 x49_1.toInt.toNat) ^^^ ((-1) : Int64))))) (bnd_J hI5277 (k := 45) (j := x49_1.toInt.toNat) (v := ((w5276.2.1 45 x49_1.toInt.toNat) ||| ((w5276.2.1 46 ((r5279 - r5279 / (44 : Int32) * (44 : Int32)).toInt.toNat)) &&& ((w5276.2.1 45 x49_1.toInt.toNat) ^^^ ((-1) : Int64))))))  o5287.1 o5287.2.1 o5287.2.2.1 o5287.2.2.2 (by have := (by decide : ((44 : Int32)).toInt = 44); have := nb_cmp x49_2 (0 : Int64); have := (by decide : ((0 : Int64)).toInt = 0); have := (by decide : ((0 : Int32)).toInt = 0); have := ti_lo (Int64.toInt32 x49_2); have := ti_hi (Int64.toInt32 x49_2); have := ti_add2 (Eq.refl x49_4.toInt) (by decide : ((1 : Int32)).toInt = 1) (by omega) (by omega); (try have := nb_l2i (x := x49_2) (by omega) (by omega)); omega) (fun w9 hI9 hF9 => hE w9 hI9 ((FR.J hF5282 (k := 45) (j := x49_1.toInt.toNat) (v := ((w5276.2.1 45 x49_1.toInt.toNat) ||| ((w5276.2.1 46 ((r5279 - r5279 / (44 : Int32) * (44 : Int32)).toInt.toNat)) &&& ((w5276.2.1 45 x49_1.toInt.toNat) ^^^ ((-1) : Int64))))) rfl).tr hF9 rfl) ) (fun r w9 hI9 hF9 q0 => q0.elim)
        · refine h_In_numberOfTrailingZeros hI   (fun r5291 w5288 hI5289 hL5290 p5292 p5293 => ?_)
          have hF5294 : FR l_Sf_meet_49 w w5288 := (FR.refl _ w).tr hL5290 rfl
          have o5295 : 0 ≤ (((32 : Int32) + r5291) - ((32 : Int32) + r5291) / (44 : Int32) * (44 : Int32)).toInt ∧ (((32 : Int32) + r5291) - ((32 : Int32) + r5291) / (44 : Int32) * (44 : Int32)).toInt < 44 := by have := ti_add2 (by decide : ((32 : Int32)).toInt = 32) (Eq.refl r5291.toInt) (by omega) (by omega); have := nb_rem (x := ((32 : Int32) + r5291)) (by omega) (by decide : ((44 : Int32)).toInt = 44) (by decide); omega
          refine ⟨o5295, ?_⟩
          have o5296 : 0 ≤ x49_1.toInt ∧ x49_1.toInt < 15 := by omega
          refine ⟨o5296, ?_⟩
          have o5297 : 0 ≤ x49_1.toInt ∧ x49_1.toInt < 15 := by omega
          refine ⟨o5297, ?_⟩
          have o5298 : 0 ≤ x49_1.toInt ∧ x49_1.toInt < 15 := by omega
          refine ⟨o5298, ?_⟩
          have o5299 : (1 ≤ x49_1.toInt) ∧ (x49_1.toInt ≤ 14) ∧ (0 ≤ (x49_4 + (1 : Int32)).toInt) ∧ ((x49_4 + (1 : Int32)).toInt ≤ 44) := by have := (by decide : ((44 : Int32)).toInt = 44); have := nb_cmp x49_2 (0 : Int64); have := (by decide : ((0 : Int64)).toInt = 0); have := (by decide : ((0 : Int32)).toInt = 0); have := ti_lo (Int64.toInt32 x49_2); have := ti_hi (Int64.toInt32 x49_2); have := ti_add2 (Eq.refl x49_4.toInt) (by decide : ((1 : Int32)).toInt = 1) (by omega) (by omega); (try have := nb_l2i (x := x49_2) (by omega) (by omega)); exact ⟨by omega, by omega, by omega, by omega⟩
          exact ih _ _ (sJ w5288 45 x49_1.toInt.toNat ((w5288.2.1 45 x49_1.toInt.toNat) ||| ((w5288.2.1 46 ((((32 : Int32) + r5291) - ((32 : Int32) + r5291) / (44 : Int32) * (44 : Int32)).toInt.toNat)) &&& ((w5288.2.1 45 x49_1.toInt.toNat) ^^^ ((-1) : Int64))))) (bnd_J hI5289 (k := 45) (j := x49_1.toInt.toNat) (v := ((w5288.2.1 45 x49_1.toInt.toNat) ||| ((w5288.2.1 46 ((((32 : Int32) + r5291) - ((32 : Int32) + r5291) / (44 : Int32) * (44 : Int32)).toInt.toNat)) &&& ((w5288.2.1 45 x49_1.toInt.toNat) ^^^ ((-1) : Int64))))))  o5299.1 o5299.2.1 o5299.2.2.1 o5299.2.2.2 (by have := (by decide : ((44 : Int32)).toInt = 44); have := nb_cmp x49_2 (0 : Int64); have := (by decide : ((0 : Int64)).toInt = 0); have := (by decide : ((0 : Int32)).toInt = 0); have := ti_lo (Int64.toInt32 x49_2); have := ti_hi (Int64.toInt32 x49_2); have := ti_add2 (Eq.refl x49_4.toInt) (by decide : ((1 : Int32)).toInt = 1) (by omega) (by omega); (try have := nb_l2i (x := x49_2) (by omega) (by omega)); omega) (fun w9 hI9 hF9 => hE w9 hI9 ((FR.J hF5294 (k := 45) (j := x49_1.toInt.toNat) (v := ((w5288.2.1 45 x49_1.toInt.toNat) ||| ((w5288.2.1 46 ((((32 : Int32) + r5291) - ((32 : Int32) + r5291) / (44 : Int32) * (44 : Int32)).toInt.toNat)) &&& ((w5288.2.1 45 x49_1.toInt.toNat) ^^^ ((-1) : Int64))))) rfl).tr hF9 rfl) ) (fun r w9 hI9 hF9 q0 => q0.elim)
set_option maxRecDepth 20000 in
set_option maxHeartbeats 2000000 in
theorem hq_Sf_meet_116 {x116_1 : Int32} {E : MW → Prop} {Q : Int32 → MW → Prop} (n : Nat) : ∀ (x116_4 : Int32) (w : MW), BND w → 1 ≤ x116_1.toInt → x116_1.toInt ≤ 14 → 1 ≤ x116_4.toInt → x116_4.toInt ≤ 14 → (14 - x116_4.toInt).toNat < n → (∀ (w' : MW), BND w' → FR l_Sf_meet_116 w w' → E w') → (∀ (r : Int32) (w' : MW), BND w' → FR l_Sf_meet_116 w w' → False → Q r w') → q_Sf_meet_116 x116_1 E Q n x116_4 w := by
  induction n with
  | zero => intros; omega
  | succ n ih =>
    intro x116_4 w hI  hp0 hp1 hp2 hp3 hm hE hQ
    rw [q_Sf_meet_116.eq_2]
    refine ⟨fun h5300 => ?_, fun h5300 => ?_⟩
    · exact hE _ hI (FR.refl _ w)
    · have o5301 : 0 ≤ x116_1.toInt ∧ x116_1.toInt < 15 := by omega
      refine ⟨o5301, ?_⟩
      refine ⟨fun h5302 => ?_, fun h5302 => ?_⟩
      · refine Eq.mpr (q_Sf_meet_173.eq_1 _ _ _ _ _ _ _) ?_
        refine ⟨fun h5303 => ?_, fun h5303 => ?_⟩
        · replace h5303 : 44 < (w.1 42 7).toInt := h5303
          have hI5304 : BND (sI w 42 7 44) := wbd_42_7 hI
          have hI5305 : BND (sI (sI w 42 7 44) 42 8 x116_4) := wbd_42_8 hI5304
          have hI5306 : BND (sI (sI (sI w 42 7 44) 42 8 x116_4) 42 9 x116_1) := wbd_42_9 hI5305
          have o5307 : (1 ≤ x116_1.toInt) ∧ (x116_1.toInt ≤ 14) ∧ (1 ≤ (x116_4 + (1 : Int32)).toInt) ∧ ((x116_4 + (1 : Int32)).toInt ≤ 14) := by have := ti_lo (((w.1 44 x116_1.toInt.toNat) >>> (x116_4 &&& 31)) &&& (1 : Int32)); have := ti_hi (((w.1 44 x116_1.toInt.toNat) >>> (x116_4 &&& 31)) &&& (1 : Int32)); have := nb_and ((w.1 44 x116_1.toInt.toNat) >>> (x116_4 &&& 31)) (1 : Int32) 1 rfl (by decide); have := (by decide : ((0 : Int32)).toInt = 0); have := ti_add2 (Eq.refl x116_4.toInt) (by decide : ((1 : Int32)).toInt = 1) (by omega) (by omega); exact ⟨by omega, by omega, by omega, by omega⟩
          exact ih _ (sI (sI (sI w 42 7 44) 42 8 x116_4) 42 9 x116_1) hI5306  o5307.1 o5307.2.1 o5307.2.2.1 o5307.2.2.2 (by have := ti_lo (((w.1 44 x116_1.toInt.toNat) >>> (x116_4 &&& 31)) &&& (1 : Int32)); have := ti_hi (((w.1 44 x116_1.toInt.toNat) >>> (x116_4 &&& 31)) &&& (1 : Int32)); have := nb_and ((w.1 44 x116_1.toInt.toNat) >>> (x116_4 &&& 31)) (1 : Int32) 1 rfl (by decide); have := (by decide : ((0 : Int32)).toInt = 0); have := ti_add2 (Eq.refl x116_4.toInt) (by decide : ((1 : Int32)).toInt = 1) (by omega) (by omega); omega) (fun w9 hI9 hF9 => hE w9 hI9 ((FR.I (FR.I (FR.I (FR.refl _ w) (k := 42) (j := 7) (v := 44) rfl) (k := 42) (j := 8) (v := x116_4) rfl) (k := 42) (j := 9) (v := x116_1) rfl).tr hF9 rfl) ) (fun r w9 hI9 hF9 q0 => q0.elim)
        · replace h5303 : ¬ (44 < (w.1 42 7).toInt) := h5303
          refine ⟨fun h5308 => ?_, fun h5308 => ?_⟩
          · replace h5308 : ¬ 44 = (w.1 42 7).toInt := h5308
            have o5309 : (1 ≤ x116_1.toInt) ∧ (x116_1.toInt ≤ 14) ∧ (1 ≤ (x116_4 + (1 : Int32)).toInt) ∧ ((x116_4 + (1 : Int32)).toInt ≤ 14) := by have := ti_lo (((w.1 44 x116_1.toInt.toNat) >>> (x116_4 &&& 31)) &&& (1 : Int32)); have := ti_hi (((w.1 44 x116_1.toInt.toNat) >>> (x116_4 &&& 31)) &&& (1 : Int32)); have := nb_and ((w.1 44 x116_1.toInt.toNat) >>> (x116_4 &&& 31)) (1 : Int32) 1 rfl (by decide); have := (by decide : ((0 : Int32)).toInt = 0); have := ti_add2 (Eq.refl x116_4.toInt) (by decide : ((1 : Int32)).toInt = 1) (by omega) (by omega); exact ⟨by omega, by omega, by omega, by omega⟩
            exact ih _ w hI  o5309.1 o5309.2.1 o5309.2.2.1 o5309.2.2.2 (by have := ti_lo (((w.1 44 x116_1.toInt.toNat) >>> (x116_4 &&& 31)) &&& (1 : Int32)); have := ti_hi (((w.1 44 x116_1.toInt.toNat) >>> (x116_4 &&& 31)) &&& (1 : Int32)); have := nb_and ((w.1 44 x116_1.toInt.toNat) >>> (x116_4 &&& 31)) (1 : Int32) 1 rfl (by decide); have := (by decide : ((0 : Int32)).toInt = 0); have := ti_add2 (Eq.refl x116_4.toInt) (by decide : ((1 : Int32)).toInt = 1) (by omega) (by omega); omega) (fun w9 hI9 hF9 => hE w9 hI9 ((FR.refl _ w).tr hF9 rfl) ) (fun r w9 hI9 hF9 q0 => q0.elim)
          · replace h5308 : ¬ (¬ 44 = (w.1 42 7).toInt) := h5308
            refine ⟨fun _ => ?_, fun h => absurd (by decide) h⟩
            have o5310 : (1 ≤ x116_1.toInt) ∧ (x116_1.toInt ≤ 14) ∧ (1 ≤ (x116_4 + (1 : Int32)).toInt) ∧ ((x116_4 + (1 : Int32)).toInt ≤ 14) := by have := ti_lo (((w.1 44 x116_1.toInt.toNat) >>> (x116_4 &&& 31)) &&& (1 : Int32)); have := ti_hi (((w.1 44 x116_1.toInt.toNat) >>> (x116_4 &&& 31)) &&& (1 : Int32)); have := nb_and ((w.1 44 x116_1.toInt.toNat) >>> (x116_4 &&& 31)) (1 : Int32) 1 rfl (by decide); have := (by decide : ((0 : Int32)).toInt = 0); have := ti_add2 (Eq.refl x116_4.toInt) (by decide : ((1 : Int32)).toInt = 1) (by omega) (by omega); exact ⟨by omega, by omega, by omega, by omega⟩
            exact ih _ w hI  o5310.1 o5310.2.1 o5310.2.2.1 o5310.2.2.2 (by have := ti_lo (((w.1 44 x116_1.toInt.toNat) >>> (x116_4 &&& 31)) &&& (1 : Int32)); have := ti_hi (((w.1 44 x116_1.toInt.toNat) >>> (x116_4 &&& 31)) &&& (1 : Int32)); have := nb_and ((w.1 44 x116_1.toInt.toNat) >>> (x116_4 &&& 31)) (1 : Int32) 1 rfl (by decide); have := (by decide : ((0 : Int32)).toInt = 0); have := ti_add2 (Eq.refl x116_4.toInt) (by decide : ((1 : Int32)).toInt = 1) (by omega) (by omega); omega) (fun w9 hI9 hF9 => hE w9 hI9 ((FR.refl _ w).tr hF9 rfl) ) (fun r w9 hI9 hF9 q0 => q0.elim)
      · have o5311 : 0 ≤ x116_1.toInt ∧ x116_1.toInt < 15 := by have := ti_lo (((w.1 44 x116_1.toInt.toNat) >>> (x116_4 &&& 31)) &&& (1 : Int32)); have := ti_hi (((w.1 44 x116_1.toInt.toNat) >>> (x116_4 &&& 31)) &&& (1 : Int32)); have := nb_and ((w.1 44 x116_1.toInt.toNat) >>> (x116_4 &&& 31)) (1 : Int32) 1 rfl (by decide); have := (by decide : ((0 : Int32)).toInt = 0); omega
        refine ⟨o5311, ?_⟩
        have o5312 : 0 ≤ x116_4.toInt ∧ x116_4.toInt < 15 := by have := ti_lo (((w.1 44 x116_1.toInt.toNat) >>> (x116_4 &&& 31)) &&& (1 : Int32)); have := ti_hi (((w.1 44 x116_1.toInt.toNat) >>> (x116_4 &&& 31)) &&& (1 : Int32)); have := nb_and ((w.1 44 x116_1.toInt.toNat) >>> (x116_4 &&& 31)) (1 : Int32) 1 rfl (by decide); have := (by decide : ((0 : Int32)).toInt = 0); omega
        refine ⟨o5312, ?_⟩
        refine ⟨fun h5313 => ?_, fun h5313 => ?_⟩
        · refine Eq.mpr (p_Lo_numberOfTrailingZeros.eq_1 _ _ _) ?_
          refine ⟨fun h5314 => ?_, fun h5314 => ?_⟩
          · refine h_In_numberOfTrailingZeros hI   (fun r5318 w5315 hI5316 hL5317 p5319 p5320 => ?_)
            have hF5321 : FR l_Sf_meet_116 w w5315 := (FR.refl _ w).tr hL5317 rfl
            refine Eq.mpr (q_Sf_meet_173.eq_1 _ _ _ _ _ _ _) ?_
            refine ⟨fun h5322 => ?_, fun h5322 => ?_⟩
            · have hI5323 : BND (sI w5315 42 7 r5318) := wbd_42_7 hI5316
              have hI5324 : BND (sI (sI w5315 42 7 r5318) 42 8 x116_4) := wbd_42_8 hI5323
              have hI5325 : BND (sI (sI (sI w5315 42 7 r5318) 42 8 x116_4) 42 9 x116_1) := wbd_42_9 hI5324
              have o5326 : (1 ≤ x116_1.toInt) ∧ (x116_1.toInt ≤ 14) ∧ (1 ≤ (x116_4 + (1 : Int32)).toInt) ∧ ((x116_4 + (1 : Int32)).toInt ≤ 14) := by have := ti_lo (((w.1 44 x116_1.toInt.toNat) >>> (x116_4 &&& 31)) &&& (1 : Int32)); have := ti_hi (((w.1 44 x116_1.toInt.toNat) >>> (x116_4 &&& 31)) &&& (1 : Int32)); have := nb_and ((w.1 44 x116_1.toInt.toNat) >>> (x116_4 &&& 31)) (1 : Int32) 1 rfl (by decide); have := (by decide : ((0 : Int32)).toInt = 0); have := ti_add2 (Eq.refl x116_4.toInt) (by decide : ((1 : Int32)).toInt = 1) (by omega) (by omega); exact ⟨by omega, by omega, by omega, by omega⟩
              exact ih _ (sI (sI (sI w5315 42 7 r5318) 42 8 x116_4) 42 9 x116_1) hI5325  o5326.1 o5326.2.1 o5326.2.2.1 o5326.2.2.2 (by have := ti_lo (((w.1 44 x116_1.toInt.toNat) >>> (x116_4 &&& 31)) &&& (1 : Int32)); have := ti_hi (((w.1 44 x116_1.toInt.toNat) >>> (x116_4 &&& 31)) &&& (1 : Int32)); have := nb_and ((w.1 44 x116_1.toInt.toNat) >>> (x116_4 &&& 31)) (1 : Int32) 1 rfl (by decide); have := (by decide : ((0 : Int32)).toInt = 0); have := ti_add2 (Eq.refl x116_4.toInt) (by decide : ((1 : Int32)).toInt = 1) (by omega) (by omega); omega) (fun w9 hI9 hF9 => hE w9 hI9 ((FR.I (FR.I (FR.I hF5321 (k := 42) (j := 7) (v := r5318) rfl) (k := 42) (j := 8) (v := x116_4) rfl) (k := 42) (j := 9) (v := x116_1) rfl).tr hF9 rfl) ) (fun r w9 hI9 hF9 q0 => q0.elim)
            · refine ⟨fun h5327 => ?_, fun h5327 => ?_⟩
              · have o5328 : (1 ≤ x116_1.toInt) ∧ (x116_1.toInt ≤ 14) ∧ (1 ≤ (x116_4 + (1 : Int32)).toInt) ∧ ((x116_4 + (1 : Int32)).toInt ≤ 14) := by have := ti_lo (((w.1 44 x116_1.toInt.toNat) >>> (x116_4 &&& 31)) &&& (1 : Int32)); have := ti_hi (((w.1 44 x116_1.toInt.toNat) >>> (x116_4 &&& 31)) &&& (1 : Int32)); have := nb_and ((w.1 44 x116_1.toInt.toNat) >>> (x116_4 &&& 31)) (1 : Int32) 1 rfl (by decide); have := (by decide : ((0 : Int32)).toInt = 0); have := ti_add2 (Eq.refl x116_4.toInt) (by decide : ((1 : Int32)).toInt = 1) (by omega) (by omega); exact ⟨by omega, by omega, by omega, by omega⟩
                exact ih _ w5315 hI5316  o5328.1 o5328.2.1 o5328.2.2.1 o5328.2.2.2 (by have := ti_lo (((w.1 44 x116_1.toInt.toNat) >>> (x116_4 &&& 31)) &&& (1 : Int32)); have := ti_hi (((w.1 44 x116_1.toInt.toNat) >>> (x116_4 &&& 31)) &&& (1 : Int32)); have := nb_and ((w.1 44 x116_1.toInt.toNat) >>> (x116_4 &&& 31)) (1 : Int32) 1 rfl (by decide); have := (by decide : ((0 : Int32)).toInt = 0); have := ti_add2 (Eq.refl x116_4.toInt) (by decide : ((1 : Int32)).toInt = 1) (by omega) (by omega); omega) (fun w9 hI9 hF9 => hE w9 hI9 (hF5321.tr hF9 rfl) ) (fun r w9 hI9 hF9 q0 => q0.elim)
              · refine ⟨fun h5329 => ?_, fun h5329 => ?_⟩
                · exfalso; have := ti_lo (((w.1 44 x116_1.toInt.toNat) >>> (x116_4 &&& 31)) &&& (1 : Int32)); have := ti_hi (((w.1 44 x116_1.toInt.toNat) >>> (x116_4 &&& 31)) &&& (1 : Int32)); have := nb_and ((w.1 44 x116_1.toInt.toNat) >>> (x116_4 &&& 31)) (1 : Int32) 1 rfl (by decide); have := (by decide : ((0 : Int32)).toInt = 0); have := nb_cmp ((w.2.1 45 x116_1.toInt.toNat) &&& (w.2.1 45 x116_4.toInt.toNat)) (0 : Int64); have := (by decide : ((0 : Int64)).toInt = 0); have := ti_lo (Int64.toInt32 ((w.2.1 45 x116_1.toInt.toNat) &&& (w.2.1 45 x116_4.toInt.toNat))); have := ti_hi (Int64.toInt32 ((w.2.1 45 x116_1.toInt.toNat) &&& (w.2.1 45 x116_4.toInt.toNat))); have := (congrArg Int32.toInt (hL5317 42 7 rfl).1); have := (by decide : ((44 : Int32)).toInt = 44); omega
                · refine ⟨fun h5330 => ?_, fun h5330 => ?_⟩
                  · have o5331 : (1 ≤ x116_1.toInt) ∧ (x116_1.toInt ≤ 14) ∧ (1 ≤ (x116_4 + (1 : Int32)).toInt) ∧ ((x116_4 + (1 : Int32)).toInt ≤ 14) := by have := ti_lo (((w.1 44 x116_1.toInt.toNat) >>> (x116_4 &&& 31)) &&& (1 : Int32)); have := ti_hi (((w.1 44 x116_1.toInt.toNat) >>> (x116_4 &&& 31)) &&& (1 : Int32)); have := nb_and ((w.1 44 x116_1.toInt.toNat) >>> (x116_4 &&& 31)) (1 : Int32) 1 rfl (by decide); have := (by decide : ((0 : Int32)).toInt = 0); have := (congrArg Int32.toInt (hL5317 42 8 rfl).1); have := ti_add2 (Eq.refl x116_4.toInt) (by decide : ((1 : Int32)).toInt = 1) (by omega) (by omega); exact ⟨by omega, by omega, by omega, by omega⟩
                    exact ih _ w5315 hI5316  o5331.1 o5331.2.1 o5331.2.2.1 o5331.2.2.2 (by have := ti_lo (((w.1 44 x116_1.toInt.toNat) >>> (x116_4 &&& 31)) &&& (1 : Int32)); have := ti_hi (((w.1 44 x116_1.toInt.toNat) >>> (x116_4 &&& 31)) &&& (1 : Int32)); have := nb_and ((w.1 44 x116_1.toInt.toNat) >>> (x116_4 &&& 31)) (1 : Int32) 1 rfl (by decide); have := (by decide : ((0 : Int32)).toInt = 0); have := (congrArg Int32.toInt (hL5317 42 8 rfl).1); have := ti_add2 (Eq.refl x116_4.toInt) (by decide : ((1 : Int32)).toInt = 1) (by omega) (by omega); omega) (fun w9 hI9 hF9 => hE w9 hI9 (hF5321.tr hF9 rfl) ) (fun r w9 hI9 hF9 q0 => q0.elim)
                  · have hI5332 : BND (sI w5315 42 7 r5318) := wbd_42_7 hI5316
                    have hI5333 : BND (sI (sI w5315 42 7 r5318) 42 8 x116_4) := wbd_42_8 hI5332
                    have hI5334 : BND (sI (sI (sI w5315 42 7 r5318) 42 8 x116_4) 42 9 x116_1) := wbd_42_9 hI5333
                    have o5335 : (1 ≤ x116_1.toInt) ∧ (x116_1.toInt ≤ 14) ∧ (1 ≤ (x116_4 + (1 : Int32)).toInt) ∧ ((x116_4 + (1 : Int32)).toInt ≤ 14) := by have := ti_lo (((w.1 44 x116_1.toInt.toNat) >>> (x116_4 &&& 31)) &&& (1 : Int32)); have := ti_hi (((w.1 44 x116_1.toInt.toNat) >>> (x116_4 &&& 31)) &&& (1 : Int32)); have := nb_and ((w.1 44 x116_1.toInt.toNat) >>> (x116_4 &&& 31)) (1 : Int32) 1 rfl (by decide); have := (by decide : ((0 : Int32)).toInt = 0); have := (congrArg Int32.toInt (hL5317 42 8 rfl).1); have := ti_add2 (Eq.refl x116_4.toInt) (by decide : ((1 : Int32)).toInt = 1) (by omega) (by omega); exact ⟨by omega, by omega, by omega, by omega⟩
                    exact ih _ (sI (sI (sI w5315 42 7 r5318) 42 8 x116_4) 42 9 x116_1) hI5334  o5335.1 o5335.2.1 o5335.2.2.1 o5335.2.2.2 (by have := ti_lo (((w.1 44 x116_1.toInt.toNat) >>> (x116_4 &&& 31)) &&& (1 : Int32)); have := ti_hi (((w.1 44 x116_1.toInt.toNat) >>> (x116_4 &&& 31)) &&& (1 : Int32)); have := nb_and ((w.1 44 x116_1.toInt.toNat) >>> (x116_4 &&& 31)) (1 : Int32) 1 rfl (by decide); have := (by decide : ((0 : Int32)).toInt = 0); have := (congrArg Int32.toInt (hL5317 42 8 rfl).1); have := ti_add2 (Eq.refl x116_4.toInt) (by decide : ((1 : Int32)).toInt = 1) (by omega) (by omega); omega) (fun w9 hI9 hF9 => hE w9 hI9 ((FR.I (FR.I (FR.I hF5321 (k := 42) (j := 7) (v := r5318) rfl) (k := 42) (j := 8) (v := x116_4) rfl) (k := 42) (j := 9) (v := x116_1) rfl).tr hF9 rfl) ) (fun r w9 hI9 hF9 q0 => q0.elim)
          · refine h_In_numberOfTrailingZeros hI   (fun r5339 w5336 hI5337 hL5338 p5340 p5341 => ?_)
            have hF5342 : FR l_Sf_meet_116 w w5336 := (FR.refl _ w).tr hL5338 rfl
            refine Eq.mpr (q_Sf_meet_173.eq_1 _ _ _ _ _ _ _) ?_
            refine ⟨fun h5343 => ?_, fun h5343 => ?_⟩
            · have hI5344 : BND (sI w5336 42 7 ((32 : Int32) + r5339)) := wbd_42_7 hI5337
              have hI5345 : BND (sI (sI w5336 42 7 ((32 : Int32) + r5339)) 42 8 x116_4) := wbd_42_8 hI5344
              have hI5346 : BND (sI (sI (sI w5336 42 7 ((32 : Int32) + r5339)) 42 8 x116_4) 42 9 x116_1) := wbd_42_9 hI5345
              have o5347 : (1 ≤ x116_1.toInt) ∧ (x116_1.toInt ≤ 14) ∧ (1 ≤ (x116_4 + (1 : Int32)).toInt) ∧ ((x116_4 + (1 : Int32)).toInt ≤ 14) := by have := ti_lo (((w.1 44 x116_1.toInt.toNat) >>> (x116_4 &&& 31)) &&& (1 : Int32)); have := ti_hi (((w.1 44 x116_1.toInt.toNat) >>> (x116_4 &&& 31)) &&& (1 : Int32)); have := nb_and ((w.1 44 x116_1.toInt.toNat) >>> (x116_4 &&& 31)) (1 : Int32) 1 rfl (by decide); have := (by decide : ((0 : Int32)).toInt = 0); have := ti_add2 (Eq.refl x116_4.toInt) (by decide : ((1 : Int32)).toInt = 1) (by omega) (by omega); exact ⟨by omega, by omega, by omega, by omega⟩
              exact ih _ (sI (sI (sI w5336 42 7 ((32 : Int32) + r5339)) 42 8 x116_4) 42 9 x116_1) hI5346  o5347.1 o5347.2.1 o5347.2.2.1 o5347.2.2.2 (by have := ti_lo (((w.1 44 x116_1.toInt.toNat) >>> (x116_4 &&& 31)) &&& (1 : Int32)); have := ti_hi (((w.1 44 x116_1.toInt.toNat) >>> (x116_4 &&& 31)) &&& (1 : Int32)); have := nb_and ((w.1 44 x116_1.toInt.toNat) >>> (x116_4 &&& 31)) (1 : Int32) 1 rfl (by decide); have := (by decide : ((0 : Int32)).toInt = 0); have := ti_add2 (Eq.refl x116_4.toInt) (by decide : ((1 : Int32)).toInt = 1) (by omega) (by omega); omega) (fun w9 hI9 hF9 => hE w9 hI9 ((FR.I (FR.I (FR.I hF5342 (k := 42) (j := 7) (v := ((32 : Int32) + r5339)) rfl) (k := 42) (j := 8) (v := x116_4) rfl) (k := 42) (j := 9) (v := x116_1) rfl).tr hF9 rfl) ) (fun r w9 hI9 hF9 q0 => q0.elim)
            · refine ⟨fun h5348 => ?_, fun h5348 => ?_⟩
              · have o5349 : (1 ≤ x116_1.toInt) ∧ (x116_1.toInt ≤ 14) ∧ (1 ≤ (x116_4 + (1 : Int32)).toInt) ∧ ((x116_4 + (1 : Int32)).toInt ≤ 14) := by have := ti_lo (((w.1 44 x116_1.toInt.toNat) >>> (x116_4 &&& 31)) &&& (1 : Int32)); have := ti_hi (((w.1 44 x116_1.toInt.toNat) >>> (x116_4 &&& 31)) &&& (1 : Int32)); have := nb_and ((w.1 44 x116_1.toInt.toNat) >>> (x116_4 &&& 31)) (1 : Int32) 1 rfl (by decide); have := (by decide : ((0 : Int32)).toInt = 0); have := ti_add2 (Eq.refl x116_4.toInt) (by decide : ((1 : Int32)).toInt = 1) (by omega) (by omega); exact ⟨by omega, by omega, by omega, by omega⟩
                exact ih _ w5336 hI5337  o5349.1 o5349.2.1 o5349.2.2.1 o5349.2.2.2 (by have := ti_lo (((w.1 44 x116_1.toInt.toNat) >>> (x116_4 &&& 31)) &&& (1 : Int32)); have := ti_hi (((w.1 44 x116_1.toInt.toNat) >>> (x116_4 &&& 31)) &&& (1 : Int32)); have := nb_and ((w.1 44 x116_1.toInt.toNat) >>> (x116_4 &&& 31)) (1 : Int32) 1 rfl (by decide); have := (by decide : ((0 : Int32)).toInt = 0); have := ti_add2 (Eq.refl x116_4.toInt) (by decide : ((1 : Int32)).toInt = 1) (by omega) (by omega); omega) (fun w9 hI9 hF9 => hE w9 hI9 (hF5342.tr hF9 rfl) ) (fun r w9 hI9 hF9 q0 => q0.elim)
              · refine ⟨fun h5350 => ?_, fun h5350 => ?_⟩
                · have o5351 : (1 ≤ x116_1.toInt) ∧ (x116_1.toInt ≤ 14) ∧ (1 ≤ (x116_4 + (1 : Int32)).toInt) ∧ ((x116_4 + (1 : Int32)).toInt ≤ 14) := by have := ti_lo (((w.1 44 x116_1.toInt.toNat) >>> (x116_4 &&& 31)) &&& (1 : Int32)); have := ti_hi (((w.1 44 x116_1.toInt.toNat) >>> (x116_4 &&& 31)) &&& (1 : Int32)); have := nb_and ((w.1 44 x116_1.toInt.toNat) >>> (x116_4 &&& 31)) (1 : Int32) 1 rfl (by decide); have := (by decide : ((0 : Int32)).toInt = 0); have := ti_add2 (Eq.refl x116_4.toInt) (by decide : ((1 : Int32)).toInt = 1) (by omega) (by omega); exact ⟨by omega, by omega, by omega, by omega⟩
                  exact ih _ w5336 hI5337  o5351.1 o5351.2.1 o5351.2.2.1 o5351.2.2.2 (by have := ti_lo (((w.1 44 x116_1.toInt.toNat) >>> (x116_4 &&& 31)) &&& (1 : Int32)); have := ti_hi (((w.1 44 x116_1.toInt.toNat) >>> (x116_4 &&& 31)) &&& (1 : Int32)); have := nb_and ((w.1 44 x116_1.toInt.toNat) >>> (x116_4 &&& 31)) (1 : Int32) 1 rfl (by decide); have := (by decide : ((0 : Int32)).toInt = 0); have := ti_add2 (Eq.refl x116_4.toInt) (by decide : ((1 : Int32)).toInt = 1) (by omega) (by omega); omega) (fun w9 hI9 hF9 => hE w9 hI9 (hF5342.tr hF9 rfl) ) (fun r w9 hI9 hF9 q0 => q0.elim)
                · refine ⟨fun h5352 => ?_, fun h5352 => ?_⟩
                  · have o5353 : (1 ≤ x116_1.toInt) ∧ (x116_1.toInt ≤ 14) ∧ (1 ≤ (x116_4 + (1 : Int32)).toInt) ∧ ((x116_4 + (1 : Int32)).toInt ≤ 14) := by have := ti_lo (((w.1 44 x116_1.toInt.toNat) >>> (x116_4 &&& 31)) &&& (1 : Int32)); have := ti_hi (((w.1 44 x116_1.toInt.toNat) >>> (x116_4 &&& 31)) &&& (1 : Int32)); have := nb_and ((w.1 44 x116_1.toInt.toNat) >>> (x116_4 &&& 31)) (1 : Int32) 1 rfl (by decide); have := (by decide : ((0 : Int32)).toInt = 0); have := (congrArg Int32.toInt (hL5338 42 8 rfl).1); have := ti_add2 (Eq.refl x116_4.toInt) (by decide : ((1 : Int32)).toInt = 1) (by omega) (by omega); exact ⟨by omega, by omega, by omega, by omega⟩
                    exact ih _ w5336 hI5337  o5353.1 o5353.2.1 o5353.2.2.1 o5353.2.2.2 (by have := ti_lo (((w.1 44 x116_1.toInt.toNat) >>> (x116_4 &&& 31)) &&& (1 : Int32)); have := ti_hi (((w.1 44 x116_1.toInt.toNat) >>> (x116_4 &&& 31)) &&& (1 : Int32)); have := nb_and ((w.1 44 x116_1.toInt.toNat) >>> (x116_4 &&& 31)) (1 : Int32) 1 rfl (by decide); have := (by decide : ((0 : Int32)).toInt = 0); have := (congrArg Int32.toInt (hL5338 42 8 rfl).1); have := ti_add2 (Eq.refl x116_4.toInt) (by decide : ((1 : Int32)).toInt = 1) (by omega) (by omega); omega) (fun w9 hI9 hF9 => hE w9 hI9 (hF5342.tr hF9 rfl) ) (fun r w9 hI9 hF9 q0 => q0.elim)
                  · have hI5354 : BND (sI w5336 42 7 ((32 : Int32) + r5339)) := wbd_42_7 hI5337
                    have hI5355 : BND (sI (sI w5336 42 7 ((32 : Int32) + r5339)) 42 8 x116_4) := wbd_42_8 hI5354
                    have hI5356 : BND (sI (sI (sI w5336 42 7 ((32 : Int32) + r5339)) 42 8 x116_4) 42 9 x116_1) := wbd_42_9 hI5355
                    have o5357 : (1 ≤ x116_1.toInt) ∧ (x116_1.toInt ≤ 14) ∧ (1 ≤ (x116_4 + (1 : Int32)).toInt) ∧ ((x116_4 + (1 : Int32)).toInt ≤ 14) := by have := ti_lo (((w.1 44 x116_1.toInt.toNat) >>> (x116_4 &&& 31)) &&& (1 : Int32)); have := ti_hi (((w.1 44 x116_1.toInt.toNat) >>> (x116_4 &&& 31)) &&& (1 : Int32)); have := nb_and ((w.1 44 x116_1.toInt.toNat) >>> (x116_4 &&& 31)) (1 : Int32) 1 rfl (by decide); have := (by decide : ((0 : Int32)).toInt = 0); have := (congrArg Int32.toInt (hL5338 42 8 rfl).1); have := ti_add2 (Eq.refl x116_4.toInt) (by decide : ((1 : Int32)).toInt = 1) (by omega) (by omega); exact ⟨by omega, by omega, by omega, by omega⟩
                    exact ih _ (sI (sI (sI w5336 42 7 ((32 : Int32) + r5339)) 42 8 x116_4) 42 9 x116_1) hI5356  o5357.1 o5357.2.1 o5357.2.2.1 o5357.2.2.2 (by have := ti_lo (((w.1 44 x116_1.toInt.toNat) >>> (x116_4 &&& 31)) &&& (1 : Int32)); have := ti_hi (((w.1 44 x116_1.toInt.toNat) >>> (x116_4 &&& 31)) &&& (1 : Int32)); have := nb_and ((w.1 44 x116_1.toInt.toNat) >>> (x116_4 &&& 31)) (1 : Int32) 1 rfl (by decide); have := (by decide : ((0 : Int32)).toInt = 0); have := (congrArg Int32.toInt (hL5338 42 8 rfl).1); have := ti_add2 (Eq.refl x116_4.toInt) (by decide : ((1 : Int32)).toInt = 1) (by omega) (by omega); omega) (fun w9 hI9 hF9 => hE w9 hI9 ((FR.I (FR.I (FR.I hF5342 (k := 42) (j := 7) (v := ((32 : Int32) + r5339)) rfl) (k := 42) (j := 8) (v := x116_4) rfl) (k := 42) (j := 9) (v := x116_1) rfl).tr hF9 rfl) ) (fun r w9 hI9 hF9 q0 => q0.elim)
        · refine Eq.mpr (q_Sf_meet_173.eq_1 _ _ _ _ _ _ _) ?_
          refine ⟨fun h5358 => ?_, fun h5358 => ?_⟩
          · replace h5358 : 44 < (w.1 42 7).toInt := h5358
            have hI5359 : BND (sI w 42 7 44) := wbd_42_7 hI
            have hI5360 : BND (sI (sI w 42 7 44) 42 8 x116_4) := wbd_42_8 hI5359
            have hI5361 : BND (sI (sI (sI w 42 7 44) 42 8 x116_4) 42 9 x116_1) := wbd_42_9 hI5360
            have o5362 : (1 ≤ x116_1.toInt) ∧ (x116_1.toInt ≤ 14) ∧ (1 ≤ (x116_4 + (1 : Int32)).toInt) ∧ ((x116_4 + (1 : Int32)).toInt ≤ 14) := by have := ti_lo (((w.1 44 x116_1.toInt.toNat) >>> (x116_4 &&& 31)) &&& (1 : Int32)); have := ti_hi (((w.1 44 x116_1.toInt.toNat) >>> (x116_4 &&& 31)) &&& (1 : Int32)); have := nb_and ((w.1 44 x116_1.toInt.toNat) >>> (x116_4 &&& 31)) (1 : Int32) 1 rfl (by decide); have := (by decide : ((0 : Int32)).toInt = 0); have := ti_add2 (Eq.refl x116_4.toInt) (by decide : ((1 : Int32)).toInt = 1) (by omega) (by omega); exact ⟨by omega, by omega, by omega, by omega⟩
            exact ih _ (sI (sI (sI w 42 7 44) 42 8 x116_4) 42 9 x116_1) hI5361  o5362.1 o5362.2.1 o5362.2.2.1 o5362.2.2.2 (by have := ti_lo (((w.1 44 x116_1.toInt.toNat) >>> (x116_4 &&& 31)) &&& (1 : Int32)); have := ti_hi (((w.1 44 x116_1.toInt.toNat) >>> (x116_4 &&& 31)) &&& (1 : Int32)); have := nb_and ((w.1 44 x116_1.toInt.toNat) >>> (x116_4 &&& 31)) (1 : Int32) 1 rfl (by decide); have := (by decide : ((0 : Int32)).toInt = 0); have := ti_add2 (Eq.refl x116_4.toInt) (by decide : ((1 : Int32)).toInt = 1) (by omega) (by omega); omega) (fun w9 hI9 hF9 => hE w9 hI9 ((FR.I (FR.I (FR.I (FR.refl _ w) (k := 42) (j := 7) (v := 44) rfl) (k := 42) (j := 8) (v := x116_4) rfl) (k := 42) (j := 9) (v := x116_1) rfl).tr hF9 rfl) ) (fun r w9 hI9 hF9 q0 => q0.elim)
          · replace h5358 : ¬ (44 < (w.1 42 7).toInt) := h5358
            refine ⟨fun h5363 => ?_, fun h5363 => ?_⟩
            · replace h5363 : ¬ 44 = (w.1 42 7).toInt := h5363
              have o5364 : (1 ≤ x116_1.toInt) ∧ (x116_1.toInt ≤ 14) ∧ (1 ≤ (x116_4 + (1 : Int32)).toInt) ∧ ((x116_4 + (1 : Int32)).toInt ≤ 14) := by have := ti_lo (((w.1 44 x116_1.toInt.toNat) >>> (x116_4 &&& 31)) &&& (1 : Int32)); have := ti_hi (((w.1 44 x116_1.toInt.toNat) >>> (x116_4 &&& 31)) &&& (1 : Int32)); have := nb_and ((w.1 44 x116_1.toInt.toNat) >>> (x116_4 &&& 31)) (1 : Int32) 1 rfl (by decide); have := (by decide : ((0 : Int32)).toInt = 0); have := ti_add2 (Eq.refl x116_4.toInt) (by decide : ((1 : Int32)).toInt = 1) (by omega) (by omega); exact ⟨by omega, by omega, by omega, by omega⟩
              exact ih _ w hI  o5364.1 o5364.2.1 o5364.2.2.1 o5364.2.2.2 (by have := ti_lo (((w.1 44 x116_1.toInt.toNat) >>> (x116_4 &&& 31)) &&& (1 : Int32)); have := ti_hi (((w.1 44 x116_1.toInt.toNat) >>> (x116_4 &&& 31)) &&& (1 : Int32)); have := nb_and ((w.1 44 x116_1.toInt.toNat) >>> (x116_4 &&& 31)) (1 : Int32) 1 rfl (by decide); have := (by decide : ((0 : Int32)).toInt = 0); have := ti_add2 (Eq.refl x116_4.toInt) (by decide : ((1 : Int32)).toInt = 1) (by omega) (by omega); omega) (fun w9 hI9 hF9 => hE w9 hI9 ((FR.refl _ w).tr hF9 rfl) ) (fun r w9 hI9 hF9 q0 => q0.elim)
            · replace h5363 : ¬ (¬ 44 = (w.1 42 7).toInt) := h5363
              refine ⟨fun _ => ?_, fun h => absurd (by decide) h⟩
              have o5365 : (1 ≤ x116_1.toInt) ∧ (x116_1.toInt ≤ 14) ∧ (1 ≤ (x116_4 + (1 : Int32)).toInt) ∧ ((x116_4 + (1 : Int32)).toInt ≤ 14) := by have := ti_lo (((w.1 44 x116_1.toInt.toNat) >>> (x116_4 &&& 31)) &&& (1 : Int32)); have := ti_hi (((w.1 44 x116_1.toInt.toNat) >>> (x116_4 &&& 31)) &&& (1 : Int32)); have := nb_and ((w.1 44 x116_1.toInt.toNat) >>> (x116_4 &&& 31)) (1 : Int32) 1 rfl (by decide); have := (by decide : ((0 : Int32)).toInt = 0); have := ti_add2 (Eq.refl x116_4.toInt) (by decide : ((1 : Int32)).toInt = 1) (by omega) (by omega); exact ⟨by omega, by omega, by omega, by omega⟩
              exact ih _ w hI  o5365.1 o5365.2.1 o5365.2.2.1 o5365.2.2.2 (by have := ti_lo (((w.1 44 x116_1.toInt.toNat) >>> (x116_4 &&& 31)) &&& (1 : Int32)); have := ti_hi (((w.1 44 x116_1.toInt.toNat) >>> (x116_4 &&& 31)) &&& (1 : Int32)); have := nb_and ((w.1 44 x116_1.toInt.toNat) >>> (x116_4 &&& 31)) (1 : Int32) 1 rfl (by decide); have := (by decide : ((0 : Int32)).toInt = 0); have := ti_add2 (Eq.refl x116_4.toInt) (by decide : ((1 : Int32)).toInt = 1) (by omega) (by omega); omega) (fun w9 hI9 hF9 => hE w9 hI9 ((FR.refl _ w).tr hF9 rfl) ) (fun r w9 hI9 hF9 q0 => q0.elim)
set_option maxRecDepth 20000 in
set_option maxHeartbeats 2000000 in
theorem hq_Sf_meet_8 {E : MW → Prop} {Q : Int32 → MW → Prop} (n : Nat) : ∀ (x8_1 : Int32) (w : MW), BND w → 1 ≤ x8_1.toInt → x8_1.toInt ≤ 15 → (15 - x8_1.toInt).toNat < n → (∀ (w' : MW), BND w' → FR l_Sf_meet_8 w w' → E w') → (∀ (r : Int32) (w' : MW), BND w' → FR l_Sf_meet_8 w w' → False → Q r w') → q_Sf_meet_8 E Q n x8_1 w := by
  induction n with
  | zero => intros; omega
  | succ n ih =>
    intro x8_1 w hI  hp0 hp1 hm hE hQ
    rw [q_Sf_meet_8.eq_2]
    refine ⟨fun h5366 => ?_, fun h5366 => ?_⟩
    · exact hE _ hI (FR.refl _ w)
    · have o5367 : 0 ≤ x8_1.toInt ∧ x8_1.toInt < 15 := by have := (by decide : ((14 : Int32)).toInt = 14); omega
      refine ⟨o5367, ?_⟩
      have o5368 : 0 ≤ x8_1.toInt ∧ x8_1.toInt < 15 := by have := (by decide : ((14 : Int32)).toInt = 14); omega
      refine ⟨o5368, ?_⟩
      have o5369 : 0 ≤ x8_1.toInt ∧ x8_1.toInt < 15 := by have := (by decide : ((14 : Int32)).toInt = 14); omega
      refine ⟨o5369, ?_⟩
      refine ⟨fun h5370 => ?_, fun h5370 => ?_⟩
      · have o5371 : 0 ≤ x8_1.toInt ∧ x8_1.toInt < 15 := by have := (by decide : ((14 : Int32)).toInt = 14); omega
        refine ⟨o5371, ?_⟩
        have o5372 : (1 ≤ x8_1.toInt) ∧ (x8_1.toInt ≤ 14) ∧ (0 ≤ (0 : Int32).toInt) ∧ ((0 : Int32).toInt ≤ 44) := by have := (by decide : ((0 : Int32)).toInt = 0); have := (by decide : ((14 : Int32)).toInt = 14); exact ⟨by omega, by omega, by omega, by omega⟩
        refine hq_Sf_meet_49 FU _ _ (sJ w 45 x8_1.toInt.toNat (w.2.1 43 x8_1.toInt.toNat)) (bnd_J hI (k := 45) (j := x8_1.toInt.toNat) (v := (w.2.1 43 x8_1.toInt.toNat)))  o5372.1 o5372.2.1 o5372.2.2.1 o5372.2.2.2 (fu_lt (by have := (by decide : ((0 : Int32)).toInt = 0); have := (by decide : ((14 : Int32)).toInt = 14); omega)) (fun w5373 hI5374 hL5375  => ?_) (fun r w9 hI9 hF9 q0 => q0.elim)
        have hF5376 : FR l_Sf_meet_8 w w5373 := (FR.J (FR.refl _ w) (k := 45) (j := x8_1.toInt.toNat) (v := (w.2.1 43 x8_1.toInt.toNat)) rfl).tr hL5375 rfl
        have o5377 : (1 ≤ x8_1.toInt) ∧ (x8_1.toInt ≤ 14) ∧ (1 ≤ (1 : Int32).toInt) ∧ ((1 : Int32).toInt ≤ 14) := by have := (by decide : ((1 : Int32)).toInt = 1); have := (by decide : ((14 : Int32)).toInt = 14); exact ⟨by omega, by omega, by omega, by omega⟩
        refine hq_Sf_meet_116 FU _ w5373 hI5374  o5377.1 o5377.2.1 o5377.2.2.1 o5377.2.2.2 (fu_lt (by have := (by decide : ((1 : Int32)).toInt = 1); have := (by decide : ((14 : Int32)).toInt = 14); omega)) (fun w5378 hI5379 hL5380  => ?_) (fun r w9 hI9 hF9 q0 => q0.elim)
        have hF5381 : FR l_Sf_meet_8 w w5378 := hF5376.tr hL5380 rfl
        have o5382 : (1 ≤ (x8_1 + (1 : Int32)).toInt) ∧ ((x8_1 + (1 : Int32)).toInt ≤ 15) := by have := (by decide : ((14 : Int32)).toInt = 14); have := ti_add2 (Eq.refl x8_1.toInt) (by decide : ((1 : Int32)).toInt = 1) (by omega) (by omega); exact ⟨by omega, by omega⟩
        exact ih _ w5378 hI5379  o5382.1 o5382.2 (by have := (by decide : ((14 : Int32)).toInt = 14); have := ti_add2 (Eq.refl x8_1.toInt) (by decide : ((1 : Int32)).toInt = 1) (by omega) (by omega); omega) (fun w9 hI9 hF9 => hE w9 hI9 (hF5381.tr hF9 rfl) ) (fun r w9 hI9 hF9 q0 => q0.elim)
      · have o5383 : (1 ≤ x8_1.toInt) ∧ (x8_1.toInt ≤ 14) ∧ (0 ≤ (0 : Int32).toInt) ∧ ((0 : Int32).toInt ≤ 44) := by have := (by decide : ((0 : Int64)).toInt = 0); have := (by decide : ((0 : Int32)).toInt = 0); have := (by decide : ((14 : Int32)).toInt = 14); exact ⟨by omega, by omega, by omega, by omega⟩
        refine hq_Sf_meet_49 FU _ _ (sJ w 45 x8_1.toInt.toNat (w.2.1 43 x8_1.toInt.toNat)) (bnd_J hI (k := 45) (j := x8_1.toInt.toNat) (v := (w.2.1 43 x8_1.toInt.toNat)))  o5383.1 o5383.2.1 o5383.2.2.1 o5383.2.2.2 (fu_lt (by have := (by decide : ((0 : Int64)).toInt = 0); have := (by decide : ((0 : Int32)).toInt = 0); have := (by decide : ((14 : Int32)).toInt = 14); omega)) (fun w5384 hI5385 hL5386  => ?_) (fun r w9 hI9 hF9 q0 => q0.elim)
        have hF5387 : FR l_Sf_meet_8 w w5384 := (FR.J (FR.refl _ w) (k := 45) (j := x8_1.toInt.toNat) (v := (w.2.1 43 x8_1.toInt.toNat)) rfl).tr hL5386 rfl
        have o5388 : (1 ≤ x8_1.toInt) ∧ (x8_1.toInt ≤ 14) ∧ (1 ≤ (1 : Int32).toInt) ∧ ((1 : Int32).toInt ≤ 14) := by have := (by decide : ((1 : Int32)).toInt = 1); have := (by decide : ((14 : Int32)).toInt = 14); exact ⟨by omega, by omega, by omega, by omega⟩
        refine hq_Sf_meet_116 FU _ w5384 hI5385  o5388.1 o5388.2.1 o5388.2.2.1 o5388.2.2.2 (fu_lt (by have := (by decide : ((1 : Int32)).toInt = 1); have := (by decide : ((14 : Int32)).toInt = 14); omega)) (fun w5389 hI5390 hL5391  => ?_) (fun r w9 hI9 hF9 q0 => q0.elim)
        have hF5392 : FR l_Sf_meet_8 w w5389 := hF5387.tr hL5391 rfl
        have o5393 : (1 ≤ (x8_1 + (1 : Int32)).toInt) ∧ ((x8_1 + (1 : Int32)).toInt ≤ 15) := by have := (by decide : ((14 : Int32)).toInt = 14); have := ti_add2 (Eq.refl x8_1.toInt) (by decide : ((1 : Int32)).toInt = 1) (by omega) (by omega); exact ⟨by omega, by omega⟩
        exact ih _ w5389 hI5390  o5393.1 o5393.2 (by have := (by decide : ((14 : Int32)).toInt = 14); have := ti_add2 (Eq.refl x8_1.toInt) (by decide : ((1 : Int32)).toInt = 1) (by omega) (by omega); omega) (fun w9 hI9 hF9 => hE w9 hI9 (hF5392.tr hF9 rfl) ) (fun r w9 hI9 hF9 q0 => q0.elim)
set_option maxRecDepth 20000 in
set_option maxHeartbeats 2000000 in
theorem h_Sf_meet {w : MW} {Q : Int32 → MW → Prop} (hI : BND w)  (hQ : ∀ (r : Int32) (w' : MW), BND w' → FR l_Sf_meet w w' → 0 ≤ r.toInt → r.toInt ≤ 1 → Q r w') : p_Sf_meet w Q := by
  refine Eq.mpr (p_Sf_meet.eq_1 _ _) ?_
  have hI5394 : BND (sI w 42 7 44) := wbd_42_7 hI
  have o5395 : (1 ≤ (1 : Int32).toInt) ∧ ((1 : Int32).toInt ≤ 15) := by have := (by decide : ((1 : Int32)).toInt = 1); exact ⟨by omega, by omega⟩
  refine hq_Sf_meet_8 FU _ (sI w 42 7 44) hI5394  o5395.1 o5395.2 (fu_lt (by have := (by decide : ((1 : Int32)).toInt = 1); omega)) (fun w5396 hI5397 hL5398  => ?_) (fun r w9 hI9 hF9 q0 => q0.elim)
  have hF5399 : FR l_Sf_meet w w5396 := (FR.I (FR.refl _ w) (k := 42) (j := 7) (v := 44) rfl).tr hL5398 rfl
  refine ⟨fun h5400 => ?_, fun h5400 => ?_⟩
  · have o5401 : (0 ≤ (0 : Int32).toInt) ∧ ((0 : Int32).toInt ≤ 1) := by have := (by decide : ((0 : Int32)).toInt = 0); exact ⟨by omega, by omega⟩
    exact hQ _ _ hI5397 hF5399  o5401.1 o5401.2
  · have o5402 : (0 ≤ (1 : Int32).toInt) ∧ ((1 : Int32).toInt ≤ 1) := by have := (by decide : ((1 : Int32)).toInt = 1); exact ⟨by omega, by omega⟩
    exact hQ _ _ hI5397 hF5399  o5402.1 o5402.2
def l_Sf_otherPasses_31 : Pl := []
def l_Sf_otherPasses : Pl := []
set_option maxRecDepth 20000 in
set_option maxHeartbeats 2000000 in
theorem h_Sf_otherPasses {w : MW} {a0 : Int32} {b0 : Int32} {Q : Int32 → MW → Prop} (hI : BND w) (hr_7_0 : w.2.2 7 0 = some 8) (hp0 : 0 ≤ a0.toInt) (hp1 : a0.toInt ≤ 19) (hp2 : 0 ≤ b0.toInt) (hp3 : b0.toInt ≤ 9) (hQ : ∀ (r : Int32) (w' : MW), BND w' → FR l_Sf_otherPasses w w' → 0 ≤ r.toInt → r.toInt ≤ 31710 → Q r w') : p_Sf_otherPasses w a0 b0 Q := by
  refine Eq.mpr (p_Sf_otherPasses.eq_1 _ _ _ _) ?_
  refine ⟨hr_7_0, ?_⟩
  have o5403 : 0 ≤ a0.toInt ∧ a0.toInt < 20 := by omega
  refine ⟨o5403, ?_⟩
  refine ⟨fun h5404 => ?_, fun h5404 => ?_⟩
  · have o5405 : (0 ≤ (0 : Int32).toInt) ∧ ((0 : Int32).toInt ≤ 31710) := by have := (by decide : ((0 : Int32)).toInt = 0); exact ⟨by omega, by omega⟩
    exact hQ _ _ hI (FR.refl _ w)  o5405.1 o5405.2
  · refine ⟨fun h5406 => ?_, fun h5406 => ?_⟩
    · refine Eq.mpr (q_Sf_otherPasses_31.eq_1 _ _ _ _ _) ?_
      have o5407 : 0 ≤ a0.toInt ∧ a0.toInt < 20 := by omega
      refine ⟨o5407, ?_⟩
      have o5408 : 0 ≤ (((w.1 9 a0.toInt.toNat) * (10 : Int32)) + (w.1 16 a0.toInt.toNat)).toInt ∧ (((w.1 9 a0.toInt.toNat) * (10 : Int32)) + (w.1 16 a0.toInt.toNat)).toInt < 100 := by have := bd_9 hI a0.toInt.toNat; have := bd_16 hI a0.toInt.toNat; have := (by decide : ((8 : Int32)).toInt = 8); have := (by decide : ((4 : Int32)).toInt = 4); have := ti_mul2 (Eq.refl (w.1 9 a0.toInt.toNat).toInt) (by decide : ((10 : Int32)).toInt = 10) (by omega) (by omega); have := ti_add2 (Eq.refl ((w.1 9 a0.toInt.toNat) * (10 : Int32)).toInt) (Eq.refl (w.1 16 a0.toInt.toNat).toInt) (by omega) (by omega); omega
      refine ⟨o5408, ?_⟩
      have o5409 : 0 ≤ (((w.1 9 a0.toInt.toNat) * (10 : Int32)) + b0).toInt ∧ (((w.1 9 a0.toInt.toNat) * (10 : Int32)) + b0).toInt < 100 := by have := bd_9 hI a0.toInt.toNat; have := (by decide : ((8 : Int32)).toInt = 8); have := (by decide : ((4 : Int32)).toInt = 4); have := ti_mul2 (Eq.refl (w.1 9 a0.toInt.toNat).toInt) (by decide : ((10 : Int32)).toInt = 10) (by omega) (by omega); have := ti_add2 (Eq.refl ((w.1 9 a0.toInt.toNat) * (10 : Int32)).toInt) (Eq.refl b0.toInt) (by omega) (by omega); omega
      refine ⟨o5409, ?_⟩
      refine ⟨hr_7_0, ?_⟩
      have o5410 : 0 ≤ a0.toInt ∧ a0.toInt < 20 := by omega
      refine ⟨o5410, ?_⟩
      refine Eq.mpr (p_Ma_min.eq_1 _ _ _ _) ?_
      refine ⟨fun h5411 => ?_, fun h5411 => ?_⟩
      · replace h5411 : 4 < (w.1 11 a0.toInt.toNat).toInt := h5411
        refine ⟨by decide, ?_⟩
        refine ⟨fun h5412 => ?_, fun h5412 => ?_⟩
        · have o5413 : (0 ≤ (0 : Int32).toInt) ∧ ((0 : Int32).toInt ≤ 31710) := by have := (by decide : ((0 : Int32)).toInt = 0); exact ⟨by omega, by omega⟩
          exact hQ _ _ hI (FR.refl _ w)  o5413.1 o5413.2
        · have o5414 : (0 ≤ ((stT 1001).getD ((((w.1 9 a0.toInt.toNat) * (10 : Int32)) + b0).toInt.toNat) 0).toInt) ∧ (((stT 1001).getD ((((w.1 9 a0.toInt.toNat) * (10 : Int32)) + b0).toInt.toNat) 0).toInt ≤ 31710) := by have := bd_9 hI a0.toInt.toNat; have := (by decide : ((8 : Int32)).toInt = 8); have := (by decide : ((4 : Int32)).toInt = 4); have := ti_lo ((((stT 1001).getD ((((w.1 9 a0.toInt.toNat) * (10 : Int32)) + b0).toInt.toNat) 0) &&& (((stT 1001).getD ((((w.1 9 a0.toInt.toNat) * (10 : Int32)) + (w.1 16 a0.toInt.toNat)).toInt.toNat) 0) ^^^ ((-1) : Int32))) &&& ((stT 1002).getD ((4 : Int32).toInt.toNat) 0)); have := ti_hi ((((stT 1001).getD ((((w.1 9 a0.toInt.toNat) * (10 : Int32)) + b0).toInt.toNat) 0) &&& (((stT 1001).getD ((((w.1 9 a0.toInt.toNat) * (10 : Int32)) + (w.1 16 a0.toInt.toNat)).toInt.toNat) 0) ^^^ ((-1) : Int32))) &&& ((stT 1002).getD ((4 : Int32).toInt.toNat) 0)); have := ti_lo (((stT 1001).getD ((((w.1 9 a0.toInt.toNat) * (10 : Int32)) + b0).toInt.toNat) 0) &&& (((stT 1001).getD ((((w.1 9 a0.toInt.toNat) * (10 : Int32)) + (w.1 16 a0.toInt.toNat)).toInt.toNat) 0) ^^^ ((-1) : Int32))); have := ti_hi (((stT 1001).getD ((((w.1 9 a0.toInt.toNat) * (10 : Int32)) + b0).toInt.toNat) 0) &&& (((stT 1001).getD ((((w.1 9 a0.toInt.toNat) * (10 : Int32)) + (w.1 16 a0.toInt.toNat)).toInt.toNat) 0) ^^^ ((-1) : Int32))); have := ti_lo (((stT 1001).getD ((((w.1 9 a0.toInt.toNat) * (10 : Int32)) + (w.1 16 a0.toInt.toNat)).toInt.toNat) 0) ^^^ ((-1) : Int32)); have := ti_hi (((stT 1001).getD ((((w.1 9 a0.toInt.toNat) * (10 : Int32)) + (w.1 16 a0.toInt.toNat)).toInt.toNat) 0) ^^^ ((-1) : Int32)); have := bd_16 hI a0.toInt.toNat; have := (by decide : ((0 : Int32)).toInt = 0); have := ti_mul2 (Eq.refl (w.1 9 a0.toInt.toNat).toInt) (by decide : ((10 : Int32)).toInt = 10) (by omega) (by omega); have := ti_add2 (Eq.refl ((w.1 9 a0.toInt.toNat) * (10 : Int32)).toInt) (Eq.refl b0.toInt) (by omega) (by omega); have := st_1001 (((w.1 9 a0.toInt.toNat) * (10 : Int32)) + b0) (by omega); have := ti_add2 (Eq.refl ((w.1 9 a0.toInt.toNat) * (10 : Int32)).toInt) (Eq.refl (w.1 16 a0.toInt.toNat).toInt) (by omega) (by omega); have := st_1001 (((w.1 9 a0.toInt.toNat) * (10 : Int32)) + (w.1 16 a0.toInt.toNat)) (by omega); have := st_1002 (4 : Int32) (by omega); exact ⟨by omega, by omega⟩
          exact hQ _ _ hI (FR.refl _ w)  o5414.1 o5414.2
      · replace h5411 : ¬ (4 < (w.1 11 a0.toInt.toNat).toInt) := h5411
        have o5415 : 0 ≤ (w.1 11 a0.toInt.toNat).toInt ∧ (w.1 11 a0.toInt.toNat).toInt < 5 := by have := bd_11 hI a0.toInt.toNat; have := (by decide : ((4 : Int32)).toInt = 4); omega
        refine ⟨o5415, ?_⟩
        refine ⟨fun h5416 => ?_, fun h5416 => ?_⟩
        · have o5417 : (0 ≤ (0 : Int32).toInt) ∧ ((0 : Int32).toInt ≤ 31710) := by have := (by decide : ((0 : Int32)).toInt = 0); exact ⟨by omega, by omega⟩
          exact hQ _ _ hI (FR.refl _ w)  o5417.1 o5417.2
        · have o5418 : (0 ≤ ((stT 1001).getD ((((w.1 9 a0.toInt.toNat) * (10 : Int32)) + b0).toInt.toNat) 0).toInt) ∧ (((stT 1001).getD ((((w.1 9 a0.toInt.toNat) * (10 : Int32)) + b0).toInt.toNat) 0).toInt ≤ 31710) := by have := bd_9 hI a0.toInt.toNat; have := (by decide : ((8 : Int32)).toInt = 8); have := (by decide : ((4 : Int32)).toInt = 4); have := ti_lo ((((stT 1001).getD ((((w.1 9 a0.toInt.toNat) * (10 : Int32)) + b0).toInt.toNat) 0) &&& (((stT 1001).getD ((((w.1 9 a0.toInt.toNat) * (10 : Int32)) + (w.1 16 a0.toInt.toNat)).toInt.toNat) 0) ^^^ ((-1) : Int32))) &&& ((stT 1002).getD ((w.1 11 a0.toInt.toNat).toInt.toNat) 0)); have := ti_hi ((((stT 1001).getD ((((w.1 9 a0.toInt.toNat) * (10 : Int32)) + b0).toInt.toNat) 0) &&& (((stT 1001).getD ((((w.1 9 a0.toInt.toNat) * (10 : Int32)) + (w.1 16 a0.toInt.toNat)).toInt.toNat) 0) ^^^ ((-1) : Int32))) &&& ((stT 1002).getD ((w.1 11 a0.toInt.toNat).toInt.toNat) 0)); have := ti_lo (((stT 1001).getD ((((w.1 9 a0.toInt.toNat) * (10 : Int32)) + b0).toInt.toNat) 0) &&& (((stT 1001).getD ((((w.1 9 a0.toInt.toNat) * (10 : Int32)) + (w.1 16 a0.toInt.toNat)).toInt.toNat) 0) ^^^ ((-1) : Int32))); have := ti_hi (((stT 1001).getD ((((w.1 9 a0.toInt.toNat) * (10 : Int32)) + b0).toInt.toNat) 0) &&& (((stT 1001).getD ((((w.1 9 a0.toInt.toNat) * (10 : Int32)) + (w.1 16 a0.toInt.toNat)).toInt.toNat) 0) ^^^ ((-1) : Int32))); have := ti_lo (((stT 1001).getD ((((w.1 9 a0.toInt.toNat) * (10 : Int32)) + (w.1 16 a0.toInt.toNat)).toInt.toNat) 0) ^^^ ((-1) : Int32)); have := ti_hi (((stT 1001).getD ((((w.1 9 a0.toInt.toNat) * (10 : Int32)) + (w.1 16 a0.toInt.toNat)).toInt.toNat) 0) ^^^ ((-1) : Int32)); have := bd_16 hI a0.toInt.toNat; have := bd_11 hI a0.toInt.toNat; have := (by decide : ((0 : Int32)).toInt = 0); have := ti_mul2 (Eq.refl (w.1 9 a0.toInt.toNat).toInt) (by decide : ((10 : Int32)).toInt = 10) (by omega) (by omega); have := ti_add2 (Eq.refl ((w.1 9 a0.toInt.toNat) * (10 : Int32)).toInt) (Eq.refl b0.toInt) (by omega) (by omega); have := st_1001 (((w.1 9 a0.toInt.toNat) * (10 : Int32)) + b0) (by omega); have := ti_add2 (Eq.refl ((w.1 9 a0.toInt.toNat) * (10 : Int32)).toInt) (Eq.refl (w.1 16 a0.toInt.toNat).toInt) (by omega) (by omega); have := st_1001 (((w.1 9 a0.toInt.toNat) * (10 : Int32)) + (w.1 16 a0.toInt.toNat)) (by omega); have := st_1002 (w.1 11 a0.toInt.toNat) (by omega); exact ⟨by omega, by omega⟩
          exact hQ _ _ hI (FR.refl _ w)  o5418.1 o5418.2
    · refine ⟨fun h5419 => ?_, fun h5419 => ?_⟩
      · refine Eq.mpr (q_Sf_otherPasses_31.eq_1 _ _ _ _ _) ?_
        have o5420 : 0 ≤ a0.toInt ∧ a0.toInt < 20 := by omega
        refine ⟨o5420, ?_⟩
        have o5421 : 0 ≤ (((w.1 9 a0.toInt.toNat) * (10 : Int32)) + (w.1 16 a0.toInt.toNat)).toInt ∧ (((w.1 9 a0.toInt.toNat) * (10 : Int32)) + (w.1 16 a0.toInt.toNat)).toInt < 100 := by have := bd_9 hI a0.toInt.toNat; have := bd_16 hI a0.toInt.toNat; have := (by decide : ((8 : Int32)).toInt = 8); have := (by decide : ((4 : Int32)).toInt = 4); have := ti_mul2 (Eq.refl (w.1 9 a0.toInt.toNat).toInt) (by decide : ((10 : Int32)).toInt = 10) (by omega) (by omega); have := ti_add2 (Eq.refl ((w.1 9 a0.toInt.toNat) * (10 : Int32)).toInt) (Eq.refl (w.1 16 a0.toInt.toNat).toInt) (by omega) (by omega); omega
        refine ⟨o5421, ?_⟩
        have o5422 : 0 ≤ (((w.1 9 a0.toInt.toNat) * (10 : Int32)) + b0).toInt ∧ (((w.1 9 a0.toInt.toNat) * (10 : Int32)) + b0).toInt < 100 := by have := bd_9 hI a0.toInt.toNat; have := (by decide : ((8 : Int32)).toInt = 8); have := (by decide : ((4 : Int32)).toInt = 4); have := (by decide : ((1 : Int32)).toInt = 1); have := ti_mul2 (Eq.refl (w.1 9 a0.toInt.toNat).toInt) (by decide : ((10 : Int32)).toInt = 10) (by omega) (by omega); have := ti_add2 (Eq.refl ((w.1 9 a0.toInt.toNat) * (10 : Int32)).toInt) (Eq.refl b0.toInt) (by omega) (by omega); omega
        refine ⟨o5422, ?_⟩
        refine ⟨hr_7_0, ?_⟩
        have o5423 : 0 ≤ a0.toInt ∧ a0.toInt < 20 := by omega
        refine ⟨o5423, ?_⟩
        refine Eq.mpr (p_Ma_min.eq_1 _ _ _ _) ?_
        refine ⟨fun h5424 => ?_, fun h5424 => ?_⟩
        · replace h5424 : 4 < (w.1 11 a0.toInt.toNat).toInt := h5424
          refine ⟨by decide, ?_⟩
          refine ⟨fun h5425 => ?_, fun h5425 => ?_⟩
          · have o5426 : (0 ≤ (0 : Int32).toInt) ∧ ((0 : Int32).toInt ≤ 31710) := by have := (by decide : ((0 : Int32)).toInt = 0); exact ⟨by omega, by omega⟩
            exact hQ _ _ hI (FR.refl _ w)  o5426.1 o5426.2
          · have o5427 : (0 ≤ ((stT 1001).getD ((((w.1 9 a0.toInt.toNat) * (10 : Int32)) + b0).toInt.toNat) 0).toInt) ∧ (((stT 1001).getD ((((w.1 9 a0.toInt.toNat) * (10 : Int32)) + b0).toInt.toNat) 0).toInt ≤ 31710) := by have := bd_9 hI a0.toInt.toNat; have := (by decide : ((8 : Int32)).toInt = 8); have := (by decide : ((4 : Int32)).toInt = 4); have := (by decide : ((1 : Int32)).toInt = 1); have := ti_lo ((((stT 1001).getD ((((w.1 9 a0.toInt.toNat) * (10 : Int32)) + b0).toInt.toNat) 0) &&& (((stT 1001).getD ((((w.1 9 a0.toInt.toNat) * (10 : Int32)) + (w.1 16 a0.toInt.toNat)).toInt.toNat) 0) ^^^ ((-1) : Int32))) &&& ((stT 1002).getD ((4 : Int32).toInt.toNat) 0)); have := ti_hi ((((stT 1001).getD ((((w.1 9 a0.toInt.toNat) * (10 : Int32)) + b0).toInt.toNat) 0) &&& (((stT 1001).getD ((((w.1 9 a0.toInt.toNat) * (10 : Int32)) + (w.1 16 a0.toInt.toNat)).toInt.toNat) 0) ^^^ ((-1) : Int32))) &&& ((stT 1002).getD ((4 : Int32).toInt.toNat) 0)); have := ti_lo (((stT 1001).getD ((((w.1 9 a0.toInt.toNat) * (10 : Int32)) + b0).toInt.toNat) 0) &&& (((stT 1001).getD ((((w.1 9 a0.toInt.toNat) * (10 : Int32)) + (w.1 16 a0.toInt.toNat)).toInt.toNat) 0) ^^^ ((-1) : Int32))); have := ti_hi (((stT 1001).getD ((((w.1 9 a0.toInt.toNat) * (10 : Int32)) + b0).toInt.toNat) 0) &&& (((stT 1001).getD ((((w.1 9 a0.toInt.toNat) * (10 : Int32)) + (w.1 16 a0.toInt.toNat)).toInt.toNat) 0) ^^^ ((-1) : Int32))); have := ti_lo (((stT 1001).getD ((((w.1 9 a0.toInt.toNat) * (10 : Int32)) + (w.1 16 a0.toInt.toNat)).toInt.toNat) 0) ^^^ ((-1) : Int32)); have := ti_hi (((stT 1001).getD ((((w.1 9 a0.toInt.toNat) * (10 : Int32)) + (w.1 16 a0.toInt.toNat)).toInt.toNat) 0) ^^^ ((-1) : Int32)); have := bd_16 hI a0.toInt.toNat; have := (by decide : ((0 : Int32)).toInt = 0); have := ti_mul2 (Eq.refl (w.1 9 a0.toInt.toNat).toInt) (by decide : ((10 : Int32)).toInt = 10) (by omega) (by omega); have := ti_add2 (Eq.refl ((w.1 9 a0.toInt.toNat) * (10 : Int32)).toInt) (Eq.refl b0.toInt) (by omega) (by omega); have := st_1001 (((w.1 9 a0.toInt.toNat) * (10 : Int32)) + b0) (by omega); have := ti_add2 (Eq.refl ((w.1 9 a0.toInt.toNat) * (10 : Int32)).toInt) (Eq.refl (w.1 16 a0.toInt.toNat).toInt) (by omega) (by omega); have := st_1001 (((w.1 9 a0.toInt.toNat) * (10 : Int32)) + (w.1 16 a0.toInt.toNat)) (by omega); have := st_1002 (4 : Int32) (by omega); exact ⟨by omega, by omega⟩
            exact hQ _ _ hI (FR.refl _ w)  o5427.1 o5427.2
        · replace h5424 : ¬ (4 < (w.1 11 a0.toInt.toNat).toInt) := h5424
          have o5428 : 0 ≤ (w.1 11 a0.toInt.toNat).toInt ∧ (w.1 11 a0.toInt.toNat).toInt < 5 := by have := bd_11 hI a0.toInt.toNat; have := (by decide : ((4 : Int32)).toInt = 4); omega
          refine ⟨o5428, ?_⟩
          refine ⟨fun h5429 => ?_, fun h5429 => ?_⟩
          · have o5430 : (0 ≤ (0 : Int32).toInt) ∧ ((0 : Int32).toInt ≤ 31710) := by have := (by decide : ((0 : Int32)).toInt = 0); exact ⟨by omega, by omega⟩
            exact hQ _ _ hI (FR.refl _ w)  o5430.1 o5430.2
          · have o5431 : (0 ≤ ((stT 1001).getD ((((w.1 9 a0.toInt.toNat) * (10 : Int32)) + b0).toInt.toNat) 0).toInt) ∧ (((stT 1001).getD ((((w.1 9 a0.toInt.toNat) * (10 : Int32)) + b0).toInt.toNat) 0).toInt ≤ 31710) := by have := bd_9 hI a0.toInt.toNat; have := (by decide : ((8 : Int32)).toInt = 8); have := (by decide : ((4 : Int32)).toInt = 4); have := (by decide : ((1 : Int32)).toInt = 1); have := ti_lo ((((stT 1001).getD ((((w.1 9 a0.toInt.toNat) * (10 : Int32)) + b0).toInt.toNat) 0) &&& (((stT 1001).getD ((((w.1 9 a0.toInt.toNat) * (10 : Int32)) + (w.1 16 a0.toInt.toNat)).toInt.toNat) 0) ^^^ ((-1) : Int32))) &&& ((stT 1002).getD ((w.1 11 a0.toInt.toNat).toInt.toNat) 0)); have := ti_hi ((((stT 1001).getD ((((w.1 9 a0.toInt.toNat) * (10 : Int32)) + b0).toInt.toNat) 0) &&& (((stT 1001).getD ((((w.1 9 a0.toInt.toNat) * (10 : Int32)) + (w.1 16 a0.toInt.toNat)).toInt.toNat) 0) ^^^ ((-1) : Int32))) &&& ((stT 1002).getD ((w.1 11 a0.toInt.toNat).toInt.toNat) 0)); have := ti_lo (((stT 1001).getD ((((w.1 9 a0.toInt.toNat) * (10 : Int32)) + b0).toInt.toNat) 0) &&& (((stT 1001).getD ((((w.1 9 a0.toInt.toNat) * (10 : Int32)) + (w.1 16 a0.toInt.toNat)).toInt.toNat) 0) ^^^ ((-1) : Int32))); have := ti_hi (((stT 1001).getD ((((w.1 9 a0.toInt.toNat) * (10 : Int32)) + b0).toInt.toNat) 0) &&& (((stT 1001).getD ((((w.1 9 a0.toInt.toNat) * (10 : Int32)) + (w.1 16 a0.toInt.toNat)).toInt.toNat) 0) ^^^ ((-1) : Int32))); have := ti_lo (((stT 1001).getD ((((w.1 9 a0.toInt.toNat) * (10 : Int32)) + (w.1 16 a0.toInt.toNat)).toInt.toNat) 0) ^^^ ((-1) : Int32)); have := ti_hi (((stT 1001).getD ((((w.1 9 a0.toInt.toNat) * (10 : Int32)) + (w.1 16 a0.toInt.toNat)).toInt.toNat) 0) ^^^ ((-1) : Int32)); have := bd_16 hI a0.toInt.toNat; have := bd_11 hI a0.toInt.toNat; have := (by decide : ((0 : Int32)).toInt = 0); have := ti_mul2 (Eq.refl (w.1 9 a0.toInt.toNat).toInt) (by decide : ((10 : Int32)).toInt = 10) (by omega) (by omega); have := ti_add2 (Eq.refl ((w.1 9 a0.toInt.toNat) * (10 : Int32)).toInt) (Eq.refl b0.toInt) (by omega) (by omega); have := st_1001 (((w.1 9 a0.toInt.toNat) * (10 : Int32)) + b0) (by omega); have := ti_add2 (Eq.refl ((w.1 9 a0.toInt.toNat) * (10 : Int32)).toInt) (Eq.refl (w.1 16 a0.toInt.toNat).toInt) (by omega) (by omega); have := st_1001 (((w.1 9 a0.toInt.toNat) * (10 : Int32)) + (w.1 16 a0.toInt.toNat)) (by omega); have := st_1002 (w.1 11 a0.toInt.toNat) (by omega); exact ⟨by omega, by omega⟩
            exact hQ _ _ hI (FR.refl _ w)  o5431.1 o5431.2
      · have o5432 : (0 ≤ (0 : Int32).toInt) ∧ ((0 : Int32).toInt ≤ 31710) := by have := (by decide : ((0 : Int32)).toInt = 0); exact ⟨by omega, by omega⟩
        exact hQ _ _ hI (FR.refl _ w)  o5432.1 o5432.2
def l_Wa_addSources_43_42 : Pl := []
def l_Wa_addSources_43_13 : Pl := [(43, none)]
def l_Wa_addSources_43 : Pl := [(43, none)]
set_option maxRecDepth 20000 in
set_option maxHeartbeats 2000000 in
theorem hq_Wa_addSources_43_42 {x42_2 : Int32} {x42_3 : Int32} {E : Int64 → MW → Prop} {Q : MW → Prop} (n : Nat) : ∀ (x42_4 : Int64) (x42_6 : Int32) (x42_7 : Int32) (w : MW), BND w → 0 ≤ x42_2.toInt → x42_2.toInt ≤ 20 → 0 ≤ x42_3.toInt → x42_3.toInt ≤ 23 → (-1) ≤ x42_6.toInt → x42_6.toInt ≤ 23 → 0 ≤ x42_7.toInt → x42_7.toInt ≤ 24 → (24 - x42_7.toInt).toNat < n → (∀ (e42_4 : Int64) (w' : MW), BND w' → FR l_Wa_addSources_43_42 w w' → E e42_4 w') → (∀ (w' : MW), BND w' → FR l_Wa_addSources_43_42 w w' → False → Q w') → q_Wa_addSources_43_42 x42_2 x42_3 E Q n x42_4 x42_6 x42_7 w := by
  induction n with
  | zero => intros; omega
  | succ n ih =>
    intro x42_4 x42_6 x42_7 w hI  hp0 hp1 hp2 hp3 hp4 hp5 hp6 hp7 hm hE hQ
    rw [q_Wa_addSources_43_42.eq_2]
    have o5433 : 0 ≤ x42_3.toInt ∧ x42_3.toInt < 24 := by omega
    refine ⟨o5433, ?_⟩
    refine ⟨fun h5434 => ?_, fun h5434 => ?_⟩
    · exact hE _ _ hI (FR.refl _ w)
    · refine ⟨fun h5435 => ?_, fun h5435 => ?_⟩
      · exact hE _ _ hI (FR.refl _ w)
      · have o5436 : 0 ≤ x42_6.toInt ∧ x42_6.toInt < 24 := by have := (by decide : ((0 : Int32)).toInt = 0); omega
        refine ⟨o5436, ?_⟩
        have o5437 : (0 ≤ x42_2.toInt) ∧ (x42_2.toInt ≤ 20) ∧ (0 ≤ x42_3.toInt) ∧ (x42_3.toInt ≤ 23) ∧ ((-1) ≤ (w.1 35 x42_6.toInt.toNat).toInt) ∧ ((w.1 35 x42_6.toInt.toNat).toInt ≤ 23) ∧ (0 ≤ (x42_7 + (1 : Int32)).toInt) ∧ ((x42_7 + (1 : Int32)).toInt ≤ 24) := by have := bd_35 hI x42_6.toInt.toNat; have := bd_31 hI x42_3.toInt.toNat; have := (by decide : ((0 : Int32)).toInt = 0); have := ti_add2 (Eq.refl x42_7.toInt) (by decide : ((1 : Int32)).toInt = 1) (by omega) (by omega); exact ⟨by omega, by omega, by omega, by omega, by omega, by omega, by omega, by omega⟩
        exact ih _ _ _ w hI  o5437.1 o5437.2.1 o5437.2.2.1 o5437.2.2.2.1 o5437.2.2.2.2.1 o5437.2.2.2.2.2.1 o5437.2.2.2.2.2.2.1 o5437.2.2.2.2.2.2.2 (by have := bd_35 hI x42_6.toInt.toNat; have := bd_31 hI x42_3.toInt.toNat; have := (by decide : ((0 : Int32)).toInt = 0); have := ti_add2 (Eq.refl x42_7.toInt) (by decide : ((1 : Int32)).toInt = 1) (by omega) (by omega); omega) (fun e0 w9 hI9 hF9 => hE e0 w9 hI9 ((FR.refl _ w).tr hF9 rfl) ) (fun w9 hI9 hF9 q0 => q0.elim)
set_option maxRecDepth 20000 in
set_option maxHeartbeats 2000000 in
theorem hq_Wa_addSources_43_13 {x13_2 : Int32} {E : MW → Prop} {Q : MW → Prop} (n : Nat) : ∀ (x13_3 : Int32) (w : MW), BND w → 0 ≤ x13_2.toInt → x13_2.toInt ≤ 20 → 0 ≤ x13_3.toInt → x13_3.toInt ≤ 24 → (24 - x13_3.toInt).toNat < n → (∀ (w' : MW), BND w' → FR l_Wa_addSources_43_13 w w' → E w') → (∀ (w' : MW), BND w' → FR l_Wa_addSources_43_13 w w' → False → Q w') → q_Wa_addSources_43_13 x13_2 E Q n x13_3 w := by
  induction n with
  | zero => intros; omega
  | succ n ih =>
    intro x13_3 w hI  hp0 hp1 hp2 hp3 hm hE hQ
    rw [q_Wa_addSources_43_13.eq_2]
    refine ⟨fun h5438 => ?_, fun h5438 => ?_⟩
    · exact hE _ hI (FR.refl _ w)
    · have o5439 : 0 ≤ x13_3.toInt ∧ x13_3.toInt < 24 := by have := bd_26_1 hI; omega
      refine ⟨o5439, ?_⟩
      have o5440 : 0 ≤ x13_3.toInt ∧ x13_3.toInt < 24 := by have := bd_26_1 hI; omega
      refine ⟨o5440, ?_⟩
      have o5441 : (0 ≤ x13_2.toInt) ∧ (x13_2.toInt ≤ 20) ∧ (0 ≤ x13_3.toInt) ∧ (x13_3.toInt ≤ 23) ∧ ((-1) ≤ (w.1 32 x13_3.toInt.toNat).toInt) ∧ ((w.1 32 x13_3.toInt.toNat).toInt ≤ 23) ∧ (0 ≤ (0 : Int32).toInt) ∧ ((0 : Int32).toInt ≤ 24) := by have := bd_32 hI x13_3.toInt.toNat; have := (by decide : ((0 : Int32)).toInt = 0); have := bd_26_1 hI; exact ⟨by omega, by omega, by omega, by omega, by omega, by omega, by omega, by omega⟩
      refine hq_Wa_addSources_43_42 FU _ _ _ w hI  o5441.1 o5441.2.1 o5441.2.2.1 o5441.2.2.2.1 o5441.2.2.2.2.1 o5441.2.2.2.2.2.1 o5441.2.2.2.2.2.2.1 o5441.2.2.2.2.2.2.2 (fu_lt (by have := bd_32 hI x13_3.toInt.toNat; have := (by decide : ((0 : Int32)).toInt = 0); have := bd_26_1 hI; omega)) (fun e5445 w5442 hI5443 hL5444  => ?_) (fun w9 hI9 hF9 q0 => q0.elim)
      have hF5446 : FR l_Wa_addSources_43_13 w w5442 := (FR.refl _ w).tr hL5444 rfl
      have o5447 : 0 ≤ x13_3.toInt ∧ x13_3.toInt < 24 := by have := bd_26_1 hI; omega
      refine ⟨o5447, ?_⟩
      have o5448 : 0 ≤ (w5442.1 30 x13_3.toInt.toNat).toInt ∧ (w5442.1 30 x13_3.toInt.toNat).toInt < 15 := by have := bd_30 hI5443 x13_3.toInt.toNat; have := bd_30 hI x13_3.toInt.toNat; have := (congrArg Int32.toInt (hL5444 30 x13_3.toInt.toNat rfl).1); omega
      refine ⟨o5448, ?_⟩
      have o5449 : 0 ≤ (w5442.1 30 x13_3.toInt.toNat).toInt ∧ (w5442.1 30 x13_3.toInt.toNat).toInt < 15 := by have := bd_30 hI5443 x13_3.toInt.toNat; have := bd_30 hI x13_3.toInt.toNat; have := (congrArg Int32.toInt (hL5444 30 x13_3.toInt.toNat rfl).1); omega
      refine ⟨o5449, ?_⟩
      have o5450 : (0 ≤ x13_2.toInt) ∧ (x13_2.toInt ≤ 20) ∧ (0 ≤ (x13_3 + (1 : Int32)).toInt) ∧ ((x13_3 + (1 : Int32)).toInt ≤ 24) := by have := bd_26_1 hI; have := ti_add2 (Eq.refl x13_3.toInt) (by decide : ((1 : Int32)).toInt = 1) (by omega) (by omega); exact ⟨by omega, by omega, by omega, by omega⟩
      exact ih _ (sJ w5442 43 ((w5442.1 30 x13_3.toInt.toNat).toInt.toNat) ((w5442.2.1 43 ((w5442.1 30 x13_3.toInt.toNat).toInt.toNat)) ||| e5445)) (bnd_J hI5443 (k := 43) (j := (w5442.1 30 x13_3.toInt.toNat).toInt.toNat) (v := ((w5442.2.1 43 ((w5442.1 30 x13_3.toInt.toNat).toInt.toNat)) ||| e5445)))  o5450.1 o5450.2.1 o5450.2.2.1 o5450.2.2.2 (by have := bd_26_1 hI; have := ti_add2 (Eq.refl x13_3.toInt) (by decide : ((1 : Int32)).toInt = 1) (by omega) (by omega); omega) (fun w9 hI9 hF9 => hE w9 hI9 ((FR.J hF5446 (k := 43) (j := (w5442.1 30 x13_3.toInt.toNat).toInt.toNat) (v := ((w5442.2.1 43 ((w5442.1 30 x13_3.toInt.toNat).toInt.toNat)) ||| e5445)) rfl).tr hF9 rfl) ) (fun w9 hI9 hF9 q0 => q0.elim)
set_option maxRecDepth 20000 in
set_option maxHeartbeats 2000000 in
theorem h_Wa_addSources_43 {w : MW} {Q : MW → Prop} (hI : BND w) (hr_7_0 : w.2.2 7 0 = some 8)  (hQ : ∀ (w' : MW), BND w' → FR l_Wa_addSources_43 w w' → Q w') : p_Wa_addSources_43 w Q := by
  refine Eq.mpr (p_Wa_addSources_43.eq_1 _ _) ?_
  refine ⟨hr_7_0, ?_⟩
  have o5451 : (0 ≤ (w.1 8 0).toInt) ∧ ((w.1 8 0).toInt ≤ 20) ∧ (0 ≤ (0 : Int32).toInt) ∧ ((0 : Int32).toInt ≤ 24) := by have := bd_8_0 hI; have := (by decide : ((0 : Int32)).toInt = 0); exact ⟨by omega, by omega, by omega, by omega⟩
  refine hq_Wa_addSources_43_13 FU _ w hI  o5451.1 o5451.2.1 o5451.2.2.1 o5451.2.2.2 (fu_lt (by have := bd_8_0 hI; have := (by decide : ((0 : Int32)).toInt = 0); omega)) (fun w5452 hI5453 hL5454  => ?_) (fun w9 hI9 hF9 q0 => q0.elim)
  have hF5455 : FR l_Wa_addSources_43 w w5452 := (FR.refl _ w).tr hL5454 rfl
  exact hQ _ hI5453 hF5455 
