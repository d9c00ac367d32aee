def l_Mo_sensed : Pl := []
set_option maxRecDepth 20000 in
set_option maxHeartbeats 2000000 in
theorem h_Mo_sensed {w : MW} {a0 : Int32} {b0 : Int32} {Q : Int64 → MW → Prop} (hI : BND w) (hp0 : 0 ≤ a0.toInt) (hp1 : a0.toInt ≤ 4) (hQ : ∀ (r : Int64) (w' : MW), BND w' → FR l_Mo_sensed w w' → (-2147483648000) ≤ r.toInt → r.toInt ≤ 2147483647000 → Q r w') : p_Mo_sensed w a0 b0 Q := by
  refine Eq.mpr (p_Mo_sensed.eq_1 _ _ _ _) ?_
  refine ⟨fun h10378 => ?_, fun h10378 => ?_⟩
  · refine Eq.mpr (p_Mo_isTank.eq_1 _ _ _) ?_
    refine Eq.mpr (p_Mo_isThing.eq_1 _ _ _) ?_
    refine ⟨fun h10379 => ?_, fun h10379 => ?_⟩
    · refine ⟨fun _ => ?_, fun h => absurd (by decide) h⟩
      refine ⟨fun _ => ?_, fun h => absurd (by decide) h⟩
      have o10380 : ((-2147483648000) ≤ ((-1) : Int64).toInt) ∧ (((-1) : Int64).toInt ≤ 2147483647000) := by have := (by decide : (((-1) : Int64)).toInt = (-1)); exact ⟨by omega, by omega⟩
      exact hQ _ _ hI (FR.refl _ w)  o10380.1 o10380.2
    · refine ⟨fun h10381 => ?_, fun h10381 => ?_⟩
      · refine ⟨fun _ => ?_, fun h => absurd (by decide) h⟩
        refine ⟨fun _ => ?_, fun h => absurd (by decide) h⟩
        have o10382 : ((-2147483648000) ≤ ((-1) : Int64).toInt) ∧ (((-1) : Int64).toInt ≤ 2147483647000) := by have := (by decide : (((-1) : Int64)).toInt = (-1)); exact ⟨by omega, by omega⟩
        exact hQ _ _ hI (FR.refl _ w)  o10382.1 o10382.2
      · refine ⟨fun h => absurd h (by decide), fun _ => ?_⟩
        have o10383 : 0 ≤ b0.toInt ∧ b0.toInt < 20 := by have := (by decide : ((0 : Int32)).toInt = 0); have := bd_127_4 hI; omega
        refine ⟨o10383, ?_⟩
        refine ⟨fun h10384 => ?_, fun h10384 => ?_⟩
        · refine ⟨fun _ => ?_, fun h => absurd (by decide) h⟩
          have o10385 : ((-2147483648000) ≤ ((-1) : Int64).toInt) ∧ (((-1) : Int64).toInt ≤ 2147483647000) := by have := (by decide : (((-1) : Int64)).toInt = (-1)); exact ⟨by omega, by omega⟩
          exact hQ _ _ hI (FR.refl _ w)  o10385.1 o10385.2
        · refine ⟨fun h => absurd h (by decide), fun _ => ?_⟩
          have o10386 : 0 ≤ b0.toInt ∧ b0.toInt < 20 := by have := (by decide : ((0 : Int32)).toInt = 0); have := bd_127_4 hI; omega
          refine ⟨o10386, ?_⟩
          have o10387 : ((-2147483648000) ≤ ((1000 : Int64) * (Int32.toInt64 (w.1 165 b0.toInt.toNat))).toInt) ∧ (((1000 : Int64) * (Int32.toInt64 (w.1 165 b0.toInt.toNat))).toInt ≤ 2147483647000) := by exact ⟨by omega, by omega⟩
          exact hQ _ _ hI (FR.refl _ w)  o10387.1 o10387.2
  · refine ⟨fun h10388 => ?_, fun h10388 => ?_⟩
    · refine h_Mo_holdsLiquid hI   (fun r10392 w10389 hI10390 hL10391 p10393 p10394 p10395 => ?_)
      have hF10396 : FR l_Mo_sensed w w10389 := (FR.refl _ w).tr hL10391 rfl
      refine ⟨fun h10397 => ?_, fun h10397 => ?_⟩
      · have o10398 : ((-2147483648000) ≤ ((-1) : Int64).toInt) ∧ (((-1) : Int64).toInt ≤ 2147483647000) := by have := (by decide : (((-1) : Int64)).toInt = (-1)); exact ⟨by omega, by omega⟩
        exact hQ _ _ hI10390 hF10396  o10398.1 o10398.2
      · have o10399 : (0 ≤ b0.toInt) ∧ (b0.toInt ≤ 43) ∧ (b0.toInt < (w10389.1 127 4).toInt + (w10389.1 127 11).toInt) := by have := ti_lo b0; have := ti_hi b0; have := bd_127_4 hI10390; have := bd_127_4 hI; have := (congrArg Int32.toInt (hL10391 127 4 rfl).1); have := bd_127_11 hI10390; have := bd_127_11 hI; have := (congrArg Int32.toInt (hL10391 127 11 rfl).1); have := (by decide : ((0 : Int32)).toInt = 0); exact ⟨by omega, by omega, by omega⟩
        refine h_Mo_liquidIn hI10390  o10399.1 o10399.2.1 o10399.2.2 (fun r10403 w10400 hI10401 hL10402 p10404 p10405 => ?_)
        have hF10406 : FR l_Mo_sensed w w10400 := hF10396.tr hL10402 rfl
        have o10407 : ((-2147483648000) ≤ ((1000 : Int64) * (Int32.toInt64 r10403)).toInt) ∧ (((1000 : Int64) * (Int32.toInt64 r10403)).toInt ≤ 2147483647000) := by exact ⟨by omega, by omega⟩
        exact hQ _ _ hI10401 hF10406  o10407.1 o10407.2
    · refine ⟨fun h10408 => ?_, fun h10408 => ?_⟩
      · refine Eq.mpr (p_Mo_isValve.eq_1 _ _ _) ?_
        refine Eq.mpr (p_Mo_isThing.eq_1 _ _ _) ?_
        refine ⟨fun h10409 => ?_, fun h10409 => ?_⟩
        · refine ⟨fun _ => ?_, fun h => absurd (by decide) h⟩
          refine ⟨fun _ => ?_, fun h => absurd (by decide) h⟩
          have o10410 : ((-2147483648000) ≤ ((-1) : Int64).toInt) ∧ (((-1) : Int64).toInt ≤ 2147483647000) := by have := (by decide : (((-1) : Int64)).toInt = (-1)); exact ⟨by omega, by omega⟩
          exact hQ _ _ hI (FR.refl _ w)  o10410.1 o10410.2
        · refine ⟨fun h10411 => ?_, fun h10411 => ?_⟩
          · refine ⟨fun _ => ?_, fun h => absurd (by decide) h⟩
            refine ⟨fun _ => ?_, fun h => absurd (by decide) h⟩
            have o10412 : ((-2147483648000) ≤ ((-1) : Int64).toInt) ∧ (((-1) : Int64).toInt ≤ 2147483647000) := by have := (by decide : (((-1) : Int64)).toInt = (-1)); exact ⟨by omega, by omega⟩
            exact hQ _ _ hI (FR.refl _ w)  o10412.1 o10412.2
          · refine ⟨fun h => absurd h (by decide), fun _ => ?_⟩
            have o10413 : 0 ≤ b0.toInt ∧ b0.toInt < 20 := by have := (by decide : ((0 : Int32)).toInt = 0); have := bd_127_4 hI; omega
            refine ⟨o10413, ?_⟩
            refine ⟨fun h10414 => ?_, fun h10414 => ?_⟩
            · refine ⟨fun _ => ?_, fun h => absurd (by decide) h⟩
              have o10415 : ((-2147483648000) ≤ ((-1) : Int64).toInt) ∧ (((-1) : Int64).toInt ≤ 2147483647000) := by have := (by decide : (((-1) : Int64)).toInt = (-1)); exact ⟨by omega, by omega⟩
              exact hQ _ _ hI (FR.refl _ w)  o10415.1 o10415.2
            · refine ⟨fun h => absurd h (by decide), fun _ => ?_⟩
              have o10416 : 0 ≤ b0.toInt ∧ b0.toInt < 20 := by have := (by decide : ((0 : Int32)).toInt = 0); have := bd_127_4 hI; omega
              refine ⟨o10416, ?_⟩
              have o10417 : ((-2147483648000) ≤ ((1000 : Int64) * (Int32.toInt64 (w.1 167 b0.toInt.toNat))).toInt) ∧ (((1000 : Int64) * (Int32.toInt64 (w.1 167 b0.toInt.toNat))).toInt ≤ 2147483647000) := by exact ⟨by omega, by omega⟩
              exact hQ _ _ hI (FR.refl _ w)  o10417.1 o10417.2
      · refine ⟨fun h10418 => ?_, fun h10418 => ?_⟩
        · have o10419 : ((-2147483648000) ≤ ((1000 : Int64) * (Int32.toInt64 (w.1 127 26))).toInt) ∧ (((1000 : Int64) * (Int32.toInt64 (w.1 127 26))).toInt ≤ 2147483647000) := by exact ⟨by omega, by omega⟩
          exact hQ _ _ hI (FR.refl _ w)  o10419.1 o10419.2
        · have o10420 : ((-2147483648000) ≤ ((1000 : Int64) * (Int32.toInt64 (w.1 127 78))).toInt) ∧ (((1000 : Int64) * (Int32.toInt64 (w.1 127 78))).toInt ≤ 2147483647000) := by exact ⟨by omega, by omega⟩
          exact hQ _ _ hI (FR.refl _ w)  o10420.1 o10420.2
def l_Mo_senseAll_2 : Pl := [(206, none)]
def l_Mo_senseAll_146 : Pl := [(147, some 24)]
def l_Mo_senseAll_109 : Pl := [(147, some 24)]
def l_Mo_senseAll_63 : Pl := [(147, some 24)]
def l_Mo_senseAll : Pl := [(147, some 24), (206, none)]
set_option maxRecDepth 20000 in
set_option maxHeartbeats 2000000 in
theorem hq_Mo_senseAll_2 {E : MW → Prop} {Q : MW → Prop} (n : Nat) : ∀ (x2_1 : Int32) (w : MW), BND w → 0 ≤ x2_1.toInt → x2_1.toInt ≤ 40 → (40 - x2_1.toInt).toNat < n → (∀ (w' : MW), BND w' → FR l_Mo_senseAll_2 w w' → E w') → (∀ (w' : MW), BND w' → FR l_Mo_senseAll_2 w w' → False → Q w') → q_Mo_senseAll_2 E Q n x2_1 w := by
  induction n with
  | zero => intros; omega
  | succ n ih =>
    intro x2_1 w hI  hp0 hp1 hm hE hQ
    rw [q_Mo_senseAll_2.eq_2]
    refine ⟨fun h10421 => ?_, fun h10421 => ?_⟩
    · exact hE _ hI (FR.refl _ w)
    · have o10422 : 0 ≤ x2_1.toInt ∧ x2_1.toInt < 40 := by have := bd_129_32 hI; omega
      refine ⟨o10422, ?_⟩
      refine ⟨fun h10423 => ?_, fun h10423 => ?_⟩
      · have o10424 : (0 ≤ (x2_1 + (1 : Int32)).toInt) ∧ ((x2_1 + (1 : Int32)).toInt ≤ 40) := by have := bd_129_32 hI; have := ti_add2 (Eq.refl x2_1.toInt) (by decide : ((1 : Int32)).toInt = 1) (by omega) (by omega); exact ⟨by omega, by omega⟩
        exact ih _ w hI  o10424.1 o10424.2 (by have := bd_129_32 hI; have := ti_add2 (Eq.refl x2_1.toInt) (by decide : ((1 : Int32)).toInt = 1) (by omega) (by omega); omega) (fun w9 hI9 hF9 => hE w9 hI9 ((FR.refl _ w).tr hF9 rfl) ) (fun w9 hI9 hF9 q0 => q0.elim)
      · have o10425 : 0 ≤ x2_1.toInt ∧ x2_1.toInt < 40 := by have := bd_129_32 hI; omega
        refine ⟨o10425, ?_⟩
        refine ⟨fun h10426 => ?_, fun h10426 => ?_⟩
        · have o10427 : (0 ≤ (x2_1 + (1 : Int32)).toInt) ∧ ((x2_1 + (1 : Int32)).toInt ≤ 40) := by have := bd_129_32 hI; have := ti_add2 (Eq.refl x2_1.toInt) (by decide : ((1 : Int32)).toInt = 1) (by omega) (by omega); exact ⟨by omega, by omega⟩
          exact ih _ w hI  o10427.1 o10427.2 (by have := bd_129_32 hI; have := ti_add2 (Eq.refl x2_1.toInt) (by decide : ((1 : Int32)).toInt = 1) (by omega) (by omega); omega) (fun w9 hI9 hF9 => hE w9 hI9 ((FR.refl _ w).tr hF9 rfl) ) (fun w9 hI9 hF9 q0 => q0.elim)
        · have o10428 : 0 ≤ x2_1.toInt ∧ x2_1.toInt < 40 := by have := bd_129_32 hI; omega
          refine ⟨o10428, ?_⟩
          have o10429 : 0 ≤ x2_1.toInt ∧ x2_1.toInt < 40 := by have := bd_129_32 hI; omega
          refine ⟨o10429, ?_⟩
          have o10430 : (0 ≤ (w.1 201 x2_1.toInt.toNat).toInt) ∧ ((w.1 201 x2_1.toInt.toNat).toInt ≤ 4) := by have := bd_201 hI x2_1.toInt.toNat; have := (by decide : (((-1) : Int32)).toInt = (-1)); have := (by decide : ((5 : Int32)).toInt = 5); exact ⟨by omega, by omega⟩
          refine h_Mo_sensed hI  o10430.1 o10430.2 (fun r10434 w10431 hI10432 hL10433 p10435 p10436 => ?_)
          have hF10437 : FR l_Mo_senseAll_2 w w10431 := (FR.refl _ w).tr hL10433 rfl
          have o10438 : 0 ≤ x2_1.toInt ∧ x2_1.toInt < 40 := by have := bd_129_32 hI; omega
          refine ⟨o10438, ?_⟩
          have o10439 : (0 ≤ (x2_1 + (1 : Int32)).toInt) ∧ ((x2_1 + (1 : Int32)).toInt ≤ 40) := by have := bd_129_32 hI; have := ti_add2 (Eq.refl x2_1.toInt) (by decide : ((1 : Int32)).toInt = 1) (by omega) (by omega); exact ⟨by omega, by omega⟩
          exact ih _ (sJ w10431 206 x2_1.toInt.toNat r10434) (bnd_J hI10432 (k := 206) (j := x2_1.toInt.toNat) (v := r10434))  o10439.1 o10439.2 (by have := bd_129_32 hI; have := ti_add2 (Eq.refl x2_1.toInt) (by decide : ((1 : Int32)).toInt = 1) (by omega) (by omega); omega) (fun w9 hI9 hF9 => hE w9 hI9 ((FR.J hF10437 (k := 206) (j := x2_1.toInt.toNat) (v := r10434) rfl).tr hF9 rfl) ) (fun w9 hI9 hF9 q0 => q0.elim)
set_option maxRecDepth 20000 in
set_option maxHeartbeats 2000000 in
theorem hq_Mo_senseAll_63 {E : MW → Prop} {Q : MW → Prop} (n : Nat) : ∀ (x63_1 : Int32) (w : MW), BND w → 0 ≤ x63_1.toInt → x63_1.toInt ≤ 16 → (16 - x63_1.toInt).toNat < n → (∀ (w' : MW), BND w' → FR l_Mo_senseAll_63 w w' → E w') → (∀ (w' : MW), BND w' → FR l_Mo_senseAll_63 w w' → False → Q w') → q_Mo_senseAll_63 E Q n x63_1 w := by
  induction n with
  | zero => intros; omega
  | succ n ih =>
    intro x63_1 w hI  hp0 hp1 hm hE hQ
    rw [q_Mo_senseAll_63.eq_2]
    refine ⟨fun h10440 => ?_, fun h10440 => ?_⟩
    · exact hE _ hI (FR.refl _ w)
    · have o10441 : 0 ≤ x63_1.toInt ∧ x63_1.toInt < 16 := by have := (by decide : ((16 : Int32)).toInt = 16); omega
      refine ⟨o10441, ?_⟩
      refine ⟨fun h10442 => ?_, fun h10442 => ?_⟩
      · have o10443 : (0 ≤ (x63_1 + (1 : Int32)).toInt) ∧ ((x63_1 + (1 : Int32)).toInt ≤ 16) := by have := (by decide : ((16 : Int32)).toInt = 16); have := ti_add2 (Eq.refl x63_1.toInt) (by decide : ((1 : Int32)).toInt = 1) (by omega) (by omega); exact ⟨by omega, by omega⟩
        exact ih _ w hI  o10443.1 o10443.2 (by have := (by decide : ((16 : Int32)).toInt = 16); have := ti_add2 (Eq.refl x63_1.toInt) (by decide : ((1 : Int32)).toInt = 1) (by omega) (by omega); omega) (fun w9 hI9 hF9 => hE w9 hI9 ((FR.refl _ w).tr hF9 rfl) ) (fun w9 hI9 hF9 q0 => q0.elim)
      · have o10444 : 0 ≤ x63_1.toInt ∧ x63_1.toInt < 16 := by have := (by decide : ((16 : Int32)).toInt = 16); omega
        refine ⟨o10444, ?_⟩
        refine ⟨fun h10445 => ?_, fun h10445 => ?_⟩
        · refine Eq.mpr (q_Mo_senseAll_109.eq_1 _ _ _ _ _ _) ?_
          have o10446 : 0 ≤ x63_1.toInt ∧ x63_1.toInt < 16 := by have := (by decide : ((16 : Int32)).toInt = 16); omega
          refine ⟨o10446, ?_⟩
          refine ⟨fun _ => ?_, fun h => absurd h10445 h⟩
          refine Eq.mpr (q_Mo_senseAll_146.eq_1 _ _ _ _ _ _) ?_
          refine ⟨fun _ => ?_, fun h => absurd (by decide) h⟩
          have hI10447 : BND (sI w 147 24 ((w.1 147 24) &&& (((1 : Int32) <<< (x63_1 &&& 31)) ^^^ ((-1) : Int32)))) := wbd_147_24 hI
          have o10448 : (0 ≤ (x63_1 + (1 : Int32)).toInt) ∧ ((x63_1 + (1 : Int32)).toInt ≤ 16) := by have := (by decide : ((16 : Int32)).toInt = 16); have := ti_add2 (Eq.refl x63_1.toInt) (by decide : ((1 : Int32)).toInt = 1) (by omega) (by omega); exact ⟨by omega, by omega⟩
          exact ih _ (sI w 147 24 ((w.1 147 24) &&& (((1 : Int32) <<< (x63_1 &&& 31)) ^^^ ((-1) : Int32)))) hI10447  o10448.1 o10448.2 (by have := (by decide : ((16 : Int32)).toInt = 16); have := ti_add2 (Eq.refl x63_1.toInt) (by decide : ((1 : Int32)).toInt = 1) (by omega) (by omega); omega) (fun w9 hI9 hF9 => hE w9 hI9 ((FR.I (FR.refl _ w) (k := 147) (j := 24) (v := ((w.1 147 24) &&& (((1 : Int32) <<< (x63_1 &&& 31)) ^^^ ((-1) : Int32)))) rfl).tr hF9 rfl) ) (fun w9 hI9 hF9 q0 => q0.elim)
        · have o10449 : 0 ≤ x63_1.toInt ∧ x63_1.toInt < 16 := by have := (by decide : ((16 : Int32)).toInt = 16); omega
          refine ⟨o10449, ?_⟩
          have o10450 : 0 ≤ x63_1.toInt ∧ x63_1.toInt < 16 := by have := (by decide : ((16 : Int32)).toInt = 16); omega
          refine ⟨o10450, ?_⟩
          have o10451 : (0 ≤ (w.1 203 x63_1.toInt.toNat).toInt) ∧ ((w.1 203 x63_1.toInt.toNat).toInt ≤ 4) := by have := bd_203 hI x63_1.toInt.toNat; have := (by decide : (((-1) : Int32)).toInt = (-1)); have := (by decide : ((5 : Int32)).toInt = 5); exact ⟨by omega, by omega⟩
          refine h_Mo_sensed hI  o10451.1 o10451.2 (fun r10455 w10452 hI10453 hL10454 p10456 p10457 => ?_)
          have hF10458 : FR l_Mo_senseAll_63 w w10452 := (FR.refl _ w).tr hL10454 rfl
          refine Eq.mpr (q_Mo_senseAll_109.eq_1 _ _ _ _ _ _) ?_
          have o10459 : 0 ≤ x63_1.toInt ∧ x63_1.toInt < 16 := by have := (by decide : ((16 : Int32)).toInt = 16); omega
          refine ⟨o10459, ?_⟩
          refine ⟨fun h10460 => ?_, fun h10460 => ?_⟩
          · refine Eq.mpr (q_Mo_senseAll_146.eq_1 _ _ _ _ _ _) ?_
            refine ⟨fun _ => ?_, fun h => absurd (by decide) h⟩
            have hI10461 : BND (sI w10452 147 24 ((w10452.1 147 24) &&& (((1 : Int32) <<< (x63_1 &&& 31)) ^^^ ((-1) : Int32)))) := wbd_147_24 hI10453
            have o10462 : (0 ≤ (x63_1 + (1 : Int32)).toInt) ∧ ((x63_1 + (1 : Int32)).toInt ≤ 16) := by have := (by decide : ((16 : Int32)).toInt = 16); have := ti_add2 (Eq.refl x63_1.toInt) (by decide : ((1 : Int32)).toInt = 1) (by omega) (by omega); exact ⟨by omega, by omega⟩
            exact ih _ (sI w10452 147 24 ((w10452.1 147 24) &&& (((1 : Int32) <<< (x63_1 &&& 31)) ^^^ ((-1) : Int32)))) hI10461  o10462.1 o10462.2 (by have := (by decide : ((16 : Int32)).toInt = 16); have := ti_add2 (Eq.refl x63_1.toInt) (by decide : ((1 : Int32)).toInt = 1) (by omega) (by omega); omega) (fun w9 hI9 hF9 => hE w9 hI9 ((FR.I hF10458 (k := 147) (j := 24) (v := ((w10452.1 147 24) &&& (((1 : Int32) <<< (x63_1 &&& 31)) ^^^ ((-1) : Int32)))) rfl).tr hF9 rfl) ) (fun w9 hI9 hF9 q0 => q0.elim)
          · refine ⟨fun h10463 => ?_, fun h10463 => ?_⟩
            · refine Eq.mpr (q_Mo_senseAll_146.eq_1 _ _ _ _ _ _) ?_
              refine ⟨fun _ => ?_, fun h => absurd (by decide) h⟩
              have hI10464 : BND (sI w10452 147 24 ((w10452.1 147 24) &&& (((1 : Int32) <<< (x63_1 &&& 31)) ^^^ ((-1) : Int32)))) := wbd_147_24 hI10453
              have o10465 : (0 ≤ (x63_1 + (1 : Int32)).toInt) ∧ ((x63_1 + (1 : Int32)).toInt ≤ 16) := by have := (by decide : ((16 : Int32)).toInt = 16); have := ti_add2 (Eq.refl x63_1.toInt) (by decide : ((1 : Int32)).toInt = 1) (by omega) (by omega); exact ⟨by omega, by omega⟩
              exact ih _ (sI w10452 147 24 ((w10452.1 147 24) &&& (((1 : Int32) <<< (x63_1 &&& 31)) ^^^ ((-1) : Int32)))) hI10464  o10465.1 o10465.2 (by have := (by decide : ((16 : Int32)).toInt = 16); have := ti_add2 (Eq.refl x63_1.toInt) (by decide : ((1 : Int32)).toInt = 1) (by omega) (by omega); omega) (fun w9 hI9 hF9 => hE w9 hI9 ((FR.I hF10458 (k := 147) (j := 24) (v := ((w10452.1 147 24) &&& (((1 : Int32) <<< (x63_1 &&& 31)) ^^^ ((-1) : Int32)))) rfl).tr hF9 rfl) ) (fun w9 hI9 hF9 q0 => q0.elim)
            · have o10466 : 0 ≤ x63_1.toInt ∧ x63_1.toInt < 16 := by have := (by decide : ((16 : Int32)).toInt = 16); omega
              refine ⟨o10466, ?_⟩
              refine ⟨fun h10467 => ?_, fun h10467 => ?_⟩
              · refine Eq.mpr (q_Mo_senseAll_146.eq_1 _ _ _ _ _ _) ?_
                refine ⟨fun _ => ?_, fun h => absurd (by decide) h⟩
                have hI10468 : BND (sI w10452 147 24 ((w10452.1 147 24) &&& (((1 : Int32) <<< (x63_1 &&& 31)) ^^^ ((-1) : Int32)))) := wbd_147_24 hI10453
                have o10469 : (0 ≤ (x63_1 + (1 : Int32)).toInt) ∧ ((x63_1 + (1 : Int32)).toInt ≤ 16) := by have := (by decide : ((16 : Int32)).toInt = 16); have := ti_add2 (Eq.refl x63_1.toInt) (by decide : ((1 : Int32)).toInt = 1) (by omega) (by omega); exact ⟨by omega, by omega⟩
                exact ih _ (sI w10452 147 24 ((w10452.1 147 24) &&& (((1 : Int32) <<< (x63_1 &&& 31)) ^^^ ((-1) : Int32)))) hI10468  o10469.1 o10469.2 (by have := (by decide : ((16 : Int32)).toInt = 16); have := ti_add2 (Eq.refl x63_1.toInt) (by decide : ((1 : Int32)).toInt = 1) (by omega) (by omega); omega) (fun w9 hI9 hF9 => hE w9 hI9 ((FR.I hF10458 (k := 147) (j := 24) (v := ((w10452.1 147 24) &&& (((1 : Int32) <<< (x63_1 &&& 31)) ^^^ ((-1) : Int32)))) rfl).tr hF9 rfl) ) (fun w9 hI9 hF9 q0 => q0.elim)
              · refine Eq.mpr (q_Mo_senseAll_146.eq_1 _ _ _ _ _ _) ?_
                refine ⟨fun h => absurd h (by decide), fun _ => ?_⟩
                have hI10470 : BND (sI w10452 147 24 ((w10452.1 147 24) ||| ((1 : Int32) <<< (x63_1 &&& 31)))) := wbd_147_24 hI10453
                have o10471 : (0 ≤ (x63_1 + (1 : Int32)).toInt) ∧ ((x63_1 + (1 : Int32)).toInt ≤ 16) := by have := (by decide : ((16 : Int32)).toInt = 16); have := ti_add2 (Eq.refl x63_1.toInt) (by decide : ((1 : Int32)).toInt = 1) (by omega) (by omega); exact ⟨by omega, by omega⟩
                exact ih _ (sI w10452 147 24 ((w10452.1 147 24) ||| ((1 : Int32) <<< (x63_1 &&& 31)))) hI10470  o10471.1 o10471.2 (by have := (by decide : ((16 : Int32)).toInt = 16); have := ti_add2 (Eq.refl x63_1.toInt) (by decide : ((1 : Int32)).toInt = 1) (by omega) (by omega); omega) (fun w9 hI9 hF9 => hE w9 hI9 ((FR.I hF10458 (k := 147) (j := 24) (v := ((w10452.1 147 24) ||| ((1 : Int32) <<< (x63_1 &&& 31)))) rfl).tr hF9 rfl) ) (fun w9 hI9 hF9 q0 => q0.elim)
set_option maxRecDepth 20000 in
set_option maxHeartbeats 2000000 in
theorem h_Mo_senseAll {w : MW} {Q : MW → Prop} (hI : BND w)  (hQ : ∀ (w' : MW), BND w' → FR l_Mo_senseAll w w' → Q w') : p_Mo_senseAll w Q := by
  refine Eq.mpr (p_Mo_senseAll.eq_1 _ _) ?_
  have o10472 : (0 ≤ (0 : Int32).toInt) ∧ ((0 : Int32).toInt ≤ 40) := by have := (by decide : ((0 : Int32)).toInt = 0); exact ⟨by omega, by omega⟩
  refine hq_Mo_senseAll_2 FU _ w hI  o10472.1 o10472.2 (fu_lt (by have := (by decide : ((0 : Int32)).toInt = 0); omega)) (fun w10473 hI10474 hL10475  => ?_) (fun w9 hI9 hF9 q0 => q0.elim)
  have hF10476 : FR l_Mo_senseAll w w10473 := (FR.refl _ w).tr hL10475 rfl
  have o10477 : (0 ≤ (0 : Int32).toInt) ∧ ((0 : Int32).toInt ≤ 16) := by have := (by decide : ((0 : Int32)).toInt = 0); exact ⟨by omega, by omega⟩
  refine hq_Mo_senseAll_63 FU _ w10473 hI10474  o10477.1 o10477.2 (fu_lt (by have := (by decide : ((0 : Int32)).toInt = 0); omega)) (fun w10478 hI10479 hL10480  => ?_) (fun w9 hI9 hF9 q0 => q0.elim)
  have hF10481 : FR l_Mo_senseAll w w10478 := hF10476.tr hL10480 rfl
  exact hQ _ hI10479 hF10481 
def l_Mo_hold_24 : Pl := [(127, some 26), (127, some 59), (167, none), (181, none), (182, none), (183, none), (184, none), (185, none), (186, none), (187, none)]
def l_Mo_hold : Pl := [(127, some 26), (127, some 59), (167, none), (181, none), (182, none), (183, none), (184, none), (185, none), (186, none), (187, none)]
set_option maxRecDepth 20000 in
set_option maxHeartbeats 2000000 in
theorem h_Mo_hold {w : MW} {a0 : Int32} {Q : Int32 → MW → Prop} (hI : BND w)  (hQ : ∀ (r : Int32) (w' : MW), BND w' → FR l_Mo_hold w w' → 0 ≤ r.toInt → r.toInt ≤ 1 → Q r w') : p_Mo_hold w a0 Q := by
  refine Eq.mpr (p_Mo_hold.eq_1 _ _ _) ?_
  refine ⟨fun h10482 => ?_, fun h10482 => ?_⟩
  · refine ⟨fun h10483 => ?_, fun h10483 => ?_⟩
    · refine Eq.mpr (q_Mo_hold_24.eq_1 _ _ _) ?_
      refine ⟨fun _ => ?_, fun h => absurd h10482 h⟩
      have hI10484 : BND (sI w 127 59 0) := wbd_127_59 hI (by decide) (by decide)
      have o10485 : (0 ≤ (1 : Int32).toInt) ∧ ((1 : Int32).toInt ≤ 1) := by have := (by decide : ((1 : Int32)).toInt = 1); exact ⟨by omega, by omega⟩
      exact hQ _ _ hI10484 (FR.I (FR.refl _ w) (k := 127) (j := 59) (v := 0) rfl)  o10485.1 o10485.2
    · have o10486 : (0 ≤ (0 : Int32).toInt) ∧ ((0 : Int32).toInt ≤ 1) := by have := (by decide : ((0 : Int32)).toInt = 0); exact ⟨by omega, by omega⟩
      exact hQ _ _ hI (FR.refl _ w)  o10486.1 o10486.2
  · refine ⟨fun h10487 => ?_, fun h10487 => ?_⟩
    · refine Eq.mpr (q_Mo_hold_24.eq_1 _ _ _) ?_
      refine ⟨fun h => absurd h h10482, fun _ => ?_⟩
      have hI10488 : BND (sI w 127 59 2) := wbd_127_59 hI (by decide) (by decide)
      refine h_Mo_closeAll hI10488   (fun w10489 hI10490 hL10491  => ?_)
      have hF10493 : FR l_Mo_hold w w10489 := (FR.I (FR.refl _ w) (k := 127) (j := 59) (v := 2) rfl).tr hL10491 rfl
      have o10494 : (0 ≤ (1 : Int32).toInt) ∧ ((1 : Int32).toInt ≤ 1) := by have := (by decide : ((1 : Int32)).toInt = 1); exact ⟨by omega, by omega⟩
      exact hQ _ _ hI10490 hF10493  o10494.1 o10494.2
    · have o10495 : (0 ≤ (0 : Int32).toInt) ∧ ((0 : Int32).toInt ≤ 1) := by have := (by decide : ((0 : Int32)).toInt = 0); exact ⟨by omega, by omega⟩
      exact hQ _ _ hI (FR.refl _ w)  o10495.1 o10495.2
