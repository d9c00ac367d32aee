def l_Bh_sensed : Pl := []
set_option maxRecDepth 20000 in
set_option maxHeartbeats 2000000 in
theorem h_Bh_sensed {w : MW} {a0 : Int32} {b0 : Int32} {Q : Int64 → MW → Prop} (hI : BND w) (hr_7_0 : w.2.2 7 0 = some 8) (hp0 : 0 ≤ a0.toInt) (hp1 : a0.toInt ≤ 4) (hQ : ∀ (r : Int64) (w' : MW), BND w' → FR l_Bh_sensed w w' → (-2147483648) ≤ r.toInt → r.toInt ≤ 2147483647 → Q r w') : p_Bh_sensed w a0 b0 Q := by
  refine Eq.mpr (p_Bh_sensed.eq_1 _ _ _ _) ?_
  refine ⟨fun h6501 => ?_, fun h6501 => ?_⟩
  · refine Eq.mpr (p_St_isTank.eq_1 _ _ _) ?_
    refine ⟨fun h6502 => ?_, fun h6502 => ?_⟩
    · refine ⟨fun _ => ?_, fun h => absurd (by decide) h⟩
      have o6503 : ((-2147483648) ≤ ((-1) : Int64).toInt) ∧ (((-1) : Int64).toInt ≤ 2147483647) := by have := (by decide : (((-1) : Int64)).toInt = (-1)); exact ⟨by omega, by omega⟩
      exact hQ _ _ hI (FR.refl _ w)  o6503.1 o6503.2
    · refine ⟨hr_7_0, ?_⟩
      refine ⟨fun h6504 => ?_, fun h6504 => ?_⟩
      · refine ⟨fun _ => ?_, fun h => absurd (by decide) h⟩
        have o6505 : ((-2147483648) ≤ ((-1) : Int64).toInt) ∧ (((-1) : Int64).toInt ≤ 2147483647) := by have := (by decide : (((-1) : Int64)).toInt = (-1)); exact ⟨by omega, by omega⟩
        exact hQ _ _ hI (FR.refl _ w)  o6505.1 o6505.2
      · refine ⟨hr_7_0, ?_⟩
        have o6506 : 0 ≤ b0.toInt ∧ b0.toInt < 20 := by have := (by decide : ((0 : Int32)).toInt = 0); have := bd_8_0 hI; omega
        refine ⟨o6506, ?_⟩
        refine ⟨fun h6507 => ?_, fun h6507 => ?_⟩
        · refine ⟨fun _ => ?_, fun h => absurd (by decide) h⟩
          have o6508 : ((-2147483648) ≤ ((-1) : Int64).toInt) ∧ (((-1) : Int64).toInt ≤ 2147483647) := by have := (by decide : (((-1) : Int64)).toInt = (-1)); exact ⟨by omega, by omega⟩
          exact hQ _ _ hI (FR.refl _ w)  o6508.1 o6508.2
        · refine ⟨fun h => absurd h (by decide), fun _ => ?_⟩
          have o6509 : 0 ≤ b0.toInt ∧ b0.toInt < 44 := by have := (by decide : ((0 : Int32)).toInt = 0); have := bd_8_0 hI; omega
          refine ⟨o6509, ?_⟩
          have o6510 : ((-2147483648) ≤ (Int32.toInt64 (w.1 18 b0.toInt.toNat)).toInt) ∧ ((Int32.toInt64 (w.1 18 b0.toInt.toNat)).toInt ≤ 2147483647) := by have := ti_lo (w.1 18 b0.toInt.toNat); have := ti_hi (w.1 18 b0.toInt.toNat); have := nb_i2l (w.1 18 b0.toInt.toNat); exact ⟨by omega, by omega⟩
          exact hQ _ _ hI (FR.refl _ w)  o6510.1 o6510.2
  · refine ⟨fun h6511 => ?_, fun h6511 => ?_⟩
    · refine h_St_isHolder hI hr_7_0  (fun r6515 w6512 hI6513 hL6514 p6516 p6517 p6518 => ?_)
      have hF6519 : FR l_Bh_sensed w w6512 := (FR.refl _ w).tr hL6514 rfl
      refine ⟨fun h6520 => ?_, fun h6520 => ?_⟩
      · have o6521 : ((-2147483648) ≤ ((-1) : Int64).toInt) ∧ (((-1) : Int64).toInt ≤ 2147483647) := by have := (by decide : (((-1) : Int64)).toInt = (-1)); exact ⟨by omega, by omega⟩
        exact hQ _ _ hI6513 hF6519  o6521.1 o6521.2
      · have o6522 : 0 ≤ b0.toInt ∧ b0.toInt < 44 := by have := ti_lo b0; have := ti_hi b0; have := bd_8_0 hI; have := bd_8_1 hI; have := (by decide : ((0 : Int32)).toInt = 0); omega
        refine ⟨o6522, ?_⟩
        have o6523 : ((-2147483648) ≤ (Int32.toInt64 (w6512.1 17 b0.toInt.toNat)).toInt) ∧ ((Int32.toInt64 (w6512.1 17 b0.toInt.toNat)).toInt ≤ 2147483647) := by have := bd_17 hI6513 b0.toInt.toNat; have := bd_17 hI b0.toInt.toNat; have := (congrArg Int32.toInt (hL6514 17 b0.toInt.toNat rfl).1); have := ti_lo (w6512.1 17 b0.toInt.toNat); have := ti_hi (w6512.1 17 b0.toInt.toNat); have := nb_i2l (w6512.1 17 b0.toInt.toNat); exact ⟨by omega, by omega⟩
        exact hQ _ _ hI6513 hF6519  o6523.1 o6523.2
    · refine ⟨fun h6524 => ?_, fun h6524 => ?_⟩
      · refine Eq.mpr (p_St_isValve.eq_1 _ _ _) ?_
        refine ⟨fun h6525 => ?_, fun h6525 => ?_⟩
        · refine ⟨fun _ => ?_, fun h => absurd (by decide) h⟩
          have o6526 : ((-2147483648) ≤ ((-1) : Int64).toInt) ∧ (((-1) : Int64).toInt ≤ 2147483647) := by have := (by decide : (((-1) : Int64)).toInt = (-1)); exact ⟨by omega, by omega⟩
          exact hQ _ _ hI (FR.refl _ w)  o6526.1 o6526.2
        · refine ⟨hr_7_0, ?_⟩
          refine ⟨fun h6527 => ?_, fun h6527 => ?_⟩
          · refine ⟨fun _ => ?_, fun h => absurd (by decide) h⟩
            have o6528 : ((-2147483648) ≤ ((-1) : Int64).toInt) ∧ (((-1) : Int64).toInt ≤ 2147483647) := by have := (by decide : (((-1) : Int64)).toInt = (-1)); exact ⟨by omega, by omega⟩
            exact hQ _ _ hI (FR.refl _ w)  o6528.1 o6528.2
          · refine ⟨hr_7_0, ?_⟩
            have o6529 : 0 ≤ b0.toInt ∧ b0.toInt < 20 := by have := (by decide : ((0 : Int32)).toInt = 0); have := bd_8_0 hI; omega
            refine ⟨o6529, ?_⟩
            refine ⟨fun h6530 => ?_, fun h6530 => ?_⟩
            · refine ⟨fun _ => ?_, fun h => absurd (by decide) h⟩
              have o6531 : ((-2147483648) ≤ ((-1) : Int64).toInt) ∧ (((-1) : Int64).toInt ≤ 2147483647) := by have := (by decide : (((-1) : Int64)).toInt = (-1)); exact ⟨by omega, by omega⟩
              exact hQ _ _ hI (FR.refl _ w)  o6531.1 o6531.2
            · refine ⟨fun h => absurd h (by decide), fun _ => ?_⟩
              have o6532 : 0 ≤ b0.toInt ∧ b0.toInt < 20 := by have := (by decide : ((0 : Int32)).toInt = 0); have := bd_8_0 hI; omega
              refine ⟨o6532, ?_⟩
              have o6533 : ((-2147483648) ≤ (Int32.toInt64 (w.1 16 b0.toInt.toNat)).toInt) ∧ ((Int32.toInt64 (w.1 16 b0.toInt.toNat)).toInt ≤ 2147483647) := by have := bd_16 hI b0.toInt.toNat; have := ti_lo (w.1 16 b0.toInt.toNat); have := ti_hi (w.1 16 b0.toInt.toNat); have := nb_i2l (w.1 16 b0.toInt.toNat); exact ⟨by omega, by omega⟩
              exact hQ _ _ hI (FR.refl _ w)  o6533.1 o6533.2
      · refine ⟨fun h6534 => ?_, fun h6534 => ?_⟩
        · have o6535 : ((-2147483648) ≤ (Int32.toInt64 (w.1 26 1)).toInt) ∧ ((Int32.toInt64 (w.1 26 1)).toInt ≤ 2147483647) := by have := bd_26_1 hI; have := ti_lo (w.1 26 1); have := ti_hi (w.1 26 1); have := nb_i2l (w.1 26 1); exact ⟨by omega, by omega⟩
          exact hQ _ _ hI (FR.refl _ w)  o6535.1 o6535.2
        · have o6536 : ((-2147483648) ≤ (Int32.toInt64 (w.1 7 1)).toInt) ∧ ((Int32.toInt64 (w.1 7 1)).toInt ≤ 2147483647) := by have := ti_lo (w.1 7 1); have := ti_hi (w.1 7 1); have := nb_i2l (w.1 7 1); exact ⟨by omega, by omega⟩
          exact hQ _ _ hI (FR.refl _ w)  o6536.1 o6536.2
def l_Bh_senseAll_10 : Pl := [(74, none)]
def l_Bh_senseAll_76 : Pl := []
def l_Bh_senseAll : Pl := [(48, some 1), (74, none)]
set_option maxRecDepth 20000 in
set_option maxHeartbeats 2000000 in
theorem hq_Bh_senseAll_10 {E : MW → Prop} {Q : MW → Prop} (n : Nat) : ∀ (x10_2 : Int32) (w : MW), BND w → w.2.2 7 0 = some 8 → 0 ≤ x10_2.toInt → x10_2.toInt ≤ 40 → (40 - x10_2.toInt).toNat < n → (∀ (w' : MW), BND w' → FR l_Bh_senseAll_10 w w' → E w') → (∀ (w' : MW), BND w' → FR l_Bh_senseAll_10 w w' → False → Q w') → q_Bh_senseAll_10 E Q n x10_2 w := by
  induction n with
  | zero => intros; omega
  | succ n ih =>
    intro x10_2 w hI hr_7_0 hp0 hp1 hm hE hQ
    rw [q_Bh_senseAll_10.eq_2]
    refine ⟨fun h6537 => ?_, fun h6537 => ?_⟩
    · exact hE _ hI (FR.refl _ w)
    · refine Eq.mpr (p_Pr_isSensed.eq_1 _ _ _) ?_
      refine Eq.mpr (p_Pr_isSignal.eq_1 _ _ _) ?_
      refine ⟨fun h6538 => ?_, fun h6538 => ?_⟩
      · exfalso; have := bd_62_10 hI; have := (by decide : ((0 : Int32)).toInt = 0); omega
      · refine ⟨fun h => absurd h h6537, fun _ => ?_⟩
        have o6539 : 0 ≤ x10_2.toInt ∧ x10_2.toInt < 40 := by have := bd_62_10 hI; have := (by decide : ((0 : Int32)).toInt = 0); omega
        refine ⟨o6539, ?_⟩
        refine ⟨fun h6540 => ?_, fun h6540 => ?_⟩
        · refine ⟨fun _ => ?_, fun h => absurd (by decide) h⟩
          refine ⟨fun _ => ?_, fun h => absurd (by decide) h⟩
          have o6541 : (0 ≤ (x10_2 + (1 : Int32)).toInt) ∧ ((x10_2 + (1 : Int32)).toInt ≤ 40) := by have := bd_62_10 hI; have := (by decide : ((0 : Int32)).toInt = 0); have := ti_add2 (Eq.refl x10_2.toInt) (by decide : ((1 : Int32)).toInt = 1) (by omega) (by omega); exact ⟨by omega, by omega⟩
          exact ih _ w hI hr_7_0 o6541.1 o6541.2 (by have := bd_62_10 hI; have := (by decide : ((0 : Int32)).toInt = 0); have := ti_add2 (Eq.refl x10_2.toInt) (by decide : ((1 : Int32)).toInt = 1) (by omega) (by omega); omega) (fun w9 hI9 hF9 => hE w9 hI9 ((FR.refl _ w).tr hF9 rfl) ) (fun w9 hI9 hF9 q0 => q0.elim)
        · refine ⟨fun h => absurd h (by decide), fun _ => ?_⟩
          have o6542 : 0 ≤ x10_2.toInt ∧ x10_2.toInt < 40 := by have := bd_62_10 hI; have := (by decide : ((0 : Int32)).toInt = 0); omega
          refine ⟨o6542, ?_⟩
          refine ⟨fun h6543 => ?_, fun h6543 => ?_⟩
          · refine ⟨fun _ => ?_, fun h => absurd (by decide) h⟩
            have o6544 : (0 ≤ (x10_2 + (1 : Int32)).toInt) ∧ ((x10_2 + (1 : Int32)).toInt ≤ 40) := by have := bd_62_10 hI; have := (by decide : ((0 : Int32)).toInt = 0); have := ti_add2 (Eq.refl x10_2.toInt) (by decide : ((1 : Int32)).toInt = 1) (by omega) (by omega); exact ⟨by omega, by omega⟩
            exact ih _ w hI hr_7_0 o6544.1 o6544.2 (by have := bd_62_10 hI; have := (by decide : ((0 : Int32)).toInt = 0); have := ti_add2 (Eq.refl x10_2.toInt) (by decide : ((1 : Int32)).toInt = 1) (by omega) (by omega); omega) (fun w9 hI9 hF9 => hE w9 hI9 ((FR.refl _ w).tr hF9 rfl) ) (fun w9 hI9 hF9 q0 => q0.elim)
          · refine ⟨fun h => absurd h (by decide), fun _ => ?_⟩
            have o6545 : 0 ≤ x10_2.toInt ∧ x10_2.toInt < 40 := by have := bd_62_10 hI; have := (by decide : ((0 : Int32)).toInt = 0); omega
            refine ⟨o6545, ?_⟩
            have o6546 : 0 ≤ x10_2.toInt ∧ x10_2.toInt < 40 := by have := bd_62_10 hI; have := (by decide : ((0 : Int32)).toInt = 0); omega
            refine ⟨o6546, ?_⟩
            have o6547 : (0 ≤ (w.1 75 x10_2.toInt.toNat).toInt) ∧ ((w.1 75 x10_2.toInt.toNat).toInt ≤ 4) := by have := bd_75 hI x10_2.toInt.toNat; have := (by decide : ((5 : Int32)).toInt = 5); exact ⟨by omega, by omega⟩
            refine h_Bh_sensed hI hr_7_0 o6547.1 o6547.2 (fun r6551 w6548 hI6549 hL6550 p6552 p6553 => ?_)
            have hF6554 : FR l_Bh_senseAll_10 w w6548 := (FR.refl _ w).tr hL6550 rfl
            refine ⟨fun h6555 => ?_, fun h6555 => ?_⟩
            · have o6556 : 0 ≤ x10_2.toInt ∧ x10_2.toInt < 40 := by have := bd_62_10 hI; have := (by decide : ((0 : Int32)).toInt = 0); omega
              refine ⟨o6556, ?_⟩
              have o6557 : (0 ≤ (x10_2 + (1 : Int32)).toInt) ∧ ((x10_2 + (1 : Int32)).toInt ≤ 40) := by have := bd_62_10 hI; have := (by decide : ((0 : Int32)).toInt = 0); have := ti_add2 (Eq.refl x10_2.toInt) (by decide : ((1 : Int32)).toInt = 1) (by omega) (by omega); exact ⟨by omega, by omega⟩
              exact ih _ (sJ w6548 74 x10_2.toInt.toNat (r6551 * (1000 : Int64))) (bnd_J hI6549 (k := 74) (j := x10_2.toInt.toNat) (v := (r6551 * (1000 : Int64)))) ((hL6550 7 0 rfl).2.2.trans hr_7_0) o6557.1 o6557.2 (by have := bd_62_10 hI; have := (by decide : ((0 : Int32)).toInt = 0); have := ti_add2 (Eq.refl x10_2.toInt) (by decide : ((1 : Int32)).toInt = 1) (by omega) (by omega); omega) (fun w9 hI9 hF9 => hE w9 hI9 ((FR.J hF6554 (k := 74) (j := x10_2.toInt.toNat) (v := (r6551 * (1000 : Int64))) rfl).tr hF9 rfl) ) (fun w9 hI9 hF9 q0 => q0.elim)
            · have o6558 : 0 ≤ x10_2.toInt ∧ x10_2.toInt < 40 := by have := bd_62_10 hI; have := (by decide : ((0 : Int32)).toInt = 0); omega
              refine ⟨o6558, ?_⟩
              have o6559 : (0 ≤ (x10_2 + (1 : Int32)).toInt) ∧ ((x10_2 + (1 : Int32)).toInt ≤ 40) := by have := bd_62_10 hI; have := (by decide : ((0 : Int32)).toInt = 0); have := ti_add2 (Eq.refl x10_2.toInt) (by decide : ((1 : Int32)).toInt = 1) (by omega) (by omega); exact ⟨by omega, by omega⟩
              exact ih _ (sJ w6548 74 x10_2.toInt.toNat (-1)) (bnd_J hI6549 (k := 74) (j := x10_2.toInt.toNat) (v := (-1))) ((hL6550 7 0 rfl).2.2.trans hr_7_0) o6559.1 o6559.2 (by have := bd_62_10 hI; have := (by decide : ((0 : Int32)).toInt = 0); have := ti_add2 (Eq.refl x10_2.toInt) (by decide : ((1 : Int32)).toInt = 1) (by omega) (by omega); omega) (fun w9 hI9 hF9 => hE w9 hI9 ((FR.J hF6554 (k := 74) (j := x10_2.toInt.toNat) (v := (-1)) rfl).tr hF9 rfl) ) (fun w9 hI9 hF9 q0 => q0.elim)
set_option maxRecDepth 20000 in
set_option maxHeartbeats 2000000 in
theorem hq_Bh_senseAll_76 {E : Int32 → MW → Prop} {Q : MW → Prop} (n : Nat) : ∀ (x76_2 : Int32) (x76_3 : Int32) (w : MW), BND w → w.2.2 7 0 = some 8 → 0 ≤ x76_3.toInt → x76_3.toInt ≤ 16 → (16 - x76_3.toInt).toNat < n → (∀ (e76_2 : Int32) (w' : MW), BND w' → FR l_Bh_senseAll_76 w w' → E e76_2 w') → (∀ (w' : MW), BND w' → FR l_Bh_senseAll_76 w w' → False → Q w') → q_Bh_senseAll_76 E Q n x76_2 x76_3 w := by
  induction n with
  | zero => intros; omega
  | succ n ih =>
    intro x76_2 x76_3 w hI hr_7_0 hp0 hp1 hm hE hQ
    rw [q_Bh_senseAll_76.eq_2]
    refine ⟨fun h6560 => ?_, fun h6560 => ?_⟩
    · exact hE _ _ hI (FR.refl _ w)
    · have o6561 : 0 ≤ x76_3.toInt ∧ x76_3.toInt < 16 := by have := (by decide : ((16 : Int32)).toInt = 16); omega
      refine ⟨o6561, ?_⟩
      refine ⟨fun h6562 => ?_, fun h6562 => ?_⟩
      · have o6563 : (0 ≤ (x76_3 + (1 : Int32)).toInt) ∧ ((x76_3 + (1 : Int32)).toInt ≤ 16) := by have := ti_lo x76_2; have := ti_hi x76_2; have := (by decide : ((16 : Int32)).toInt = 16); have := ti_add2 (Eq.refl x76_3.toInt) (by decide : ((1 : Int32)).toInt = 1) (by omega) (by omega); exact ⟨by omega, by omega⟩
        exact ih _ _ w hI hr_7_0 o6563.1 o6563.2 (by have := ti_lo x76_2; have := ti_hi x76_2; have := (by decide : ((16 : Int32)).toInt = 16); have := ti_add2 (Eq.refl x76_3.toInt) (by decide : ((1 : Int32)).toInt = 1) (by omega) (by omega); omega) (fun e0 w9 hI9 hF9 => hE e0 w9 hI9 ((FR.refl _ w).tr hF9 rfl) ) (fun w9 hI9 hF9 q0 => q0.elim)
      · have o6564 : 0 ≤ x76_3.toInt ∧ x76_3.toInt < 16 := by have := (by decide : ((16 : Int32)).toInt = 16); omega
        refine ⟨o6564, ?_⟩
        have o6565 : 0 ≤ x76_3.toInt ∧ x76_3.toInt < 16 := by have := (by decide : ((16 : Int32)).toInt = 16); omega
        refine ⟨o6565, ?_⟩
        have o6566 : (0 ≤ (w.1 126 x76_3.toInt.toNat).toInt) ∧ ((w.1 126 x76_3.toInt.toNat).toInt ≤ 4) := by have := bd_126 hI x76_3.toInt.toNat; have := (by decide : ((5 : Int32)).toInt = 5); exact ⟨by omega, by omega⟩
        refine h_Bh_sensed hI hr_7_0 o6566.1 o6566.2 (fun r6570 w6567 hI6568 hL6569 p6571 p6572 => ?_)
        have hF6573 : FR l_Bh_senseAll_76 w w6567 := (FR.refl _ w).tr hL6569 rfl
        refine ⟨fun h6574 => ?_, fun h6574 => ?_⟩
        · have o6575 : (0 ≤ (x76_3 + (1 : Int32)).toInt) ∧ ((x76_3 + (1 : Int32)).toInt ≤ 16) := by have := ti_lo (x76_2 ||| (0 : Int32)); have := ti_hi (x76_2 ||| (0 : Int32)); have := ti_lo x76_2; have := ti_hi x76_2; have := (by decide : ((16 : Int32)).toInt = 16); have := ti_add2 (Eq.refl x76_3.toInt) (by decide : ((1 : Int32)).toInt = 1) (by omega) (by omega); exact ⟨by omega, by omega⟩
          exact ih _ _ w6567 hI6568 ((hL6569 7 0 rfl).2.2.trans hr_7_0) o6575.1 o6575.2 (by have := ti_lo (x76_2 ||| (0 : Int32)); have := ti_hi (x76_2 ||| (0 : Int32)); have := ti_lo x76_2; have := ti_hi x76_2; have := (by decide : ((16 : Int32)).toInt = 16); have := ti_add2 (Eq.refl x76_3.toInt) (by decide : ((1 : Int32)).toInt = 1) (by omega) (by omega); omega) (fun e0 w9 hI9 hF9 => hE e0 w9 hI9 (hF6573.tr hF9 rfl) ) (fun w9 hI9 hF9 q0 => q0.elim)
        · have o6576 : 0 ≤ x76_3.toInt ∧ x76_3.toInt < 16 := by have := (by decide : ((16 : Int32)).toInt = 16); omega
          refine ⟨o6576, ?_⟩
          refine ⟨fun h6577 => ?_, fun h6577 => ?_⟩
          · have o6578 : (0 ≤ (x76_3 + (1 : Int32)).toInt) ∧ ((x76_3 + (1 : Int32)).toInt ≤ 16) := by have := ti_lo (x76_2 ||| (0 : Int32)); have := ti_hi (x76_2 ||| (0 : Int32)); have := ti_lo x76_2; have := ti_hi x76_2; have := (by decide : ((16 : Int32)).toInt = 16); have := ti_add2 (Eq.refl x76_3.toInt) (by decide : ((1 : Int32)).toInt = 1) (by omega) (by omega); exact ⟨by omega, by omega⟩
            exact ih _ _ w6567 hI6568 ((hL6569 7 0 rfl).2.2.trans hr_7_0) o6578.1 o6578.2 (by have := ti_lo (x76_2 ||| (0 : Int32)); have := ti_hi (x76_2 ||| (0 : Int32)); have := ti_lo x76_2; have := ti_hi x76_2; have := (by decide : ((16 : Int32)).toInt = 16); have := ti_add2 (Eq.refl x76_3.toInt) (by decide : ((1 : Int32)).toInt = 1) (by omega) (by omega); omega) (fun e0 w9 hI9 hF9 => hE e0 w9 hI9 (hF6573.tr hF9 rfl) ) (fun w9 hI9 hF9 q0 => q0.elim)
          · have o6579 : (0 ≤ (x76_3 + (1 : Int32)).toInt) ∧ ((x76_3 + (1 : Int32)).toInt ≤ 16) := by have := ti_lo (x76_2 ||| ((1 : Int32) <<< (x76_3 &&& 31))); have := ti_hi (x76_2 ||| ((1 : Int32) <<< (x76_3 &&& 31))); have := ti_lo x76_2; have := ti_hi x76_2; have := ti_lo ((1 : Int32) <<< (x76_3 &&& 31)); have := ti_hi ((1 : Int32) <<< (x76_3 &&& 31)); have := (by decide : ((16 : Int32)).toInt = 16); have := ti_add2 (Eq.refl x76_3.toInt) (by decide : ((1 : Int32)).toInt = 1) (by omega) (by omega); exact ⟨by omega, by omega⟩
            exact ih _ _ w6567 hI6568 ((hL6569 7 0 rfl).2.2.trans hr_7_0) o6579.1 o6579.2 (by have := ti_lo (x76_2 ||| ((1 : Int32) <<< (x76_3 &&& 31))); have := ti_hi (x76_2 ||| ((1 : Int32) <<< (x76_3 &&& 31))); have := ti_lo x76_2; have := ti_hi x76_2; have := ti_lo ((1 : Int32) <<< (x76_3 &&& 31)); have := ti_hi ((1 : Int32) <<< (x76_3 &&& 31)); have := (by decide : ((16 : Int32)).toInt = 16); have := ti_add2 (Eq.refl x76_3.toInt) (by decide : ((1 : Int32)).toInt = 1) (by omega) (by omega); omega) (fun e0 w9 hI9 hF9 => hE e0 w9 hI9 (hF6573.tr hF9 rfl) ) (fun w9 hI9 hF9 q0 => q0.elim)
set_option maxRecDepth 20000 in
set_option maxHeartbeats 2000000 in
theorem h_Bh_senseAll {w : MW} {Q : MW → Prop} (hI : BND w) (hr_47_3 : w.2.2 47 3 = some 48) (hr_61_3 : w.2.2 61 3 = some 62) (hr_7_0 : w.2.2 7 0 = some 8)  (hQ : ∀ (w' : MW), BND w' → FR l_Bh_senseAll w w' → Q w') : p_Bh_senseAll w Q := by
  refine Eq.mpr (p_Bh_senseAll.eq_1 _ _) ?_
  refine ⟨hr_61_3, ?_⟩
  have o6580 : (0 ≤ (0 : Int32).toInt) ∧ ((0 : Int32).toInt ≤ 40) := by have := (by decide : ((0 : Int32)).toInt = 0); exact ⟨by omega, by omega⟩
  refine hq_Bh_senseAll_10 FU _ w hI hr_7_0 o6580.1 o6580.2 (fu_lt (by have := (by decide : ((0 : Int32)).toInt = 0); omega)) (fun w6581 hI6582 hL6583  => ?_) (fun w9 hI9 hF9 q0 => q0.elim)
  have hF6584 : FR l_Bh_senseAll w w6581 := (FR.refl _ w).tr hL6583 rfl
  have o6585 : (0 ≤ (0 : Int32).toInt) ∧ ((0 : Int32).toInt ≤ 16) := by have := (by decide : ((0 : Int32)).toInt = 0); exact ⟨by omega, by omega⟩
  refine hq_Bh_senseAll_76 FU _ _ w6581 hI6582 ((hL6583 7 0 rfl).2.2.trans hr_7_0) o6585.1 o6585.2 (fu_lt (by have := (by decide : ((0 : Int32)).toInt = 0); omega)) (fun e6589 w6586 hI6587 hL6588  => ?_) (fun w9 hI9 hF9 q0 => q0.elim)
  have hF6590 : FR l_Bh_senseAll w w6586 := hF6584.tr hL6588 rfl
  refine ⟨((hL6588 47 3 rfl).2.2.trans ((hL6583 47 3 rfl).2.2.trans hr_47_3)), ?_⟩
  have hI6591 : BND (sI w6586 48 1 e6589) := wbd_48_1 hI6587
  exact hQ _ hI6591 (FR.I hF6590 (k := 48) (j := 1) (v := e6589) rfl) 
def l_Ro_countSecond_78 : Pl := [(51, none)]
def l_Ro_countSecond_42 : Pl := [(49, none), (50, none), (51, none)]
def l_Ro_countSecond_2 : Pl := [(49, none), (50, none), (51, none)]
def l_Ro_countSecond : Pl := [(49, none), (50, none), (51, none)]
set_option maxRecDepth 20000 in
set_option maxHeartbeats 2000000 in
theorem hq_Ro_countSecond_2 {E : MW → Prop} {Q : MW → Prop} (n : Nat) : ∀ (x2_1 : Int32) (w : MW), BND w → 0 ≤ x2_1.toInt → x2_1.toInt ≤ 40 → (40 - x2_1.toInt).toNat < n → (∀ (w' : MW), BND w' → FR l_Ro_countSecond_2 w w' → E w') → (∀ (w' : MW), BND w' → FR l_Ro_countSecond_2 w w' → False → Q w') → q_Ro_countSecond_2 E Q n x2_1 w := by
  induction n with
  | zero => intros; omega
  | succ n ih =>
    intro x2_1 w hI  hp0 hp1 hm hE hQ
    rw [q_Ro_countSecond_2.eq_2]
    refine ⟨fun h6592 => ?_, fun h6592 => ?_⟩
    · exact hE _ hI (FR.refl _ w)
    · have o6593 : (0 ≤ x2_1.toInt) ∧ (x2_1.toInt ≤ 39) := by have := bd_48_0 hI; exact ⟨by omega, by omega⟩
      refine h_Ro_isOn hI  o6593.1 o6593.2 (fun r6597 w6594 hI6595 hL6596 p6598 p6599 => ?_)
      have hF6600 : FR l_Ro_countSecond_2 w w6594 := (FR.refl _ w).tr hL6596 rfl
      refine ⟨fun h6601 => ?_, fun h6601 => ?_⟩
      · refine Eq.mpr (q_Ro_countSecond_42.eq_1 _ _ _ _ _ _ _ _) ?_
        have o6602 : 0 ≤ x2_1.toInt ∧ x2_1.toInt < 40 := by have := bd_48_0 hI; omega
        refine ⟨o6602, ?_⟩
        have o6603 : 0 ≤ x2_1.toInt ∧ x2_1.toInt < 40 := by have := bd_48_0 hI; omega
        refine ⟨o6603, ?_⟩
        refine ⟨fun h6604 => ?_, fun h6604 => ?_⟩
        · refine Eq.mpr (q_Ro_countSecond_78.eq_1 _ _ _ _ _) ?_
          have o6605 : 0 ≤ x2_1.toInt ∧ x2_1.toInt < 40 := by have := bd_48_0 hI; omega
          refine ⟨o6605, ?_⟩
          refine ⟨fun h6606 => ?_, fun h6606 => ?_⟩
          · have hI6607 : BND (sI w6594 49 x2_1.toInt.toNat 0) := wbd_49 hI6595 x2_1.toInt.toNat (by decide) (by decide)
            have o6608 : (0 ≤ (x2_1 + (1 : Int32)).toInt) ∧ ((x2_1 + (1 : Int32)).toInt ≤ 40) := by have := bd_48_0 hI; have := ti_add2 (Eq.refl x2_1.toInt) (by decide : ((1 : Int32)).toInt = 1) (by omega) (by omega); exact ⟨by omega, by omega⟩
            exact ih _ (sI w6594 49 x2_1.toInt.toNat 0) hI6607  o6608.1 o6608.2 (by have := bd_48_0 hI; have := ti_add2 (Eq.refl x2_1.toInt) (by decide : ((1 : Int32)).toInt = 1) (by omega) (by omega); omega) (fun w9 hI9 hF9 => hE w9 hI9 ((FR.I hF6600 (k := 49) (j := x2_1.toInt.toNat) (v := 0) rfl).tr hF9 rfl) ) (fun w9 hI9 hF9 q0 => q0.elim)
          · have o6609 : 0 ≤ x2_1.toInt ∧ x2_1.toInt < 40 := by have := bd_48_0 hI; omega
            refine ⟨o6609, ?_⟩
            have o6610 : 0 ≤ x2_1.toInt ∧ x2_1.toInt < 40 := by have := bd_48_0 hI; omega
            refine ⟨o6610, ?_⟩
            have hI6611 : BND (sI w6594 49 x2_1.toInt.toNat 0) := wbd_49 hI6595 x2_1.toInt.toNat (by decide) (by decide)
            have o6613 : 0 ≤ (((sI w6594 49 x2_1.toInt.toNat 0).1 51 x2_1.toInt.toNat) - (1 : Int32)).toInt ∧ (((sI w6594 49 x2_1.toInt.toNat 0).1 51 x2_1.toInt.toNat) - (1 : Int32)).toInt ≤ 3600 := by have := bd_51 hI6595 x2_1.toInt.toNat; have := bd_51 hI x2_1.toInt.toNat; have := (congrArg Int32.toInt (hL6596 51 x2_1.toInt.toNat rfl).1); have : ((sI w6594 49 x2_1.toInt.toNat 0).1 51 x2_1.toInt.toNat).toInt = (w6594.1 51 x2_1.toInt.toNat).toInt := rfl; have := (by decide : ((0 : Int32)).toInt = 0); have := ti_sub2 (Eq.refl ((sI w6594 49 x2_1.toInt.toNat 0).1 51 x2_1.toInt.toNat).toInt) (by decide : ((1 : Int32)).toInt = 1) (by omega) (by omega); omega
            have hI6612 : BND (sI (sI w6594 49 x2_1.toInt.toNat 0) 51 x2_1.toInt.toNat (((sI w6594 49 x2_1.toInt.toNat 0).1 51 x2_1.toInt.toNat) - (1 : Int32))) := wbd_51 hI6611 x2_1.toInt.toNat o6613.1 o6613.2
            have o6614 : (0 ≤ (x2_1 + (1 : Int32)).toInt) ∧ ((x2_1 + (1 : Int32)).toInt ≤ 40) := by have := bd_48_0 hI; have := ti_add2 (Eq.refl x2_1.toInt) (by decide : ((1 : Int32)).toInt = 1) (by omega) (by omega); exact ⟨by omega, by omega⟩
            exact ih _ (sI (sI w6594 49 x2_1.toInt.toNat 0) 51 x2_1.toInt.toNat (((sI w6594 49 x2_1.toInt.toNat 0).1 51 x2_1.toInt.toNat) - (1 : Int32))) hI6612  o6614.1 o6614.2 (by have := bd_48_0 hI; have := ti_add2 (Eq.refl x2_1.toInt) (by decide : ((1 : Int32)).toInt = 1) (by omega) (by omega); omega) (fun w9 hI9 hF9 => hE w9 hI9 ((FR.I (FR.I hF6600 (k := 49) (j := x2_1.toInt.toNat) (v := 0) rfl) (k := 51) (j := x2_1.toInt.toNat) (v := (((sI w6594 49 x2_1.toInt.toNat 0).1 51 x2_1.toInt.toNat) - (1 : Int32))) rfl).tr hF9 rfl) ) (fun w9 hI9 hF9 q0 => q0.elim)
        · refine ⟨fun _ => ?_, fun h => absurd h6601 h⟩
          refine Eq.mpr (q_Ro_countSecond_78.eq_1 _ _ _ _ _) ?_
          have o6615 : 0 ≤ x2_1.toInt ∧ x2_1.toInt < 40 := by have := bd_48_0 hI; omega
          refine ⟨o6615, ?_⟩
          refine ⟨fun h6616 => ?_, fun h6616 => ?_⟩
          · have hI6617 : BND (sI w6594 49 x2_1.toInt.toNat 0) := wbd_49 hI6595 x2_1.toInt.toNat (by decide) (by decide)
            have o6618 : (0 ≤ (x2_1 + (1 : Int32)).toInt) ∧ ((x2_1 + (1 : Int32)).toInt ≤ 40) := by have := bd_48_0 hI; have := ti_add2 (Eq.refl x2_1.toInt) (by decide : ((1 : Int32)).toInt = 1) (by omega) (by omega); exact ⟨by omega, by omega⟩
            exact ih _ (sI w6594 49 x2_1.toInt.toNat 0) hI6617  o6618.1 o6618.2 (by have := bd_48_0 hI; have := ti_add2 (Eq.refl x2_1.toInt) (by decide : ((1 : Int32)).toInt = 1) (by omega) (by omega); omega) (fun w9 hI9 hF9 => hE w9 hI9 ((FR.I hF6600 (k := 49) (j := x2_1.toInt.toNat) (v := 0) rfl).tr hF9 rfl) ) (fun w9 hI9 hF9 q0 => q0.elim)
          · have o6619 : 0 ≤ x2_1.toInt ∧ x2_1.toInt < 40 := by have := bd_48_0 hI; omega
            refine ⟨o6619, ?_⟩
            have o6620 : 0 ≤ x2_1.toInt ∧ x2_1.toInt < 40 := by have := bd_48_0 hI; omega
            refine ⟨o6620, ?_⟩
            have hI6621 : BND (sI w6594 49 x2_1.toInt.toNat 0) := wbd_49 hI6595 x2_1.toInt.toNat (by decide) (by decide)
            have o6623 : 0 ≤ (((sI w6594 49 x2_1.toInt.toNat 0).1 51 x2_1.toInt.toNat) - (1 : Int32)).toInt ∧ (((sI w6594 49 x2_1.toInt.toNat 0).1 51 x2_1.toInt.toNat) - (1 : Int32)).toInt ≤ 3600 := by have := bd_51 hI6595 x2_1.toInt.toNat; have := bd_51 hI x2_1.toInt.toNat; have := (congrArg Int32.toInt (hL6596 51 x2_1.toInt.toNat rfl).1); have : ((sI w6594 49 x2_1.toInt.toNat 0).1 51 x2_1.toInt.toNat).toInt = (w6594.1 51 x2_1.toInt.toNat).toInt := rfl; have := (by decide : ((0 : Int32)).toInt = 0); have := ti_sub2 (Eq.refl ((sI w6594 49 x2_1.toInt.toNat 0).1 51 x2_1.toInt.toNat).toInt) (by decide : ((1 : Int32)).toInt = 1) (by omega) (by omega); omega
            have hI6622 : BND (sI (sI w6594 49 x2_1.toInt.toNat 0) 51 x2_1.toInt.toNat (((sI w6594 49 x2_1.toInt.toNat 0).1 51 x2_1.toInt.toNat) - (1 : Int32))) := wbd_51 hI6621 x2_1.toInt.toNat o6623.1 o6623.2
            have o6624 : (0 ≤ (x2_1 + (1 : Int32)).toInt) ∧ ((x2_1 + (1 : Int32)).toInt ≤ 40) := by have := bd_48_0 hI; have := ti_add2 (Eq.refl x2_1.toInt) (by decide : ((1 : Int32)).toInt = 1) (by omega) (by omega); exact ⟨by omega, by omega⟩
            exact ih _ (sI (sI w6594 49 x2_1.toInt.toNat 0) 51 x2_1.toInt.toNat (((sI w6594 49 x2_1.toInt.toNat 0).1 51 x2_1.toInt.toNat) - (1 : Int32))) hI6622  o6624.1 o6624.2 (by have := bd_48_0 hI; have := ti_add2 (Eq.refl x2_1.toInt) (by decide : ((1 : Int32)).toInt = 1) (by omega) (by omega); omega) (fun w9 hI9 hF9 => hE w9 hI9 ((FR.I (FR.I hF6600 (k := 49) (j := x2_1.toInt.toNat) (v := 0) rfl) (k := 51) (j := x2_1.toInt.toNat) (v := (((sI w6594 49 x2_1.toInt.toNat 0).1 51 x2_1.toInt.toNat) - (1 : Int32))) rfl).tr hF9 rfl) ) (fun w9 hI9 hF9 q0 => q0.elim)
      · have o6625 : 0 ≤ x2_1.toInt ∧ x2_1.toInt < 40 := by have := bd_48_0 hI; omega
        refine ⟨o6625, ?_⟩
        refine Eq.mpr (p_Ma_min.eq_1 _ _ _ _) ?_
        refine ⟨fun h6626 => ?_, fun h6626 => ?_⟩
        · replace h6626 : 1000000 < ((w6594.1 49 x2_1.toInt.toNat) + (1 : Int32)).toInt := h6626
          refine Eq.mpr (q_Ro_countSecond_42.eq_1 _ _ _ _ _ _ _ _) ?_
          have o6627 : 0 ≤ x2_1.toInt ∧ x2_1.toInt < 40 := by have := bd_48_0 hI; omega
          refine ⟨o6627, ?_⟩
          have o6628 : 0 ≤ x2_1.toInt ∧ x2_1.toInt < 40 := by have := bd_48_0 hI; omega
          refine ⟨o6628, ?_⟩
          refine ⟨fun h6629 => ?_, fun h6629 => ?_⟩
          · refine Eq.mpr (q_Ro_countSecond_78.eq_1 _ _ _ _ _) ?_
            have o6630 : 0 ≤ x2_1.toInt ∧ x2_1.toInt < 40 := by have := bd_48_0 hI; omega
            refine ⟨o6630, ?_⟩
            refine ⟨fun h6631 => ?_, fun h6631 => ?_⟩
            · have hI6632 : BND (sI w6594 49 x2_1.toInt.toNat 1000000) := wbd_49 hI6595 x2_1.toInt.toNat (by decide) (by decide)
              have o6633 : (0 ≤ (x2_1 + (1 : Int32)).toInt) ∧ ((x2_1 + (1 : Int32)).toInt ≤ 40) := by have := bd_48_0 hI; have := ti_add2 (Eq.refl x2_1.toInt) (by decide : ((1 : Int32)).toInt = 1) (by omega) (by omega); exact ⟨by omega, by omega⟩
              exact ih _ (sI w6594 49 x2_1.toInt.toNat 1000000) hI6632  o6633.1 o6633.2 (by have := bd_48_0 hI; have := ti_add2 (Eq.refl x2_1.toInt) (by decide : ((1 : Int32)).toInt = 1) (by omega) (by omega); omega) (fun w9 hI9 hF9 => hE w9 hI9 ((FR.I hF6600 (k := 49) (j := x2_1.toInt.toNat) (v := 1000000) rfl).tr hF9 rfl) ) (fun w9 hI9 hF9 q0 => q0.elim)
            · have o6634 : 0 ≤ x2_1.toInt ∧ x2_1.toInt < 40 := by have := bd_48_0 hI; omega
              refine ⟨o6634, ?_⟩
              have o6635 : 0 ≤ x2_1.toInt ∧ x2_1.toInt < 40 := by have := bd_48_0 hI; omega
              refine ⟨o6635, ?_⟩
              have hI6636 : BND (sI w6594 49 x2_1.toInt.toNat 1000000) := wbd_49 hI6595 x2_1.toInt.toNat (by decide) (by decide)
              have o6638 : 0 ≤ (((sI w6594 49 x2_1.toInt.toNat 1000000).1 51 x2_1.toInt.toNat) - (1 : Int32)).toInt ∧ (((sI w6594 49 x2_1.toInt.toNat 1000000).1 51 x2_1.toInt.toNat) - (1 : Int32)).toInt ≤ 3600 := by have := bd_51 hI6595 x2_1.toInt.toNat; have := bd_51 hI x2_1.toInt.toNat; have := (congrArg Int32.toInt (hL6596 51 x2_1.toInt.toNat rfl).1); have : ((sI w6594 49 x2_1.toInt.toNat 1000000).1 51 x2_1.toInt.toNat).toInt = (w6594.1 51 x2_1.toInt.toNat).toInt := rfl; have := (by decide : ((0 : Int32)).toInt = 0); have := ti_sub2 (Eq.refl ((sI w6594 49 x2_1.toInt.toNat 1000000).1 51 x2_1.toInt.toNat).toInt) (by decide : ((1 : Int32)).toInt = 1) (by omega) (by omega); omega
              have hI6637 : BND (sI (sI w6594 49 x2_1.toInt.toNat 1000000) 51 x2_1.toInt.toNat (((sI w6594 49 x2_1.toInt.toNat 1000000).1 51 x2_1.toInt.toNat) - (1 : Int32))) := wbd_51 hI6636 x2_1.toInt.toNat o6638.1 o6638.2
              have o6639 : (0 ≤ (x2_1 + (1 : Int32)).toInt) ∧ ((x2_1 + (1 : Int32)).toInt ≤ 40) := by have := bd_48_0 hI; have := ti_add2 (Eq.refl x2_1.toInt) (by decide : ((1 : Int32)).toInt = 1) (by omega) (by omega); exact ⟨by omega, by omega⟩
              exact ih _ (sI (sI w6594 49 x2_1.toInt.toNat 1000000) 51 x2_1.toInt.toNat (((sI w6594 49 x2_1.toInt.toNat 1000000).1 51 x2_1.toInt.toNat) - (1 : Int32))) hI6637  o6639.1 o6639.2 (by have := bd_48_0 hI; have := ti_add2 (Eq.refl x2_1.toInt) (by decide : ((1 : Int32)).toInt = 1) (by omega) (by omega); omega) (fun w9 hI9 hF9 => hE w9 hI9 ((FR.I (FR.I hF6600 (k := 49) (j := x2_1.toInt.toNat) (v := 1000000) rfl) (k := 51) (j := x2_1.toInt.toNat) (v := (((sI w6594 49 x2_1.toInt.toNat 1000000).1 51 x2_1.toInt.toNat) - (1 : Int32))) rfl).tr hF9 rfl) ) (fun w9 hI9 hF9 q0 => q0.elim)
          · refine ⟨fun h => absurd h h6601, fun _ => ?_⟩
            have o6640 : 0 ≤ x2_1.toInt ∧ x2_1.toInt < 40 := by have := bd_48_0 hI; omega
            refine ⟨o6640, ?_⟩
            have o6641 : 0 ≤ x2_1.toInt ∧ x2_1.toInt < 40 := by have := bd_48_0 hI; omega
            refine ⟨o6641, ?_⟩
            refine ⟨fun h6642 => ?_, fun h6642 => ?_⟩
            · refine Eq.mpr (q_Ro_countSecond_78.eq_1 _ _ _ _ _) ?_
              have o6643 : 0 ≤ x2_1.toInt ∧ x2_1.toInt < 40 := by have := bd_48_0 hI; omega
              refine ⟨o6643, ?_⟩
              refine ⟨fun h6644 => ?_, fun h6644 => ?_⟩
              · have hI6645 : BND (sI w6594 49 x2_1.toInt.toNat 1000000) := wbd_49 hI6595 x2_1.toInt.toNat (by decide) (by decide)
                have o6646 : (0 ≤ (x2_1 + (1 : Int32)).toInt) ∧ ((x2_1 + (1 : Int32)).toInt ≤ 40) := by have := bd_48_0 hI; have := ti_add2 (Eq.refl x2_1.toInt) (by decide : ((1 : Int32)).toInt = 1) (by omega) (by omega); exact ⟨by omega, by omega⟩
                exact ih _ (sI w6594 49 x2_1.toInt.toNat 1000000) hI6645  o6646.1 o6646.2 (by have := bd_48_0 hI; have := ti_add2 (Eq.refl x2_1.toInt) (by decide : ((1 : Int32)).toInt = 1) (by omega) (by omega); omega) (fun w9 hI9 hF9 => hE w9 hI9 ((FR.I hF6600 (k := 49) (j := x2_1.toInt.toNat) (v := 1000000) rfl).tr hF9 rfl) ) (fun w9 hI9 hF9 q0 => q0.elim)
              · have o6647 : 0 ≤ x2_1.toInt ∧ x2_1.toInt < 40 := by have := bd_48_0 hI; omega
                refine ⟨o6647, ?_⟩
                have o6648 : 0 ≤ x2_1.toInt ∧ x2_1.toInt < 40 := by have := bd_48_0 hI; omega
                refine ⟨o6648, ?_⟩
                have hI6649 : BND (sI w6594 49 x2_1.toInt.toNat 1000000) := wbd_49 hI6595 x2_1.toInt.toNat (by decide) (by decide)
                have o6651 : 0 ≤ (((sI w6594 49 x2_1.toInt.toNat 1000000).1 51 x2_1.toInt.toNat) - (1 : Int32)).toInt ∧ (((sI w6594 49 x2_1.toInt.toNat 1000000).1 51 x2_1.toInt.toNat) - (1 : Int32)).toInt ≤ 3600 := by have := bd_51 hI6595 x2_1.toInt.toNat; have := bd_51 hI x2_1.toInt.toNat; have := (congrArg Int32.toInt (hL6596 51 x2_1.toInt.toNat rfl).1); have : ((sI w6594 49 x2_1.toInt.toNat 1000000).1 51 x2_1.toInt.toNat).toInt = (w6594.1 51 x2_1.toInt.toNat).toInt := rfl; have := (by decide : ((0 : Int32)).toInt = 0); have := ti_sub2 (Eq.refl ((sI w6594 49 x2_1.toInt.toNat 1000000).1 51 x2_1.toInt.toNat).toInt) (by decide : ((1 : Int32)).toInt = 1) (by omega) (by omega); omega
                have hI6650 : BND (sI (sI w6594 49 x2_1.toInt.toNat 1000000) 51 x2_1.toInt.toNat (((sI w6594 49 x2_1.toInt.toNat 1000000).1 51 x2_1.toInt.toNat) - (1 : Int32))) := wbd_51 hI6649 x2_1.toInt.toNat o6651.1 o6651.2
                have o6652 : (0 ≤ (x2_1 + (1 : Int32)).toInt) ∧ ((x2_1 + (1 : Int32)).toInt ≤ 40) := by have := bd_48_0 hI; have := ti_add2 (Eq.refl x2_1.toInt) (by decide : ((1 : Int32)).toInt = 1) (by omega) (by omega); exact ⟨by omega, by omega⟩
                exact ih _ (sI (sI w6594 49 x2_1.toInt.toNat 1000000) 51 x2_1.toInt.toNat (((sI w6594 49 x2_1.toInt.toNat 1000000).1 51 x2_1.toInt.toNat) - (1 : Int32))) hI6650  o6652.1 o6652.2 (by have := bd_48_0 hI; have := ti_add2 (Eq.refl x2_1.toInt) (by decide : ((1 : Int32)).toInt = 1) (by omega) (by omega); omega) (fun w9 hI9 hF9 => hE w9 hI9 ((FR.I (FR.I hF6600 (k := 49) (j := x2_1.toInt.toNat) (v := 1000000) rfl) (k := 51) (j := x2_1.toInt.toNat) (v := (((sI w6594 49 x2_1.toInt.toNat 1000000).1 51 x2_1.toInt.toNat) - (1 : Int32))) rfl).tr hF9 rfl) ) (fun w9 hI9 hF9 q0 => q0.elim)
            · have o6653 : 0 ≤ x2_1.toInt ∧ x2_1.toInt < 40 := by have := bd_48_0 hI; omega
              refine ⟨o6653, ?_⟩
              refine Eq.mpr (q_Ro_countSecond_78.eq_1 _ _ _ _ _) ?_
              have o6654 : 0 ≤ x2_1.toInt ∧ x2_1.toInt < 40 := by have := bd_48_0 hI; omega
              refine ⟨o6654, ?_⟩
              refine ⟨fun h6655 => ?_, fun h6655 => ?_⟩
              · have hI6656 : BND (sI w6594 49 x2_1.toInt.toNat 1000000) := wbd_49 hI6595 x2_1.toInt.toNat (by decide) (by decide)
                have o6658 : 0 ≤ (vp_nar .boolean (1 : Int32)).toInt ∧ (vp_nar .boolean (1 : Int32)).toInt ≤ 1 := by have := nb_bool1; omega
                have hI6657 : BND (sI (sI w6594 49 x2_1.toInt.toNat 1000000) 50 x2_1.toInt.toNat (vp_nar .boolean (1 : Int32))) := wbd_50 hI6656 x2_1.toInt.toNat o6658.1 o6658.2
                have o6659 : (0 ≤ (x2_1 + (1 : Int32)).toInt) ∧ ((x2_1 + (1 : Int32)).toInt ≤ 40) := by have := bd_48_0 hI; have := ti_add2 (Eq.refl x2_1.toInt) (by decide : ((1 : Int32)).toInt = 1) (by omega) (by omega); exact ⟨by omega, by omega⟩
                exact ih _ (sI (sI w6594 49 x2_1.toInt.toNat 1000000) 50 x2_1.toInt.toNat (vp_nar .boolean (1 : Int32))) hI6657  o6659.1 o6659.2 (by have := bd_48_0 hI; have := ti_add2 (Eq.refl x2_1.toInt) (by decide : ((1 : Int32)).toInt = 1) (by omega) (by omega); omega) (fun w9 hI9 hF9 => hE w9 hI9 ((FR.I (FR.I hF6600 (k := 49) (j := x2_1.toInt.toNat) (v := 1000000) rfl) (k := 50) (j := x2_1.toInt.toNat) (v := (vp_nar .boolean (1 : Int32))) rfl).tr hF9 rfl) ) (fun w9 hI9 hF9 q0 => q0.elim)
              · have o6660 : 0 ≤ x2_1.toInt ∧ x2_1.toInt < 40 := by have := bd_48_0 hI; omega
                refine ⟨o6660, ?_⟩
                have o6661 : 0 ≤ x2_1.toInt ∧ x2_1.toInt < 40 := by have := bd_48_0 hI; omega
                refine ⟨o6661, ?_⟩
                have hI6662 : BND (sI w6594 49 x2_1.toInt.toNat 1000000) := wbd_49 hI6595 x2_1.toInt.toNat (by decide) (by decide)
                have o6664 : 0 ≤ (vp_nar .boolean (1 : Int32)).toInt ∧ (vp_nar .boolean (1 : Int32)).toInt ≤ 1 := by have := nb_bool1; omega
                have hI6663 : BND (sI (sI w6594 49 x2_1.toInt.toNat 1000000) 50 x2_1.toInt.toNat (vp_nar .boolean (1 : Int32))) := wbd_50 hI6662 x2_1.toInt.toNat o6664.1 o6664.2
                have o6666 : 0 ≤ (((sI (sI w6594 49 x2_1.toInt.toNat 1000000) 50 x2_1.toInt.toNat (vp_nar .boolean (1 : Int32))).1 51 x2_1.toInt.toNat) - (1 : Int32)).toInt ∧ (((sI (sI w6594 49 x2_1.toInt.toNat 1000000) 50 x2_1.toInt.toNat (vp_nar .boolean (1 : Int32))).1 51 x2_1.toInt.toNat) - (1 : Int32)).toInt ≤ 3600 := by have := bd_51 hI6595 x2_1.toInt.toNat; have := bd_51 hI x2_1.toInt.toNat; have := (congrArg Int32.toInt (hL6596 51 x2_1.toInt.toNat rfl).1); have : ((sI (sI w6594 49 x2_1.toInt.toNat 1000000) 50 x2_1.toInt.toNat (vp_nar .boolean (1 : Int32))).1 51 x2_1.toInt.toNat).toInt = (w6594.1 51 x2_1.toInt.toNat).toInt := rfl; have := (by decide : ((0 : Int32)).toInt = 0); have := ti_sub2 (Eq.refl ((sI (sI w6594 49 x2_1.toInt.toNat 1000000) 50 x2_1.toInt.toNat (vp_nar .boolean (1 : Int32))).1 51 x2_1.toInt.toNat).toInt) (by decide : ((1 : Int32)).toInt = 1) (by omega) (by omega); omega
                have hI6665 : BND (sI (sI (sI w6594 49 x2_1.toInt.toNat 1000000) 50 x2_1.toInt.toNat (vp_nar .boolean (1 : Int32))) 51 x2_1.toInt.toNat (((sI (sI w6594 49 x2_1.toInt.toNat 1000000) 50 x2_1.toInt.toNat (vp_nar .boolean (1 : Int32))).1 51 x2_1.toInt.toNat) - (1 : Int32))) := wbd_51 hI6663 x2_1.toInt.toNat o6666.1 o6666.2
                have o6667 : (0 ≤ (x2_1 + (1 : Int32)).toInt) ∧ ((x2_1 + (1 : Int32)).toInt ≤ 40) := by have := bd_48_0 hI; have := ti_add2 (Eq.refl x2_1.toInt) (by decide : ((1 : Int32)).toInt = 1) (by omega) (by omega); exact ⟨by omega, by omega⟩
                exact ih _ (sI (sI (sI w6594 49 x2_1.toInt.toNat 1000000) 50 x2_1.toInt.toNat (vp_nar .boolean (1 : Int32))) 51 x2_1.toInt.toNat (((sI (sI w6594 49 x2_1.toInt.toNat 1000000) 50 x2_1.toInt.toNat (vp_nar .boolean (1 : Int32))).1 51 x2_1.toInt.toNat) - (1 : Int32))) hI6665  o6667.1 o6667.2 (by have := bd_48_0 hI; have := ti_add2 (Eq.refl x2_1.toInt) (by decide : ((1 : Int32)).toInt = 1) (by omega) (by omega); omega) (fun w9 hI9 hF9 => hE w9 hI9 ((FR.I (FR.I (FR.I hF6600 (k := 49) (j := x2_1.toInt.toNat) (v := 1000000) rfl) (k := 50) (j := x2_1.toInt.toNat) (v := (vp_nar .boolean (1 : Int32))) rfl) (k := 51) (j := x2_1.toInt.toNat) (v := (((sI (sI w6594 49 x2_1.toInt.toNat 1000000) 50 x2_1.toInt.toNat (vp_nar .boolean (1 : Int32))).1 51 x2_1.toInt.toNat) - (1 : Int32))) rfl).tr hF9 rfl) ) (fun w9 hI9 hF9 q0 => q0.elim)
        · replace h6626 : ¬ (1000000 < ((w6594.1 49 x2_1.toInt.toNat) + (1 : Int32)).toInt) := h6626
          refine Eq.mpr (q_Ro_countSecond_42.eq_1 _ _ _ _ _ _ _ _) ?_
          have o6668 : 0 ≤ x2_1.toInt ∧ x2_1.toInt < 40 := by have := bd_48_0 hI; omega
          refine ⟨o6668, ?_⟩
          have o6669 : 0 ≤ x2_1.toInt ∧ x2_1.toInt < 40 := by have := bd_48_0 hI; omega
          refine ⟨o6669, ?_⟩
          refine ⟨fun h6670 => ?_, fun h6670 => ?_⟩
          · refine Eq.mpr (q_Ro_countSecond_78.eq_1 _ _ _ _ _) ?_
            have o6671 : 0 ≤ x2_1.toInt ∧ x2_1.toInt < 40 := by have := bd_48_0 hI; omega
            refine ⟨o6671, ?_⟩
            refine ⟨fun h6672 => ?_, fun h6672 => ?_⟩
            · have o6674 : 0 ≤ ((w6594.1 49 x2_1.toInt.toNat) + (1 : Int32)).toInt ∧ ((w6594.1 49 x2_1.toInt.toNat) + (1 : Int32)).toInt ≤ 1000000 := by have := bd_49 hI6595 x2_1.toInt.toNat; have := bd_49 hI x2_1.toInt.toNat; have := (congrArg Int32.toInt (hL6596 49 x2_1.toInt.toNat rfl).1); have := (by decide : ((1000000 : Int32)).toInt = 1000000); have := ti_add2 (Eq.refl (w6594.1 49 x2_1.toInt.toNat).toInt) (by decide : ((1 : Int32)).toInt = 1) (by omega) (by omega); omega
              have hI6673 : BND (sI w6594 49 x2_1.toInt.toNat ((w6594.1 49 x2_1.toInt.toNat) + (1 : Int32))) := wbd_49 hI6595 x2_1.toInt.toNat o6674.1 o6674.2
              have o6675 : (0 ≤ (x2_1 + (1 : Int32)).toInt) ∧ ((x2_1 + (1 : Int32)).toInt ≤ 40) := by have := bd_48_0 hI; have := ti_add2 (Eq.refl x2_1.toInt) (by decide : ((1 : Int32)).toInt = 1) (by omega) (by omega); exact ⟨by omega, by omega⟩
              exact ih _ (sI w6594 49 x2_1.toInt.toNat ((w6594.1 49 x2_1.toInt.toNat) + (1 : Int32))) hI6673  o6675.1 o6675.2 (by have := bd_48_0 hI; have := ti_add2 (Eq.refl x2_1.toInt) (by decide : ((1 : Int32)).toInt = 1) (by omega) (by omega); omega) (fun w9 hI9 hF9 => hE w9 hI9 ((FR.I hF6600 (k := 49) (j := x2_1.toInt.toNat) (v := ((w6594.1 49 x2_1.toInt.toNat) + (1 : Int32))) rfl).tr hF9 rfl) ) (fun w9 hI9 hF9 q0 => q0.elim)
            · have o6676 : 0 ≤ x2_1.toInt ∧ x2_1.toInt < 40 := by have := bd_48_0 hI; omega
              refine ⟨o6676, ?_⟩
              have o6677 : 0 ≤ x2_1.toInt ∧ x2_1.toInt < 40 := by have := bd_48_0 hI; omega
              refine ⟨o6677, ?_⟩
              have o6679 : 0 ≤ ((w6594.1 49 x2_1.toInt.toNat) + (1 : Int32)).toInt ∧ ((w6594.1 49 x2_1.toInt.toNat) + (1 : Int32)).toInt ≤ 1000000 := by have := bd_49 hI6595 x2_1.toInt.toNat; have := bd_49 hI x2_1.toInt.toNat; have := (congrArg Int32.toInt (hL6596 49 x2_1.toInt.toNat rfl).1); have := (by decide : ((1000000 : Int32)).toInt = 1000000); have := ti_add2 (Eq.refl (w6594.1 49 x2_1.toInt.toNat).toInt) (by decide : ((1 : Int32)).toInt = 1) (by omega) (by omega); omega
              have hI6678 : BND (sI w6594 49 x2_1.toInt.toNat ((w6594.1 49 x2_1.toInt.toNat) + (1 : Int32))) := wbd_49 hI6595 x2_1.toInt.toNat o6679.1 o6679.2
              have o6681 : 0 ≤ (((sI w6594 49 x2_1.toInt.toNat ((w6594.1 49 x2_1.toInt.toNat) + (1 : Int32))).1 51 x2_1.toInt.toNat) - (1 : Int32)).toInt ∧ (((sI w6594 49 x2_1.toInt.toNat ((w6594.1 49 x2_1.toInt.toNat) + (1 : Int32))).1 51 x2_1.toInt.toNat) - (1 : Int32)).toInt ≤ 3600 := by have := bd_51 hI6595 x2_1.toInt.toNat; have := bd_51 hI x2_1.toInt.toNat; have := (congrArg Int32.toInt (hL6596 51 x2_1.toInt.toNat rfl).1); have : ((sI w6594 49 x2_1.toInt.toNat ((w6594.1 49 x2_1.toInt.toNat) + (1 : Int32))).1 51 x2_1.toInt.toNat).toInt = (w6594.1 51 x2_1.toInt.toNat).toInt := rfl; have := (by decide : ((0 : Int32)).toInt = 0); have := ti_sub2 (Eq.refl ((sI w6594 49 x2_1.toInt.toNat ((w6594.1 49 x2_1.toInt.toNat) + (1 : Int32))).1 51 x2_1.toInt.toNat).toInt) (by decide : ((1 : Int32)).toInt = 1) (by omega) (by omega); omega
              have hI6680 : BND (sI (sI w6594 49 x2_1.toInt.toNat ((w6594.1 49 x2_1.toInt.toNat) + (1 : Int32))) 51 x2_1.toInt.toNat (((sI w6594 49 x2_1.toInt.toNat ((w6594.1 49 x2_1.toInt.toNat) + (1 : Int32))).1 51 x2_1.toInt.toNat) - (1 : Int32))) := wbd_51 hI6678 x2_1.toInt.toNat o6681.1 o6681.2
              have o6682 : (0 ≤ (x2_1 + (1 : Int32)).toInt) ∧ ((x2_1 + (1 : Int32)).toInt ≤ 40) := by have := bd_48_0 hI; have := ti_add2 (Eq.refl x2_1.toInt) (by decide : ((1 : Int32)).toInt = 1) (by omega) (by omega); exact ⟨by omega, by omega⟩
              exact ih _ (sI (sI w6594 49 x2_1.toInt.toNat ((w6594.1 49 x2_1.toInt.toNat) + (1 : Int32))) 51 x2_1.toInt.toNat (((sI w6594 49 x2_1.toInt.toNat ((w6594.1 49 x2_1.toInt.toNat) + (1 : Int32))).1 51 x2_1.toInt.toNat) - (1 : Int32))) hI6680  o6682.1 o6682.2 (by have := bd_48_0 hI; have := ti_add2 (Eq.refl x2_1.toInt) (by decide : ((1 : Int32)).toInt = 1) (by omega) (by omega); omega) (fun w9 hI9 hF9 => hE w9 hI9 ((FR.I (FR.I hF6600 (k := 49) (j := x2_1.toInt.toNat) (v := ((w6594.1 49 x2_1.toInt.toNat) + (1 : Int32))) rfl) (k := 51) (j := x2_1.toInt.toNat) (v := (((sI w6594 49 x2_1.toInt.toNat ((w6594.1 49 x2_1.toInt.toNat) + (1 : Int32))).1 51 x2_1.toInt.toNat) - (1 : Int32))) rfl).tr hF9 rfl) ) (fun w9 hI9 hF9 q0 => q0.elim)
          · refine ⟨fun h => absurd h h6601, fun _ => ?_⟩
            have o6683 : 0 ≤ x2_1.toInt ∧ x2_1.toInt < 40 := by have := bd_48_0 hI; omega
            refine ⟨o6683, ?_⟩
            have o6684 : 0 ≤ x2_1.toInt ∧ x2_1.toInt < 40 := by have := bd_48_0 hI; omega
            refine ⟨o6684, ?_⟩
            refine ⟨fun h6685 => ?_, fun h6685 => ?_⟩
            · refine Eq.mpr (q_Ro_countSecond_78.eq_1 _ _ _ _ _) ?_
              have o6686 : 0 ≤ x2_1.toInt ∧ x2_1.toInt < 40 := by have := bd_48_0 hI; omega
              refine ⟨o6686, ?_⟩
              refine ⟨fun h6687 => ?_, fun h6687 => ?_⟩
              · have o6689 : 0 ≤ ((w6594.1 49 x2_1.toInt.toNat) + (1 : Int32)).toInt ∧ ((w6594.1 49 x2_1.toInt.toNat) + (1 : Int32)).toInt ≤ 1000000 := by have := bd_49 hI6595 x2_1.toInt.toNat; have := bd_49 hI x2_1.toInt.toNat; have := (congrArg Int32.toInt (hL6596 49 x2_1.toInt.toNat rfl).1); have := (by decide : ((1000000 : Int32)).toInt = 1000000); have := (congrArg Int32.toInt (sI_same w6594 49 x2_1.toInt.toNat ((w6594.1 49 x2_1.toInt.toNat) + (1 : Int32)))); have := bd_53 hI6595 x2_1.toInt.toNat; have := bd_53 hI x2_1.toInt.toNat; have := (congrArg Int32.toInt (hL6596 53 x2_1.toInt.toNat rfl).1); have := ti_add2 (Eq.refl (w6594.1 49 x2_1.toInt.toNat).toInt) (by decide : ((1 : Int32)).toInt = 1) (by omega) (by omega); omega
                have hI6688 : BND (sI w6594 49 x2_1.toInt.toNat ((w6594.1 49 x2_1.toInt.toNat) + (1 : Int32))) := wbd_49 hI6595 x2_1.toInt.toNat o6689.1 o6689.2
                have o6690 : (0 ≤ (x2_1 + (1 : Int32)).toInt) ∧ ((x2_1 + (1 : Int32)).toInt ≤ 40) := by have := bd_48_0 hI; have := ti_add2 (Eq.refl x2_1.toInt) (by decide : ((1 : Int32)).toInt = 1) (by omega) (by omega); exact ⟨by omega, by omega⟩
                exact ih _ (sI w6594 49 x2_1.toInt.toNat ((w6594.1 49 x2_1.toInt.toNat) + (1 : Int32))) hI6688  o6690.1 o6690.2 (by have := bd_48_0 hI; have := ti_add2 (Eq.refl x2_1.toInt) (by decide : ((1 : Int32)).toInt = 1) (by omega) (by omega); omega) (fun w9 hI9 hF9 => hE w9 hI9 ((FR.I hF6600 (k := 49) (j := x2_1.toInt.toNat) (v := ((w6594.1 49 x2_1.toInt.toNat) + (1 : Int32))) rfl).tr hF9 rfl) ) (fun w9 hI9 hF9 q0 => q0.elim)
              · have o6691 : 0 ≤ x2_1.toInt ∧ x2_1.toInt < 40 := by have := bd_48_0 hI; omega
                refine ⟨o6691, ?_⟩
                have o6692 : 0 ≤ x2_1.toInt ∧ x2_1.toInt < 40 := by have := bd_48_0 hI; omega
                refine ⟨o6692, ?_⟩
                have o6694 : 0 ≤ ((w6594.1 49 x2_1.toInt.toNat) + (1 : Int32)).toInt ∧ ((w6594.1 49 x2_1.toInt.toNat) + (1 : Int32)).toInt ≤ 1000000 := by have := bd_49 hI6595 x2_1.toInt.toNat; have := bd_49 hI x2_1.toInt.toNat; have := (congrArg Int32.toInt (hL6596 49 x2_1.toInt.toNat rfl).1); have := (by decide : ((1000000 : Int32)).toInt = 1000000); have := (congrArg Int32.toInt (sI_same w6594 49 x2_1.toInt.toNat ((w6594.1 49 x2_1.toInt.toNat) + (1 : Int32)))); have := bd_53 hI6595 x2_1.toInt.toNat; have := bd_53 hI x2_1.toInt.toNat; have := (congrArg Int32.toInt (hL6596 53 x2_1.toInt.toNat rfl).1); have := ti_add2 (Eq.refl (w6594.1 49 x2_1.toInt.toNat).toInt) (by decide : ((1 : Int32)).toInt = 1) (by omega) (by omega); omega
                have hI6693 : BND (sI w6594 49 x2_1.toInt.toNat ((w6594.1 49 x2_1.toInt.toNat) + (1 : Int32))) := wbd_49 hI6595 x2_1.toInt.toNat o6694.1 o6694.2
                have o6696 : 0 ≤ (((sI w6594 49 x2_1.toInt.toNat ((w6594.1 49 x2_1.toInt.toNat) + (1 : Int32))).1 51 x2_1.toInt.toNat) - (1 : Int32)).toInt ∧ (((sI w6594 49 x2_1.toInt.toNat ((w6594.1 49 x2_1.toInt.toNat) + (1 : Int32))).1 51 x2_1.toInt.toNat) - (1 : Int32)).toInt ≤ 3600 := by have := bd_51 hI6595 x2_1.toInt.toNat; have := bd_51 hI x2_1.toInt.toNat; have := (congrArg Int32.toInt (hL6596 51 x2_1.toInt.toNat rfl).1); have : ((sI w6594 49 x2_1.toInt.toNat ((w6594.1 49 x2_1.toInt.toNat) + (1 : Int32))).1 51 x2_1.toInt.toNat).toInt = (w6594.1 51 x2_1.toInt.toNat).toInt := rfl; have := (by decide : ((0 : Int32)).toInt = 0); have := ti_sub2 (Eq.refl ((sI w6594 49 x2_1.toInt.toNat ((w6594.1 49 x2_1.toInt.toNat) + (1 : Int32))).1 51 x2_1.toInt.toNat).toInt) (by decide : ((1 : Int32)).toInt = 1) (by omega) (by omega); omega
                have hI6695 : BND (sI (sI w6594 49 x2_1.toInt.toNat ((w6594.1 49 x2_1.toInt.toNat) + (1 : Int32))) 51 x2_1.toInt.toNat (((sI w6594 49 x2_1.toInt.toNat ((w6594.1 49 x2_1.toInt.toNat) + (1 : Int32))).1 51 x2_1.toInt.toNat) - (1 : Int32))) := wbd_51 hI6693 x2_1.toInt.toNat o6696.1 o6696.2
                have o6697 : (0 ≤ (x2_1 + (1 : Int32)).toInt) ∧ ((x2_1 + (1 : Int32)).toInt ≤ 40) := by have := bd_48_0 hI; have := ti_add2 (Eq.refl x2_1.toInt) (by decide : ((1 : Int32)).toInt = 1) (by omega) (by omega); exact ⟨by omega, by omega⟩
                exact ih _ (sI (sI w6594 49 x2_1.toInt.toNat ((w6594.1 49 x2_1.toInt.toNat) + (1 : Int32))) 51 x2_1.toInt.toNat (((sI w6594 49 x2_1.toInt.toNat ((w6594.1 49 x2_1.toInt.toNat) + (1 : Int32))).1 51 x2_1.toInt.toNat) - (1 : Int32))) hI6695  o6697.1 o6697.2 (by have := bd_48_0 hI; have := ti_add2 (Eq.refl x2_1.toInt) (by decide : ((1 : Int32)).toInt = 1) (by omega) (by omega); omega) (fun w9 hI9 hF9 => hE w9 hI9 ((FR.I (FR.I hF6600 (k := 49) (j := x2_1.toInt.toNat) (v := ((w6594.1 49 x2_1.toInt.toNat) + (1 : Int32))) rfl) (k := 51) (j := x2_1.toInt.toNat) (v := (((sI w6594 49 x2_1.toInt.toNat ((w6594.1 49 x2_1.toInt.toNat) + (1 : Int32))).1 51 x2_1.toInt.toNat) - (1 : Int32))) rfl).tr hF9 rfl) ) (fun w9 hI9 hF9 q0 => q0.elim)
            · have o6698 : 0 ≤ x2_1.toInt ∧ x2_1.toInt < 40 := by have := bd_48_0 hI; omega
              refine ⟨o6698, ?_⟩
              refine Eq.mpr (q_Ro_countSecond_78.eq_1 _ _ _ _ _) ?_
              have o6699 : 0 ≤ x2_1.toInt ∧ x2_1.toInt < 40 := by have := bd_48_0 hI; omega
              refine ⟨o6699, ?_⟩
              refine ⟨fun h6700 => ?_, fun h6700 => ?_⟩
              · have o6702 : 0 ≤ ((w6594.1 49 x2_1.toInt.toNat) + (1 : Int32)).toInt ∧ ((w6594.1 49 x2_1.toInt.toNat) + (1 : Int32)).toInt ≤ 1000000 := by have := bd_49 hI6595 x2_1.toInt.toNat; have := bd_49 hI x2_1.toInt.toNat; have := (congrArg Int32.toInt (hL6596 49 x2_1.toInt.toNat rfl).1); have := (by decide : ((1000000 : Int32)).toInt = 1000000); have := (congrArg Int32.toInt (sI_same w6594 49 x2_1.toInt.toNat ((w6594.1 49 x2_1.toInt.toNat) + (1 : Int32)))); have := bd_53 hI6595 x2_1.toInt.toNat; have := bd_53 hI x2_1.toInt.toNat; have := (congrArg Int32.toInt (hL6596 53 x2_1.toInt.toNat rfl).1); have := ti_add2 (Eq.refl (w6594.1 49 x2_1.toInt.toNat).toInt) (by decide : ((1 : Int32)).toInt = 1) (by omega) (by omega); omega
                have hI6701 : BND (sI w6594 49 x2_1.toInt.toNat ((w6594.1 49 x2_1.toInt.toNat) + (1 : Int32))) := wbd_49 hI6595 x2_1.toInt.toNat o6702.1 o6702.2
                have o6704 : 0 ≤ (vp_nar .boolean (1 : Int32)).toInt ∧ (vp_nar .boolean (1 : Int32)).toInt ≤ 1 := by have := nb_bool1; omega
                have hI6703 : BND (sI (sI w6594 49 x2_1.toInt.toNat ((w6594.1 49 x2_1.toInt.toNat) + (1 : Int32))) 50 x2_1.toInt.toNat (vp_nar .boolean (1 : Int32))) := wbd_50 hI6701 x2_1.toInt.toNat o6704.1 o6704.2
                have o6705 : (0 ≤ (x2_1 + (1 : Int32)).toInt) ∧ ((x2_1 + (1 : Int32)).toInt ≤ 40) := by have := bd_48_0 hI; have := ti_add2 (Eq.refl x2_1.toInt) (by decide : ((1 : Int32)).toInt = 1) (by omega) (by omega); exact ⟨by omega, by omega⟩
                exact ih _ (sI (sI w6594 49 x2_1.toInt.toNat ((w6594.1 49 x2_1.toInt.toNat) + (1 : Int32))) 50 x2_1.toInt.toNat (vp_nar .boolean (1 : Int32))) hI6703  o6705.1 o6705.2 (by have := bd_48_0 hI; have := ti_add2 (Eq.refl x2_1.toInt) (by decide : ((1 : Int32)).toInt = 1) (by omega) (by omega); omega) (fun w9 hI9 hF9 => hE w9 hI9 ((FR.I (FR.I hF6600 (k := 49) (j := x2_1.toInt.toNat) (v := ((w6594.1 49 x2_1.toInt.toNat) + (1 : Int32))) rfl) (k := 50) (j := x2_1.toInt.toNat) (v := (vp_nar .boolean (1 : Int32))) rfl).tr hF9 rfl) ) (fun w9 hI9 hF9 q0 => q0.elim)
              · have o6706 : 0 ≤ x2_1.toInt ∧ x2_1.toInt < 40 := by have := bd_48_0 hI; omega
                refine ⟨o6706, ?_⟩
                have o6707 : 0 ≤ x2_1.toInt ∧ x2_1.toInt < 40 := by have := bd_48_0 hI; omega
                refine ⟨o6707, ?_⟩
                have o6709 : 0 ≤ ((w6594.1 49 x2_1.toInt.toNat) + (1 : Int32)).toInt ∧ ((w6594.1 49 x2_1.toInt.toNat) + (1 : Int32)).toInt ≤ 1000000 := by have := bd_49 hI6595 x2_1.toInt.toNat; have := bd_49 hI x2_1.toInt.toNat; have := (congrArg Int32.toInt (hL6596 49 x2_1.toInt.toNat rfl).1); have := (by decide : ((1000000 : Int32)).toInt = 1000000); have := (congrArg Int32.toInt (sI_same w6594 49 x2_1.toInt.toNat ((w6594.1 49 x2_1.toInt.toNat) + (1 : Int32)))); have := bd_53 hI6595 x2_1.toInt.toNat; have := bd_53 hI x2_1.toInt.toNat; have := (congrArg Int32.toInt (hL6596 53 x2_1.toInt.toNat rfl).1); have := ti_add2 (Eq.refl (w6594.1 49 x2_1.toInt.toNat).toInt) (by decide : ((1 : Int32)).toInt = 1) (by omega) (by omega); omega
                have hI6708 : BND (sI w6594 49 x2_1.toInt.toNat ((w6594.1 49 x2_1.toInt.toNat) + (1 : Int32))) := wbd_49 hI6595 x2_1.toInt.toNat o6709.1 o6709.2
                have o6711 : 0 ≤ (vp_nar .boolean (1 : Int32)).toInt ∧ (vp_nar .boolean (1 : Int32)).toInt ≤ 1 := by have := nb_bool1; omega
                have hI6710 : BND (sI (sI w6594 49 x2_1.toInt.toNat ((w6594.1 49 x2_1.toInt.toNat) + (1 : Int32))) 50 x2_1.toInt.toNat (vp_nar .boolean (1 : Int32))) := wbd_50 hI6708 x2_1.toInt.toNat o6711.1 o6711.2
                have o6713 : 0 ≤ (((sI (sI w6594 49 x2_1.toInt.toNat ((w6594.1 49 x2_1.toInt.toNat) + (1 : Int32))) 50 x2_1.toInt.toNat (vp_nar .boolean (1 : Int32))).1 51 x2_1.toInt.toNat) - (1 : Int32)).toInt ∧ (((sI (sI w6594 49 x2_1.toInt.toNat ((w6594.1 49 x2_1.toInt.toNat) + (1 : Int32))) 50 x2_1.toInt.toNat (vp_nar .boolean (1 : Int32))).1 51 x2_1.toInt.toNat) - (1 : Int32)).toInt ≤ 3600 := by have := bd_51 hI6595 x2_1.toInt.toNat; have := bd_51 hI x2_1.toInt.toNat; have := (congrArg Int32.toInt (hL6596 51 x2_1.toInt.toNat rfl).1); have : ((sI (sI w6594 49 x2_1.toInt.toNat ((w6594.1 49 x2_1.toInt.toNat) + (1 : Int32))) 50 x2_1.toInt.toNat (vp_nar .boolean (1 : Int32))).1 51 x2_1.toInt.toNat).toInt = (w6594.1 51 x2_1.toInt.toNat).toInt := rfl; have := (by decide : ((0 : Int32)).toInt = 0); have := ti_sub2 (Eq.refl ((sI (sI w6594 49 x2_1.toInt.toNat ((w6594.1 49 x2_1.toInt.toNat) + (1 : Int32))) 50 x2_1.toInt.toNat (vp_nar .boolean (1 : Int32))).1 51 x2_1.toInt.toNat).toInt) (by decide : ((1 : Int32)).toInt = 1) (by omega) (by omega); omega
                have hI6712 : BND (sI (sI (sI w6594 49 x2_1.toInt.toNat ((w6594.1 49 x2_1.toInt.toNat) + (1 : Int32))) 50 x2_1.toInt.toNat (vp_nar .boolean (1 : Int32))) 51 x2_1.toInt.toNat (((sI (sI w6594 49 x2_1.toInt.toNat ((w6594.1 49 x2_1.toInt.toNat) + (1 : Int32))) 50 x2_1.toInt.toNat (vp_nar .boolean (1 : Int32))).1 51 x2_1.toInt.toNat) - (1 : Int32))) := wbd_51 hI6710 x2_1.toInt.toNat o6713.1 o6713.2
                have o6714 : (0 ≤ (x2_1 + (1 : Int32)).toInt) ∧ ((x2_1 + (1 : Int32)).toInt ≤ 40) := by have := bd_48_0 hI; have := ti_add2 (Eq.refl x2_1.toInt) (by decide : ((1 : Int32)).toInt = 1) (by omega) (by omega); exact ⟨by omega, by omega⟩
                exact ih _ (sI (sI (sI w6594 49 x2_1.toInt.toNat ((w6594.1 49 x2_1.toInt.toNat) + (1 : Int32))) 50 x2_1.toInt.toNat (vp_nar .boolean (1 : Int32))) 51 x2_1.toInt.toNat (((sI (sI w6594 49 x2_1.toInt.toNat ((w6594.1 49 x2_1.toInt.toNat) + (1 : Int32))) 50 x2_1.toInt.toNat (vp_nar .boolean (1 : Int32))).1 51 x2_1.toInt.toNat) - (1 : Int32))) hI6712  o6714.1 o6714.2 (by have := bd_48_0 hI; have := ti_add2 (Eq.refl x2_1.toInt) (by decide : ((1 : Int32)).toInt = 1) (by omega) (by omega); omega) (fun w9 hI9 hF9 => hE w9 hI9 ((FR.I (FR.I (FR.I hF6600 (k := 49) (j := x2_1.toInt.toNat) (v := ((w6594.1 49 x2_1.toInt.toNat) + (1 : Int32))) rfl) (k := 50) (j := x2_1.toInt.toNat) (v := (vp_nar .boolean (1 : Int32))) rfl) (k := 51) (j := x2_1.toInt.toNat) (v := (((sI (sI w6594 49 x2_1.toInt.toNat ((w6594.1 49 x2_1.toInt.toNat) + (1 : Int32))) 50 x2_1.toInt.toNat (vp_nar .boolean (1 : Int32))).1 51 x2_1.toInt.toNat) - (1 : Int32))) rfl).tr hF9 rfl) ) (fun w9 hI9 hF9 q0 => q0.elim)
set_option maxRecDepth 20000 in
set_option maxHeartbeats 2000000 in
theorem h_Ro_countSecond {w : MW} {Q : MW → Prop} (hI : BND w)  (hQ : ∀ (w' : MW), BND w' → FR l_Ro_countSecond w w' → Q w') : p_Ro_countSecond w Q := by
  refine Eq.mpr (p_Ro_countSecond.eq_1 _ _) ?_
  have o6715 : (0 ≤ (0 : Int32).toInt) ∧ ((0 : Int32).toInt ≤ 40) := by have := (by decide : ((0 : Int32)).toInt = 0); exact ⟨by omega, by omega⟩
  refine hq_Ro_countSecond_2 FU _ w hI  o6715.1 o6715.2 (fu_lt (by have := (by decide : ((0 : Int32)).toInt = 0); omega)) (fun w6716 hI6717 hL6718  => ?_) (fun w9 hI9 hF9 q0 => q0.elim)
  have hF6719 : FR l_Ro_countSecond w w6716 := (FR.refl _ w).tr hL6718 rfl
  exact hQ _ hI6717 hF6719 
def l_Ru_beginPar_9 : Pl := [(80, none)]
def l_Ru_beginPar : Pl := [(80, none), (81, none)]
set_option maxRecDepth 20000 in
set_option maxHeartbeats 2000000 in
theorem hq_Ru_beginPar_9 {x9_1 : Int32} {E : MW → Prop} {Q : Int32 → MW → Prop} (n : Nat) : ∀ (x9_2 : Int32) (x9_3 : Int32) (w : MW), BND w → RC w → RX w → 1 ≤ x9_1.toInt → x9_1.toInt ≤ 500 → (-1) ≤ x9_2.toInt → x9_2.toInt ≤ 500 → 0 ≤ x9_3.toInt → x9_3.toInt ≤ 501 → ZP x9_2 w → (w.1 80 0).toInt = 1 → ¬ x9_2.toInt = 0 → x9_2.toInt < 0 ∨ x9_1.toInt < x9_2.toInt → (501 - x9_3.toInt).toNat < n → (∀ (w' : MW), BND w' → FR l_Ru_beginPar_9 w w' → RC w' → (w'.1 80 0).toInt = 1 → SK x9_1 w w' → E w') → (∀ (r : Int32) (w' : MW), BND w' → FR l_Ru_beginPar_9 w w' → RC w' → False → Q r w') → q_Ru_beginPar_9 x9_1 E Q n x9_2 x9_3 w := by
  induction n with
  | zero => intros; omega
  | succ n ih =>
    intro x9_2 x9_3 w hI hf_RC hf_RX hp0 hp1 hp2 hp3 hp4 hp5 hp6 hp7 hp8 hp9 hm hE hQ
    rw [q_Ru_beginPar_9.eq_2]
    refine ⟨fun h6720 => ?_, fun h6720 => ?_⟩
    · exact hE _ hI (FR.refl _ w) hf_RC (by have := bd_80 hI 0; omega) (sk_refl _ w)
    · refine ⟨fun h6721 => ?_, fun h6721 => ?_⟩
      · exact hE _ hI (FR.refl _ w) hf_RC (by have := bd_80 hI 0; omega) (sk_refl _ w)
      · have o6722 : 0 ≤ x9_2.toInt ∧ x9_2.toInt < 501 := by have := (by decide : ((0 : Int32)).toInt = 0); omega
        refine ⟨o6722, ?_⟩
        have o6723 : 0 ≤ x9_2.toInt ∧ x9_2.toInt < 501 := by have := (by decide : ((0 : Int32)).toInt = 0); omega
        refine ⟨o6723, ?_⟩
        have hI6724 : BND (sI w 80 x9_2.toInt.toNat 0) := wbd_80 hI x9_2.toInt.toNat (by decide) (by decide)
        have hW6725 : ZL x9_2 w := (zl_zp hp6 (by have := (by decide : ((0 : Int32)).toInt = 0); omega))
        have o6726 : (1 ≤ x9_1.toInt) ∧ (x9_1.toInt ≤ 500) ∧ ((-1) ≤ (w.1 79 x9_2.toInt.toNat).toInt) ∧ ((w.1 79 x9_2.toInt.toNat).toInt ≤ 500) ∧ (0 ≤ (x9_3 + (1 : Int32)).toInt) ∧ ((x9_3 + (1 : Int32)).toInt ≤ 501) ∧ (((sI w 80 x9_2.toInt.toNat 0).1 80 0).toInt = 1) ∧ (¬ (w.1 79 x9_2.toInt.toNat).toInt = 0) ∧ ((w.1 79 x9_2.toInt.toNat).toInt < 0 ∨ x9_1.toInt < (w.1 79 x9_2.toInt.toNat).toInt) := by have := bd_79 hI x9_2.toInt.toNat; have := bd_80 hI 0; have := (by decide : ((0 : Int32)).toInt = 0); have := bd_80 hI6724 0; have := (by decide : ((500 : Int32)).toInt = 500); have := (by decide : ((0 : Int32)).toInt = 0); (try have := rx_use hf_RX hW6725); have := ti_add2 (Eq.refl x9_3.toInt) (by decide : ((1 : Int32)).toInt = 1) (by omega) (by omega); have := sI_case w 80 0 x9_2.toInt.toNat (0 : Int32); exact ⟨by omega, by omega, by omega, by omega, by omega, by omega, by omega, by omega, by omega⟩
        have hW6727 : ZP (w.1 79 x9_2.toInt.toNat) (sI w 80 x9_2.toInt.toNat 0) := (ZP_fr (l := [(80, none)]) (FR.I (FR.refl _ w) (k := 80) (j := x9_2.toInt.toNat) (v := 0) rfl) rfl (zp_next hf_RX hW6725 ))
        exact ih _ _ (sI w 80 x9_2.toInt.toNat 0) hI6724 (rc_st0 hf_RC (by decide)) (RX_fr (l := [(80, none)]) (FR.I (FR.refl _ w) (k := 80) (j := x9_2.toInt.toNat) (v := 0) rfl) rfl hf_RX) o6726.1 o6726.2.1 o6726.2.2.1 o6726.2.2.2.1 o6726.2.2.2.2.1 o6726.2.2.2.2.2.1 hW6727 o6726.2.2.2.2.2.2.1 o6726.2.2.2.2.2.2.2.1 o6726.2.2.2.2.2.2.2.2 (by have := bd_79 hI x9_2.toInt.toNat; have := (by decide : ((500 : Int32)).toInt = 500); have := (by decide : ((0 : Int32)).toInt = 0); (try have := rx_use hf_RX hW6725); have := ti_add2 (Eq.refl x9_3.toInt) (by decide : ((1 : Int32)).toInt = 1) (by omega) (by omega); omega) (fun w9 hI9 hF9 hl9_RC u0 u1 => hE w9 hI9 ((FR.I (FR.refl _ w) (k := 80) (j := x9_2.toInt.toNat) (v := 0) rfl).tr hF9 rfl) hl9_RC (by have := bd_79 hI x9_2.toInt.toNat; have := (by decide : ((500 : Int32)).toInt = 500); have := (by decide : ((0 : Int32)).toInt = 0); (try have := rx_use hf_RX hW6725); have := ti_add2 (Eq.refl x9_3.toInt) (by decide : ((1 : Int32)).toInt = 1) (by omega) (by omega); omega) (sk_tr (sk_put (sk_refl _ w) (by have := (by decide : ((0 : Int32)).toInt = 0); omega)) u1 (by have := (by decide : ((0 : Int32)).toInt = 0); omega))) (fun r w9 hI9 hF9 hl9_RC q0 => q0.elim)
set_option maxRecDepth 20000 in
set_option maxHeartbeats 2000000 in
theorem h_Ru_beginPar {w : MW} {a0 : Int32} {Q : Int32 → MW → Prop} (hI : BND w) (hf_RC : RC w) (hf_RF : RF w) (hf_RX : RX w) (hp0 : 1 ≤ a0.toInt) (hp1 : a0.toInt ≤ 500) (hp2 : ZL a0 w) (hp3 : (w.1 80 0).toInt = 1) (hQ : ∀ (r : Int32) (w' : MW), BND w' → FR l_Ru_beginPar w w' → RC w' → 2 ≤ r.toInt → r.toInt ≤ 2 → (w'.1 80 0).toInt = 1 → ¬ r.toInt = 2 ∨ ¬ (w'.1 80 a0.toInt.toNat).toInt = 0 → SK a0 w w' → Q r w') : p_Ru_beginPar w a0 Q := by
  refine Eq.mpr (p_Ru_beginPar.eq_1 _ _ _) ?_
  have o6728 : 0 ≤ a0.toInt ∧ a0.toInt < 501 := by omega
  refine ⟨o6728, ?_⟩
  have o6729 : (1 ≤ a0.toInt) ∧ (a0.toInt ≤ 500) ∧ ((-1) ≤ (w.1 78 a0.toInt.toNat).toInt) ∧ ((w.1 78 a0.toInt.toNat).toInt ≤ 500) ∧ (0 ≤ (0 : Int32).toInt) ∧ ((0 : Int32).toInt ≤ 501) ∧ ((w.1 80 0).toInt = 1) ∧ (¬ (w.1 78 a0.toInt.toNat).toInt = 0) ∧ ((w.1 78 a0.toInt.toNat).toInt < 0 ∨ a0.toInt < (w.1 78 a0.toInt.toNat).toInt) := by have := bd_78 hI a0.toInt.toNat; have := (by decide : ((0 : Int32)).toInt = 0); have := bd_80 hI 0; (try have := rf_use hf_RF hp2); exact ⟨by omega, by omega, by omega, by omega, by omega, by omega, by omega, by omega, by omega⟩
  refine hq_Ru_beginPar_9 FU _ _ w hI hf_RC hf_RX o6729.1 o6729.2.1 o6729.2.2.1 o6729.2.2.2.1 o6729.2.2.2.2.1 o6729.2.2.2.2.2.1 (zp_first hf_RF hp2 ) o6729.2.2.2.2.2.2.1 o6729.2.2.2.2.2.2.2.1 o6729.2.2.2.2.2.2.2.2 (fu_lt (by have := bd_78 hI a0.toInt.toNat; have := (by decide : ((0 : Int32)).toInt = 0); (try have := rf_use hf_RF hp2); omega)) (fun w6730 hI6731 hL6732 hlw6730_RC p6733 p6734 => ?_) (fun r w9 hI9 hF9 hl9_RC q0 => q0.elim)
  have hF6735 : FR l_Ru_beginPar w w6730 := (FR.refl _ w).tr hL6732 rfl
  refine Eq.mpr (p_Ru_goInside.eq_1 _ _ _ _) ?_
  have o6736 : 0 ≤ a0.toInt ∧ a0.toInt < 501 := by omega
  refine ⟨o6736, ?_⟩
  refine Eq.mpr (p_Ru_choose.eq_1 _ _ _ _) ?_
  have o6737 : 0 ≤ a0.toInt ∧ a0.toInt < 501 := by omega
  refine ⟨o6737, ?_⟩
  refine ⟨fun _ => ?_, fun h => absurd (by decide) h⟩
  have hI6738 : BND (sI w6730 80 a0.toInt.toNat 1) := wbd_80 hI6731 a0.toInt.toNat (by decide) (by decide)
  have hI6739 : BND (sI (sI w6730 80 a0.toInt.toNat 1) 81 a0.toInt.toNat (-1)) := wbd_81 hI6738 a0.toInt.toNat (by decide) (by decide)
  have o6740 : (a0.toInt = a0.toInt) ∧ (0 ≤ a0.toInt) ∧ (((-1) : Int32).toInt < 0 ∨ a0.toInt < ((-1) : Int32).toInt) := by have := (by decide : ((1 : Int32)).toInt = 1); have := (by decide : (((-1) : Int32)).toInt = (-1)); exact ⟨by omega, by omega, by omega⟩
  have hW6741 : RC (sI (sI w6730 80 a0.toInt.toNat 1) 81 a0.toInt.toNat (-1)) := (rc_both hlw6730_RC (zp_none  ) o6740.1 o6740.2.1 o6740.2.2)
  have o6742 : (2 ≤ (2 : Int32).toInt) ∧ ((2 : Int32).toInt ≤ 2) ∧ (((sI (sI w6730 80 a0.toInt.toNat 1) 81 a0.toInt.toNat (-1)).1 80 0).toInt = 1) ∧ (¬ (2 : Int32).toInt = 2 ∨ ¬ ((sI (sI w6730 80 a0.toInt.toNat 1) 81 a0.toInt.toNat (-1)).1 80 a0.toInt.toNat).toInt = 0) := by have := (by decide : ((2 : Int32)).toInt = 2); have : ((sI (sI w6730 80 a0.toInt.toNat 1) 81 a0.toInt.toNat (-1)).1 80 0).toInt = ((sI w6730 80 a0.toInt.toNat 1).1 80 0).toInt := rfl; have := bd_80 hI6731 0; have := bd_80 hI 0; have : (w6730.1 80 ((0 : Int32).toInt.toNat)).toInt = (w6730.1 80 0).toInt := rfl; have : (w.1 80 ((0 : Int32).toInt.toNat)).toInt = (w.1 80 0).toInt := rfl; have := (by decide : ((0 : Int32)).toInt = 0); have := (by decide : ((1 : Int32)).toInt = 1); have := bd_80 hI6738 0; have : ((sI (sI w6730 80 a0.toInt.toNat 1) 81 a0.toInt.toNat (-1)).1 80 a0.toInt.toNat).toInt = ((sI w6730 80 a0.toInt.toNat 1).1 80 a0.toInt.toNat).toInt := rfl; have := (congrArg Int32.toInt (sI_same w6730 80 a0.toInt.toNat 1)); have := (by decide : ((1 : Int32)).toInt = 1); have := bd_80 hI6738 a0.toInt.toNat; (try have := sk_use p6734 (0 : Int32) (by omega) (by omega)); have := sI_case w6730 80 0 a0.toInt.toNat (1 : Int32); exact ⟨by omega, by omega, by omega, by omega⟩
  exact hQ _ _ hI6739 (FR.I (FR.I hF6735 (k := 80) (j := a0.toInt.toNat) (v := 1) rfl) (k := 81) (j := a0.toInt.toNat) (v := (-1)) rfl) hW6741  o6742.1 o6742.2.1 o6742.2.2.1 o6742.2.2.2 (sk_fr (l := [(81, none)]) (sk_put (sk_tr (sk_refl _ w) p6734 (by omega)) (by omega)) (FR.I (FR.refl _ (sI w6730 80 a0.toInt.toNat 1)) (k := 81) (j := a0.toInt.toNat) (v := (-1)) rfl) rfl)
