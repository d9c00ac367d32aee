def l_Mr_isOne : Pl := []
set_option maxRecDepth 20000 in
set_option maxHeartbeats 2000000 in
theorem h_Mr_isOne {w : MW} {a0 : Int32} {Q : Int32 → MW → Prop} (hI : BND w) (hp0 : 40 ≤ a0.toInt) (hp1 : a0.toInt ≤ 59) (hQ : ∀ (r : Int32) (w' : MW), BND w' → FR l_Mr_isOne w w' → 0 ≤ r.toInt → r.toInt ≤ 1 → r.toInt = 0 ∨ (w.1 147 5).toInt < (w.1 147 4).toInt → Q r w') : p_Mr_isOne w a0 Q := by
  refine Eq.mpr (p_Mr_isOne.eq_1 _ _ _) ?_
  refine Eq.mpr (p_Mr_wide.eq_1 _ _) ?_
  refine ⟨fun h7446 => ?_, fun h7446 => ?_⟩
  · refine ⟨fun _ => ?_, fun h => absurd (by decide) h⟩
    have o7447 : (0 ≤ (0 : Int32).toInt) ∧ ((0 : Int32).toInt ≤ 1) ∧ ((0 : Int32).toInt = 0 ∨ (w.1 147 5).toInt < (w.1 147 4).toInt) := by have := (by decide : ((0 : Int32)).toInt = 0); have := bd_147_5 hI; have := bd_147_4 hI; exact ⟨by omega, by omega, by omega⟩
    exact hQ _ _ hI (FR.refl _ w)  o7447.1 o7447.2.1 o7447.2.2
  · have o7448 : 0 ≤ (w.1 147 5).toInt ∧ (w.1 147 5).toInt < 4021 := by have := bd_147_5 hI; have := bd_147_4 hI; omega
    refine ⟨o7448, ?_⟩
    have o7449 : 0 ≤ (w.1 147 5).toInt ∧ (w.1 147 5).toInt < 4021 := by have := bd_147_5 hI; have := bd_147_4 hI; omega
    refine ⟨o7449, ?_⟩
    refine ⟨fun h7450 => ?_, fun h7450 => ?_⟩
    · have o7451 : (0 ≤ (0 : Int32).toInt) ∧ ((0 : Int32).toInt ≤ 1) ∧ ((0 : Int32).toInt = 0 ∨ (w.1 147 5).toInt < (w.1 147 4).toInt) := by have := (by decide : ((0 : Int32)).toInt = 0); have := bd_147_5 hI; have := bd_147_4 hI; exact ⟨by omega, by omega, by omega⟩
      exact hQ _ _ hI (FR.refl _ w)  o7451.1 o7451.2.1 o7451.2.2
    · have o7452 : (0 ≤ (0 : Int32).toInt) ∧ ((0 : Int32).toInt ≤ 6) := by have := (by decide : ((0 : Int32)).toInt = 0); exact ⟨by omega, by omega⟩
      refine h_Mr_at hI  o7452.1 o7452.2 (fun r7456 w7453 hI7454 hL7455 p7457 p7458 => ?_)
      have hF7459 : FR l_Mr_isOne w w7453 := (FR.refl _ w).tr hL7455 rfl
      refine ⟨fun h7460 => ?_, fun h7460 => ?_⟩
      · have o7461 : (0 ≤ (0 : Int32).toInt) ∧ ((0 : Int32).toInt ≤ 1) ∧ ((0 : Int32).toInt = 0 ∨ (w.1 147 5).toInt < (w.1 147 4).toInt) := by have := (by decide : ((0 : Int32)).toInt = 0); have := bd_147_5 hI; have := bd_147_4 hI; exact ⟨by omega, by omega, by omega⟩
        exact hQ _ _ hI7454 hF7459  o7461.1 o7461.2.1 o7461.2.2
      · have o7462 : (0 ≤ (1 : Int32).toInt) ∧ ((1 : Int32).toInt ≤ 1) ∧ ((1 : Int32).toInt = 0 ∨ (w.1 147 5).toInt < (w.1 147 4).toInt) := by have := (by decide : ((1 : Int32)).toInt = 1); have := bd_147_5 hI; have := bd_147_4 hI; exact ⟨by omega, by omega, by omega⟩
        exact hQ _ _ hI7454 hF7459  o7462.1 o7462.2.1 o7462.2.2
def l_Mr_unit : Pl := [(147, some 1), (148, none)]
set_option maxRecDepth 20000 in
set_option maxHeartbeats 2000000 in
theorem h_Mr_unit {w : MW} {a0 : Int32} {Q : Int32 → MW → Prop} (hI : BND w) (hp0 : (-128) ≤ a0.toInt) (hp1 : a0.toInt ≤ 127) (hQ : ∀ (r : Int32) (w' : MW), BND w' → FR l_Mr_unit w w' → 0 ≤ r.toInt → r.toInt ≤ 1 → Q r w') : p_Mr_unit w a0 Q := by
  refine Eq.mpr (p_Mr_unit.eq_1 _ _ _) ?_
  refine ⟨fun h7463 => ?_, fun h7463 => ?_⟩
  · have o7464 : (0 ≤ (0 : Int32).toInt) ∧ ((0 : Int32).toInt ≤ 1) := by have := (by decide : ((0 : Int32)).toInt = 0); exact ⟨by omega, by omega⟩
    exact hQ _ _ hI (FR.refl _ w)  o7464.1 o7464.2
  · refine ⟨fun h7465 => ?_, fun h7465 => ?_⟩
    · exfalso; have := (by decide : ((1 : Int32)).toInt = 1); have := (by decide : ((127 : Int32)).toInt = 127); omega
    · refine ⟨fun h7466 => ?_, fun h7466 => ?_⟩
      · have o7467 : 0 ≤ (w.1 147 1).toInt ∧ (w.1 147 1).toInt < 4020 := by have := bd_147_1 hI; have := (by decide : ((4020 : Int32)).toInt = 4020); omega
        refine ⟨o7467, ?_⟩
        have o7469 : (-128) ≤ (vp_nar .byte ((Int32.toInt8 a0).toInt32)).toInt ∧ (vp_nar .byte ((Int32.toInt8 a0).toInt32)).toInt ≤ 127 := by have := (by decide : ((1 : Int32)).toInt = 1); have := (by decide : ((127 : Int32)).toInt = 127); have := nb_i2beq (x := a0) (by omega) (by omega); have := nb_byteq (x := ((Int32.toInt8 a0).toInt32)) (by omega) (by omega); omega
        have hI7468 : BND (sI w 148 ((w.1 147 1).toInt.toNat) (vp_nar .byte ((Int32.toInt8 a0).toInt32))) := wbd_148 hI ((w.1 147 1).toInt.toNat) o7469.1 o7469.2
        have o7471 : 0 ≤ ((w.1 147 1) + (1 : Int32)).toInt ∧ ((w.1 147 1) + (1 : Int32)).toInt ≤ 4020 := by have := bd_147_1 hI; have := (by decide : ((4020 : Int32)).toInt = 4020); have := ti_add2 (Eq.refl (w.1 147 1).toInt) (by decide : ((1 : Int32)).toInt = 1) (by omega) (by omega); omega
        have hI7470 : BND (sI (sI w 148 ((w.1 147 1).toInt.toNat) (vp_nar .byte ((Int32.toInt8 a0).toInt32))) 147 1 ((w.1 147 1) + (1 : Int32))) := wbd_147_1 hI7468 o7471.1 o7471.2
        have o7472 : (0 ≤ (1 : Int32).toInt) ∧ ((1 : Int32).toInt ≤ 1) := by have := (by decide : ((1 : Int32)).toInt = 1); exact ⟨by omega, by omega⟩
        exact hQ _ _ hI7470 (FR.I (FR.I (FR.refl _ w) (k := 148) (j := (w.1 147 1).toInt.toNat) (v := (vp_nar .byte ((Int32.toInt8 a0).toInt32))) rfl) (k := 147) (j := 1) (v := ((w.1 147 1) + (1 : Int32))) rfl)  o7472.1 o7472.2
      · have o7473 : (0 ≤ (0 : Int32).toInt) ∧ ((0 : Int32).toInt ≤ 1) := by have := (by decide : ((0 : Int32)).toInt = 0); exact ⟨by omega, by omega⟩
        exact hQ _ _ hI (FR.refl _ w)  o7473.1 o7473.2
def l_Tx_digits_5 : Pl := [(129, some 2), (129, some 8)]
def l_Tx_digits_143 : Pl := [(129, some 2), (129, some 8)]
def l_Tx_digits_119 : Pl := [(129, some 2), (129, some 8), (129, some 9)]
def l_Tx_digits : Pl := [(129, some 2), (129, some 8), (129, some 9)]
set_option maxRecDepth 20000 in
set_option maxHeartbeats 2000000 in
theorem hq_Tx_digits_5 {E : MW → Prop} {Q : MW → Prop} (n : Nat) : ∀ (w : MW), BND w → PZ w → (4020 - (w.1 129 2).toInt).toNat < n → (∀ (w' : MW), BND w' → FR l_Tx_digits_5 w w' → PZ w' → E w') → (∀ (w' : MW), BND w' → FR l_Tx_digits_5 w w' → PZ w' → False → Q w') → q_Tx_digits_5 E Q n w := by
  induction n with
  | zero => intros; omega
  | succ n ih =>
    intro w hI hf_PZ  hm hE hQ
    rw [q_Tx_digits_5.eq_2]
    refine Eq.mpr (p_Tx_at.eq_1 _ _ _) ?_
    refine ⟨fun h7474 => ?_, fun h7474 => ?_⟩
    · refine Eq.mpr (p_Tx_isDigit.eq_1 _ _ _) ?_
      refine ⟨fun _ => ?_, fun h => absurd (by decide) h⟩
      refine ⟨fun _ => ?_, fun h => absurd (by decide) h⟩
      exact hE _ hI (FR.refl _ w) hf_PZ 
    · have o7475 : 0 ≤ (w.1 129 2).toInt ∧ (w.1 129 2).toInt < 4020 := by have := bd_129_1 hI; have := bd_129_2 hI; have := PZ_ex hf_PZ; omega
      refine ⟨o7475, ?_⟩
      refine Eq.mpr (p_Tx_isDigit.eq_1 _ _ _) ?_
      refine ⟨fun h7476 => ?_, fun h7476 => ?_⟩
      · refine ⟨fun _ => ?_, fun h => absurd (by decide) h⟩
        exact hE _ hI (FR.refl _ w) hf_PZ 
      · refine ⟨fun h7477 => ?_, fun h7477 => ?_⟩
        · refine ⟨fun _ => ?_, fun h => absurd (by decide) h⟩
          exact hE _ hI (FR.refl _ w) hf_PZ 
        · refine ⟨fun h => absurd h (by decide), fun _ => ?_⟩
          refine ⟨fun h7478 => ?_, fun h7478 => ?_⟩
          · exact hE _ hI (FR.refl _ w) hf_PZ
          · refine Eq.mpr (p_Tx_at.eq_1 _ _ _) ?_
            refine ⟨fun h => absurd h h7474, fun _ => ?_⟩
            have o7479 : 0 ≤ (w.1 129 2).toInt ∧ (w.1 129 2).toInt < 4020 := by have := bd_129_1 hI; have := bd_129_2 hI; have := bd_129_5 hI; have := (by decide : ((9 : Int32)).toInt = 9); have := PZ_ex hf_PZ; have := ti_sub2 (Eq.refl (w.1 129 2).toInt) (Eq.refl (w.1 129 5).toInt) (by omega) (by omega); omega
            refine ⟨o7479, ?_⟩
            have o7481 : 0 ≤ ((w.1 129 2) + (1 : Int32)).toInt ∧ ((w.1 129 2) + (1 : Int32)).toInt ≤ 4020 := by have := bd_129_1 hI; have := bd_129_2 hI; have := bd_129_5 hI; have := (by decide : ((9 : Int32)).toInt = 9); have := PZ_ex hf_PZ; have := ti_add2 (Eq.refl (w.1 129 2).toInt) (by decide : ((1 : Int32)).toInt = 1) (by omega) (by omega); have := ti_sub2 (Eq.refl (w.1 129 2).toInt) (Eq.refl (w.1 129 5).toInt) (by omega) (by omega); omega
            have hI7480 : BND (sI (sJ w 129 8 ((((10 : Int64) * (w.2.1 129 8)) + (Int32.toInt64 (w.1 130 ((w.1 129 2).toInt.toNat)))) - (48 : Int64))) 129 2 ((w.1 129 2) + (1 : Int32))) := wbd_129_2 (bnd_J hI (k := 129) (j := 8) (v := ((((10 : Int64) * (w.2.1 129 8)) + (Int32.toInt64 (w.1 130 ((w.1 129 2).toInt.toNat)))) - (48 : Int64)))) o7481.1 o7481.2
            exact ih (sI (sJ w 129 8 ((((10 : Int64) * (w.2.1 129 8)) + (Int32.toInt64 (w.1 130 ((w.1 129 2).toInt.toNat)))) - (48 : Int64))) 129 2 ((w.1 129 2) + (1 : Int32))) hI7480 (by unfold PZ; have := bd_129_1 hI; have : ((sI (sJ w 129 8 ((((10 : Int64) * (w.2.1 129 8)) + (Int32.toInt64 (w.1 130 ((w.1 129 2).toInt.toNat)))) - (48 : Int64))) 129 2 ((w.1 129 2) + (1 : Int32))).1 129 1).toInt = (w.1 129 1).toInt := rfl; have := bd_129_2 hI; have : ((sI (sJ w 129 8 ((((10 : Int64) * (w.2.1 129 8)) + (Int32.toInt64 (w.1 130 ((w.1 129 2).toInt.toNat)))) - (48 : Int64))) 129 2 ((w.1 129 2) + (1 : Int32))).1 129 2).toInt = ((w.1 129 2) + (1 : Int32)).toInt := rfl; have := bd_129_5 hI; have := (by decide : ((9 : Int32)).toInt = 9); have := PZ_ex hf_PZ; have := ti_add2 (Eq.refl (w.1 129 2).toInt) (by decide : ((1 : Int32)).toInt = 1) (by omega) (by omega); have := ti_sub2 (Eq.refl (w.1 129 2).toInt) (Eq.refl (w.1 129 5).toInt) (by omega) (by omega); omega)  (by have := bd_129_1 hI; have : ((sI (sJ w 129 8 ((((10 : Int64) * (w.2.1 129 8)) + (Int32.toInt64 (w.1 130 ((w.1 129 2).toInt.toNat)))) - (48 : Int64))) 129 2 ((w.1 129 2) + (1 : Int32))).1 129 1).toInt = (w.1 129 1).toInt := rfl; have := bd_129_2 hI; have : ((sI (sJ w 129 8 ((((10 : Int64) * (w.2.1 129 8)) + (Int32.toInt64 (w.1 130 ((w.1 129 2).toInt.toNat)))) - (48 : Int64))) 129 2 ((w.1 129 2) + (1 : Int32))).1 129 2).toInt = ((w.1 129 2) + (1 : Int32)).toInt := rfl; have := bd_129_5 hI; have := (by decide : ((9 : Int32)).toInt = 9); have := PZ_ex (by unfold PZ; have := bd_129_1 hI; have : ((sI (sJ w 129 8 ((((10 : Int64) * (w.2.1 129 8)) + (Int32.toInt64 (w.1 130 ((w.1 129 2).toInt.toNat)))) - (48 : Int64))) 129 2 ((w.1 129 2) + (1 : Int32))).1 129 1).toInt = (w.1 129 1).toInt := rfl; have := bd_129_2 hI; have : ((sI (sJ w 129 8 ((((10 : Int64) * (w.2.1 129 8)) + (Int32.toInt64 (w.1 130 ((w.1 129 2).toInt.toNat)))) - (48 : Int64))) 129 2 ((w.1 129 2) + (1 : Int32))).1 129 2).toInt = ((w.1 129 2) + (1 : Int32)).toInt := rfl; have := bd_129_5 hI; have := (by decide : ((9 : Int32)).toInt = 9); have := PZ_ex hf_PZ; have := ti_add2 (Eq.refl (w.1 129 2).toInt) (by decide : ((1 : Int32)).toInt = 1) (by omega) (by omega); have := ti_sub2 (Eq.refl (w.1 129 2).toInt) (Eq.refl (w.1 129 5).toInt) (by omega) (by omega); omega); have := PZ_ex hf_PZ; have := ti_add2 (Eq.refl (w.1 129 2).toInt) (by decide : ((1 : Int32)).toInt = 1) (by omega) (by omega); have := ti_sub2 (Eq.refl (w.1 129 2).toInt) (Eq.refl (w.1 129 5).toInt) (by omega) (by omega); omega) (fun w9 hI9 hF9 hl9_PZ => hE w9 hI9 ((FR.I (FR.J (FR.refl _ w) (k := 129) (j := 8) (v := ((((10 : Int64) * (w.2.1 129 8)) + (Int32.toInt64 (w.1 130 ((w.1 129 2).toInt.toNat)))) - (48 : Int64))) rfl) (k := 129) (j := 2) (v := ((w.1 129 2) + (1 : Int32))) rfl).tr hF9 rfl) hl9_PZ ) (fun w9 hI9 hF9 hl9_PZ q0 => q0.elim)
set_option maxRecDepth 20000 in
set_option maxHeartbeats 2000000 in
theorem hq_Tx_digits_143 {E : MW → Prop} {Q : MW → Prop} (n : Nat) : ∀ (x143_1 : Int64) (w : MW), BND w → PZ w → 0 ≤ x143_1.toInt → x143_1.toInt ≤ 100 → (x143_1.toInt - 0).toNat < n → (∀ (w' : MW), BND w' → FR l_Tx_digits_143 w w' → PZ w' → E w') → (∀ (w' : MW), BND w' → FR l_Tx_digits_143 w w' → PZ w' → False → Q w') → q_Tx_digits_143 E Q n x143_1 w := by
  induction n with
  | zero => intros; omega
  | succ n ih =>
    intro x143_1 w hI hf_PZ hp0 hp1 hm hE hQ
    rw [q_Tx_digits_143.eq_2]
    refine Eq.mpr (p_Tx_at.eq_1 _ _ _) ?_
    refine ⟨fun h7482 => ?_, fun h7482 => ?_⟩
    · refine Eq.mpr (p_Tx_isDigit.eq_1 _ _ _) ?_
      refine ⟨fun _ => ?_, fun h => absurd (by decide) h⟩
      refine ⟨fun _ => ?_, fun h => absurd (by decide) h⟩
      exact hE _ hI (FR.refl _ w) hf_PZ 
    · have o7483 : 0 ≤ (w.1 129 2).toInt ∧ (w.1 129 2).toInt < 4020 := by have := bd_129_1 hI; have := bd_129_2 hI; have := PZ_ex hf_PZ; omega
      refine ⟨o7483, ?_⟩
      refine Eq.mpr (p_Tx_isDigit.eq_1 _ _ _) ?_
      refine ⟨fun h7484 => ?_, fun h7484 => ?_⟩
      · refine ⟨fun _ => ?_, fun h => absurd (by decide) h⟩
        exact hE _ hI (FR.refl _ w) hf_PZ 
      · refine ⟨fun h7485 => ?_, fun h7485 => ?_⟩
        · refine ⟨fun _ => ?_, fun h => absurd (by decide) h⟩
          exact hE _ hI (FR.refl _ w) hf_PZ 
        · refine ⟨fun h => absurd h (by decide), fun _ => ?_⟩
          refine ⟨fun h7486 => ?_, fun h7486 => ?_⟩
          · exact hE _ hI (FR.refl _ w) hf_PZ
          · refine Eq.mpr (p_Tx_at.eq_1 _ _ _) ?_
            refine ⟨fun h => absurd h h7482, fun _ => ?_⟩
            have o7487 : 0 ≤ (w.1 129 2).toInt ∧ (w.1 129 2).toInt < 4020 := by have := bd_129_1 hI; have := bd_129_2 hI; have := PZ_ex hf_PZ; omega
            refine ⟨o7487, ?_⟩
            have o7489 : 0 ≤ ((w.1 129 2) + (1 : Int32)).toInt ∧ ((w.1 129 2) + (1 : Int32)).toInt ≤ 4020 := by have := bd_129_1 hI; have := bd_129_2 hI; have := PZ_ex hf_PZ; have := ti_add2 (Eq.refl (w.1 129 2).toInt) (by decide : ((1 : Int32)).toInt = 1) (by omega) (by omega); omega
            have hI7488 : BND (sI (sJ w 129 8 ((w.2.1 129 8) + (x143_1 * (Int32.toInt64 ((w.1 130 ((w.1 129 2).toInt.toNat)) - (48 : Int32)))))) 129 2 ((w.1 129 2) + (1 : Int32))) := wbd_129_2 (bnd_J hI (k := 129) (j := 8) (v := ((w.2.1 129 8) + (x143_1 * (Int32.toInt64 ((w.1 130 ((w.1 129 2).toInt.toNat)) - (48 : Int32))))))) o7489.1 o7489.2
            have o7490 : (0 ≤ (x143_1 / (10 : Int64)).toInt) ∧ ((x143_1 / (10 : Int64)).toInt ≤ 100) := by have := nb_cmp x143_1 (0 : Int64); have := (by decide : ((0 : Int64)).toInt = 0); have := (by decide : ((0 : Int32)).toInt = 0); have := nb_ldiv (x := x143_1) (by omega) (by decide : ((10 : Int64)).toInt = 10) (by decide); exact ⟨by omega, by omega⟩
            exact ih _ (sI (sJ w 129 8 ((w.2.1 129 8) + (x143_1 * (Int32.toInt64 ((w.1 130 ((w.1 129 2).toInt.toNat)) - (48 : Int32)))))) 129 2 ((w.1 129 2) + (1 : Int32))) hI7488 (by unfold PZ; have := bd_129_1 hI; have : ((sI (sJ w 129 8 ((w.2.1 129 8) + (x143_1 * (Int32.toInt64 ((w.1 130 ((w.1 129 2).toInt.toNat)) - (48 : Int32)))))) 129 2 ((w.1 129 2) + (1 : Int32))).1 129 1).toInt = (w.1 129 1).toInt := rfl; have := bd_129_2 hI; have : ((sI (sJ w 129 8 ((w.2.1 129 8) + (x143_1 * (Int32.toInt64 ((w.1 130 ((w.1 129 2).toInt.toNat)) - (48 : Int32)))))) 129 2 ((w.1 129 2) + (1 : Int32))).1 129 2).toInt = ((w.1 129 2) + (1 : Int32)).toInt := rfl; have := PZ_ex hf_PZ; have := ti_add2 (Eq.refl (w.1 129 2).toInt) (by decide : ((1 : Int32)).toInt = 1) (by omega) (by omega); omega) o7490.1 o7490.2 (by have := nb_cmp x143_1 (0 : Int64); have := (by decide : ((0 : Int64)).toInt = 0); have := (by decide : ((0 : Int32)).toInt = 0); have := nb_ldiv (x := x143_1) (by omega) (by decide : ((10 : Int64)).toInt = 10) (by decide); omega) (fun w9 hI9 hF9 hl9_PZ => hE w9 hI9 ((FR.I (FR.J (FR.refl _ w) (k := 129) (j := 8) (v := ((w.2.1 129 8) + (x143_1 * (Int32.toInt64 ((w.1 130 ((w.1 129 2).toInt.toNat)) - (48 : Int32)))))) rfl) (k := 129) (j := 2) (v := ((w.1 129 2) + (1 : Int32))) rfl).tr hF9 rfl) hl9_PZ ) (fun w9 hI9 hF9 hl9_PZ q0 => q0.elim)
set_option maxRecDepth 20000 in
set_option maxHeartbeats 2000000 in
theorem h_Tx_digits {w : MW} {Q : MW → Prop} (hI : BND w) (hf_PZ : PZ w)  (hQ : ∀ (w' : MW), BND w' → FR l_Tx_digits w w' → PZ w' → Q w') : p_Tx_digits w Q := by
  refine Eq.mpr (p_Tx_digits.eq_1 _ _) ?_
  refine hq_Tx_digits_5 FU (sJ w 129 8 0) (bnd_J hI (k := 129) (j := 8) (v := 0)) (PZ_fr (l := [(129, some 8)]) (FR.J (FR.refl _ w) (k := 129) (j := 8) (v := 0) rfl) rfl hf_PZ)  (fu_lt (by have := bd_129_1 hI; have : ((sJ w 129 8 0).1 129 1).toInt = (w.1 129 1).toInt := rfl; have := bd_129_2 hI; have : ((sJ w 129 8 0).1 129 2).toInt = (w.1 129 2).toInt := rfl; have := PZ_ex (PZ_fr (l := [(129, some 8)]) (FR.J (FR.refl _ w) (k := 129) (j := 8) (v := 0) rfl) rfl hf_PZ); have := PZ_ex hf_PZ; omega)) (fun w7491 hI7492 hL7493 hlw7491_PZ  => ?_) (fun w9 hI9 hF9 hl9_PZ q0 => q0.elim)
  have hF7494 : FR l_Tx_digits w w7491 := (FR.J (FR.refl _ w) (k := 129) (j := 8) (v := 0) rfl).tr hL7493 rfl
  refine Eq.mpr (p_Tx_at.eq_1 _ _ _) ?_
  refine ⟨fun h7495 => ?_, fun h7495 => ?_⟩
  · refine ⟨fun _ => ?_, fun h => absurd (by decide) h⟩
    refine Eq.mpr (q_Tx_digits_119.eq_1 _ _ _) ?_
    refine ⟨by decide, ?_⟩
    refine ⟨fun _ => ?_, fun h => absurd (by decide) h⟩
    have hI7496 : BND (sI (sJ w7491 129 8 ((w7491.2.1 129 8) * (1000 : Int64))) 129 9 0) := wbd_129_9 (bnd_J hI7492 (k := 129) (j := 8) (v := ((w7491.2.1 129 8) * (1000 : Int64)))) (by decide) (by decide)
    exact hQ _ hI7496 (FR.I (FR.J hF7494 (k := 129) (j := 8) (v := ((w7491.2.1 129 8) * (1000 : Int64))) rfl) (k := 129) (j := 9) (v := 0) rfl) (PZ_fr (l := [(129, some 9)]) (FR.I (FR.refl _ (sJ w7491 129 8 ((w7491.2.1 129 8) * (1000 : Int64)))) (k := 129) (j := 9) (v := 0) rfl) rfl (PZ_fr (l := [(129, some 8)]) (FR.J (FR.refl _ w7491) (k := 129) (j := 8) (v := ((w7491.2.1 129 8) * (1000 : Int64))) rfl) rfl hlw7491_PZ)) 
  · have o7497 : 0 ≤ (w7491.1 129 2).toInt ∧ (w7491.1 129 2).toInt < 4020 := by have := bd_129_1 hI7492; have := bd_129_1 hI; have : ((sJ w 129 8 0).1 129 1).toInt = (w.1 129 1).toInt := rfl; have := (congrArg Int32.toInt (hL7493 129 1 rfl).1); have := bd_129_2 hI7492; have : ((sJ w7491 129 8 ((w7491.2.1 129 8) * (1000 : Int64))).1 129 1).toInt = (w7491.1 129 1).toInt := rfl; have := PZ_ex hlw7491_PZ; omega
    refine ⟨o7497, ?_⟩
    refine ⟨fun h7498 => ?_, fun h7498 => ?_⟩
    · refine Eq.mpr (q_Tx_digits_119.eq_1 _ _ _) ?_
      refine ⟨by decide, ?_⟩
      refine ⟨fun _ => ?_, fun h => absurd (by decide) h⟩
      have hI7499 : BND (sI (sJ w7491 129 8 ((w7491.2.1 129 8) * (1000 : Int64))) 129 9 0) := wbd_129_9 (bnd_J hI7492 (k := 129) (j := 8) (v := ((w7491.2.1 129 8) * (1000 : Int64)))) (by decide) (by decide)
      exact hQ _ hI7499 (FR.I (FR.J hF7494 (k := 129) (j := 8) (v := ((w7491.2.1 129 8) * (1000 : Int64))) rfl) (k := 129) (j := 9) (v := 0) rfl) (PZ_fr (l := [(129, some 9)]) (FR.I (FR.refl _ (sJ w7491 129 8 ((w7491.2.1 129 8) * (1000 : Int64)))) (k := 129) (j := 9) (v := 0) rfl) rfl (PZ_fr (l := [(129, some 8)]) (FR.J (FR.refl _ w7491) (k := 129) (j := 8) (v := ((w7491.2.1 129 8) * (1000 : Int64))) rfl) rfl hlw7491_PZ)) 
    · refine Eq.mpr (p_Tx_at.eq_1 _ _ _) ?_
      refine ⟨fun h7500 => ?_, fun h7500 => ?_⟩
      · refine Eq.mpr (p_Tx_isDigit.eq_1 _ _ _) ?_
        refine ⟨fun _ => ?_, fun h => absurd (by decide) h⟩
        refine ⟨fun _ => ?_, fun h => absurd (by decide) h⟩
        refine Eq.mpr (q_Tx_digits_119.eq_1 _ _ _) ?_
        refine ⟨by decide, ?_⟩
        refine ⟨fun _ => ?_, fun h => absurd (by decide) h⟩
        have hI7501 : BND (sI (sJ w7491 129 8 ((w7491.2.1 129 8) * (1000 : Int64))) 129 9 0) := wbd_129_9 (bnd_J hI7492 (k := 129) (j := 8) (v := ((w7491.2.1 129 8) * (1000 : Int64)))) (by decide) (by decide)
        exact hQ _ hI7501 (FR.I (FR.J hF7494 (k := 129) (j := 8) (v := ((w7491.2.1 129 8) * (1000 : Int64))) rfl) (k := 129) (j := 9) (v := 0) rfl) (PZ_fr (l := [(129, some 9)]) (FR.I (FR.refl _ (sJ w7491 129 8 ((w7491.2.1 129 8) * (1000 : Int64)))) (k := 129) (j := 9) (v := 0) rfl) rfl (PZ_fr (l := [(129, some 8)]) (FR.J (FR.refl _ w7491) (k := 129) (j := 8) (v := ((w7491.2.1 129 8) * (1000 : Int64))) rfl) rfl hlw7491_PZ)) 
      · have o7502 : 0 ≤ (((sJ w7491 129 8 ((w7491.2.1 129 8) * (1000 : Int64))).1 129 2) + (1 : Int32)).toInt ∧ (((sJ w7491 129 8 ((w7491.2.1 129 8) * (1000 : Int64))).1 129 2) + (1 : Int32)).toInt < 4020 := by have := bd_129_1 hI7492; have := bd_129_1 hI; have : ((sJ w 129 8 0).1 129 1).toInt = (w.1 129 1).toInt := rfl; have := (congrArg Int32.toInt (hL7493 129 1 rfl).1); have : ((sJ w7491 129 8 ((w7491.2.1 129 8) * (1000 : Int64))).1 129 1).toInt = (w7491.1 129 1).toInt := rfl; have := bd_129_2 hI7492; have : ((sJ w7491 129 8 ((w7491.2.1 129 8) * (1000 : Int64))).1 129 2).toInt = (w7491.1 129 2).toInt := rfl; have := PZ_ex (PZ_fr (l := [(129, some 8)]) (FR.J (FR.refl _ w7491) (k := 129) (j := 8) (v := ((w7491.2.1 129 8) * (1000 : Int64))) rfl) rfl hlw7491_PZ); have := PZ_ex hlw7491_PZ; have := ti_add2 (Eq.refl ((sJ w7491 129 8 ((w7491.2.1 129 8) * (1000 : Int64))).1 129 2).toInt) (by decide : ((1 : Int32)).toInt = 1) (by omega) (by omega); omega
        refine ⟨o7502, ?_⟩
        refine Eq.mpr (p_Tx_isDigit.eq_1 _ _ _) ?_
        refine ⟨fun h7503 => ?_, fun h7503 => ?_⟩
        · refine ⟨fun _ => ?_, fun h => absurd (by decide) h⟩
          refine Eq.mpr (q_Tx_digits_119.eq_1 _ _ _) ?_
          refine ⟨by decide, ?_⟩
          refine ⟨fun _ => ?_, fun h => absurd (by decide) h⟩
          have hI7504 : BND (sI (sJ w7491 129 8 ((w7491.2.1 129 8) * (1000 : Int64))) 129 9 0) := wbd_129_9 (bnd_J hI7492 (k := 129) (j := 8) (v := ((w7491.2.1 129 8) * (1000 : Int64)))) (by decide) (by decide)
          exact hQ _ hI7504 (FR.I (FR.J hF7494 (k := 129) (j := 8) (v := ((w7491.2.1 129 8) * (1000 : Int64))) rfl) (k := 129) (j := 9) (v := 0) rfl) (PZ_fr (l := [(129, some 9)]) (FR.I (FR.refl _ (sJ w7491 129 8 ((w7491.2.1 129 8) * (1000 : Int64)))) (k := 129) (j := 9) (v := 0) rfl) rfl (PZ_fr (l := [(129, some 8)]) (FR.J (FR.refl _ w7491) (k := 129) (j := 8) (v := ((w7491.2.1 129 8) * (1000 : Int64))) rfl) rfl hlw7491_PZ)) 
        · refine ⟨fun h7505 => ?_, fun h7505 => ?_⟩
          · refine ⟨fun _ => ?_, fun h => absurd (by decide) h⟩
            refine Eq.mpr (q_Tx_digits_119.eq_1 _ _ _) ?_
            refine ⟨by decide, ?_⟩
            refine ⟨fun _ => ?_, fun h => absurd (by decide) h⟩
            have hI7506 : BND (sI (sJ w7491 129 8 ((w7491.2.1 129 8) * (1000 : Int64))) 129 9 0) := wbd_129_9 (bnd_J hI7492 (k := 129) (j := 8) (v := ((w7491.2.1 129 8) * (1000 : Int64)))) (by decide) (by decide)
            exact hQ _ hI7506 (FR.I (FR.J hF7494 (k := 129) (j := 8) (v := ((w7491.2.1 129 8) * (1000 : Int64))) rfl) (k := 129) (j := 9) (v := 0) rfl) (PZ_fr (l := [(129, some 9)]) (FR.I (FR.refl _ (sJ w7491 129 8 ((w7491.2.1 129 8) * (1000 : Int64)))) (k := 129) (j := 9) (v := 0) rfl) rfl (PZ_fr (l := [(129, some 8)]) (FR.J (FR.refl _ w7491) (k := 129) (j := 8) (v := ((w7491.2.1 129 8) * (1000 : Int64))) rfl) rfl hlw7491_PZ)) 
          · refine ⟨fun h => absurd h (by decide), fun _ => ?_⟩
            refine Eq.mpr (q_Tx_digits_119.eq_1 _ _ _) ?_
            refine ⟨by decide, ?_⟩
            refine ⟨fun h => absurd h (by decide), fun _ => ?_⟩
            have hI7507 : BND (sI (sJ w7491 129 8 ((w7491.2.1 129 8) * (1000 : Int64))) 129 9 1) := wbd_129_9 (bnd_J hI7492 (k := 129) (j := 8) (v := ((w7491.2.1 129 8) * (1000 : Int64)))) (by decide) (by decide)
            have o7509 : 0 ≤ (((sJ w7491 129 8 ((w7491.2.1 129 8) * (1000 : Int64))).1 129 2) + (1 : Int32)).toInt ∧ (((sJ w7491 129 8 ((w7491.2.1 129 8) * (1000 : Int64))).1 129 2) + (1 : Int32)).toInt ≤ 4020 := by have := bd_129_1 hI7492; have := bd_129_1 hI; have : ((sJ w 129 8 0).1 129 1).toInt = (w.1 129 1).toInt := rfl; have := (congrArg Int32.toInt (hL7493 129 1 rfl).1); have : ((sJ w7491 129 8 ((w7491.2.1 129 8) * (1000 : Int64))).1 129 1).toInt = (w7491.1 129 1).toInt := rfl; have := bd_129_2 hI7492; have : ((sJ w7491 129 8 ((w7491.2.1 129 8) * (1000 : Int64))).1 129 2).toInt = (w7491.1 129 2).toInt := rfl; have := PZ_ex (PZ_fr (l := [(129, some 8)]) (FR.J (FR.refl _ w7491) (k := 129) (j := 8) (v := ((w7491.2.1 129 8) * (1000 : Int64))) rfl) rfl hlw7491_PZ); have := PZ_ex hlw7491_PZ; have := ti_add2 (Eq.refl ((sJ w7491 129 8 ((w7491.2.1 129 8) * (1000 : Int64))).1 129 2).toInt) (by decide : ((1 : Int32)).toInt = 1) (by omega) (by omega); omega
            have hI7508 : BND (sI (sI (sJ w7491 129 8 ((w7491.2.1 129 8) * (1000 : Int64))) 129 9 1) 129 2 (((sJ w7491 129 8 ((w7491.2.1 129 8) * (1000 : Int64))).1 129 2) + (1 : Int32))) := wbd_129_2 hI7507 o7509.1 o7509.2
            have o7510 : (0 ≤ (100 : Int64).toInt) ∧ ((100 : Int64).toInt ≤ 100) := by have := (by decide : ((100 : Int64)).toInt = 100); exact ⟨by omega, by omega⟩
            refine hq_Tx_digits_143 FU _ (sI (sI (sJ w7491 129 8 ((w7491.2.1 129 8) * (1000 : Int64))) 129 9 1) 129 2 (((sJ w7491 129 8 ((w7491.2.1 129 8) * (1000 : Int64))).1 129 2) + (1 : Int32))) hI7508 (by unfold PZ; have := bd_129_1 hI7492; have := bd_129_1 hI; have : ((sJ w 129 8 0).1 129 1).toInt = (w.1 129 1).toInt := rfl; have := (congrArg Int32.toInt (hL7493 129 1 rfl).1); have : ((sI (sI (sJ w7491 129 8 ((w7491.2.1 129 8) * (1000 : Int64))) 129 9 1) 129 2 (((sJ w7491 129 8 ((w7491.2.1 129 8) * (1000 : Int64))).1 129 2) + (1 : Int32))).1 129 1).toInt = (w7491.1 129 1).toInt := rfl; have : ((sJ w7491 129 8 ((w7491.2.1 129 8) * (1000 : Int64))).1 129 1).toInt = (w7491.1 129 1).toInt := rfl; have := bd_129_2 hI7492; have : ((sJ w7491 129 8 ((w7491.2.1 129 8) * (1000 : Int64))).1 129 2).toInt = (w7491.1 129 2).toInt := rfl; have : ((sI (sI (sJ w7491 129 8 ((w7491.2.1 129 8) * (1000 : Int64))) 129 9 1) 129 2 (((sJ w7491 129 8 ((w7491.2.1 129 8) * (1000 : Int64))).1 129 2) + (1 : Int32))).1 129 2).toInt = (((sJ w7491 129 8 ((w7491.2.1 129 8) * (1000 : Int64))).1 129 2) + (1 : Int32)).toInt := rfl; have := PZ_ex (PZ_fr (l := [(129, some 8)]) (FR.J (FR.refl _ w7491) (k := 129) (j := 8) (v := ((w7491.2.1 129 8) * (1000 : Int64))) rfl) rfl hlw7491_PZ); have := PZ_ex hlw7491_PZ; have := ti_add2 (Eq.refl ((sJ w7491 129 8 ((w7491.2.1 129 8) * (1000 : Int64))).1 129 2).toInt) (by decide : ((1 : Int32)).toInt = 1) (by omega) (by omega); omega) o7510.1 o7510.2 (fu_lt (by have := (by decide : ((100 : Int64)).toInt = 100); omega)) (fun w7511 hI7512 hL7513 hlw7511_PZ  => ?_) (fun w9 hI9 hF9 hl9_PZ q0 => q0.elim)
            have hF7514 : FR l_Tx_digits w w7511 := (FR.I (FR.I (FR.J hF7494 (k := 129) (j := 8) (v := ((w7491.2.1 129 8) * (1000 : Int64))) rfl) (k := 129) (j := 9) (v := 1) rfl) (k := 129) (j := 2) (v := (((sJ w7491 129 8 ((w7491.2.1 129 8) * (1000 : Int64))).1 129 2) + (1 : Int32))) rfl).tr hL7513 rfl
            exact hQ _ hI7512 hF7514 hlw7511_PZ 
def l_Tx_is_8 : Pl := []
def l_Tx_is : Pl := []
set_option maxRecDepth 20000 in
set_option maxHeartbeats 2000000 in
theorem hq_Tx_is_8 {E : Int32 → MW → Prop} {Q : Int32 → MW → Prop} (n : Nat) : ∀ (x8_3 : Int32) (x8_4 : Int64) (w : MW), BND w → 0 ≤ x8_3.toInt → x8_3.toInt ≤ 4020 → 0 ≤ x8_4.toInt → x8_4.toInt ≤ 128047746676079 → (4020 - x8_3.toInt).toNat < n → (∀ (e8_3 : Int32) (w' : MW), BND w' → FR l_Tx_is_8 w w' → 0 ≤ e8_3.toInt → e8_3.toInt ≤ 4020 → E e8_3 w') → (∀ (r : Int32) (w' : MW), BND w' → FR l_Tx_is_8 w w' → 0 ≤ r.toInt → r.toInt ≤ 0 → Q r w') → q_Tx_is_8 E Q n x8_3 x8_4 w := by
  induction n with
  | zero => intros; omega
  | succ n ih =>
    intro x8_3 x8_4 w hI  hp0 hp1 hp2 hp3 hm hE hQ
    rw [q_Tx_is_8.eq_2]
    refine ⟨fun h7515 => ?_, fun h7515 => ?_⟩
    · have o7516 : (0 ≤ x8_3.toInt) ∧ (x8_3.toInt ≤ 4020) := by exact ⟨by omega, by omega⟩
      exact hE _ _ hI (FR.refl _ w) o7516.1 o7516.2
    · refine ⟨fun h7517 => ?_, fun h7517 => ?_⟩
      · have o7518 : (0 ≤ (0 : Int32).toInt) ∧ ((0 : Int32).toInt ≤ 0) := by have := (by decide : ((0 : Int32)).toInt = 0); exact ⟨by omega, by omega⟩
        exact hQ _ _ hI (FR.refl _ w)  o7518.1 o7518.2
      · have o7519 : 0 ≤ x8_3.toInt ∧ x8_3.toInt < 4020 := by have := bd_129_6 hI; omega
        refine ⟨o7519, ?_⟩
        refine ⟨fun h7520 => ?_, fun h7520 => ?_⟩
        · have o7521 : (0 ≤ (x8_3 + (1 : Int32)).toInt) ∧ ((x8_3 + (1 : Int32)).toInt ≤ 4020) ∧ (0 ≤ ((x8_4.toUInt64 >>> ((8 : Int32).toInt64.toUInt64 &&& Int64.toUInt64 63)).toInt64).toInt) ∧ (((x8_4.toUInt64 >>> ((8 : Int32).toInt64.toUInt64 &&& Int64.toUInt64 63)).toInt64).toInt ≤ 128047746676079) := by have := nb_cmp x8_4 (0 : Int64); have := (by decide : ((0 : Int64)).toInt = 0); have := (by decide : ((0 : Int32)).toInt = 0); have := bd_129_6 hI; have := bd_130 hI x8_3.toInt.toNat; have := ti_lo (Int64.toInt32 (x8_4 &&& (255 : Int64))); have := ti_hi (Int64.toInt32 (x8_4 &&& (255 : Int64))); have := ti_add2 (Eq.refl x8_3.toInt) (by decide : ((1 : Int32)).toInt = 1) (by omega) (by omega); have := nb_lushr8 x8_4 (by omega); have := nb_l255 x8_4 (by omega); exact ⟨by omega, by omega, by omega, by omega⟩
          exact ih _ _ w hI  o7521.1 o7521.2.1 o7521.2.2.1 o7521.2.2.2 (by have := nb_cmp x8_4 (0 : Int64); have := (by decide : ((0 : Int64)).toInt = 0); have := (by decide : ((0 : Int32)).toInt = 0); have := bd_129_6 hI; have := bd_130 hI x8_3.toInt.toNat; have := ti_lo (Int64.toInt32 (x8_4 &&& (255 : Int64))); have := ti_hi (Int64.toInt32 (x8_4 &&& (255 : Int64))); have := ti_add2 (Eq.refl x8_3.toInt) (by decide : ((1 : Int32)).toInt = 1) (by omega) (by omega); have := nb_lushr8 x8_4 (by omega); have := nb_l255 x8_4 (by omega); omega) (fun e0 w9 hI9 hF9 p0 p1 => hE e0 w9 hI9 ((FR.refl _ w).tr hF9 rfl) p0 p1 ) (fun r w9 hI9 hF9 q0 q1 => hQ r w9 hI9 ((FR.refl _ w).tr hF9 rfl) (by have := nb_cmp x8_4 (0 : Int64); have := (by decide : ((0 : Int64)).toInt = 0); have := (by decide : ((0 : Int32)).toInt = 0); have := bd_129_6 hI; have := bd_130 hI x8_3.toInt.toNat; have := ti_lo (Int64.toInt32 (x8_4 &&& (255 : Int64))); have := ti_hi (Int64.toInt32 (x8_4 &&& (255 : Int64))); have := ti_add2 (Eq.refl x8_3.toInt) (by decide : ((1 : Int32)).toInt = 1) (by omega) (by omega); have := nb_lushr8 x8_4 (by omega); have := nb_l255 x8_4 (by omega); omega) (by have := nb_cmp x8_4 (0 : Int64); have := (by decide : ((0 : Int64)).toInt = 0); have := (by decide : ((0 : Int32)).toInt = 0); have := bd_129_6 hI; have := bd_130 hI x8_3.toInt.toNat; have := ti_lo (Int64.toInt32 (x8_4 &&& (255 : Int64))); have := ti_hi (Int64.toInt32 (x8_4 &&& (255 : Int64))); have := ti_add2 (Eq.refl x8_3.toInt) (by decide : ((1 : Int32)).toInt = 1) (by omega) (by omega); have := nb_lushr8 x8_4 (by omega); have := nb_l255 x8_4 (by omega); omega))
        · have o7522 : (0 ≤ (0 : Int32).toInt) ∧ ((0 : Int32).toInt ≤ 0) := by have := (by decide : ((0 : Int32)).toInt = 0); exact ⟨by omega, by omega⟩
          exact hQ _ _ hI (FR.refl _ w)  o7522.1 o7522.2
set_option maxRecDepth 20000 in
set_option maxHeartbeats 2000000 in
theorem h_Tx_is {w : MW} {a0 : Int64} {Q : Int32 → MW → Prop} (hI : BND w) (hp0 : 99 ≤ a0.toInt) (hp1 : a0.toInt ≤ 128047746676079) (hQ : ∀ (r : Int32) (w' : MW), BND w' → FR l_Tx_is w w' → 0 ≤ r.toInt → r.toInt ≤ 1 → Q r w') : p_Tx_is w a0 Q := by
  refine Eq.mpr (p_Tx_is.eq_1 _ _ _) ?_
  have o7523 : (0 ≤ (w.1 129 5).toInt) ∧ ((w.1 129 5).toInt ≤ 4020) ∧ (0 ≤ a0.toInt) ∧ (a0.toInt ≤ 128047746676079) := by have := bd_129_5 hI; exact ⟨by omega, by omega, by omega, by omega⟩
  refine hq_Tx_is_8 FU _ _ w hI  o7523.1 o7523.2.1 o7523.2.2.1 o7523.2.2.2 (fu_lt (by have := bd_129_5 hI; omega)) (fun e7527 w7524 hI7525 hL7526 p7528 p7529 => ?_) (fun r w9 hI9 hF9 q0 q1 => hQ r w9 hI9 (((FR.refl _ w)).tr hF9 rfl) (by have := bd_129_5 hI; omega) (by have := bd_129_5 hI; omega))
  have hF7530 : FR l_Tx_is w w7524 := (FR.refl _ w).tr hL7526 rfl
  refine ⟨fun h7531 => ?_, fun h7531 => ?_⟩
  · have o7532 : (0 ≤ (0 : Int32).toInt) ∧ ((0 : Int32).toInt ≤ 1) := by have := (by decide : ((0 : Int32)).toInt = 0); exact ⟨by omega, by omega⟩
    exact hQ _ _ hI7525 hF7530  o7532.1 o7532.2
  · have o7533 : (0 ≤ (1 : Int32).toInt) ∧ ((1 : Int32).toInt ≤ 1) := by have := (by decide : ((1 : Int32)).toInt = 1); exact ⟨by omega, by omega⟩
    exact hQ _ _ hI7525 hF7530  o7533.1 o7533.2
def l_Tx_meaning_395 : Pl := []
def l_Tx_meaning_258 : Pl := []
def l_Tx_meaning_121 : Pl := []
def l_Tx_meaning : Pl := []
set_option maxRecDepth 20000 in
set_option maxHeartbeats 2000000 in
theorem hq_Tx_meaning_258 {y258_1 : Int32} {ys258_0 : Int32} {w : MW} {Q : Int32 → MW → Prop} (hI : BND w) (hp0 : (-1) ≤ y258_1.toInt) (hp1 : y258_1.toInt ≤ 17) (hp2 : (-1) ≤ ys258_0.toInt) (hp3 : ys258_0.toInt ≤ 32) (hQ : ∀ (r : Int32) (w' : MW), BND w' → FR l_Tx_meaning_258 w w' → (-1) ≤ r.toInt → r.toInt ≤ 46 → Q r w') : q_Tx_meaning_258 y258_1 ys258_0 w Q := by
  refine Eq.mpr (q_Tx_meaning_258.eq_1 _ _ _ _) ?_
  have o7534 : (99 ≤ (1702063205 : Int64).toInt) ∧ ((1702063205 : Int64).toInt ≤ 128047746676079) := by have := (by decide : ((1702063205 : Int64)).toInt = 1702063205); exact ⟨by omega, by omega⟩
  refine h_Tx_is hI  o7534.1 o7534.2 (fun r7538 w7535 hI7536 hL7537 p7539 p7540 => ?_)
  have hF7541 : FR l_Tx_meaning_258 w w7535 := (FR.refl _ w).tr hL7537 rfl
  refine ⟨fun h7542 => ?_, fun h7542 => ?_⟩
  · have o7543 : (99 ≤ (1852139636 : Int64).toInt) ∧ ((1852139636 : Int64).toInt ≤ 128047746676079) := by have := (by decide : ((1852139636 : Int64)).toInt = 1852139636); exact ⟨by omega, by omega⟩
    refine h_Tx_is hI7536  o7543.1 o7543.2 (fun r7547 w7544 hI7545 hL7546 p7548 p7549 => ?_)
    have hF7550 : FR l_Tx_meaning_258 w w7544 := hF7541.tr hL7546 rfl
    refine ⟨fun h7551 => ?_, fun h7551 => ?_⟩
    · have o7552 : (99 ≤ (108 : Int64).toInt) ∧ ((108 : Int64).toInt ≤ 128047746676079) := by have := (by decide : ((108 : Int64)).toInt = 108); exact ⟨by omega, by omega⟩
      refine h_Tx_is hI7545  o7552.1 o7552.2 (fun r7556 w7553 hI7554 hL7555 p7557 p7558 => ?_)
      have hF7559 : FR l_Tx_meaning_258 w w7553 := hF7550.tr hL7555 rfl
      refine ⟨fun h7560 => ?_, fun h7560 => ?_⟩
      · have o7561 : (99 ≤ (99 : Int64).toInt) ∧ ((99 : Int64).toInt ≤ 128047746676079) := by have := (by decide : ((99 : Int64)).toInt = 99); exact ⟨by omega, by omega⟩
        refine h_Tx_is hI7554  o7561.1 o7561.2 (fun r7565 w7562 hI7563 hL7564 p7566 p7567 => ?_)
        have hF7568 : FR l_Tx_meaning_258 w w7562 := hF7559.tr hL7564 rfl
        refine ⟨fun h7569 => ?_, fun h7569 => ?_⟩
        · have o7570 : (99 ≤ (115 : Int64).toInt) ∧ ((115 : Int64).toInt ≤ 128047746676079) := by have := (by decide : ((115 : Int64)).toInt = 115); exact ⟨by omega, by omega⟩
          refine h_Tx_is hI7563  o7570.1 o7570.2 (fun r7574 w7571 hI7572 hL7573 p7575 p7576 => ?_)
          have hF7577 : FR l_Tx_meaning_258 w w7571 := hF7568.tr hL7573 rfl
          refine ⟨fun h7578 => ?_, fun h7578 => ?_⟩
          · have o7579 : (99 ≤ (7496034 : Int64).toInt) ∧ ((7496034 : Int64).toInt ≤ 128047746676079) := by have := (by decide : ((7496034 : Int64)).toInt = 7496034); exact ⟨by omega, by omega⟩
            refine h_Tx_is hI7572  o7579.1 o7579.2 (fun r7583 w7580 hI7581 hL7582 p7584 p7585 => ?_)
            have hF7586 : FR l_Tx_meaning_258 w w7580 := hF7577.tr hL7582 rfl
            refine ⟨fun h7587 => ?_, fun h7587 => ?_⟩
            · have o7588 : (99 ≤ (1953653104 : Int64).toInt) ∧ ((1953653104 : Int64).toInt ≤ 128047746676079) := by have := (by decide : ((1953653104 : Int64)).toInt = 1953653104); exact ⟨by omega, by omega⟩
              refine h_Tx_is hI7581  o7588.1 o7588.2 (fun r7592 w7589 hI7590 hL7591 p7593 p7594 => ?_)
              have hF7595 : FR l_Tx_meaning_258 w w7589 := hF7586.tr hL7591 rfl
              refine ⟨fun h7596 => ?_, fun h7596 => ?_⟩
              · have o7597 : (99 ≤ (7235949 : Int64).toInt) ∧ ((7235949 : Int64).toInt ≤ 128047746676079) := by have := (by decide : ((7235949 : Int64)).toInt = 7235949); exact ⟨by omega, by omega⟩
                refine h_Tx_is hI7590  o7597.1 o7597.2 (fun r7601 w7598 hI7599 hL7600 p7602 p7603 => ?_)
                have hF7604 : FR l_Tx_meaning_258 w w7598 := hF7595.tr hL7600 rfl
                refine ⟨fun h7605 => ?_, fun h7605 => ?_⟩
                · have o7606 : (99 ≤ (104 : Int64).toInt) ∧ ((104 : Int64).toInt ≤ 128047746676079) := by have := (by decide : ((104 : Int64)).toInt = 104); exact ⟨by omega, by omega⟩
                  refine h_Tx_is hI7599  o7606.1 o7606.2 (fun r7610 w7607 hI7608 hL7609 p7611 p7612 => ?_)
                  have hF7613 : FR l_Tx_meaning_258 w w7607 := hF7604.tr hL7609 rfl
                  refine ⟨fun h7614 => ?_, fun h7614 => ?_⟩
                  · refine Eq.mpr (q_Tx_meaning_395.eq_1 _ _ _ _ _) ?_
                    refine ⟨fun h7615 => ?_, fun h7615 => ?_⟩
                    · refine ⟨fun h7616 => ?_, fun h7616 => ?_⟩
                      · have o7617 : ((-1) ≤ ((-1) : Int32).toInt) ∧ (((-1) : Int32).toInt ≤ 46) := by have := (by decide : (((-1) : Int32)).toInt = (-1)); exact ⟨by omega, by omega⟩
                        exact hQ _ _ hI7608 hF7613  o7617.1 o7617.2
                      · have o7618 : ((-1) ≤ ys258_0.toInt) ∧ (ys258_0.toInt ≤ 46) := by have := (by decide : (((-1) : Int32)).toInt = (-1)); exact ⟨by omega, by omega⟩
                        exact hQ _ _ hI7608 hF7613  o7618.1 o7618.2
                    · have o7619 : ((-1) ≤ y258_1.toInt) ∧ (y258_1.toInt ≤ 46) := by have := (by decide : (((-1) : Int32)).toInt = (-1)); exact ⟨by omega, by omega⟩
                      exact hQ _ _ hI7608 hF7613  o7619.1 o7619.2
                  · refine Eq.mpr (q_Tx_meaning_395.eq_1 _ _ _ _ _) ?_
                    refine ⟨fun h7620 => ?_, fun h7620 => ?_⟩
                    · refine ⟨fun h7621 => ?_, fun h7621 => ?_⟩
                      · have o7622 : ((-1) ≤ (46 : Int32).toInt) ∧ ((46 : Int32).toInt ≤ 46) := by have := (by decide : ((46 : Int32)).toInt = 46); exact ⟨by omega, by omega⟩
                        exact hQ _ _ hI7608 hF7613  o7622.1 o7622.2
                      · have o7623 : ((-1) ≤ ys258_0.toInt) ∧ (ys258_0.toInt ≤ 46) := by have := (by decide : (((-1) : Int32)).toInt = (-1)); exact ⟨by omega, by omega⟩
                        exact hQ _ _ hI7608 hF7613  o7623.1 o7623.2
                    · have o7624 : ((-1) ≤ y258_1.toInt) ∧ (y258_1.toInt ≤ 46) := by have := (by decide : (((-1) : Int32)).toInt = (-1)); exact ⟨by omega, by omega⟩
                      exact hQ _ _ hI7608 hF7613  o7624.1 o7624.2
                · refine Eq.mpr (q_Tx_meaning_395.eq_1 _ _ _ _ _) ?_
                  refine ⟨fun h7625 => ?_, fun h7625 => ?_⟩
                  · refine ⟨fun h7626 => ?_, fun h7626 => ?_⟩
                    · have o7627 : ((-1) ≤ (45 : Int32).toInt) ∧ ((45 : Int32).toInt ≤ 46) := by have := (by decide : ((45 : Int32)).toInt = 45); exact ⟨by omega, by omega⟩
                      exact hQ _ _ hI7599 hF7604  o7627.1 o7627.2
                    · have o7628 : ((-1) ≤ ys258_0.toInt) ∧ (ys258_0.toInt ≤ 46) := by have := (by decide : (((-1) : Int32)).toInt = (-1)); exact ⟨by omega, by omega⟩
                      exact hQ _ _ hI7599 hF7604  o7628.1 o7628.2
                  · have o7629 : ((-1) ≤ y258_1.toInt) ∧ (y258_1.toInt ≤ 46) := by have := (by decide : (((-1) : Int32)).toInt = (-1)); exact ⟨by omega, by omega⟩
                    exact hQ _ _ hI7599 hF7604  o7629.1 o7629.2
              · refine Eq.mpr (q_Tx_meaning_395.eq_1 _ _ _ _ _) ?_
                refine ⟨fun h7630 => ?_, fun h7630 => ?_⟩
                · refine ⟨fun h7631 => ?_, fun h7631 => ?_⟩
                  · have o7632 : ((-1) ≤ (44 : Int32).toInt) ∧ ((44 : Int32).toInt ≤ 46) := by have := (by decide : ((44 : Int32)).toInt = 44); exact ⟨by omega, by omega⟩
                    exact hQ _ _ hI7590 hF7595  o7632.1 o7632.2
                  · have o7633 : ((-1) ≤ ys258_0.toInt) ∧ (ys258_0.toInt ≤ 46) := by have := (by decide : (((-1) : Int32)).toInt = (-1)); exact ⟨by omega, by omega⟩
                    exact hQ _ _ hI7590 hF7595  o7633.1 o7633.2
                · have o7634 : ((-1) ≤ y258_1.toInt) ∧ (y258_1.toInt ≤ 46) := by have := (by decide : (((-1) : Int32)).toInt = (-1)); exact ⟨by omega, by omega⟩
                  exact hQ _ _ hI7590 hF7595  o7634.1 o7634.2
            · refine Eq.mpr (q_Tx_meaning_395.eq_1 _ _ _ _ _) ?_
              refine ⟨fun h7635 => ?_, fun h7635 => ?_⟩
              · refine ⟨fun h7636 => ?_, fun h7636 => ?_⟩
                · have o7637 : ((-1) ≤ (43 : Int32).toInt) ∧ ((43 : Int32).toInt ≤ 46) := by have := (by decide : ((43 : Int32)).toInt = 43); exact ⟨by omega, by omega⟩
                  exact hQ _ _ hI7581 hF7586  o7637.1 o7637.2
                · have o7638 : ((-1) ≤ ys258_0.toInt) ∧ (ys258_0.toInt ≤ 46) := by have := (by decide : (((-1) : Int32)).toInt = (-1)); exact ⟨by omega, by omega⟩
                  exact hQ _ _ hI7581 hF7586  o7638.1 o7638.2
              · have o7639 : ((-1) ≤ y258_1.toInt) ∧ (y258_1.toInt ≤ 46) := by have := (by decide : (((-1) : Int32)).toInt = (-1)); exact ⟨by omega, by omega⟩
                exact hQ _ _ hI7581 hF7586  o7639.1 o7639.2
          · refine Eq.mpr (q_Tx_meaning_395.eq_1 _ _ _ _ _) ?_
            refine ⟨fun h7640 => ?_, fun h7640 => ?_⟩
            · refine ⟨fun h7641 => ?_, fun h7641 => ?_⟩
              · have o7642 : ((-1) ≤ (42 : Int32).toInt) ∧ ((42 : Int32).toInt ≤ 46) := by have := (by decide : ((42 : Int32)).toInt = 42); exact ⟨by omega, by omega⟩
                exact hQ _ _ hI7572 hF7577  o7642.1 o7642.2
              · have o7643 : ((-1) ≤ ys258_0.toInt) ∧ (ys258_0.toInt ≤ 46) := by have := (by decide : (((-1) : Int32)).toInt = (-1)); exact ⟨by omega, by omega⟩
                exact hQ _ _ hI7572 hF7577  o7643.1 o7643.2
            · have o7644 : ((-1) ≤ y258_1.toInt) ∧ (y258_1.toInt ≤ 46) := by have := (by decide : (((-1) : Int32)).toInt = (-1)); exact ⟨by omega, by omega⟩
              exact hQ _ _ hI7572 hF7577  o7644.1 o7644.2
        · refine Eq.mpr (q_Tx_meaning_395.eq_1 _ _ _ _ _) ?_
          refine ⟨fun h7645 => ?_, fun h7645 => ?_⟩
          · refine ⟨fun h7646 => ?_, fun h7646 => ?_⟩
            · have o7647 : ((-1) ≤ (41 : Int32).toInt) ∧ ((41 : Int32).toInt ≤ 46) := by have := (by decide : ((41 : Int32)).toInt = 41); exact ⟨by omega, by omega⟩
              exact hQ _ _ hI7563 hF7568  o7647.1 o7647.2
            · have o7648 : ((-1) ≤ ys258_0.toInt) ∧ (ys258_0.toInt ≤ 46) := by have := (by decide : (((-1) : Int32)).toInt = (-1)); exact ⟨by omega, by omega⟩
              exact hQ _ _ hI7563 hF7568  o7648.1 o7648.2
          · have o7649 : ((-1) ≤ y258_1.toInt) ∧ (y258_1.toInt ≤ 46) := by have := (by decide : (((-1) : Int32)).toInt = (-1)); exact ⟨by omega, by omega⟩
            exact hQ _ _ hI7563 hF7568  o7649.1 o7649.2
      · refine Eq.mpr (q_Tx_meaning_395.eq_1 _ _ _ _ _) ?_
        refine ⟨fun h7650 => ?_, fun h7650 => ?_⟩
        · refine ⟨fun h7651 => ?_, fun h7651 => ?_⟩
          · have o7652 : ((-1) ≤ (40 : Int32).toInt) ∧ ((40 : Int32).toInt ≤ 46) := by have := (by decide : ((40 : Int32)).toInt = 40); exact ⟨by omega, by omega⟩
            exact hQ _ _ hI7554 hF7559  o7652.1 o7652.2
          · have o7653 : ((-1) ≤ ys258_0.toInt) ∧ (ys258_0.toInt ≤ 46) := by have := (by decide : (((-1) : Int32)).toInt = (-1)); exact ⟨by omega, by omega⟩
            exact hQ _ _ hI7554 hF7559  o7653.1 o7653.2
        · have o7654 : ((-1) ≤ y258_1.toInt) ∧ (y258_1.toInt ≤ 46) := by have := (by decide : (((-1) : Int32)).toInt = (-1)); exact ⟨by omega, by omega⟩
          exact hQ _ _ hI7554 hF7559  o7654.1 o7654.2
    · refine Eq.mpr (q_Tx_meaning_395.eq_1 _ _ _ _ _) ?_
      refine ⟨fun h7655 => ?_, fun h7655 => ?_⟩
      · refine ⟨fun h7656 => ?_, fun h7656 => ?_⟩
        · have o7657 : ((-1) ≤ (34 : Int32).toInt) ∧ ((34 : Int32).toInt ≤ 46) := by have := (by decide : ((34 : Int32)).toInt = 34); exact ⟨by omega, by omega⟩
          exact hQ _ _ hI7545 hF7550  o7657.1 o7657.2
        · have o7658 : ((-1) ≤ ys258_0.toInt) ∧ (ys258_0.toInt ≤ 46) := by have := (by decide : (((-1) : Int32)).toInt = (-1)); exact ⟨by omega, by omega⟩
          exact hQ _ _ hI7545 hF7550  o7658.1 o7658.2
      · have o7659 : ((-1) ≤ y258_1.toInt) ∧ (y258_1.toInt ≤ 46) := by have := (by decide : (((-1) : Int32)).toInt = (-1)); exact ⟨by omega, by omega⟩
        exact hQ _ _ hI7545 hF7550  o7659.1 o7659.2
  · refine Eq.mpr (q_Tx_meaning_395.eq_1 _ _ _ _ _) ?_
    refine ⟨fun h7660 => ?_, fun h7660 => ?_⟩
    · refine ⟨fun h7661 => ?_, fun h7661 => ?_⟩
      · have o7662 : ((-1) ≤ (33 : Int32).toInt) ∧ ((33 : Int32).toInt ≤ 46) := by have := (by decide : ((33 : Int32)).toInt = 33); exact ⟨by omega, by omega⟩
        exact hQ _ _ hI7536 hF7541  o7662.1 o7662.2
      · have o7663 : ((-1) ≤ ys258_0.toInt) ∧ (ys258_0.toInt ≤ 46) := by have := (by decide : (((-1) : Int32)).toInt = (-1)); exact ⟨by omega, by omega⟩
        exact hQ _ _ hI7536 hF7541  o7663.1 o7663.2
    · have o7664 : ((-1) ≤ y258_1.toInt) ∧ (y258_1.toInt ≤ 46) := by have := (by decide : (((-1) : Int32)).toInt = (-1)); exact ⟨by omega, by omega⟩
      exact hQ _ _ hI7536 hF7541  o7664.1 o7664.2
set_option maxRecDepth 20000 in
set_option maxHeartbeats 2000000 in
theorem hq_Tx_meaning_121 {ys121_0 : Int32} {w : MW} {Q : Int32 → MW → Prop} (hI : BND w) (hp0 : (-1) ≤ ys121_0.toInt) (hp1 : ys121_0.toInt ≤ 17) (hQ : ∀ (r : Int32) (w' : MW), BND w' → FR l_Tx_meaning_121 w w' → (-1) ≤ r.toInt → r.toInt ≤ 46 → Q r w') : q_Tx_meaning_121 ys121_0 w Q := by
  refine Eq.mpr (q_Tx_meaning_121.eq_1 _ _ _) ?_
  have o7665 : (99 ≤ (7041889 : Int64).toInt) ∧ ((7041889 : Int64).toInt ≤ 128047746676079) := by have := (by decide : ((7041889 : Int64)).toInt = 7041889); exact ⟨by omega, by omega⟩
  refine h_Tx_is hI  o7665.1 o7665.2 (fun r7669 w7666 hI7667 hL7668 p7670 p7671 => ?_)
  have hF7672 : FR l_Tx_meaning_121 w w7666 := (FR.refl _ w).tr hL7668 rfl
  refine ⟨fun h7673 => ?_, fun h7673 => ?_⟩
  · have o7674 : (99 ≤ (28516 : Int64).toInt) ∧ ((28516 : Int64).toInt ≤ 128047746676079) := by have := (by decide : ((28516 : Int64)).toInt = 28516); exact ⟨by omega, by omega⟩
    refine h_Tx_is hI7667  o7674.1 o7674.2 (fun r7678 w7675 hI7676 hL7677 p7679 p7680 => ?_)
    have hF7681 : FR l_Tx_meaning_121 w w7675 := hF7672.tr hL7677 rfl
    refine ⟨fun h7682 => ?_, fun h7682 => ?_⟩
    · have o7683 : (99 ≤ (1886352499 : Int64).toInt) ∧ ((1886352499 : Int64).toInt ≤ 128047746676079) := by have := (by decide : ((1886352499 : Int64)).toInt = 1886352499); exact ⟨by omega, by omega⟩
      refine h_Tx_is hI7676  o7683.1 o7683.2 (fun r7687 w7684 hI7685 hL7686 p7688 p7689 => ?_)
      have hF7690 : FR l_Tx_meaning_121 w w7684 := hF7681.tr hL7686 rfl
      refine ⟨fun h7691 => ?_, fun h7691 => ?_⟩
      · have o7692 : (99 ≤ (1684828008 : Int64).toInt) ∧ ((1684828008 : Int64).toInt ≤ 128047746676079) := by have := (by decide : ((1684828008 : Int64)).toInt = 1684828008); exact ⟨by omega, by omega⟩
        refine h_Tx_is hI7685  o7692.1 o7692.2 (fun r7696 w7693 hI7694 hL7695 p7697 p7698 => ?_)
        have hF7699 : FR l_Tx_meaning_121 w w7693 := hF7690.tr hL7695 rfl
        refine ⟨fun h7700 => ?_, fun h7700 => ?_⟩
        · have o7701 : (99 ≤ (7627617 : Int64).toInt) ∧ ((7627617 : Int64).toInt ≤ 128047746676079) := by have := (by decide : ((7627617 : Int64)).toInt = 7627617); exact ⟨by omega, by omega⟩
          refine h_Tx_is hI7694  o7701.1 o7701.2 (fun r7705 w7702 hI7703 hL7704 p7706 p7707 => ?_)
          have hF7708 : FR l_Tx_meaning_121 w w7702 := hF7699.tr hL7704 rfl
          refine ⟨fun h7709 => ?_, fun h7709 => ?_⟩
          · have o7710 : (99 ≤ (1885697139 : Int64).toInt) ∧ ((1885697139 : Int64).toInt ≤ 128047746676079) := by have := (by decide : ((1885697139 : Int64)).toInt = 1885697139); exact ⟨by omega, by omega⟩
            refine h_Tx_is hI7703  o7710.1 o7710.2 (fun r7714 w7711 hI7712 hL7713 p7715 p7716 => ?_)
            have hF7717 : FR l_Tx_meaning_121 w w7711 := hF7708.tr hL7713 rfl
            refine ⟨fun h7718 => ?_, fun h7718 => ?_⟩
            · have o7719 : (99 ≤ (119165719898483 : Int64).toInt) ∧ ((119165719898483 : Int64).toInt ≤ 128047746676079) := by have := (by decide : ((119165719898483 : Int64)).toInt = 119165719898483); exact ⟨by omega, by omega⟩
              refine h_Tx_is hI7712  o7719.1 o7719.2 (fun r7723 w7720 hI7721 hL7722 p7724 p7725 => ?_)
              have hF7726 : FR l_Tx_meaning_121 w w7720 := hF7717.tr hL7722 rfl
              refine ⟨fun h7727 => ?_, fun h7727 => ?_⟩
              · have o7728 : (99 ≤ (128047746676079 : Int64).toInt) ∧ ((128047746676079 : Int64).toInt ≤ 128047746676079) := by have := (by decide : ((128047746676079 : Int64)).toInt = 128047746676079); exact ⟨by omega, by omega⟩
                refine h_Tx_is hI7721  o7728.1 o7728.2 (fun r7732 w7729 hI7730 hL7731 p7733 p7734 => ?_)
                have hF7735 : FR l_Tx_meaning_121 w w7729 := hF7726.tr hL7731 rfl
                refine ⟨fun h7736 => ?_, fun h7736 => ?_⟩
                · have o7737 : (99 ≤ (28265 : Int64).toInt) ∧ ((28265 : Int64).toInt ≤ 128047746676079) := by have := (by decide : ((28265 : Int64)).toInt = 28265); exact ⟨by omega, by omega⟩
                  refine h_Tx_is hI7730  o7737.1 o7737.2 (fun r7741 w7738 hI7739 hL7740 p7742 p7743 => ?_)
                  have hF7744 : FR l_Tx_meaning_121 w w7738 := hF7735.tr hL7740 rfl
                  refine ⟨fun h7745 => ?_, fun h7745 => ?_⟩
                  · have o7746 : ((-1) ≤ ys121_0.toInt) ∧ (ys121_0.toInt ≤ 17) ∧ ((-1) ≤ ((-1) : Int32).toInt) ∧ (((-1) : Int32).toInt ≤ 32) := by have := (by decide : (((-1) : Int32)).toInt = (-1)); exact ⟨by omega, by omega, by omega, by omega⟩
                    exact hq_Tx_meaning_258 hI7739  o7746.1 o7746.2.1 o7746.2.2.1 o7746.2.2.2 (fun r w9 hI9 hF9 q0 q1 => hQ r w9 hI9 (hF7744.tr hF9 rfl) (by have := (by decide : (((-1) : Int32)).toInt = (-1)); omega) (by have := (by decide : (((-1) : Int32)).toInt = (-1)); omega))
                  · have o7747 : ((-1) ≤ ys121_0.toInt) ∧ (ys121_0.toInt ≤ 17) ∧ ((-1) ≤ (32 : Int32).toInt) ∧ ((32 : Int32).toInt ≤ 32) := by have := (by decide : ((32 : Int32)).toInt = 32); exact ⟨by omega, by omega, by omega, by omega⟩
                    exact hq_Tx_meaning_258 hI7739  o7747.1 o7747.2.1 o7747.2.2.1 o7747.2.2.2 (fun r w9 hI9 hF9 q0 q1 => hQ r w9 hI9 (hF7744.tr hF9 rfl) (by have := (by decide : ((32 : Int32)).toInt = 32); omega) (by have := (by decide : ((32 : Int32)).toInt = 32); omega))
                · have o7748 : ((-1) ≤ ys121_0.toInt) ∧ (ys121_0.toInt ≤ 17) ∧ ((-1) ≤ (31 : Int32).toInt) ∧ ((31 : Int32).toInt ≤ 32) := by have := (by decide : ((31 : Int32)).toInt = 31); exact ⟨by omega, by omega, by omega, by omega⟩
                  exact hq_Tx_meaning_258 hI7730  o7748.1 o7748.2.1 o7748.2.2.1 o7748.2.2.2 (fun r w9 hI9 hF9 q0 q1 => hQ r w9 hI9 (hF7735.tr hF9 rfl) (by have := (by decide : ((31 : Int32)).toInt = 31); omega) (by have := (by decide : ((31 : Int32)).toInt = 31); omega))
              · have o7749 : ((-1) ≤ ys121_0.toInt) ∧ (ys121_0.toInt ≤ 17) ∧ ((-1) ≤ (30 : Int32).toInt) ∧ ((30 : Int32).toInt ≤ 32) := by have := (by decide : ((30 : Int32)).toInt = 30); exact ⟨by omega, by omega, by omega, by omega⟩
                exact hq_Tx_meaning_258 hI7721  o7749.1 o7749.2.1 o7749.2.2.1 o7749.2.2.2 (fun r w9 hI9 hF9 q0 q1 => hQ r w9 hI9 (hF7726.tr hF9 rfl) (by have := (by decide : ((30 : Int32)).toInt = 30); omega) (by have := (by decide : ((30 : Int32)).toInt = 30); omega))
            · have o7750 : ((-1) ≤ ys121_0.toInt) ∧ (ys121_0.toInt ≤ 17) ∧ ((-1) ≤ (24 : Int32).toInt) ∧ ((24 : Int32).toInt ≤ 32) := by have := (by decide : ((24 : Int32)).toInt = 24); exact ⟨by omega, by omega, by omega, by omega⟩
              exact hq_Tx_meaning_258 hI7712  o7750.1 o7750.2.1 o7750.2.2.1 o7750.2.2.2 (fun r w9 hI9 hF9 q0 q1 => hQ r w9 hI9 (hF7717.tr hF9 rfl) (by have := (by decide : ((24 : Int32)).toInt = 24); omega) (by have := (by decide : ((24 : Int32)).toInt = 24); omega))
          · have o7751 : ((-1) ≤ ys121_0.toInt) ∧ (ys121_0.toInt ≤ 17) ∧ ((-1) ≤ (22 : Int32).toInt) ∧ ((22 : Int32).toInt ≤ 32) := by have := (by decide : ((22 : Int32)).toInt = 22); exact ⟨by omega, by omega, by omega, by omega⟩
            exact hq_Tx_meaning_258 hI7703  o7751.1 o7751.2.1 o7751.2.2.1 o7751.2.2.2 (fun r w9 hI9 hF9 q0 q1 => hQ r w9 hI9 (hF7708.tr hF9 rfl) (by have := (by decide : ((22 : Int32)).toInt = 22); omega) (by have := (by decide : ((22 : Int32)).toInt = 22); omega))
        · have o7752 : ((-1) ≤ ys121_0.toInt) ∧ (ys121_0.toInt ≤ 17) ∧ ((-1) ≤ (21 : Int32).toInt) ∧ ((21 : Int32).toInt ≤ 32) := by have := (by decide : ((21 : Int32)).toInt = 21); exact ⟨by omega, by omega, by omega, by omega⟩
          exact hq_Tx_meaning_258 hI7694  o7752.1 o7752.2.1 o7752.2.2.1 o7752.2.2.2 (fun r w9 hI9 hF9 q0 q1 => hQ r w9 hI9 (hF7699.tr hF9 rfl) (by have := (by decide : ((21 : Int32)).toInt = 21); omega) (by have := (by decide : ((21 : Int32)).toInt = 21); omega))
      · have o7753 : ((-1) ≤ ys121_0.toInt) ∧ (ys121_0.toInt ≤ 17) ∧ ((-1) ≤ (20 : Int32).toInt) ∧ ((20 : Int32).toInt ≤ 32) := by have := (by decide : ((20 : Int32)).toInt = 20); exact ⟨by omega, by omega, by omega, by omega⟩
        exact hq_Tx_meaning_258 hI7685  o7753.1 o7753.2.1 o7753.2.2.1 o7753.2.2.2 (fun r w9 hI9 hF9 q0 q1 => hQ r w9 hI9 (hF7690.tr hF9 rfl) (by have := (by decide : ((20 : Int32)).toInt = 20); omega) (by have := (by decide : ((20 : Int32)).toInt = 20); omega))
    · have o7754 : ((-1) ≤ ys121_0.toInt) ∧ (ys121_0.toInt ≤ 17) ∧ ((-1) ≤ (19 : Int32).toInt) ∧ ((19 : Int32).toInt ≤ 32) := by have := (by decide : ((19 : Int32)).toInt = 19); exact ⟨by omega, by omega, by omega, by omega⟩
      exact hq_Tx_meaning_258 hI7676  o7754.1 o7754.2.1 o7754.2.2.1 o7754.2.2.2 (fun r w9 hI9 hF9 q0 q1 => hQ r w9 hI9 (hF7681.tr hF9 rfl) (by have := (by decide : ((19 : Int32)).toInt = 19); omega) (by have := (by decide : ((19 : Int32)).toInt = 19); omega))
  · have o7755 : ((-1) ≤ ys121_0.toInt) ∧ (ys121_0.toInt ≤ 17) ∧ ((-1) ≤ (18 : Int32).toInt) ∧ ((18 : Int32).toInt ≤ 32) := by have := (by decide : ((18 : Int32)).toInt = 18); exact ⟨by omega, by omega, by omega, by omega⟩
    exact hq_Tx_meaning_258 hI7667  o7755.1 o7755.2.1 o7755.2.2.1 o7755.2.2.2 (fun r w9 hI9 hF9 q0 q1 => hQ r w9 hI9 (hF7672.tr hF9 rfl) (by have := (by decide : ((18 : Int32)).toInt = 18); omega) (by have := (by decide : ((18 : Int32)).toInt = 18); omega))
set_option maxRecDepth 20000 in
set_option maxHeartbeats 2000000 in
theorem h_Tx_meaning {w : MW} {Q : Int32 → MW → Prop} (hI : BND w)  (hQ : ∀ (r : Int32) (w' : MW), BND w' → FR l_Tx_meaning w w' → (-1) ≤ r.toInt → r.toInt ≤ 46 → Q r w') : p_Tx_meaning w Q := by
  refine Eq.mpr (p_Tx_meaning.eq_1 _ _) ?_
  have o7756 : (99 ≤ (7628147 : Int64).toInt) ∧ ((7628147 : Int64).toInt ≤ 128047746676079) := by have := (by decide : ((7628147 : Int64)).toInt = 7628147); exact ⟨by omega, by omega⟩
  refine h_Tx_is hI  o7756.1 o7756.2 (fun r7760 w7757 hI7758 hL7759 p7761 p7762 => ?_)
  have hF7763 : FR l_Tx_meaning w w7757 := (FR.refl _ w).tr hL7759 rfl
  refine ⟨fun h7764 => ?_, fun h7764 => ?_⟩
  · have o7765 : (99 ≤ (1953063287 : Int64).toInt) ∧ ((1953063287 : Int64).toInt ≤ 128047746676079) := by have := (by decide : ((1953063287 : Int64)).toInt = 1953063287); exact ⟨by omega, by omega⟩
    refine h_Tx_is hI7758  o7765.1 o7765.2 (fun r7769 w7766 hI7767 hL7768 p7770 p7771 => ?_)
    have hF7772 : FR l_Tx_meaning w w7766 := hF7763.tr hL7768 rfl
    refine ⟨fun h7773 => ?_, fun h7773 => ?_⟩
    · have o7774 : (99 ≤ (465625706101 : Int64).toInt) ∧ ((465625706101 : Int64).toInt ≤ 128047746676079) := by have := (by decide : ((465625706101 : Int64)).toInt = 465625706101); exact ⟨by omega, by omega⟩
      refine h_Tx_is hI7767  o7774.1 o7774.2 (fun r7778 w7775 hI7776 hL7777 p7779 p7780 => ?_)
      have hF7781 : FR l_Tx_meaning w w7775 := hF7772.tr hL7777 rfl
      refine ⟨fun h7782 => ?_, fun h7782 => ?_⟩
      · have o7783 : (99 ≤ (1886216562 : Int64).toInt) ∧ ((1886216562 : Int64).toInt ≤ 128047746676079) := by have := (by decide : ((1886216562 : Int64)).toInt = 1886216562); exact ⟨by omega, by omega⟩
        refine h_Tx_is hI7776  o7783.1 o7783.2 (fun r7787 w7784 hI7785 hL7786 p7788 p7789 => ?_)
        have hF7790 : FR l_Tx_meaning w w7784 := hF7781.tr hL7786 rfl
        refine ⟨fun h7791 => ?_, fun h7791 => ?_⟩
        · have o7792 : (99 ≤ (7496048 : Int64).toInt) ∧ ((7496048 : Int64).toInt ≤ 128047746676079) := by have := (by decide : ((7496048 : Int64)).toInt = 7496048); exact ⟨by omega, by omega⟩
          refine h_Tx_is hI7785  o7792.1 o7792.2 (fun r7796 w7793 hI7794 hL7795 p7797 p7798 => ?_)
          have hF7799 : FR l_Tx_meaning w w7793 := hF7790.tr hL7795 rfl
          refine ⟨fun h7800 => ?_, fun h7800 => ?_⟩
          · have o7801 : (99 ≤ (26217 : Int64).toInt) ∧ ((26217 : Int64).toInt ≤ 128047746676079) := by have := (by decide : ((26217 : Int64)).toInt = 26217); exact ⟨by omega, by omega⟩
            refine h_Tx_is hI7794  o7801.1 o7801.2 (fun r7805 w7802 hI7803 hL7804 p7806 p7807 => ?_)
            have hF7808 : FR l_Tx_meaning w w7802 := hF7799.tr hL7804 rfl
            refine ⟨fun h7809 => ?_, fun h7809 => ?_⟩
            · have o7810 : (99 ≤ (127961662514546 : Int64).toInt) ∧ ((127961662514546 : Int64).toInt ≤ 128047746676079) := by have := (by decide : ((127961662514546 : Int64)).toInt = 127961662514546); exact ⟨by omega, by omega⟩
              refine h_Tx_is hI7803  o7810.1 o7810.2 (fun r7814 w7811 hI7812 hL7813 p7815 p7816 => ?_)
              have hF7817 : FR l_Tx_meaning w w7811 := hF7808.tr hL7813 rfl
              refine ⟨fun h7818 => ?_, fun h7818 => ?_⟩
              · have o7819 : (99 ≤ (499984984428 : Int64).toInt) ∧ ((499984984428 : Int64).toInt ≤ 128047746676079) := by have := (by decide : ((499984984428 : Int64)).toInt = 499984984428); exact ⟨by omega, by omega⟩
                refine h_Tx_is hI7812  o7819.1 o7819.2 (fun r7823 w7820 hI7821 hL7822 p7824 p7825 => ?_)
                have hF7826 : FR l_Tx_meaning w w7820 := hF7817.tr hL7822 rfl
                refine ⟨fun h7827 => ?_, fun h7827 => ?_⟩
                · have o7828 : ((-1) ≤ ((-1) : Int32).toInt) ∧ (((-1) : Int32).toInt ≤ 17) := by have := (by decide : (((-1) : Int32)).toInt = (-1)); exact ⟨by omega, by omega⟩
                  exact hq_Tx_meaning_121 hI7821  o7828.1 o7828.2 (fun r w9 hI9 hF9 q0 q1 => hQ r w9 hI9 (hF7826.tr hF9 rfl) (by have := (by decide : (((-1) : Int32)).toInt = (-1)); omega) (by have := (by decide : (((-1) : Int32)).toInt = (-1)); omega))
                · have o7829 : ((-1) ≤ (17 : Int32).toInt) ∧ ((17 : Int32).toInt ≤ 17) := by have := (by decide : ((17 : Int32)).toInt = 17); exact ⟨by omega, by omega⟩
                  exact hq_Tx_meaning_121 hI7821  o7829.1 o7829.2 (fun r w9 hI9 hF9 q0 q1 => hQ r w9 hI9 (hF7826.tr hF9 rfl) (by have := (by decide : ((17 : Int32)).toInt = 17); omega) (by have := (by decide : ((17 : Int32)).toInt = 17); omega))
              · have o7830 : ((-1) ≤ (16 : Int32).toInt) ∧ ((16 : Int32).toInt ≤ 17) := by have := (by decide : ((16 : Int32)).toInt = 16); exact ⟨by omega, by omega⟩
                exact hq_Tx_meaning_121 hI7812  o7830.1 o7830.2 (fun r w9 hI9 hF9 q0 q1 => hQ r w9 hI9 (hF7817.tr hF9 rfl) (by have := (by decide : ((16 : Int32)).toInt = 16); omega) (by have := (by decide : ((16 : Int32)).toInt = 16); omega))
            · have o7831 : ((-1) ≤ (15 : Int32).toInt) ∧ ((15 : Int32).toInt ≤ 17) := by have := (by decide : ((15 : Int32)).toInt = 15); exact ⟨by omega, by omega⟩
              exact hq_Tx_meaning_121 hI7803  o7831.1 o7831.2 (fun r w9 hI9 hF9 q0 q1 => hQ r w9 hI9 (hF7808.tr hF9 rfl) (by have := (by decide : ((15 : Int32)).toInt = 15); omega) (by have := (by decide : ((15 : Int32)).toInt = 15); omega))
          · have o7832 : ((-1) ≤ (14 : Int32).toInt) ∧ ((14 : Int32).toInt ≤ 17) := by have := (by decide : ((14 : Int32)).toInt = 14); exact ⟨by omega, by omega⟩
            exact hq_Tx_meaning_121 hI7794  o7832.1 o7832.2 (fun r w9 hI9 hF9 q0 q1 => hQ r w9 hI9 (hF7799.tr hF9 rfl) (by have := (by decide : ((14 : Int32)).toInt = 14); omega) (by have := (by decide : ((14 : Int32)).toInt = 14); omega))
        · have o7833 : ((-1) ≤ (13 : Int32).toInt) ∧ ((13 : Int32).toInt ≤ 17) := by have := (by decide : ((13 : Int32)).toInt = 13); exact ⟨by omega, by omega⟩
          exact hq_Tx_meaning_121 hI7785  o7833.1 o7833.2 (fun r w9 hI9 hF9 q0 q1 => hQ r w9 hI9 (hF7790.tr hF9 rfl) (by have := (by decide : ((13 : Int32)).toInt = 13); omega) (by have := (by decide : ((13 : Int32)).toInt = 13); omega))
      · have o7834 : ((-1) ≤ (12 : Int32).toInt) ∧ ((12 : Int32).toInt ≤ 17) := by have := (by decide : ((12 : Int32)).toInt = 12); exact ⟨by omega, by omega⟩
        exact hq_Tx_meaning_121 hI7776  o7834.1 o7834.2 (fun r w9 hI9 hF9 q0 q1 => hQ r w9 hI9 (hF7781.tr hF9 rfl) (by have := (by decide : ((12 : Int32)).toInt = 12); omega) (by have := (by decide : ((12 : Int32)).toInt = 12); omega))
    · have o7835 : ((-1) ≤ (11 : Int32).toInt) ∧ ((11 : Int32).toInt ≤ 17) := by have := (by decide : ((11 : Int32)).toInt = 11); exact ⟨by omega, by omega⟩
      exact hq_Tx_meaning_121 hI7767  o7835.1 o7835.2 (fun r w9 hI9 hF9 q0 q1 => hQ r w9 hI9 (hF7772.tr hF9 rfl) (by have := (by decide : ((11 : Int32)).toInt = 11); omega) (by have := (by decide : ((11 : Int32)).toInt = 11); omega))
  · have o7836 : ((-1) ≤ (10 : Int32).toInt) ∧ ((10 : Int32).toInt ≤ 17) := by have := (by decide : ((10 : Int32)).toInt = 10); exact ⟨by omega, by omega⟩
    exact hq_Tx_meaning_121 hI7758  o7836.1 o7836.2 (fun r w9 hI9 hF9 q0 q1 => hQ r w9 hI9 (hF7763.tr hF9 rfl) (by have := (by decide : ((10 : Int32)).toInt = 10); omega) (by have := (by decide : ((10 : Int32)).toInt = 10); omega))
