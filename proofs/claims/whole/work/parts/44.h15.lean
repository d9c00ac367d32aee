def l_Wa_cheapestEntry_8 : Pl := []
def l_Wa_cheapestEntry : Pl := []
set_option maxRecDepth 20000 in
set_option maxHeartbeats 2000000 in
theorem hq_Wa_cheapestEntry_8 {x8_1 : Int32} {E : Int32 → MW → Prop} {Q : Int32 → MW → Prop} (n : Nat) : ∀ (x8_2 : Int32) (x8_3 : Int32) (x8_4 : Int32) (w : MW), BND w → PL w → w.2.2 7 0 = some 8 → 0 ≤ x8_1.toInt → x8_1.toInt ≤ 19 → (-1) ≤ x8_2.toInt → x8_2.toInt ≤ 47 → x8_3.toInt ≤ 536870912 → 0 ≤ x8_4.toInt → x8_4.toInt ≤ 48 → x8_2.toInt < 0 ∨ x8_2.toInt < 2 * (w.1 8 1).toInt → (48 - x8_4.toInt).toNat < n → (∀ (e8_2 : Int32) (w' : MW), BND w' → FR l_Wa_cheapestEntry_8 w w' → (-1) ≤ e8_2.toInt → e8_2.toInt ≤ 47 → e8_2.toInt < 0 ∨ e8_2.toInt < 2 * (w.1 8 1).toInt → E e8_2 w') → (∀ (r : Int32) (w' : MW), BND w' → FR l_Wa_cheapestEntry_8 w w' → False → Q r w') → q_Wa_cheapestEntry_8 x8_1 E Q n x8_2 x8_3 x8_4 w := by
  induction n with
  | zero => intros; omega
  | succ n ih =>
    intro x8_2 x8_3 x8_4 w hI hf_PL hr_7_0 hp0 hp1 hp2 hp3 hp4 hp5 hp6 hp7 hm hE hQ
    rw [q_Wa_cheapestEntry_8.eq_2]
    refine ⟨hr_7_0, ?_⟩
    refine ⟨fun h3498 => ?_, fun h3498 => ?_⟩
    · have o3499 : ((-1) ≤ x8_2.toInt) ∧ (x8_2.toInt ≤ 47) ∧ (x8_2.toInt < 0 ∨ x8_2.toInt < 2 * (w.1 8 1).toInt) := by have := bd_8_1 hI; have := ti_mul2 (by decide : ((2 : Int32)).toInt = 2) (Eq.refl (w.1 8 1).toInt) (by omega) (by omega); exact ⟨by omega, by omega, by omega⟩
      exact hE _ _ hI (FR.refl _ w) o3499.1 o3499.2.1 o3499.2.2
    · refine ⟨hr_7_0, ?_⟩
      have o3500 : 0 ≤ x8_4.toInt ∧ x8_4.toInt < 48 := by have := bd_8_1 hI; have := ti_mul2 (by decide : ((2 : Int32)).toInt = 2) (Eq.refl (w.1 8 1).toInt) (by omega) (by omega); omega
      refine ⟨o3500, ?_⟩
      refine ⟨fun h3501 => ?_, fun h3501 => ?_⟩
      · have o3502 : (0 ≤ x8_1.toInt) ∧ (x8_1.toInt ≤ 19) ∧ ((-1) ≤ x8_2.toInt) ∧ (x8_2.toInt ≤ 47) ∧ (x8_3.toInt ≤ 536870912) ∧ (0 ≤ (x8_4 + (1 : Int32)).toInt) ∧ ((x8_4 + (1 : Int32)).toInt ≤ 48) ∧ (x8_2.toInt < 0 ∨ x8_2.toInt < 2 * (w.1 8 1).toInt) := by have := ti_add2 (Eq.refl x8_4.toInt) (by decide : ((1 : Int32)).toInt = 1) (by omega) (by omega); have := bd_8_1 hI; have := ti_mul2 (by decide : ((2 : Int32)).toInt = 2) (Eq.refl (w.1 8 1).toInt) (by omega) (by omega); exact ⟨by omega, by omega, by omega, by omega, by omega, by omega, by omega, by omega⟩
        exact ih _ _ _ w hI hf_PL hr_7_0 o3502.1 o3502.2.1 o3502.2.2.1 o3502.2.2.2.1 o3502.2.2.2.2.1 o3502.2.2.2.2.2.1 o3502.2.2.2.2.2.2.1 o3502.2.2.2.2.2.2.2 (by have := ti_add2 (Eq.refl x8_4.toInt) (by decide : ((1 : Int32)).toInt = 1) (by omega) (by omega); have := bd_8_1 hI; have := ti_mul2 (by decide : ((2 : Int32)).toInt = 2) (Eq.refl (w.1 8 1).toInt) (by omega) (by omega); omega) (fun e0 w9 hI9 hF9 p0 p1 u0 => hE e0 w9 hI9 ((FR.refl _ w).tr hF9 rfl) p0 p1 (by have := ti_add2 (Eq.refl x8_4.toInt) (by decide : ((1 : Int32)).toInt = 1) (by omega) (by omega); have := bd_8_1 hI; have := ti_mul2 (by decide : ((2 : Int32)).toInt = 2) (Eq.refl (w.1 8 1).toInt) (by omega) (by omega); omega)) (fun r w9 hI9 hF9 q0 => q0.elim)
      · have o3503 : 0 ≤ x8_4.toInt ∧ x8_4.toInt < 48 := by have := bd_8_1 hI; have := ti_mul2 (by decide : ((2 : Int32)).toInt = 2) (Eq.refl (w.1 8 1).toInt) (by omega) (by omega); omega
        refine ⟨o3503, ?_⟩
        refine ⟨fun h3504 => ?_, fun h3504 => ?_⟩
        · have o3505 : (0 ≤ x8_1.toInt) ∧ (x8_1.toInt ≤ 19) ∧ ((-1) ≤ x8_2.toInt) ∧ (x8_2.toInt ≤ 47) ∧ (x8_3.toInt ≤ 536870912) ∧ (0 ≤ (x8_4 + (1 : Int32)).toInt) ∧ ((x8_4 + (1 : Int32)).toInt ≤ 48) ∧ (x8_2.toInt < 0 ∨ x8_2.toInt < 2 * (w.1 8 1).toInt) := by have := ti_add2 (Eq.refl x8_4.toInt) (by decide : ((1 : Int32)).toInt = 1) (by omega) (by omega); have := bd_8_1 hI; have := ti_mul2 (by decide : ((2 : Int32)).toInt = 2) (Eq.refl (w.1 8 1).toInt) (by omega) (by omega); exact ⟨by omega, by omega, by omega, by omega, by omega, by omega, by omega, by omega⟩
          exact ih _ _ _ w hI hf_PL hr_7_0 o3505.1 o3505.2.1 o3505.2.2.1 o3505.2.2.2.1 o3505.2.2.2.2.1 o3505.2.2.2.2.2.1 o3505.2.2.2.2.2.2.1 o3505.2.2.2.2.2.2.2 (by have := ti_add2 (Eq.refl x8_4.toInt) (by decide : ((1 : Int32)).toInt = 1) (by omega) (by omega); have := bd_8_1 hI; have := ti_mul2 (by decide : ((2 : Int32)).toInt = 2) (Eq.refl (w.1 8 1).toInt) (by omega) (by omega); omega) (fun e0 w9 hI9 hF9 p0 p1 u0 => hE e0 w9 hI9 ((FR.refl _ w).tr hF9 rfl) p0 p1 (by have := ti_add2 (Eq.refl x8_4.toInt) (by decide : ((1 : Int32)).toInt = 1) (by omega) (by omega); have := bd_8_1 hI; have := ti_mul2 (by decide : ((2 : Int32)).toInt = 2) (Eq.refl (w.1 8 1).toInt) (by omega) (by omega); omega)) (fun r w9 hI9 hF9 q0 => q0.elim)
        · have o3506 : 0 ≤ x8_4.toInt ∧ x8_4.toInt < 48 := by have := bd_8_1 hI; have := ti_mul2 (by decide : ((2 : Int32)).toInt = 2) (Eq.refl (w.1 8 1).toInt) (by omega) (by omega); omega
          refine ⟨o3506, ?_⟩
          have o3507 : (0 ≤ x8_1.toInt) ∧ (x8_1.toInt ≤ 19) ∧ ((-1) ≤ x8_4.toInt) ∧ (x8_4.toInt ≤ 47) ∧ ((w.1 38 x8_4.toInt.toNat).toInt ≤ 536870912) ∧ (0 ≤ (x8_4 + (1 : Int32)).toInt) ∧ ((x8_4 + (1 : Int32)).toInt ≤ 48) ∧ (x8_4.toInt < 0 ∨ x8_4.toInt < 2 * (w.1 8 1).toInt) := by have := ti_add2 (Eq.refl x8_4.toInt) (by decide : ((1 : Int32)).toInt = 1) (by omega) (by omega); have := bd_8_1 hI; have := ti_mul2 (by decide : ((2 : Int32)).toInt = 2) (Eq.refl (w.1 8 1).toInt) (by omega) (by omega); exact ⟨by omega, by omega, by omega, by omega, by omega, by omega, by omega, by omega⟩
          exact ih _ _ _ w hI hf_PL hr_7_0 o3507.1 o3507.2.1 o3507.2.2.1 o3507.2.2.2.1 o3507.2.2.2.2.1 o3507.2.2.2.2.2.1 o3507.2.2.2.2.2.2.1 o3507.2.2.2.2.2.2.2 (by have := ti_add2 (Eq.refl x8_4.toInt) (by decide : ((1 : Int32)).toInt = 1) (by omega) (by omega); have := bd_8_1 hI; have := ti_mul2 (by decide : ((2 : Int32)).toInt = 2) (Eq.refl (w.1 8 1).toInt) (by omega) (by omega); omega) (fun e0 w9 hI9 hF9 p0 p1 u0 => hE e0 w9 hI9 ((FR.refl _ w).tr hF9 rfl) p0 p1 (by have := ti_add2 (Eq.refl x8_4.toInt) (by decide : ((1 : Int32)).toInt = 1) (by omega) (by omega); have := bd_8_1 hI; have := ti_mul2 (by decide : ((2 : Int32)).toInt = 2) (Eq.refl (w.1 8 1).toInt) (by omega) (by omega); omega)) (fun r w9 hI9 hF9 q0 => q0.elim)
set_option maxRecDepth 20000 in
set_option maxHeartbeats 2000000 in
theorem h_Wa_cheapestEntry {w : MW} {a0 : Int32} {Q : Int32 → MW → Prop} (hI : BND w) (hf_PL : PL w) (hr_7_0 : w.2.2 7 0 = some 8) (hp0 : 0 ≤ a0.toInt) (hp1 : a0.toInt ≤ 19) (hQ : ∀ (r : Int32) (w' : MW), BND w' → FR l_Wa_cheapestEntry w w' → (-1) ≤ r.toInt → r.toInt ≤ 47 → r.toInt < 0 ∨ r.toInt < 2 * (w.1 8 1).toInt → Q r w') : p_Wa_cheapestEntry w a0 Q := by
  refine Eq.mpr (p_Wa_cheapestEntry.eq_1 _ _ _) ?_
  have o3508 : (0 ≤ a0.toInt) ∧ (a0.toInt ≤ 19) ∧ ((-1) ≤ ((-1) : Int32).toInt) ∧ (((-1) : Int32).toInt ≤ 47) ∧ ((536870912 : Int32).toInt ≤ 536870912) ∧ (0 ≤ (0 : Int32).toInt) ∧ ((0 : Int32).toInt ≤ 48) ∧ (((-1) : Int32).toInt < 0 ∨ ((-1) : Int32).toInt < 2 * (w.1 8 1).toInt) := by have := (by decide : (((-1) : Int32)).toInt = (-1)); have := (by decide : ((536870912 : Int32)).toInt = 536870912); have := (by decide : ((0 : Int32)).toInt = 0); have := bd_8_1 hI; exact ⟨by omega, by omega, by omega, by omega, by omega, by omega, by omega, by omega⟩
  refine hq_Wa_cheapestEntry_8 FU _ _ _ w hI hf_PL hr_7_0 o3508.1 o3508.2.1 o3508.2.2.1 o3508.2.2.2.1 o3508.2.2.2.2.1 o3508.2.2.2.2.2.1 o3508.2.2.2.2.2.2.1 o3508.2.2.2.2.2.2.2 (fu_lt (by have := (by decide : (((-1) : Int32)).toInt = (-1)); have := (by decide : ((536870912 : Int32)).toInt = 536870912); have := (by decide : ((0 : Int32)).toInt = 0); omega)) (fun e3512 w3509 hI3510 hL3511 p3513 p3514 p3515 => ?_) (fun r w9 hI9 hF9 q0 => q0.elim)
  have hF3516 : FR l_Wa_cheapestEntry w w3509 := (FR.refl _ w).tr hL3511 rfl
  have o3517 : ((-1) ≤ e3512.toInt) ∧ (e3512.toInt ≤ 47) ∧ (e3512.toInt < 0 ∨ e3512.toInt < 2 * (w.1 8 1).toInt) := by have := bd_8_1 hI; exact ⟨by omega, by omega, by omega⟩
  exact hQ _ _ hI3510 hF3516  o3517.1 o3517.2.1 o3517.2.2
def l_Ro_isOn_10 : Pl := []
def l_Ro_isOn : Pl := []
set_option maxRecDepth 20000 in
set_option maxHeartbeats 2000000 in
theorem hq_Ro_isOn_10 {x10_1 : Int32} {E : Int64 → MW → Prop} {Q : Int32 → MW → Prop} (n : Nat) : ∀ (x10_2 : Int64) (x10_4 : Int32) (w : MW), BND w → 0 ≤ x10_1.toInt → x10_1.toInt ≤ 39 → 0 ≤ x10_4.toInt → x10_4.toInt ≤ 1400 → (1400 - x10_4.toInt).toNat < n → (∀ (e10_2 : Int64) (w' : MW), BND w' → FR l_Ro_isOn_10 w w' → E e10_2 w') → (∀ (r : Int32) (w' : MW), BND w' → FR l_Ro_isOn_10 w w' → False → Q r w') → q_Ro_isOn_10 x10_1 E Q n x10_2 x10_4 w := by
  induction n with
  | zero => intros; omega
  | succ n ih =>
    intro x10_2 x10_4 w hI  hp0 hp1 hp2 hp3 hm hE hQ
    rw [q_Ro_isOn_10.eq_2]
    have o3518 : 0 ≤ (x10_1 + (1 : Int32)).toInt ∧ (x10_1 + (1 : Int32)).toInt < 41 := by have := ti_add2 (Eq.refl x10_1.toInt) (by decide : ((1 : Int32)).toInt = 1) (by omega) (by omega); omega
    refine ⟨o3518, ?_⟩
    refine ⟨fun h3519 => ?_, fun h3519 => ?_⟩
    · exact hE _ _ hI (FR.refl _ w)
    · have o3520 : 0 ≤ x10_4.toInt ∧ x10_4.toInt < 1400 := by have := bd_55 hI ((x10_1 + (1 : Int32)).toInt.toNat); omega
      refine ⟨o3520, ?_⟩
      refine ⟨fun h3521 => ?_, fun h3521 => ?_⟩
      · have o3522 : 0 ≤ x10_4.toInt ∧ x10_4.toInt < 1400 := by have := bd_55 hI ((x10_1 + (1 : Int32)).toInt.toNat); omega
        refine ⟨o3522, ?_⟩
        refine ⟨fun h3523 => ?_, fun h3523 => ?_⟩
        · have o3524 : 0 ≤ x10_4.toInt ∧ x10_4.toInt < 1400 := by have := bd_55 hI ((x10_1 + (1 : Int32)).toInt.toNat); omega
          refine ⟨o3524, ?_⟩
          refine ⟨fun h3525 => ?_, fun h3525 => ?_⟩
          · have o3526 : (0 ≤ x10_1.toInt) ∧ (x10_1.toInt ≤ 39) ∧ (0 ≤ (x10_4 + (1 : Int32)).toInt) ∧ ((x10_4 + (1 : Int32)).toInt ≤ 1400) := by have := ti_add2 (Eq.refl x10_4.toInt) (by decide : ((1 : Int32)).toInt = 1) (by omega) (by omega); have := bd_55 hI ((x10_1 + (1 : Int32)).toInt.toNat); exact ⟨by omega, by omega, by omega, by omega⟩
            exact ih _ _ w hI  o3526.1 o3526.2.1 o3526.2.2.1 o3526.2.2.2 (by have := ti_add2 (Eq.refl x10_4.toInt) (by decide : ((1 : Int32)).toInt = 1) (by omega) (by omega); have := bd_55 hI ((x10_1 + (1 : Int32)).toInt.toNat); omega) (fun e0 w9 hI9 hF9 => hE e0 w9 hI9 ((FR.refl _ w).tr hF9 rfl) ) (fun r w9 hI9 hF9 q0 => q0.elim)
          · have o3527 : (0 ≤ x10_1.toInt) ∧ (x10_1.toInt ≤ 39) ∧ (0 ≤ (x10_4 + (1 : Int32)).toInt) ∧ ((x10_4 + (1 : Int32)).toInt ≤ 1400) := by have := ti_add2 (Eq.refl x10_4.toInt) (by decide : ((1 : Int32)).toInt = 1) (by omega) (by omega); have := bd_55 hI ((x10_1 + (1 : Int32)).toInt.toNat); exact ⟨by omega, by omega, by omega, by omega⟩
            exact ih _ _ w hI  o3527.1 o3527.2.1 o3527.2.2.1 o3527.2.2.2 (by have := ti_add2 (Eq.refl x10_4.toInt) (by decide : ((1 : Int32)).toInt = 1) (by omega) (by omega); have := bd_55 hI ((x10_1 + (1 : Int32)).toInt.toNat); omega) (fun e0 w9 hI9 hF9 => hE e0 w9 hI9 ((FR.refl _ w).tr hF9 rfl) ) (fun r w9 hI9 hF9 q0 => q0.elim)
        · have o3528 : (0 ≤ x10_1.toInt) ∧ (x10_1.toInt ≤ 39) ∧ (0 ≤ (x10_4 + (1 : Int32)).toInt) ∧ ((x10_4 + (1 : Int32)).toInt ≤ 1400) := by have := ti_add2 (Eq.refl x10_4.toInt) (by decide : ((1 : Int32)).toInt = 1) (by omega) (by omega); have := bd_55 hI ((x10_1 + (1 : Int32)).toInt.toNat); exact ⟨by omega, by omega, by omega, by omega⟩
          exact ih _ _ w hI  o3528.1 o3528.2.1 o3528.2.2.1 o3528.2.2.2 (by have := ti_add2 (Eq.refl x10_4.toInt) (by decide : ((1 : Int32)).toInt = 1) (by omega) (by omega); have := bd_55 hI ((x10_1 + (1 : Int32)).toInt.toNat); omega) (fun e0 w9 hI9 hF9 => hE e0 w9 hI9 ((FR.refl _ w).tr hF9 rfl) ) (fun r w9 hI9 hF9 q0 => q0.elim)
      · have o3529 : 0 ≤ x10_4.toInt ∧ x10_4.toInt < 1400 := by have := bd_55 hI ((x10_1 + (1 : Int32)).toInt.toNat); omega
        refine ⟨o3529, ?_⟩
        have o3530 : (0 ≤ x10_1.toInt) ∧ (x10_1.toInt ≤ 39) ∧ (0 ≤ (x10_4 + (1 : Int32)).toInt) ∧ ((x10_4 + (1 : Int32)).toInt ≤ 1400) := by have := ti_add2 (Eq.refl x10_4.toInt) (by decide : ((1 : Int32)).toInt = 1) (by omega) (by omega); have := bd_55 hI ((x10_1 + (1 : Int32)).toInt.toNat); have := bd_56 hI x10_4.toInt.toNat; have := (by decide : ((16 : Int32)).toInt = 16); exact ⟨by omega, by omega, by omega, by omega⟩
        exact ih _ _ w hI  o3530.1 o3530.2.1 o3530.2.2.1 o3530.2.2.2 (by have := ti_add2 (Eq.refl x10_4.toInt) (by decide : ((1 : Int32)).toInt = 1) (by omega) (by omega); have := bd_55 hI ((x10_1 + (1 : Int32)).toInt.toNat); have := bd_56 hI x10_4.toInt.toNat; have := (by decide : ((16 : Int32)).toInt = 16); omega) (fun e0 w9 hI9 hF9 => hE e0 w9 hI9 ((FR.refl _ w).tr hF9 rfl) ) (fun r w9 hI9 hF9 q0 => q0.elim)
set_option maxRecDepth 20000 in
set_option maxHeartbeats 2000000 in
theorem h_Ro_isOn {w : MW} {a0 : Int32} {Q : Int32 → MW → Prop} (hI : BND w) (hp0 : 0 ≤ a0.toInt) (hp1 : a0.toInt ≤ 39) (hQ : ∀ (r : Int32) (w' : MW), BND w' → FR l_Ro_isOn w w' → 0 ≤ r.toInt → r.toInt ≤ 1 → Q r w') : p_Ro_isOn w a0 Q := by
  refine Eq.mpr (p_Ro_isOn.eq_1 _ _ _) ?_
  have o3531 : 0 ≤ a0.toInt ∧ a0.toInt < 41 := by omega
  refine ⟨o3531, ?_⟩
  have o3532 : (0 ≤ a0.toInt) ∧ (a0.toInt ≤ 39) ∧ (0 ≤ (w.1 55 a0.toInt.toNat).toInt) ∧ ((w.1 55 a0.toInt.toNat).toInt ≤ 1400) := by have := (by decide : ((0 : Int64)).toInt = 0); have := bd_55 hI a0.toInt.toNat; exact ⟨by omega, by omega, by omega, by omega⟩
  refine hq_Ro_isOn_10 FU _ _ w hI  o3532.1 o3532.2.1 o3532.2.2.1 o3532.2.2.2 (fu_lt (by have := (by decide : ((0 : Int64)).toInt = 0); have := bd_55 hI a0.toInt.toNat; omega)) (fun e3536 w3533 hI3534 hL3535  => ?_) (fun r w9 hI9 hF9 q0 => q0.elim)
  have hF3537 : FR l_Ro_isOn w w3533 := (FR.refl _ w).tr hL3535 rfl
  refine ⟨fun h3538 => ?_, fun h3538 => ?_⟩
  · have o3539 : (0 ≤ (0 : Int32).toInt) ∧ ((0 : Int32).toInt ≤ 1) := by have := (by decide : ((0 : Int32)).toInt = 0); exact ⟨by omega, by omega⟩
    exact hQ _ _ hI3534 hF3537  o3539.1 o3539.2
  · have o3540 : (0 ≤ (1 : Int32).toInt) ∧ ((1 : Int32).toInt ≤ 1) := by have := (by decide : ((1 : Int32)).toInt = 1); exact ⟨by omega, by omega⟩
    exact hQ _ _ hI3534 hF3537  o3540.1 o3540.2
def l_Ro_barring_37 : Pl := []
def l_Ro_barring_2 : Pl := []
def l_Ro_barring : Pl := []
set_option maxRecDepth 20000 in
set_option maxHeartbeats 2000000 in
theorem hq_Ro_barring_2 {x2_1 : Int32} {E : MW → Prop} {Q : Int32 → MW → Prop} (n : Nat) : ∀ (x2_2 : Int32) (w : MW), BND w → 0 ≤ x2_1.toInt → x2_1.toInt ≤ 31 → 0 ≤ x2_2.toInt → x2_2.toInt ≤ 40 → (40 - x2_2.toInt).toNat < n → (∀ (w' : MW), BND w' → FR l_Ro_barring_2 w w' → E w') → (∀ (r : Int32) (w' : MW), BND w' → FR l_Ro_barring_2 w w' → 1 ≤ r.toInt → r.toInt ≤ 40 → Q r w') → q_Ro_barring_2 x2_1 E Q n x2_2 w := by
  induction n with
  | zero => intros; omega
  | succ n ih =>
    intro x2_2 w hI  hp0 hp1 hp2 hp3 hm hE hQ
    rw [q_Ro_barring_2.eq_2]
    refine ⟨fun h3541 => ?_, fun h3541 => ?_⟩
    · exact hE _ hI (FR.refl _ w)
    · have o3542 : 0 ≤ x2_2.toInt ∧ x2_2.toInt < 40 := by have := bd_48_0 hI; omega
      refine ⟨o3542, ?_⟩
      refine ⟨fun h3543 => ?_, fun h3543 => ?_⟩
      · refine Eq.mpr (q_Ro_barring_37.eq_1 _ _ _ _ _ _ _) ?_
        refine ⟨fun _ => ?_, fun h => absurd (by decide) h⟩
        have o3544 : (0 ≤ x2_1.toInt) ∧ (x2_1.toInt ≤ 31) ∧ (0 ≤ (x2_2 + (1 : Int32)).toInt) ∧ ((x2_2 + (1 : Int32)).toInt ≤ 40) := by have := ti_add2 (Eq.refl x2_2.toInt) (by decide : ((1 : Int32)).toInt = 1) (by omega) (by omega); have := bd_48_0 hI; exact ⟨by omega, by omega, by omega, by omega⟩
        exact ih _ w hI  o3544.1 o3544.2.1 o3544.2.2.1 o3544.2.2.2 (by have := ti_add2 (Eq.refl x2_2.toInt) (by decide : ((1 : Int32)).toInt = 1) (by omega) (by omega); have := bd_48_0 hI; omega) (fun w9 hI9 hF9 => hE w9 hI9 ((FR.refl _ w).tr hF9 rfl) ) (fun r w9 hI9 hF9 q0 q1 => hQ r w9 hI9 ((FR.refl _ w).tr hF9 rfl) (by have := ti_add2 (Eq.refl x2_2.toInt) (by decide : ((1 : Int32)).toInt = 1) (by omega) (by omega); have := bd_48_0 hI; omega) (by have := ti_add2 (Eq.refl x2_2.toInt) (by decide : ((1 : Int32)).toInt = 1) (by omega) (by omega); have := bd_48_0 hI; omega))
      · have o3545 : 0 ≤ x2_2.toInt ∧ x2_2.toInt < 40 := by have := bd_48_0 hI; omega
        refine ⟨o3545, ?_⟩
        refine ⟨fun h3546 => ?_, fun h3546 => ?_⟩
        · refine Eq.mpr (q_Ro_barring_37.eq_1 _ _ _ _ _ _ _) ?_
          refine ⟨fun _ => ?_, fun h => absurd (by decide) h⟩
          have o3547 : (0 ≤ x2_1.toInt) ∧ (x2_1.toInt ≤ 31) ∧ (0 ≤ (x2_2 + (1 : Int32)).toInt) ∧ ((x2_2 + (1 : Int32)).toInt ≤ 40) := by have := ti_add2 (Eq.refl x2_2.toInt) (by decide : ((1 : Int32)).toInt = 1) (by omega) (by omega); have := bd_48_0 hI; exact ⟨by omega, by omega, by omega, by omega⟩
          exact ih _ w hI  o3547.1 o3547.2.1 o3547.2.2.1 o3547.2.2.2 (by have := ti_add2 (Eq.refl x2_2.toInt) (by decide : ((1 : Int32)).toInt = 1) (by omega) (by omega); have := bd_48_0 hI; omega) (fun w9 hI9 hF9 => hE w9 hI9 ((FR.refl _ w).tr hF9 rfl) ) (fun r w9 hI9 hF9 q0 q1 => hQ r w9 hI9 ((FR.refl _ w).tr hF9 rfl) (by have := ti_add2 (Eq.refl x2_2.toInt) (by decide : ((1 : Int32)).toInt = 1) (by omega) (by omega); have := bd_48_0 hI; omega) (by have := ti_add2 (Eq.refl x2_2.toInt) (by decide : ((1 : Int32)).toInt = 1) (by omega) (by omega); have := bd_48_0 hI; omega))
        · refine Eq.mpr (q_Ro_barring_37.eq_1 _ _ _ _ _ _ _) ?_
          refine ⟨fun h => absurd h (by decide), fun _ => ?_⟩
          have o3548 : 0 ≤ x2_2.toInt ∧ x2_2.toInt < 40 := by have := bd_48_0 hI; omega
          refine ⟨o3548, ?_⟩
          refine ⟨fun h3549 => ?_, fun h3549 => ?_⟩
          · have o3550 : (1 ≤ (x2_2 + (1 : Int32)).toInt) ∧ ((x2_2 + (1 : Int32)).toInt ≤ 40) := by have := ti_add2 (Eq.refl x2_2.toInt) (by decide : ((1 : Int32)).toInt = 1) (by omega) (by omega); have := bd_48_0 hI; exact ⟨by omega, by omega⟩
            exact hQ _ _ hI (FR.refl _ w)  o3550.1 o3550.2
          · have o3551 : 0 ≤ x2_2.toInt ∧ x2_2.toInt < 40 := by have := bd_48_0 hI; omega
            refine ⟨o3551, ?_⟩
            have o3552 : 0 ≤ x2_2.toInt ∧ x2_2.toInt < 40 := by have := bd_48_0 hI; omega
            refine ⟨o3552, ?_⟩
            refine ⟨fun h3553 => ?_, fun h3553 => ?_⟩
            · have o3554 : (0 ≤ x2_1.toInt) ∧ (x2_1.toInt ≤ 31) ∧ (0 ≤ (x2_2 + (1 : Int32)).toInt) ∧ ((x2_2 + (1 : Int32)).toInt ≤ 40) := by have := ti_add2 (Eq.refl x2_2.toInt) (by decide : ((1 : Int32)).toInt = 1) (by omega) (by omega); have := bd_48_0 hI; exact ⟨by omega, by omega, by omega, by omega⟩
              exact ih _ w hI  o3554.1 o3554.2.1 o3554.2.2.1 o3554.2.2.2 (by have := ti_add2 (Eq.refl x2_2.toInt) (by decide : ((1 : Int32)).toInt = 1) (by omega) (by omega); have := bd_48_0 hI; omega) (fun w9 hI9 hF9 => hE w9 hI9 ((FR.refl _ w).tr hF9 rfl) ) (fun r w9 hI9 hF9 q0 q1 => hQ r w9 hI9 ((FR.refl _ w).tr hF9 rfl) (by have := ti_add2 (Eq.refl x2_2.toInt) (by decide : ((1 : Int32)).toInt = 1) (by omega) (by omega); have := bd_48_0 hI; omega) (by have := ti_add2 (Eq.refl x2_2.toInt) (by decide : ((1 : Int32)).toInt = 1) (by omega) (by omega); have := bd_48_0 hI; omega))
            · have o3555 : (0 ≤ x2_2.toInt) ∧ (x2_2.toInt ≤ 39) := by have := bd_48_0 hI; exact ⟨by omega, by omega⟩
              refine h_Ro_isOn hI  o3555.1 o3555.2 (fun r3559 w3556 hI3557 hL3558 p3560 p3561 => ?_)
              have hF3562 : FR l_Ro_barring_2 w w3556 := (FR.refl _ w).tr hL3558 rfl
              refine ⟨fun h3563 => ?_, fun h3563 => ?_⟩
              · have o3564 : (0 ≤ x2_1.toInt) ∧ (x2_1.toInt ≤ 31) ∧ (0 ≤ (x2_2 + (1 : Int32)).toInt) ∧ ((x2_2 + (1 : Int32)).toInt ≤ 40) := by have := ti_add2 (Eq.refl x2_2.toInt) (by decide : ((1 : Int32)).toInt = 1) (by omega) (by omega); have := bd_48_0 hI; exact ⟨by omega, by omega, by omega, by omega⟩
                exact ih _ w3556 hI3557  o3564.1 o3564.2.1 o3564.2.2.1 o3564.2.2.2 (by have := ti_add2 (Eq.refl x2_2.toInt) (by decide : ((1 : Int32)).toInt = 1) (by omega) (by omega); have := bd_48_0 hI; omega) (fun w9 hI9 hF9 => hE w9 hI9 (hF3562.tr hF9 rfl) ) (fun r w9 hI9 hF9 q0 q1 => hQ r w9 hI9 (hF3562.tr hF9 rfl) (by have := ti_add2 (Eq.refl x2_2.toInt) (by decide : ((1 : Int32)).toInt = 1) (by omega) (by omega); have := bd_48_0 hI; omega) (by have := ti_add2 (Eq.refl x2_2.toInt) (by decide : ((1 : Int32)).toInt = 1) (by omega) (by omega); have := bd_48_0 hI; omega))
              · have o3565 : (1 ≤ (x2_2 + (1 : Int32)).toInt) ∧ ((x2_2 + (1 : Int32)).toInt ≤ 40) := by have := ti_add2 (Eq.refl x2_2.toInt) (by decide : ((1 : Int32)).toInt = 1) (by omega) (by omega); have := bd_48_0 hI; exact ⟨by omega, by omega⟩
                exact hQ _ _ hI3557 hF3562  o3565.1 o3565.2
set_option maxRecDepth 20000 in
set_option maxHeartbeats 2000000 in
theorem h_Ro_barring {w : MW} {a0 : Int32} {Q : Int32 → MW → Prop} (hI : BND w) (hp0 : 0 ≤ a0.toInt) (hp1 : a0.toInt ≤ 31) (hQ : ∀ (r : Int32) (w' : MW), BND w' → FR l_Ro_barring w w' → 0 ≤ r.toInt → r.toInt ≤ 40 → Q r w') : p_Ro_barring w a0 Q := by
  refine Eq.mpr (p_Ro_barring.eq_1 _ _ _) ?_
  have o3566 : (0 ≤ a0.toInt) ∧ (a0.toInt ≤ 31) ∧ (0 ≤ (0 : Int32).toInt) ∧ ((0 : Int32).toInt ≤ 40) := by have := (by decide : ((0 : Int32)).toInt = 0); exact ⟨by omega, by omega, by omega, by omega⟩
  refine hq_Ro_barring_2 FU _ w hI  o3566.1 o3566.2.1 o3566.2.2.1 o3566.2.2.2 (fu_lt (by have := (by decide : ((0 : Int32)).toInt = 0); omega)) (fun w3567 hI3568 hL3569  => ?_) (fun r w9 hI9 hF9 q0 q1 => hQ r w9 hI9 (((FR.refl _ w)).tr hF9 rfl) (by have := (by decide : ((0 : Int32)).toInt = 0); omega) (by have := (by decide : ((0 : Int32)).toInt = 0); omega))
  have hF3570 : FR l_Ro_barring w w3567 := (FR.refl _ w).tr hL3569 rfl
  have o3571 : (0 ≤ (0 : Int32).toInt) ∧ ((0 : Int32).toInt ≤ 40) := by have := (by decide : ((0 : Int32)).toInt = 0); exact ⟨by omega, by omega⟩
  exact hQ _ _ hI3568 hF3570  o3571.1 o3571.2
def l_Pr_clearValues_2 : Pl := [(74, none)]
def l_Pr_clearValues : Pl := [(74, none)]
set_option maxRecDepth 20000 in
set_option maxHeartbeats 2000000 in
theorem hq_Pr_clearValues_2 {E : MW → Prop} {Q : MW → Prop} (n : Nat) : ∀ (x2_1 : Int32) (w : MW), BND w → 0 ≤ x2_1.toInt → x2_1.toInt ≤ 40 → (40 - x2_1.toInt).toNat < n → (∀ (w' : MW), BND w' → FR l_Pr_clearValues_2 w w' → E w') → (∀ (w' : MW), BND w' → FR l_Pr_clearValues_2 w w' → False → Q w') → q_Pr_clearValues_2 E Q n x2_1 w := by
  induction n with
  | zero => intros; omega
  | succ n ih =>
    intro x2_1 w hI  hp0 hp1 hm hE hQ
    rw [q_Pr_clearValues_2.eq_2]
    refine ⟨fun h3572 => ?_, fun h3572 => ?_⟩
    · exact hE _ hI (FR.refl _ w)
    · refine Eq.mpr (p_Pr_isSensed.eq_1 _ _ _) ?_
      refine Eq.mpr (p_Pr_isSignal.eq_1 _ _ _) ?_
      refine ⟨fun h3573 => ?_, fun h3573 => ?_⟩
      · exfalso; have := bd_62_10 hI; have := (by decide : ((0 : Int32)).toInt = 0); omega
      · refine ⟨fun h => absurd h h3572, fun _ => ?_⟩
        have o3574 : 0 ≤ x2_1.toInt ∧ x2_1.toInt < 40 := by have := bd_62_10 hI; have := (by decide : ((0 : Int32)).toInt = 0); omega
        refine ⟨o3574, ?_⟩
        refine ⟨fun h3575 => ?_, fun h3575 => ?_⟩
        · refine ⟨fun _ => ?_, fun h => absurd (by decide) h⟩
          refine ⟨fun h => absurd h (by decide), fun _ => ?_⟩
          have o3576 : 0 ≤ x2_1.toInt ∧ x2_1.toInt < 40 := by have := bd_62_10 hI; have := (by decide : ((0 : Int32)).toInt = 0); omega
          refine ⟨o3576, ?_⟩
          have o3577 : (0 ≤ (x2_1 + (1 : Int32)).toInt) ∧ ((x2_1 + (1 : Int32)).toInt ≤ 40) := by have := ti_add2 (Eq.refl x2_1.toInt) (by decide : ((1 : Int32)).toInt = 1) (by omega) (by omega); have := bd_62_10 hI; have := (by decide : ((0 : Int32)).toInt = 0); exact ⟨by omega, by omega⟩
          exact ih _ (sJ w 74 x2_1.toInt.toNat 0) (bnd_J hI (k := 74) (j := x2_1.toInt.toNat) (v := 0))  o3577.1 o3577.2 (by have := ti_add2 (Eq.refl x2_1.toInt) (by decide : ((1 : Int32)).toInt = 1) (by omega) (by omega); have := bd_62_10 hI; have := (by decide : ((0 : Int32)).toInt = 0); omega) (fun w9 hI9 hF9 => hE w9 hI9 ((FR.J (FR.refl _ w) (k := 74) (j := x2_1.toInt.toNat) (v := 0) rfl).tr hF9 rfl) ) (fun w9 hI9 hF9 q0 => q0.elim)
        · refine ⟨fun h => absurd h (by decide), fun _ => ?_⟩
          have o3578 : 0 ≤ x2_1.toInt ∧ x2_1.toInt < 40 := by have := bd_62_10 hI; have := (by decide : ((0 : Int32)).toInt = 0); omega
          refine ⟨o3578, ?_⟩
          refine ⟨fun h3579 => ?_, fun h3579 => ?_⟩
          · refine ⟨fun h => absurd h (by decide), fun _ => ?_⟩
            have o3580 : 0 ≤ x2_1.toInt ∧ x2_1.toInt < 40 := by have := bd_62_10 hI; have := (by decide : ((0 : Int32)).toInt = 0); omega
            refine ⟨o3580, ?_⟩
            have o3581 : (0 ≤ (x2_1 + (1 : Int32)).toInt) ∧ ((x2_1 + (1 : Int32)).toInt ≤ 40) := by have := ti_add2 (Eq.refl x2_1.toInt) (by decide : ((1 : Int32)).toInt = 1) (by omega) (by omega); have := bd_62_10 hI; have := (by decide : ((0 : Int32)).toInt = 0); exact ⟨by omega, by omega⟩
            exact ih _ (sJ w 74 x2_1.toInt.toNat 0) (bnd_J hI (k := 74) (j := x2_1.toInt.toNat) (v := 0))  o3581.1 o3581.2 (by have := ti_add2 (Eq.refl x2_1.toInt) (by decide : ((1 : Int32)).toInt = 1) (by omega) (by omega); have := bd_62_10 hI; have := (by decide : ((0 : Int32)).toInt = 0); omega) (fun w9 hI9 hF9 => hE w9 hI9 ((FR.J (FR.refl _ w) (k := 74) (j := x2_1.toInt.toNat) (v := 0) rfl).tr hF9 rfl) ) (fun w9 hI9 hF9 q0 => q0.elim)
          · refine ⟨fun _ => ?_, fun h => absurd (by decide) h⟩
            have o3582 : (0 ≤ (x2_1 + (1 : Int32)).toInt) ∧ ((x2_1 + (1 : Int32)).toInt ≤ 40) := by have := ti_add2 (Eq.refl x2_1.toInt) (by decide : ((1 : Int32)).toInt = 1) (by omega) (by omega); have := bd_62_10 hI; have := (by decide : ((0 : Int32)).toInt = 0); exact ⟨by omega, by omega⟩
            exact ih _ w hI  o3582.1 o3582.2 (by have := ti_add2 (Eq.refl x2_1.toInt) (by decide : ((1 : Int32)).toInt = 1) (by omega) (by omega); have := bd_62_10 hI; have := (by decide : ((0 : Int32)).toInt = 0); omega) (fun w9 hI9 hF9 => hE w9 hI9 ((FR.refl _ w).tr hF9 rfl) ) (fun w9 hI9 hF9 q0 => q0.elim)
set_option maxRecDepth 20000 in
set_option maxHeartbeats 2000000 in
theorem h_Pr_clearValues {w : MW} {Q : MW → Prop} (hI : BND w)  (hQ : ∀ (w' : MW), BND w' → FR l_Pr_clearValues w w' → Q w') : p_Pr_clearValues w Q := by
  refine Eq.mpr (p_Pr_clearValues.eq_1 _ _) ?_
  have o3583 : (0 ≤ (0 : Int32).toInt) ∧ ((0 : Int32).toInt ≤ 40) := by have := (by decide : ((0 : Int32)).toInt = 0); exact ⟨by omega, by omega⟩
  refine hq_Pr_clearValues_2 FU _ w hI  o3583.1 o3583.2 (fu_lt (by have := (by decide : ((0 : Int32)).toInt = 0); omega)) (fun w3584 hI3585 hL3586  => ?_) (fun w9 hI9 hF9 q0 => q0.elim)
  have hF3587 : FR l_Pr_clearValues w w3584 := (FR.refl _ w).tr hL3586 rfl
  exact hQ _ hI3585 hF3587 
def l_Ro_countSecond_78 : Pl := [(51, none)]
def l_Ro_countSecond_42 : Pl := [(49, none), (50, none), (51, none)]
def l_Ro_countSecond_2 : Pl := [(49, none), (50, none), (51, none)]
def l_Ro_countSecond : Pl := [(49, none), (50, none), (51, none)]
set_option maxRecDepth 20000 in
set_option maxHeartbeats 2000000 in
theorem hq_Ro_countSecond_2 {E : MW → Prop} {Q : MW → Prop} (n : Nat) : ∀ (x2_1 : Int32) (w : MW), BND w → 0 ≤ x2_1.toInt → x2_1.toInt ≤ 40 → (40 - x2_1.toInt).toNat < n → (∀ (w' : MW), BND w' → FR l_Ro_countSecond_2 w w' → E w') → (∀ (w' : MW), BND w' → FR l_Ro_countSecond_2 w w' → False → Q w') → q_Ro_countSecond_2 E Q n x2_1 w := by
  induction n with
  | zero => intros; omega
  | succ n ih =>
    intro x2_1 w hI  hp0 hp1 hm hE hQ
    rw [q_Ro_countSecond_2.eq_2]
    refine ⟨fun h3588 => ?_, fun h3588 => ?_⟩
    · exact hE _ hI (FR.refl _ w)
    · have o3589 : (0 ≤ x2_1.toInt) ∧ (x2_1.toInt ≤ 39) := by have := bd_48_0 hI; exact ⟨by omega, by omega⟩
      refine h_Ro_isOn hI  o3589.1 o3589.2 (fun r3593 w3590 hI3591 hL3592 p3594 p3595 => ?_)
      have hF3596 : FR l_Ro_countSecond_2 w w3590 := (FR.refl _ w).tr hL3592 rfl
      refine ⟨fun h3597 => ?_, fun h3597 => ?_⟩
      · refine Eq.mpr (q_Ro_countSecond_42.eq_1 _ _ _ _ _ _ _ _) ?_
        have o3598 : 0 ≤ x2_1.toInt ∧ x2_1.toInt < 40 := by have := bd_48_0 hI; omega
        refine ⟨o3598, ?_⟩
        have o3599 : 0 ≤ x2_1.toInt ∧ x2_1.toInt < 40 := by have := bd_48_0 hI; omega
        refine ⟨o3599, ?_⟩
        refine ⟨fun h3600 => ?_, fun h3600 => ?_⟩
        · refine Eq.mpr (q_Ro_countSecond_78.eq_1 _ _ _ _ _) ?_
          have o3601 : 0 ≤ x2_1.toInt ∧ x2_1.toInt < 40 := by have := bd_48_0 hI; omega
          refine ⟨o3601, ?_⟩
          refine ⟨fun h3602 => ?_, fun h3602 => ?_⟩
          · have hI3603 : BND (sI w3590 49 x2_1.toInt.toNat 0) := wbd_49 hI3591 x2_1.toInt.toNat (by decide) (by decide)
            have o3604 : (0 ≤ (x2_1 + (1 : Int32)).toInt) ∧ ((x2_1 + (1 : Int32)).toInt ≤ 40) := by have := ti_add2 (Eq.refl x2_1.toInt) (by decide : ((1 : Int32)).toInt = 1) (by omega) (by omega); have := bd_48_0 hI; exact ⟨by omega, by omega⟩
            exact ih _ (sI w3590 49 x2_1.toInt.toNat 0) hI3603  o3604.1 o3604.2 (by have := ti_add2 (Eq.refl x2_1.toInt) (by decide : ((1 : Int32)).toInt = 1) (by omega) (by omega); have := bd_48_0 hI; omega) (fun w9 hI9 hF9 => hE w9 hI9 ((FR.I hF3596 (k := 49) (j := x2_1.toInt.toNat) (v := 0) rfl).tr hF9 rfl) ) (fun w9 hI9 hF9 q0 => q0.elim)
          · have o3605 : 0 ≤ x2_1.toInt ∧ x2_1.toInt < 40 := by have := bd_48_0 hI; omega
            refine ⟨o3605, ?_⟩
            have o3606 : 0 ≤ x2_1.toInt ∧ x2_1.toInt < 40 := by have := bd_48_0 hI; omega
            refine ⟨o3606, ?_⟩
            have hI3607 : BND (sI w3590 49 x2_1.toInt.toNat 0) := wbd_49 hI3591 x2_1.toInt.toNat (by decide) (by decide)
            have o3609 : 0 ≤ (((sI w3590 49 x2_1.toInt.toNat 0).1 51 x2_1.toInt.toNat) - (1 : Int32)).toInt ∧ (((sI w3590 49 x2_1.toInt.toNat 0).1 51 x2_1.toInt.toNat) - (1 : Int32)).toInt ≤ 3600 := by have := bd_51 hI3591 x2_1.toInt.toNat; have := bd_51 hI x2_1.toInt.toNat; have := (congrArg Int32.toInt (hL3592 51 x2_1.toInt.toNat rfl).1); have : ((sI w3590 49 x2_1.toInt.toNat 0).1 51 x2_1.toInt.toNat).toInt = (w3590.1 51 x2_1.toInt.toNat).toInt := rfl; have := ti_sub2 (Eq.refl ((sI w3590 49 x2_1.toInt.toNat 0).1 51 x2_1.toInt.toNat).toInt) (by decide : ((1 : Int32)).toInt = 1) (by omega) (by omega); have := (by decide : ((0 : Int32)).toInt = 0); omega
            have hI3608 : BND (sI (sI w3590 49 x2_1.toInt.toNat 0) 51 x2_1.toInt.toNat (((sI w3590 49 x2_1.toInt.toNat 0).1 51 x2_1.toInt.toNat) - (1 : Int32))) := wbd_51 hI3607 x2_1.toInt.toNat o3609.1 o3609.2
            have o3610 : (0 ≤ (x2_1 + (1 : Int32)).toInt) ∧ ((x2_1 + (1 : Int32)).toInt ≤ 40) := by have := ti_add2 (Eq.refl x2_1.toInt) (by decide : ((1 : Int32)).toInt = 1) (by omega) (by omega); have := bd_48_0 hI; exact ⟨by omega, by omega⟩
            exact ih _ (sI (sI w3590 49 x2_1.toInt.toNat 0) 51 x2_1.toInt.toNat (((sI w3590 49 x2_1.toInt.toNat 0).1 51 x2_1.toInt.toNat) - (1 : Int32))) hI3608  o3610.1 o3610.2 (by have := ti_add2 (Eq.refl x2_1.toInt) (by decide : ((1 : Int32)).toInt = 1) (by omega) (by omega); have := bd_48_0 hI; omega) (fun w9 hI9 hF9 => hE w9 hI9 ((FR.I (FR.I hF3596 (k := 49) (j := x2_1.toInt.toNat) (v := 0) rfl) (k := 51) (j := x2_1.toInt.toNat) (v := (((sI w3590 49 x2_1.toInt.toNat 0).1 51 x2_1.toInt.toNat) - (1 : Int32))) rfl).tr hF9 rfl) ) (fun w9 hI9 hF9 q0 => q0.elim)
        · refine ⟨fun _ => ?_, fun h => absurd h3597 h⟩
          refine Eq.mpr (q_Ro_countSecond_78.eq_1 _ _ _ _ _) ?_
          have o3611 : 0 ≤ x2_1.toInt ∧ x2_1.toInt < 40 := by have := bd_48_0 hI; omega
          refine ⟨o3611, ?_⟩
          refine ⟨fun h3612 => ?_, fun h3612 => ?_⟩
          · have hI3613 : BND (sI w3590 49 x2_1.toInt.toNat 0) := wbd_49 hI3591 x2_1.toInt.toNat (by decide) (by decide)
            have o3614 : (0 ≤ (x2_1 + (1 : Int32)).toInt) ∧ ((x2_1 + (1 : Int32)).toInt ≤ 40) := by have := ti_add2 (Eq.refl x2_1.toInt) (by decide : ((1 : Int32)).toInt = 1) (by omega) (by omega); have := bd_48_0 hI; exact ⟨by omega, by omega⟩
            exact ih _ (sI w3590 49 x2_1.toInt.toNat 0) hI3613  o3614.1 o3614.2 (by have := ti_add2 (Eq.refl x2_1.toInt) (by decide : ((1 : Int32)).toInt = 1) (by omega) (by omega); have := bd_48_0 hI; omega) (fun w9 hI9 hF9 => hE w9 hI9 ((FR.I hF3596 (k := 49) (j := x2_1.toInt.toNat) (v := 0) rfl).tr hF9 rfl) ) (fun w9 hI9 hF9 q0 => q0.elim)
          · have o3615 : 0 ≤ x2_1.toInt ∧ x2_1.toInt < 40 := by have := bd_48_0 hI; omega
            refine ⟨o3615, ?_⟩
            have o3616 : 0 ≤ x2_1.toInt ∧ x2_1.toInt < 40 := by have := bd_48_0 hI; omega
            refine ⟨o3616, ?_⟩
            have hI3617 : BND (sI w3590 49 x2_1.toInt.toNat 0) := wbd_49 hI3591 x2_1.toInt.toNat (by decide) (by decide)
            have o3619 : 0 ≤ (((sI w3590 49 x2_1.toInt.toNat 0).1 51 x2_1.toInt.toNat) - (1 : Int32)).toInt ∧ (((sI w3590 49 x2_1.toInt.toNat 0).1 51 x2_1.toInt.toNat) - (1 : Int32)).toInt ≤ 3600 := by have := bd_51 hI3591 x2_1.toInt.toNat; have := bd_51 hI x2_1.toInt.toNat; have := (congrArg Int32.toInt (hL3592 51 x2_1.toInt.toNat rfl).1); have : ((sI w3590 49 x2_1.toInt.toNat 0).1 51 x2_1.toInt.toNat).toInt = (w3590.1 51 x2_1.toInt.toNat).toInt := rfl; have := ti_sub2 (Eq.refl ((sI w3590 49 x2_1.toInt.toNat 0).1 51 x2_1.toInt.toNat).toInt) (by decide : ((1 : Int32)).toInt = 1) (by omega) (by omega); have := (by decide : ((0 : Int32)).toInt = 0); omega
            have hI3618 : BND (sI (sI w3590 49 x2_1.toInt.toNat 0) 51 x2_1.toInt.toNat (((sI w3590 49 x2_1.toInt.toNat 0).1 51 x2_1.toInt.toNat) - (1 : Int32))) := wbd_51 hI3617 x2_1.toInt.toNat o3619.1 o3619.2
            have o3620 : (0 ≤ (x2_1 + (1 : Int32)).toInt) ∧ ((x2_1 + (1 : Int32)).toInt ≤ 40) := by have := ti_add2 (Eq.refl x2_1.toInt) (by decide : ((1 : Int32)).toInt = 1) (by omega) (by omega); have := bd_48_0 hI; exact ⟨by omega, by omega⟩
            exact ih _ (sI (sI w3590 49 x2_1.toInt.toNat 0) 51 x2_1.toInt.toNat (((sI w3590 49 x2_1.toInt.toNat 0).1 51 x2_1.toInt.toNat) - (1 : Int32))) hI3618  o3620.1 o3620.2 (by have := ti_add2 (Eq.refl x2_1.toInt) (by decide : ((1 : Int32)).toInt = 1) (by omega) (by omega); have := bd_48_0 hI; omega) (fun w9 hI9 hF9 => hE w9 hI9 ((FR.I (FR.I hF3596 (k := 49) (j := x2_1.toInt.toNat) (v := 0) rfl) (k := 51) (j := x2_1.toInt.toNat) (v := (((sI w3590 49 x2_1.toInt.toNat 0).1 51 x2_1.toInt.toNat) - (1 : Int32))) rfl).tr hF9 rfl) ) (fun w9 hI9 hF9 q0 => q0.elim)
      · have o3621 : 0 ≤ x2_1.toInt ∧ x2_1.toInt < 40 := by have := bd_48_0 hI; omega
        refine ⟨o3621, ?_⟩
        refine Eq.mpr (p_Ma_min.eq_1 _ _ _ _) ?_
        refine ⟨fun h3622 => ?_, fun h3622 => ?_⟩
        · replace h3622 : 1000000 < ((w3590.1 49 x2_1.toInt.toNat) + (1 : Int32)).toInt := h3622
          refine Eq.mpr (q_Ro_countSecond_42.eq_1 _ _ _ _ _ _ _ _) ?_
          have o3623 : 0 ≤ x2_1.toInt ∧ x2_1.toInt < 40 := by have := bd_48_0 hI; omega
          refine ⟨o3623, ?_⟩
          have o3624 : 0 ≤ x2_1.toInt ∧ x2_1.toInt < 40 := by have := bd_48_0 hI; omega
          refine ⟨o3624, ?_⟩
          refine ⟨fun h3625 => ?_, fun h3625 => ?_⟩
          · refine Eq.mpr (q_Ro_countSecond_78.eq_1 _ _ _ _ _) ?_
            have o3626 : 0 ≤ x2_1.toInt ∧ x2_1.toInt < 40 := by have := bd_48_0 hI; omega
            refine ⟨o3626, ?_⟩
            refine ⟨fun h3627 => ?_, fun h3627 => ?_⟩
            · have hI3628 : BND (sI w3590 49 x2_1.toInt.toNat 1000000) := wbd_49 hI3591 x2_1.toInt.toNat (by decide) (by decide)
              have o3629 : (0 ≤ (x2_1 + (1 : Int32)).toInt) ∧ ((x2_1 + (1 : Int32)).toInt ≤ 40) := by have := ti_add2 (Eq.refl x2_1.toInt) (by decide : ((1 : Int32)).toInt = 1) (by omega) (by omega); have := bd_48_0 hI; exact ⟨by omega, by omega⟩
              exact ih _ (sI w3590 49 x2_1.toInt.toNat 1000000) hI3628  o3629.1 o3629.2 (by have := ti_add2 (Eq.refl x2_1.toInt) (by decide : ((1 : Int32)).toInt = 1) (by omega) (by omega); have := bd_48_0 hI; omega) (fun w9 hI9 hF9 => hE w9 hI9 ((FR.I hF3596 (k := 49) (j := x2_1.toInt.toNat) (v := 1000000) rfl).tr hF9 rfl) ) (fun w9 hI9 hF9 q0 => q0.elim)
            · have o3630 : 0 ≤ x2_1.toInt ∧ x2_1.toInt < 40 := by have := bd_48_0 hI; omega
              refine ⟨o3630, ?_⟩
              have o3631 : 0 ≤ x2_1.toInt ∧ x2_1.toInt < 40 := by have := bd_48_0 hI; omega
              refine ⟨o3631, ?_⟩
              have hI3632 : BND (sI w3590 49 x2_1.toInt.toNat 1000000) := wbd_49 hI3591 x2_1.toInt.toNat (by decide) (by decide)
              have o3634 : 0 ≤ (((sI w3590 49 x2_1.toInt.toNat 1000000).1 51 x2_1.toInt.toNat) - (1 : Int32)).toInt ∧ (((sI w3590 49 x2_1.toInt.toNat 1000000).1 51 x2_1.toInt.toNat) - (1 : Int32)).toInt ≤ 3600 := by have := bd_51 hI3591 x2_1.toInt.toNat; have := bd_51 hI x2_1.toInt.toNat; have := (congrArg Int32.toInt (hL3592 51 x2_1.toInt.toNat rfl).1); have : ((sI w3590 49 x2_1.toInt.toNat 1000000).1 51 x2_1.toInt.toNat).toInt = (w3590.1 51 x2_1.toInt.toNat).toInt := rfl; have := ti_sub2 (Eq.refl ((sI w3590 49 x2_1.toInt.toNat 1000000).1 51 x2_1.toInt.toNat).toInt) (by decide : ((1 : Int32)).toInt = 1) (by omega) (by omega); have := (by decide : ((0 : Int32)).toInt = 0); omega
              have hI3633 : BND (sI (sI w3590 49 x2_1.toInt.toNat 1000000) 51 x2_1.toInt.toNat (((sI w3590 49 x2_1.toInt.toNat 1000000).1 51 x2_1.toInt.toNat) - (1 : Int32))) := wbd_51 hI3632 x2_1.toInt.toNat o3634.1 o3634.2
              have o3635 : (0 ≤ (x2_1 + (1 : Int32)).toInt) ∧ ((x2_1 + (1 : Int32)).toInt ≤ 40) := by have := ti_add2 (Eq.refl x2_1.toInt) (by decide : ((1 : Int32)).toInt = 1) (by omega) (by omega); have := bd_48_0 hI; exact ⟨by omega, by omega⟩
              exact ih _ (sI (sI w3590 49 x2_1.toInt.toNat 1000000) 51 x2_1.toInt.toNat (((sI w3590 49 x2_1.toInt.toNat 1000000).1 51 x2_1.toInt.toNat) - (1 : Int32))) hI3633  o3635.1 o3635.2 (by have := ti_add2 (Eq.refl x2_1.toInt) (by decide : ((1 : Int32)).toInt = 1) (by omega) (by omega); have := bd_48_0 hI; omega) (fun w9 hI9 hF9 => hE w9 hI9 ((FR.I (FR.I hF3596 (k := 49) (j := x2_1.toInt.toNat) (v := 1000000) rfl) (k := 51) (j := x2_1.toInt.toNat) (v := (((sI w3590 49 x2_1.toInt.toNat 1000000).1 51 x2_1.toInt.toNat) - (1 : Int32))) rfl).tr hF9 rfl) ) (fun w9 hI9 hF9 q0 => q0.elim)
          · refine ⟨fun h => absurd h h3597, fun _ => ?_⟩
            have o3636 : 0 ≤ x2_1.toInt ∧ x2_1.toInt < 40 := by have := bd_48_0 hI; omega
            refine ⟨o3636, ?_⟩
            have o3637 : 0 ≤ x2_1.toInt ∧ x2_1.toInt < 40 := by have := bd_48_0 hI; omega
            refine ⟨o3637, ?_⟩
            refine ⟨fun h3638 => ?_, fun h3638 => ?_⟩
            · refine Eq.mpr (q_Ro_countSecond_78.eq_1 _ _ _ _ _) ?_
              have o3639 : 0 ≤ x2_1.toInt ∧ x2_1.toInt < 40 := by have := bd_48_0 hI; omega
              refine ⟨o3639, ?_⟩
              refine ⟨fun h3640 => ?_, fun h3640 => ?_⟩
              · have hI3641 : BND (sI w3590 49 x2_1.toInt.toNat 1000000) := wbd_49 hI3591 x2_1.toInt.toNat (by decide) (by decide)
                have o3642 : (0 ≤ (x2_1 + (1 : Int32)).toInt) ∧ ((x2_1 + (1 : Int32)).toInt ≤ 40) := by have := ti_add2 (Eq.refl x2_1.toInt) (by decide : ((1 : Int32)).toInt = 1) (by omega) (by omega); have := bd_48_0 hI; exact ⟨by omega, by omega⟩
                exact ih _ (sI w3590 49 x2_1.toInt.toNat 1000000) hI3641  o3642.1 o3642.2 (by have := ti_add2 (Eq.refl x2_1.toInt) (by decide : ((1 : Int32)).toInt = 1) (by omega) (by omega); have := bd_48_0 hI; omega) (fun w9 hI9 hF9 => hE w9 hI9 ((FR.I hF3596 (k := 49) (j := x2_1.toInt.toNat) (v := 1000000) rfl).tr hF9 rfl) ) (fun w9 hI9 hF9 q0 => q0.elim)
              · have o3643 : 0 ≤ x2_1.toInt ∧ x2_1.toInt < 40 := by have := bd_48_0 hI; omega
                refine ⟨o3643, ?_⟩
                have o3644 : 0 ≤ x2_1.toInt ∧ x2_1.toInt < 40 := by have := bd_48_0 hI; omega
                refine ⟨o3644, ?_⟩
                have hI3645 : BND (sI w3590 49 x2_1.toInt.toNat 1000000) := wbd_49 hI3591 x2_1.toInt.toNat (by decide) (by decide)
                have o3647 : 0 ≤ (((sI w3590 49 x2_1.toInt.toNat 1000000).1 51 x2_1.toInt.toNat) - (1 : Int32)).toInt ∧ (((sI w3590 49 x2_1.toInt.toNat 1000000).1 51 x2_1.toInt.toNat) - (1 : Int32)).toInt ≤ 3600 := by have := bd_51 hI3591 x2_1.toInt.toNat; have := bd_51 hI x2_1.toInt.toNat; have := (congrArg Int32.toInt (hL3592 51 x2_1.toInt.toNat rfl).1); have : ((sI w3590 49 x2_1.toInt.toNat 1000000).1 51 x2_1.toInt.toNat).toInt = (w3590.1 51 x2_1.toInt.toNat).toInt := rfl; have := ti_sub2 (Eq.refl ((sI w3590 49 x2_1.toInt.toNat 1000000).1 51 x2_1.toInt.toNat).toInt) (by decide : ((1 : Int32)).toInt = 1) (by omega) (by omega); have := (by decide : ((0 : Int32)).toInt = 0); omega
                have hI3646 : BND (sI (sI w3590 49 x2_1.toInt.toNat 1000000) 51 x2_1.toInt.toNat (((sI w3590 49 x2_1.toInt.toNat 1000000).1 51 x2_1.toInt.toNat) - (1 : Int32))) := wbd_51 hI3645 x2_1.toInt.toNat o3647.1 o3647.2
                have o3648 : (0 ≤ (x2_1 + (1 : Int32)).toInt) ∧ ((x2_1 + (1 : Int32)).toInt ≤ 40) := by have := ti_add2 (Eq.refl x2_1.toInt) (by decide : ((1 : Int32)).toInt = 1) (by omega) (by omega); have := bd_48_0 hI; exact ⟨by omega, by omega⟩
                exact ih _ (sI (sI w3590 49 x2_1.toInt.toNat 1000000) 51 x2_1.toInt.toNat (((sI w3590 49 x2_1.toInt.toNat 1000000).1 51 x2_1.toInt.toNat) - (1 : Int32))) hI3646  o3648.1 o3648.2 (by have := ti_add2 (Eq.refl x2_1.toInt) (by decide : ((1 : Int32)).toInt = 1) (by omega) (by omega); have := bd_48_0 hI; omega) (fun w9 hI9 hF9 => hE w9 hI9 ((FR.I (FR.I hF3596 (k := 49) (j := x2_1.toInt.toNat) (v := 1000000) rfl) (k := 51) (j := x2_1.toInt.toNat) (v := (((sI w3590 49 x2_1.toInt.toNat 1000000).1 51 x2_1.toInt.toNat) - (1 : Int32))) rfl).tr hF9 rfl) ) (fun w9 hI9 hF9 q0 => q0.elim)
            · have o3649 : 0 ≤ x2_1.toInt ∧ x2_1.toInt < 40 := by have := bd_48_0 hI; omega
              refine ⟨o3649, ?_⟩
              refine Eq.mpr (q_Ro_countSecond_78.eq_1 _ _ _ _ _) ?_
              have o3650 : 0 ≤ x2_1.toInt ∧ x2_1.toInt < 40 := by have := bd_48_0 hI; omega
              refine ⟨o3650, ?_⟩
              refine ⟨fun h3651 => ?_, fun h3651 => ?_⟩
              · have hI3652 : BND (sI w3590 49 x2_1.toInt.toNat 1000000) := wbd_49 hI3591 x2_1.toInt.toNat (by decide) (by decide)
                have o3654 : 0 ≤ (vp_nar .boolean (1 : Int32)).toInt ∧ (vp_nar .boolean (1 : Int32)).toInt ≤ 1 := by have := nb_bool1; omega
                have hI3653 : BND (sI (sI w3590 49 x2_1.toInt.toNat 1000000) 50 x2_1.toInt.toNat (vp_nar .boolean (1 : Int32))) := wbd_50 hI3652 x2_1.toInt.toNat o3654.1 o3654.2
                have o3655 : (0 ≤ (x2_1 + (1 : Int32)).toInt) ∧ ((x2_1 + (1 : Int32)).toInt ≤ 40) := by have := ti_add2 (Eq.refl x2_1.toInt) (by decide : ((1 : Int32)).toInt = 1) (by omega) (by omega); have := bd_48_0 hI; exact ⟨by omega, by omega⟩
                exact ih _ (sI (sI w3590 49 x2_1.toInt.toNat 1000000) 50 x2_1.toInt.toNat (vp_nar .boolean (1 : Int32))) hI3653  o3655.1 o3655.2 (by have := ti_add2 (Eq.refl x2_1.toInt) (by decide : ((1 : Int32)).toInt = 1) (by omega) (by omega); have := bd_48_0 hI; omega) (fun w9 hI9 hF9 => hE w9 hI9 ((FR.I (FR.I hF3596 (k := 49) (j := x2_1.toInt.toNat) (v := 1000000) rfl) (k := 50) (j := x2_1.toInt.toNat) (v := (vp_nar .boolean (1 : Int32))) rfl).tr hF9 rfl) ) (fun w9 hI9 hF9 q0 => q0.elim)
              · have o3656 : 0 ≤ x2_1.toInt ∧ x2_1.toInt < 40 := by have := bd_48_0 hI; omega
                refine ⟨o3656, ?_⟩
                have o3657 : 0 ≤ x2_1.toInt ∧ x2_1.toInt < 40 := by have := bd_48_0 hI; omega
                refine ⟨o3657, ?_⟩
                have hI3658 : BND (sI w3590 49 x2_1.toInt.toNat 1000000) := wbd_49 hI3591 x2_1.toInt.toNat (by decide) (by decide)
                have o3660 : 0 ≤ (vp_nar .boolean (1 : Int32)).toInt ∧ (vp_nar .boolean (1 : Int32)).toInt ≤ 1 := by have := nb_bool1; omega
                have hI3659 : BND (sI (sI w3590 49 x2_1.toInt.toNat 1000000) 50 x2_1.toInt.toNat (vp_nar .boolean (1 : Int32))) := wbd_50 hI3658 x2_1.toInt.toNat o3660.1 o3660.2
                have o3662 : 0 ≤ (((sI (sI w3590 49 x2_1.toInt.toNat 1000000) 50 x2_1.toInt.toNat (vp_nar .boolean (1 : Int32))).1 51 x2_1.toInt.toNat) - (1 : Int32)).toInt ∧ (((sI (sI w3590 49 x2_1.toInt.toNat 1000000) 50 x2_1.toInt.toNat (vp_nar .boolean (1 : Int32))).1 51 x2_1.toInt.toNat) - (1 : Int32)).toInt ≤ 3600 := by have := bd_51 hI3591 x2_1.toInt.toNat; have := bd_51 hI x2_1.toInt.toNat; have := (congrArg Int32.toInt (hL3592 51 x2_1.toInt.toNat rfl).1); have : ((sI (sI w3590 49 x2_1.toInt.toNat 1000000) 50 x2_1.toInt.toNat (vp_nar .boolean (1 : Int32))).1 51 x2_1.toInt.toNat).toInt = (w3590.1 51 x2_1.toInt.toNat).toInt := rfl; have := ti_sub2 (Eq.refl ((sI (sI w3590 49 x2_1.toInt.toNat 1000000) 50 x2_1.toInt.toNat (vp_nar .boolean (1 : Int32))).1 51 x2_1.toInt.toNat).toInt) (by decide : ((1 : Int32)).toInt = 1) (by omega) (by omega); have := (by decide : ((0 : Int32)).toInt = 0); omega
                have hI3661 : BND (sI (sI (sI w3590 49 x2_1.toInt.toNat 1000000) 50 x2_1.toInt.toNat (vp_nar .boolean (1 : Int32))) 51 x2_1.toInt.toNat (((sI (sI w3590 49 x2_1.toInt.toNat 1000000) 50 x2_1.toInt.toNat (vp_nar .boolean (1 : Int32))).1 51 x2_1.toInt.toNat) - (1 : Int32))) := wbd_51 hI3659 x2_1.toInt.toNat o3662.1 o3662.2
                have o3663 : (0 ≤ (x2_1 + (1 : Int32)).toInt) ∧ ((x2_1 + (1 : Int32)).toInt ≤ 40) := by have := ti_add2 (Eq.refl x2_1.toInt) (by decide : ((1 : Int32)).toInt = 1) (by omega) (by omega); have := bd_48_0 hI; exact ⟨by omega, by omega⟩
                exact ih _ (sI (sI (sI w3590 49 x2_1.toInt.toNat 1000000) 50 x2_1.toInt.toNat (vp_nar .boolean (1 : Int32))) 51 x2_1.toInt.toNat (((sI (sI w3590 49 x2_1.toInt.toNat 1000000) 50 x2_1.toInt.toNat (vp_nar .boolean (1 : Int32))).1 51 x2_1.toInt.toNat) - (1 : Int32))) hI3661  o3663.1 o3663.2 (by have := ti_add2 (Eq.refl x2_1.toInt) (by decide : ((1 : Int32)).toInt = 1) (by omega) (by omega); have := bd_48_0 hI; omega) (fun w9 hI9 hF9 => hE w9 hI9 ((FR.I (FR.I (FR.I hF3596 (k := 49) (j := x2_1.toInt.toNat) (v := 1000000) rfl) (k := 50) (j := x2_1.toInt.toNat) (v := (vp_nar .boolean (1 : Int32))) rfl) (k := 51) (j := x2_1.toInt.toNat) (v := (((sI (sI w3590 49 x2_1.toInt.toNat 1000000) 50 x2_1.toInt.toNat (vp_nar .boolean (1 : Int32))).1 51 x2_1.toInt.toNat) - (1 : Int32))) rfl).tr hF9 rfl) ) (fun w9 hI9 hF9 q0 => q0.elim)
        · replace h3622 : ¬ (1000000 < ((w3590.1 49 x2_1.toInt.toNat) + (1 : Int32)).toInt) := h3622
          refine Eq.mpr (q_Ro_countSecond_42.eq_1 _ _ _ _ _ _ _ _) ?_
          have o3664 : 0 ≤ x2_1.toInt ∧ x2_1.toInt < 40 := by have := bd_48_0 hI; omega
          refine ⟨o3664, ?_⟩
          have o3665 : 0 ≤ x2_1.toInt ∧ x2_1.toInt < 40 := by have := bd_48_0 hI; omega
          refine ⟨o3665, ?_⟩
          refine ⟨fun h3666 => ?_, fun h3666 => ?_⟩
          · refine Eq.mpr (q_Ro_countSecond_78.eq_1 _ _ _ _ _) ?_
            have o3667 : 0 ≤ x2_1.toInt ∧ x2_1.toInt < 40 := by have := bd_48_0 hI; omega
            refine ⟨o3667, ?_⟩
            refine ⟨fun h3668 => ?_, fun h3668 => ?_⟩
            · have o3670 : 0 ≤ ((w3590.1 49 x2_1.toInt.toNat) + (1 : Int32)).toInt ∧ ((w3590.1 49 x2_1.toInt.toNat) + (1 : Int32)).toInt ≤ 1000000 := by have := bd_49 hI3591 x2_1.toInt.toNat; have := bd_49 hI x2_1.toInt.toNat; have := (congrArg Int32.toInt (hL3592 49 x2_1.toInt.toNat rfl).1); have := ti_add2 (Eq.refl (w3590.1 49 x2_1.toInt.toNat).toInt) (by decide : ((1 : Int32)).toInt = 1) (by omega) (by omega); have := (by decide : ((1000000 : Int32)).toInt = 1000000); omega
              have hI3669 : BND (sI w3590 49 x2_1.toInt.toNat ((w3590.1 49 x2_1.toInt.toNat) + (1 : Int32))) := wbd_49 hI3591 x2_1.toInt.toNat o3670.1 o3670.2
              have o3671 : (0 ≤ (x2_1 + (1 : Int32)).toInt) ∧ ((x2_1 + (1 : Int32)).toInt ≤ 40) := by have := ti_add2 (Eq.refl x2_1.toInt) (by decide : ((1 : Int32)).toInt = 1) (by omega) (by omega); have := bd_48_0 hI; exact ⟨by omega, by omega⟩
              exact ih _ (sI w3590 49 x2_1.toInt.toNat ((w3590.1 49 x2_1.toInt.toNat) + (1 : Int32))) hI3669  o3671.1 o3671.2 (by have := ti_add2 (Eq.refl x2_1.toInt) (by decide : ((1 : Int32)).toInt = 1) (by omega) (by omega); have := bd_48_0 hI; omega) (fun w9 hI9 hF9 => hE w9 hI9 ((FR.I hF3596 (k := 49) (j := x2_1.toInt.toNat) (v := ((w3590.1 49 x2_1.toInt.toNat) + (1 : Int32))) rfl).tr hF9 rfl) ) (fun w9 hI9 hF9 q0 => q0.elim)
            · have o3672 : 0 ≤ x2_1.toInt ∧ x2_1.toInt < 40 := by have := bd_48_0 hI; omega
              refine ⟨o3672, ?_⟩
              have o3673 : 0 ≤ x2_1.toInt ∧ x2_1.toInt < 40 := by have := bd_48_0 hI; omega
              refine ⟨o3673, ?_⟩
              have o3675 : 0 ≤ ((w3590.1 49 x2_1.toInt.toNat) + (1 : Int32)).toInt ∧ ((w3590.1 49 x2_1.toInt.toNat) + (1 : Int32)).toInt ≤ 1000000 := by have := bd_49 hI3591 x2_1.toInt.toNat; have := bd_49 hI x2_1.toInt.toNat; have := (congrArg Int32.toInt (hL3592 49 x2_1.toInt.toNat rfl).1); have := ti_add2 (Eq.refl (w3590.1 49 x2_1.toInt.toNat).toInt) (by decide : ((1 : Int32)).toInt = 1) (by omega) (by omega); have := (by decide : ((1000000 : Int32)).toInt = 1000000); omega
              have hI3674 : BND (sI w3590 49 x2_1.toInt.toNat ((w3590.1 49 x2_1.toInt.toNat) + (1 : Int32))) := wbd_49 hI3591 x2_1.toInt.toNat o3675.1 o3675.2
              have o3677 : 0 ≤ (((sI w3590 49 x2_1.toInt.toNat ((w3590.1 49 x2_1.toInt.toNat) + (1 : Int32))).1 51 x2_1.toInt.toNat) - (1 : Int32)).toInt ∧ (((sI w3590 49 x2_1.toInt.toNat ((w3590.1 49 x2_1.toInt.toNat) + (1 : Int32))).1 51 x2_1.toInt.toNat) - (1 : Int32)).toInt ≤ 3600 := by have := bd_51 hI3591 x2_1.toInt.toNat; have := bd_51 hI x2_1.toInt.toNat; have := (congrArg Int32.toInt (hL3592 51 x2_1.toInt.toNat rfl).1); have : ((sI w3590 49 x2_1.toInt.toNat ((w3590.1 49 x2_1.toInt.toNat) + (1 : Int32))).1 51 x2_1.toInt.toNat).toInt = (w3590.1 51 x2_1.toInt.toNat).toInt := rfl; have := ti_sub2 (Eq.refl ((sI w3590 49 x2_1.toInt.toNat ((w3590.1 49 x2_1.toInt.toNat) + (1 : Int32))).1 51 x2_1.toInt.toNat).toInt) (by decide : ((1 : Int32)).toInt = 1) (by omega) (by omega); have := (by decide : ((0 : Int32)).toInt = 0); omega
              have hI3676 : BND (sI (sI w3590 49 x2_1.toInt.toNat ((w3590.1 49 x2_1.toInt.toNat) + (1 : Int32))) 51 x2_1.toInt.toNat (((sI w3590 49 x2_1.toInt.toNat ((w3590.1 49 x2_1.toInt.toNat) + (1 : Int32))).1 51 x2_1.toInt.toNat) - (1 : Int32))) := wbd_51 hI3674 x2_1.toInt.toNat o3677.1 o3677.2
              have o3678 : (0 ≤ (x2_1 + (1 : Int32)).toInt) ∧ ((x2_1 + (1 : Int32)).toInt ≤ 40) := by have := ti_add2 (Eq.refl x2_1.toInt) (by decide : ((1 : Int32)).toInt = 1) (by omega) (by omega); have := bd_48_0 hI; exact ⟨by omega, by omega⟩
              exact ih _ (sI (sI w3590 49 x2_1.toInt.toNat ((w3590.1 49 x2_1.toInt.toNat) + (1 : Int32))) 51 x2_1.toInt.toNat (((sI w3590 49 x2_1.toInt.toNat ((w3590.1 49 x2_1.toInt.toNat) + (1 : Int32))).1 51 x2_1.toInt.toNat) - (1 : Int32))) hI3676  o3678.1 o3678.2 (by have := ti_add2 (Eq.refl x2_1.toInt) (by decide : ((1 : Int32)).toInt = 1) (by omega) (by omega); have := bd_48_0 hI; omega) (fun w9 hI9 hF9 => hE w9 hI9 ((FR.I (FR.I hF3596 (k := 49) (j := x2_1.toInt.toNat) (v := ((w3590.1 49 x2_1.toInt.toNat) + (1 : Int32))) rfl) (k := 51) (j := x2_1.toInt.toNat) (v := (((sI w3590 49 x2_1.toInt.toNat ((w3590.1 49 x2_1.toInt.toNat) + (1 : Int32))).1 51 x2_1.toInt.toNat) - (1 : Int32))) rfl).tr hF9 rfl) ) (fun w9 hI9 hF9 q0 => q0.elim)
          · refine ⟨fun h => absurd h h3597, fun _ => ?_⟩
            have o3679 : 0 ≤ x2_1.toInt ∧ x2_1.toInt < 40 := by have := bd_48_0 hI; omega
            refine ⟨o3679, ?_⟩
            have o3680 : 0 ≤ x2_1.toInt ∧ x2_1.toInt < 40 := by have := bd_48_0 hI; omega
            refine ⟨o3680, ?_⟩
            refine ⟨fun h3681 => ?_, fun h3681 => ?_⟩
            · refine Eq.mpr (q_Ro_countSecond_78.eq_1 _ _ _ _ _) ?_
              have o3682 : 0 ≤ x2_1.toInt ∧ x2_1.toInt < 40 := by have := bd_48_0 hI; omega
              refine ⟨o3682, ?_⟩
              refine ⟨fun h3683 => ?_, fun h3683 => ?_⟩
              · have o3685 : 0 ≤ ((w3590.1 49 x2_1.toInt.toNat) + (1 : Int32)).toInt ∧ ((w3590.1 49 x2_1.toInt.toNat) + (1 : Int32)).toInt ≤ 1000000 := by have := bd_49 hI3591 x2_1.toInt.toNat; have := bd_49 hI x2_1.toInt.toNat; have := (congrArg Int32.toInt (hL3592 49 x2_1.toInt.toNat rfl).1); have := ti_add2 (Eq.refl (w3590.1 49 x2_1.toInt.toNat).toInt) (by decide : ((1 : Int32)).toInt = 1) (by omega) (by omega); have := (by decide : ((1000000 : Int32)).toInt = 1000000); have := (congrArg Int32.toInt (sI_same w3590 49 x2_1.toInt.toNat ((w3590.1 49 x2_1.toInt.toNat) + (1 : Int32)))); have := bd_53 hI3591 x2_1.toInt.toNat; have := bd_53 hI x2_1.toInt.toNat; have := (congrArg Int32.toInt (hL3592 53 x2_1.toInt.toNat rfl).1); omega
                have hI3684 : BND (sI w3590 49 x2_1.toInt.toNat ((w3590.1 49 x2_1.toInt.toNat) + (1 : Int32))) := wbd_49 hI3591 x2_1.toInt.toNat o3685.1 o3685.2
                have o3686 : (0 ≤ (x2_1 + (1 : Int32)).toInt) ∧ ((x2_1 + (1 : Int32)).toInt ≤ 40) := by have := ti_add2 (Eq.refl x2_1.toInt) (by decide : ((1 : Int32)).toInt = 1) (by omega) (by omega); have := bd_48_0 hI; exact ⟨by omega, by omega⟩
                exact ih _ (sI w3590 49 x2_1.toInt.toNat ((w3590.1 49 x2_1.toInt.toNat) + (1 : Int32))) hI3684  o3686.1 o3686.2 (by have := ti_add2 (Eq.refl x2_1.toInt) (by decide : ((1 : Int32)).toInt = 1) (by omega) (by omega); have := bd_48_0 hI; omega) (fun w9 hI9 hF9 => hE w9 hI9 ((FR.I hF3596 (k := 49) (j := x2_1.toInt.toNat) (v := ((w3590.1 49 x2_1.toInt.toNat) + (1 : Int32))) rfl).tr hF9 rfl) ) (fun w9 hI9 hF9 q0 => q0.elim)
              · have o3687 : 0 ≤ x2_1.toInt ∧ x2_1.toInt < 40 := by have := bd_48_0 hI; omega
                refine ⟨o3687, ?_⟩
                have o3688 : 0 ≤ x2_1.toInt ∧ x2_1.toInt < 40 := by have := bd_48_0 hI; omega
                refine ⟨o3688, ?_⟩
                have o3690 : 0 ≤ ((w3590.1 49 x2_1.toInt.toNat) + (1 : Int32)).toInt ∧ ((w3590.1 49 x2_1.toInt.toNat) + (1 : Int32)).toInt ≤ 1000000 := by have := bd_49 hI3591 x2_1.toInt.toNat; have := bd_49 hI x2_1.toInt.toNat; have := (congrArg Int32.toInt (hL3592 49 x2_1.toInt.toNat rfl).1); have := ti_add2 (Eq.refl (w3590.1 49 x2_1.toInt.toNat).toInt) (by decide : ((1 : Int32)).toInt = 1) (by omega) (by omega); have := (by decide : ((1000000 : Int32)).toInt = 1000000); have := (congrArg Int32.toInt (sI_same w3590 49 x2_1.toInt.toNat ((w3590.1 49 x2_1.toInt.toNat) + (1 : Int32)))); have := bd_53 hI3591 x2_1.toInt.toNat; have := bd_53 hI x2_1.toInt.toNat; have := (congrArg Int32.toInt (hL3592 53 x2_1.toInt.toNat rfl).1); omega
                have hI3689 : BND (sI w3590 49 x2_1.toInt.toNat ((w3590.1 49 x2_1.toInt.toNat) + (1 : Int32))) := wbd_49 hI3591 x2_1.toInt.toNat o3690.1 o3690.2
                have o3692 : 0 ≤ (((sI w3590 49 x2_1.toInt.toNat ((w3590.1 49 x2_1.toInt.toNat) + (1 : Int32))).1 51 x2_1.toInt.toNat) - (1 : Int32)).toInt ∧ (((sI w3590 49 x2_1.toInt.toNat ((w3590.1 49 x2_1.toInt.toNat) + (1 : Int32))).1 51 x2_1.toInt.toNat) - (1 : Int32)).toInt ≤ 3600 := by have := bd_51 hI3591 x2_1.toInt.toNat; have := bd_51 hI x2_1.toInt.toNat; have := (congrArg Int32.toInt (hL3592 51 x2_1.toInt.toNat rfl).1); have : ((sI w3590 49 x2_1.toInt.toNat ((w3590.1 49 x2_1.toInt.toNat) + (1 : Int32))).1 51 x2_1.toInt.toNat).toInt = (w3590.1 51 x2_1.toInt.toNat).toInt := rfl; have := ti_sub2 (Eq.refl ((sI w3590 49 x2_1.toInt.toNat ((w3590.1 49 x2_1.toInt.toNat) + (1 : Int32))).1 51 x2_1.toInt.toNat).toInt) (by decide : ((1 : Int32)).toInt = 1) (by omega) (by omega); have := (by decide : ((0 : Int32)).toInt = 0); omega
                have hI3691 : BND (sI (sI w3590 49 x2_1.toInt.toNat ((w3590.1 49 x2_1.toInt.toNat) + (1 : Int32))) 51 x2_1.toInt.toNat (((sI w3590 49 x2_1.toInt.toNat ((w3590.1 49 x2_1.toInt.toNat) + (1 : Int32))).1 51 x2_1.toInt.toNat) - (1 : Int32))) := wbd_51 hI3689 x2_1.toInt.toNat o3692.1 o3692.2
                have o3693 : (0 ≤ (x2_1 + (1 : Int32)).toInt) ∧ ((x2_1 + (1 : Int32)).toInt ≤ 40) := by have := ti_add2 (Eq.refl x2_1.toInt) (by decide : ((1 : Int32)).toInt = 1) (by omega) (by omega); have := bd_48_0 hI; exact ⟨by omega, by omega⟩
                exact ih _ (sI (sI w3590 49 x2_1.toInt.toNat ((w3590.1 49 x2_1.toInt.toNat) + (1 : Int32))) 51 x2_1.toInt.toNat (((sI w3590 49 x2_1.toInt.toNat ((w3590.1 49 x2_1.toInt.toNat) + (1 : Int32))).1 51 x2_1.toInt.toNat) - (1 : Int32))) hI3691  o3693.1 o3693.2 (by have := ti_add2 (Eq.refl x2_1.toInt) (by decide : ((1 : Int32)).toInt = 1) (by omega) (by omega); have := bd_48_0 hI; omega) (fun w9 hI9 hF9 => hE w9 hI9 ((FR.I (FR.I hF3596 (k := 49) (j := x2_1.toInt.toNat) (v := ((w3590.1 49 x2_1.toInt.toNat) + (1 : Int32))) rfl) (k := 51) (j := x2_1.toInt.toNat) (v := (((sI w3590 49 x2_1.toInt.toNat ((w3590.1 49 x2_1.toInt.toNat) + (1 : Int32))).1 51 x2_1.toInt.toNat) - (1 : Int32))) rfl).tr hF9 rfl) ) (fun w9 hI9 hF9 q0 => q0.elim)
            · have o3694 : 0 ≤ x2_1.toInt ∧ x2_1.toInt < 40 := by have := bd_48_0 hI; omega
              refine ⟨o3694, ?_⟩
              refine Eq.mpr (q_Ro_countSecond_78.eq_1 _ _ _ _ _) ?_
              have o3695 : 0 ≤ x2_1.toInt ∧ x2_1.toInt < 40 := by have := bd_48_0 hI; omega
              refine ⟨o3695, ?_⟩
              refine ⟨fun h3696 => ?_, fun h3696 => ?_⟩
              · have o3698 : 0 ≤ ((w3590.1 49 x2_1.toInt.toNat) + (1 : Int32)).toInt ∧ ((w3590.1 49 x2_1.toInt.toNat) + (1 : Int32)).toInt ≤ 1000000 := by have := bd_49 hI3591 x2_1.toInt.toNat; have := bd_49 hI x2_1.toInt.toNat; have := (congrArg Int32.toInt (hL3592 49 x2_1.toInt.toNat rfl).1); have := ti_add2 (Eq.refl (w3590.1 49 x2_1.toInt.toNat).toInt) (by decide : ((1 : Int32)).toInt = 1) (by omega) (by omega); have := (by decide : ((1000000 : Int32)).toInt = 1000000); have := (congrArg Int32.toInt (sI_same w3590 49 x2_1.toInt.toNat ((w3590.1 49 x2_1.toInt.toNat) + (1 : Int32)))); have := bd_53 hI3591 x2_1.toInt.toNat; have := bd_53 hI x2_1.toInt.toNat; have := (congrArg Int32.toInt (hL3592 53 x2_1.toInt.toNat rfl).1); omega
                have hI3697 : BND (sI w3590 49 x2_1.toInt.toNat ((w3590.1 49 x2_1.toInt.toNat) + (1 : Int32))) := wbd_49 hI3591 x2_1.toInt.toNat o3698.1 o3698.2
                have o3700 : 0 ≤ (vp_nar .boolean (1 : Int32)).toInt ∧ (vp_nar .boolean (1 : Int32)).toInt ≤ 1 := by have := nb_bool1; omega
                have hI3699 : BND (sI (sI w3590 49 x2_1.toInt.toNat ((w3590.1 49 x2_1.toInt.toNat) + (1 : Int32))) 50 x2_1.toInt.toNat (vp_nar .boolean (1 : Int32))) := wbd_50 hI3697 x2_1.toInt.toNat o3700.1 o3700.2
                have o3701 : (0 ≤ (x2_1 + (1 : Int32)).toInt) ∧ ((x2_1 + (1 : Int32)).toInt ≤ 40) := by have := ti_add2 (Eq.refl x2_1.toInt) (by decide : ((1 : Int32)).toInt = 1) (by omega) (by omega); have := bd_48_0 hI; exact ⟨by omega, by omega⟩
                exact ih _ (sI (sI w3590 49 x2_1.toInt.toNat ((w3590.1 49 x2_1.toInt.toNat) + (1 : Int32))) 50 x2_1.toInt.toNat (vp_nar .boolean (1 : Int32))) hI3699  o3701.1 o3701.2 (by have := ti_add2 (Eq.refl x2_1.toInt) (by decide : ((1 : Int32)).toInt = 1) (by omega) (by omega); have := bd_48_0 hI; omega) (fun w9 hI9 hF9 => hE w9 hI9 ((FR.I (FR.I hF3596 (k := 49) (j := x2_1.toInt.toNat) (v := ((w3590.1 49 x2_1.toInt.toNat) + (1 : Int32))) rfl) (k := 50) (j := x2_1.toInt.toNat) (v := (vp_nar .boolean (1 : Int32))) rfl).tr hF9 rfl) ) (fun w9 hI9 hF9 q0 => q0.elim)
              · have o3702 : 0 ≤ x2_1.toInt ∧ x2_1.toInt < 40 := by have := bd_48_0 hI; omega
                refine ⟨o3702, ?_⟩
                have o3703 : 0 ≤ x2_1.toInt ∧ x2_1.toInt < 40 := by have := bd_48_0 hI; omega
                refine ⟨o3703, ?_⟩
                have o3705 : 0 ≤ ((w3590.1 49 x2_1.toInt.toNat) + (1 : Int32)).toInt ∧ ((w3590.1 49 x2_1.toInt.toNat) + (1 : Int32)).toInt ≤ 1000000 := by have := bd_49 hI3591 x2_1.toInt.toNat; have := bd_49 hI x2_1.toInt.toNat; have := (congrArg Int32.toInt (hL3592 49 x2_1.toInt.toNat rfl).1); have := ti_add2 (Eq.refl (w3590.1 49 x2_1.toInt.toNat).toInt) (by decide : ((1 : Int32)).toInt = 1) (by omega) (by omega); have := (by decide : ((1000000 : Int32)).toInt = 1000000); have := (congrArg Int32.toInt (sI_same w3590 49 x2_1.toInt.toNat ((w3590.1 49 x2_1.toInt.toNat) + (1 : Int32)))); have := bd_53 hI3591 x2_1.toInt.toNat; have := bd_53 hI x2_1.toInt.toNat; have := (congrArg Int32.toInt (hL3592 53 x2_1.toInt.toNat rfl).1); omega
                have hI3704 : BND (sI w3590 49 x2_1.toInt.toNat ((w3590.1 49 x2_1.toInt.toNat) + (1 : Int32))) := wbd_49 hI3591 x2_1.toInt.toNat o3705.1 o3705.2
                have o3707 : 0 ≤ (vp_nar .boolean (1 : Int32)).toInt ∧ (vp_nar .boolean (1 : Int32)).toInt ≤ 1 := by have := nb_bool1; omega
                have hI3706 : BND (sI (sI w3590 49 x2_1.toInt.toNat ((w3590.1 49 x2_1.toInt.toNat) + (1 : Int32))) 50 x2_1.toInt.toNat (vp_nar .boolean (1 : Int32))) := wbd_50 hI3704 x2_1.toInt.toNat o3707.1 o3707.2
                have o3709 : 0 ≤ (((sI (sI w3590 49 x2_1.toInt.toNat ((w3590.1 49 x2_1.toInt.toNat) + (1 : Int32))) 50 x2_1.toInt.toNat (vp_nar .boolean (1 : Int32))).1 51 x2_1.toInt.toNat) - (1 : Int32)).toInt ∧ (((sI (sI w3590 49 x2_1.toInt.toNat ((w3590.1 49 x2_1.toInt.toNat) + (1 : Int32))) 50 x2_1.toInt.toNat (vp_nar .boolean (1 : Int32))).1 51 x2_1.toInt.toNat) - (1 : Int32)).toInt ≤ 3600 := by have := bd_51 hI3591 x2_1.toInt.toNat; have := bd_51 hI x2_1.toInt.toNat; have := (congrArg Int32.toInt (hL3592 51 x2_1.toInt.toNat rfl).1); have : ((sI (sI w3590 49 x2_1.toInt.toNat ((w3590.1 49 x2_1.toInt.toNat) + (1 : Int32))) 50 x2_1.toInt.toNat (vp_nar .boolean (1 : Int32))).1 51 x2_1.toInt.toNat).toInt = (w3590.1 51 x2_1.toInt.toNat).toInt := rfl; have := ti_sub2 (Eq.refl ((sI (sI w3590 49 x2_1.toInt.toNat ((w3590.1 49 x2_1.toInt.toNat) + (1 : Int32))) 50 x2_1.toInt.toNat (vp_nar .boolean (1 : Int32))).1 51 x2_1.toInt.toNat).toInt) (by decide : ((1 : Int32)).toInt = 1) (by omega) (by omega); have := (by decide : ((0 : Int32)).toInt = 0); omega
                have hI3708 : BND (sI (sI (sI w3590 49 x2_1.toInt.toNat ((w3590.1 49 x2_1.toInt.toNat) + (1 : Int32))) 50 x2_1.toInt.toNat (vp_nar .boolean (1 : Int32))) 51 x2_1.toInt.toNat (((sI (sI w3590 49 x2_1.toInt.toNat ((w3590.1 49 x2_1.toInt.toNat) + (1 : Int32))) 50 x2_1.toInt.toNat (vp_nar .boolean (1 : Int32))).1 51 x2_1.toInt.toNat) - (1 : Int32))) := wbd_51 hI3706 x2_1.toInt.toNat o3709.1 o3709.2
                have o3710 : (0 ≤ (x2_1 + (1 : Int32)).toInt) ∧ ((x2_1 + (1 : Int32)).toInt ≤ 40) := by have := ti_add2 (Eq.refl x2_1.toInt) (by decide : ((1 : Int32)).toInt = 1) (by omega) (by omega); have := bd_48_0 hI; exact ⟨by omega, by omega⟩
                exact ih _ (sI (sI (sI w3590 49 x2_1.toInt.toNat ((w3590.1 49 x2_1.toInt.toNat) + (1 : Int32))) 50 x2_1.toInt.toNat (vp_nar .boolean (1 : Int32))) 51 x2_1.toInt.toNat (((sI (sI w3590 49 x2_1.toInt.toNat ((w3590.1 49 x2_1.toInt.toNat) + (1 : Int32))) 50 x2_1.toInt.toNat (vp_nar .boolean (1 : Int32))).1 51 x2_1.toInt.toNat) - (1 : Int32))) hI3708  o3710.1 o3710.2 (by have := ti_add2 (Eq.refl x2_1.toInt) (by decide : ((1 : Int32)).toInt = 1) (by omega) (by omega); have := bd_48_0 hI; omega) (fun w9 hI9 hF9 => hE w9 hI9 ((FR.I (FR.I (FR.I hF3596 (k := 49) (j := x2_1.toInt.toNat) (v := ((w3590.1 49 x2_1.toInt.toNat) + (1 : Int32))) rfl) (k := 50) (j := x2_1.toInt.toNat) (v := (vp_nar .boolean (1 : Int32))) rfl) (k := 51) (j := x2_1.toInt.toNat) (v := (((sI (sI w3590 49 x2_1.toInt.toNat ((w3590.1 49 x2_1.toInt.toNat) + (1 : Int32))) 50 x2_1.toInt.toNat (vp_nar .boolean (1 : Int32))).1 51 x2_1.toInt.toNat) - (1 : Int32))) rfl).tr hF9 rfl) ) (fun w9 hI9 hF9 q0 => q0.elim)
set_option maxRecDepth 20000 in
set_option maxHeartbeats 2000000 in
theorem h_Ro_countSecond {w : MW} {Q : MW → Prop} (hI : BND w)  (hQ : ∀ (w' : MW), BND w' → FR l_Ro_countSecond w w' → Q w') : p_Ro_countSecond w Q := by
  refine Eq.mpr (p_Ro_countSecond.eq_1 _ _) ?_
  have o3711 : (0 ≤ (0 : Int32).toInt) ∧ ((0 : Int32).toInt ≤ 40) := by have := (by decide : ((0 : Int32)).toInt = 0); exact ⟨by omega, by omega⟩
  refine hq_Ro_countSecond_2 FU _ w hI  o3711.1 o3711.2 (fu_lt (by have := (by decide : ((0 : Int32)).toInt = 0); omega)) (fun w3712 hI3713 hL3714  => ?_) (fun w9 hI9 hF9 q0 => q0.elim)
  have hF3715 : FR l_Ro_countSecond w w3712 := (FR.refl _ w).tr hL3714 rfl
  exact hQ _ hI3713 hF3715 
